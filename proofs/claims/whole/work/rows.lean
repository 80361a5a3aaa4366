section
-- ===== PART A: goes FIRST, ahead of the names: the tables' words, and 'selects' of the private methods out of them =====
/-- a private method of a class that the tables say can be made, by its rows of tables_1 -/
def lw_okq (q : MethodName × Nat) : Prop := (q.1.cls ≠ "java/lang/invoke/MethodHandle" ∧ q.1.cls ≠ "java/lang/invoke/VarHandle") ∧ Cond.instantiable q.1.cls q.2 ∈ tables_1 ∧ Cond.privateMethod q.1 ∈ tables_1 ∧ Cond.instanceMethod q.1 ∈ tables_1
theorem lw_p0 : lw_okq (⟨"StormLoft$Tape", "put", "(I)V"⟩, 9) := ⟨⟨by decide +kernel, by decide +kernel⟩, List.mem_of_getElem? (i := 33) (by decide +kernel), List.mem_of_getElem? (i := 486) (by decide +kernel), List.mem_of_getElem? (i := 487) (by decide +kernel)⟩
theorem lw_p1 : lw_okq (⟨"StormLoft", "pathOf", "(I)LStormLoft$Path;"⟩, 12) := ⟨⟨by decide +kernel, by decide +kernel⟩, List.mem_of_getElem? (i := 25) (by decide +kernel), List.mem_of_getElem? (i := 564) (by decide +kernel), List.mem_of_getElem? (i := 565) (by decide +kernel)⟩
theorem lw_p2 : lw_okq (⟨"StormLoft$Fall", "hear", "(III)V"⟩, 8) := ⟨⟨by decide +kernel, by decide +kernel⟩, List.mem_of_getElem? (i := 246) (by decide +kernel), List.mem_of_getElem? (i := 596) (by decide +kernel), List.mem_of_getElem? (i := 597) (by decide +kernel)⟩
theorem lw_p3 : lw_okq (⟨"StormLoft$Path", "leadsTo", "(II)I"⟩, 4) := ⟨⟨by decide +kernel, by decide +kernel⟩, List.mem_of_getElem? (i := 420) (by decide +kernel), List.mem_of_getElem? (i := 604) (by decide +kernel), List.mem_of_getElem? (i := 605) (by decide +kernel)⟩
theorem lw_p4 : lw_okq (⟨"StormLoft", "canStand", "(III)Z"⟩, 12) := ⟨⟨by decide +kernel, by decide +kernel⟩, List.mem_of_getElem? (i := 25) (by decide +kernel), List.mem_of_getElem? (i := 622) (by decide +kernel), List.mem_of_getElem? (i := 623) (by decide +kernel)⟩
theorem lw_p5 : lw_okq (⟨"StormLoft$Reader", "begin", "(LStormLoft$Tape;)V"⟩, 12) := ⟨⟨by decide +kernel, by decide +kernel⟩, List.mem_of_getElem? (i := 169) (by decide +kernel), List.mem_of_getElem? (i := 646) (by decide +kernel), List.mem_of_getElem? (i := 647) (by decide +kernel)⟩
theorem lw_p6 : lw_okq (⟨"StormLoft$Tape", "readLettersAndDigits", "()V"⟩, 9) := ⟨⟨by decide +kernel, by decide +kernel⟩, List.mem_of_getElem? (i := 33) (by decide +kernel), List.mem_of_getElem? (i := 667) (by decide +kernel), List.mem_of_getElem? (i := 668) (by decide +kernel)⟩
theorem lw_p7 : lw_okq (⟨"StormLoft$Reader", "readUse", "(LStormLoft$Tape;LStormLoft$Machines;)V"⟩, 12) := ⟨⟨by decide +kernel, by decide +kernel⟩, List.mem_of_getElem? (i := 169) (by decide +kernel), List.mem_of_getElem? (i := 730) (by decide +kernel), List.mem_of_getElem? (i := 731) (by decide +kernel)⟩
theorem lw_p8 : lw_okq (⟨"StormLoft$Reader", "readNumber", "(LStormLoft$Tape;II)I"⟩, 12) := ⟨⟨by decide +kernel, by decide +kernel⟩, List.mem_of_getElem? (i := 169) (by decide +kernel), List.mem_of_getElem? (i := 734) (by decide +kernel), List.mem_of_getElem? (i := 735) (by decide +kernel)⟩
theorem lw_p9 : lw_okq (⟨"StormLoft$Reader", "fail", "(II)V"⟩, 12) := ⟨⟨by decide +kernel, by decide +kernel⟩, List.mem_of_getElem? (i := 169) (by decide +kernel), List.mem_of_getElem? (i := 738) (by decide +kernel), List.mem_of_getElem? (i := 739) (by decide +kernel)⟩
theorem lw_p10 : lw_okq (⟨"StormLoft$Reader", "readWord", "(LStormLoft$Tape;Ljava/lang/String;)V"⟩, 12) := ⟨⟨by decide +kernel, by decide +kernel⟩, List.mem_of_getElem? (i := 169) (by decide +kernel), List.mem_of_getElem? (i := 743) (by decide +kernel), List.mem_of_getElem? (i := 744) (by decide +kernel)⟩
theorem lw_p11 : lw_okq (⟨"StormLoft$Machines", "is", "(I)Z"⟩, 5) := ⟨⟨by decide +kernel, by decide +kernel⟩, List.mem_of_getElem? (i := 80) (by decide +kernel), List.mem_of_getElem? (i := 756) (by decide +kernel), List.mem_of_getElem? (i := 757) (by decide +kernel)⟩
theorem lw_p12 : lw_okq (⟨"StormLoft$Reader", "readSemicolon", "(LStormLoft$Tape;)V"⟩, 12) := ⟨⟨by decide +kernel, by decide +kernel⟩, List.mem_of_getElem? (i := 169) (by decide +kernel), List.mem_of_getElem? (i := 764) (by decide +kernel), List.mem_of_getElem? (i := 765) (by decide +kernel)⟩
theorem lw_p13 : lw_okq (⟨"StormLoft$Reader", "readTimes", "(LStormLoft$Tape;)V"⟩, 12) := ⟨⟨by decide +kernel, by decide +kernel⟩, List.mem_of_getElem? (i := 169) (by decide +kernel), List.mem_of_getElem? (i := 773) (by decide +kernel), List.mem_of_getElem? (i := 774) (by decide +kernel)⟩
theorem lw_p14 : lw_okq (⟨"StormLoft$Reader", "readPlay", "(LStormLoft$Tape;)V"⟩, 12) := ⟨⟨by decide +kernel, by decide +kernel⟩, List.mem_of_getElem? (i := 169) (by decide +kernel), List.mem_of_getElem? (i := 779) (by decide +kernel), List.mem_of_getElem? (i := 780) (by decide +kernel)⟩
theorem lw_p15 : lw_okq (⟨"StormLoft$Reader", "findStorm", "(LStormLoft$Tape;)I"⟩, 12) := ⟨⟨by decide +kernel, by decide +kernel⟩, List.mem_of_getElem? (i := 169) (by decide +kernel), List.mem_of_getElem? (i := 783) (by decide +kernel), List.mem_of_getElem? (i := 784) (by decide +kernel)⟩
def lw_privs_1 : List (MethodName × Nat) := [(⟨"StormLoft$Tape", "put", "(I)V"⟩, 9), (⟨"StormLoft", "pathOf", "(I)LStormLoft$Path;"⟩, 12), (⟨"StormLoft$Fall", "hear", "(III)V"⟩, 8), (⟨"StormLoft$Path", "leadsTo", "(II)I"⟩, 4), (⟨"StormLoft", "canStand", "(III)Z"⟩, 12), (⟨"StormLoft$Reader", "begin", "(LStormLoft$Tape;)V"⟩, 12), (⟨"StormLoft$Tape", "readLettersAndDigits", "()V"⟩, 9), (⟨"StormLoft$Reader", "readUse", "(LStormLoft$Tape;LStormLoft$Machines;)V"⟩, 12), (⟨"StormLoft$Reader", "readNumber", "(LStormLoft$Tape;II)I"⟩, 12), (⟨"StormLoft$Reader", "fail", "(II)V"⟩, 12), (⟨"StormLoft$Reader", "readWord", "(LStormLoft$Tape;Ljava/lang/String;)V"⟩, 12), (⟨"StormLoft$Machines", "is", "(I)Z"⟩, 5), (⟨"StormLoft$Reader", "readSemicolon", "(LStormLoft$Tape;)V"⟩, 12), (⟨"StormLoft$Reader", "readTimes", "(LStormLoft$Tape;)V"⟩, 12), (⟨"StormLoft$Reader", "readPlay", "(LStormLoft$Tape;)V"⟩, 12), (⟨"StormLoft$Reader", "findStorm", "(LStormLoft$Tape;)I"⟩, 12)]
theorem lw_r1 : ∀ q ∈ lw_privs_1, lw_okq q := List.forall_mem_cons.mpr ⟨lw_p0, List.forall_mem_cons.mpr ⟨lw_p1, List.forall_mem_cons.mpr ⟨lw_p2, List.forall_mem_cons.mpr ⟨lw_p3, List.forall_mem_cons.mpr ⟨lw_p4, List.forall_mem_cons.mpr ⟨lw_p5, List.forall_mem_cons.mpr ⟨lw_p6, List.forall_mem_cons.mpr ⟨lw_p7, List.forall_mem_cons.mpr ⟨lw_p8, List.forall_mem_cons.mpr ⟨lw_p9, List.forall_mem_cons.mpr ⟨lw_p10, List.forall_mem_cons.mpr ⟨lw_p11, List.forall_mem_cons.mpr ⟨lw_p12, List.forall_mem_cons.mpr ⟨lw_p13, List.forall_mem_cons.mpr ⟨lw_p14, List.forall_mem_cons.mpr ⟨lw_p15, fun _ h => absurd h List.not_mem_nil⟩⟩⟩⟩⟩⟩⟩⟩⟩⟩⟩⟩⟩⟩⟩⟩
theorem lw_p16 : lw_okq (⟨"StormLoft$Reader", "stormAt", "(I)LStormLoft$Plan;"⟩, 12) := ⟨⟨by decide +kernel, by decide +kernel⟩, List.mem_of_getElem? (i := 169) (by decide +kernel), List.mem_of_getElem? (i := 796) (by decide +kernel), List.mem_of_getElem? (i := 797) (by decide +kernel)⟩
theorem lw_p17 : lw_okq (⟨"StormLoft$Plan", "is", "(I)Z"⟩, 5) := ⟨⟨by decide +kernel, by decide +kernel⟩, List.mem_of_getElem? (i := 175) (by decide +kernel), List.mem_of_getElem? (i := 808) (by decide +kernel), List.mem_of_getElem? (i := 809) (by decide +kernel)⟩
theorem lw_p18 : lw_okq (⟨"StormLoft$Reader", "readStorm", "(LStormLoft$Tape;)V"⟩, 12) := ⟨⟨by decide +kernel, by decide +kernel⟩, List.mem_of_getElem? (i := 169) (by decide +kernel), List.mem_of_getElem? (i := 821) (by decide +kernel), List.mem_of_getElem? (i := 822) (by decide +kernel)⟩
theorem lw_p19 : lw_okq (⟨"StormLoft$Reader", "close", "(LStormLoft$Tape;)V"⟩, 12) := ⟨⟨by decide +kernel, by decide +kernel⟩, List.mem_of_getElem? (i := 169) (by decide +kernel), List.mem_of_getElem? (i := 825) (by decide +kernel), List.mem_of_getElem? (i := 826) (by decide +kernel)⟩
theorem lw_p20 : lw_okq (⟨"StormLoft$Plan", "sink", "(I)V"⟩, 5) := ⟨⟨by decide +kernel, by decide +kernel⟩, List.mem_of_getElem? (i := 175) (by decide +kernel), List.mem_of_getElem? (i := 844) (by decide +kernel), List.mem_of_getElem? (i := 845) (by decide +kernel)⟩
theorem lw_p21 : lw_okq (⟨"StormLoft$Night", "rollAll", "([LStormLoft$Path;)V"⟩, 13) := ⟨⟨by decide +kernel, by decide +kernel⟩, List.mem_of_getElem? (i := 314) (by decide +kernel), List.mem_of_getElem? (i := 866) (by decide +kernel), List.mem_of_getElem? (i := 867) (by decide +kernel)⟩
theorem lw_p22 : lw_okq (⟨"StormLoft$Night", "roll", "(LStormLoft$Ball;LStormLoft$Path;)V"⟩, 13) := ⟨⟨by decide +kernel, by decide +kernel⟩, List.mem_of_getElem? (i := 314) (by decide +kernel), List.mem_of_getElem? (i := 870) (by decide +kernel), List.mem_of_getElem? (i := 871) (by decide +kernel)⟩
theorem lw_p23 : lw_okq (⟨"StormLoft$Night", "hear", "(II)V"⟩, 13) := ⟨⟨by decide +kernel, by decide +kernel⟩, List.mem_of_getElem? (i := 314) (by decide +kernel), List.mem_of_getElem? (i := 877) (by decide +kernel), List.mem_of_getElem? (i := 878) (by decide +kernel)⟩
theorem lw_p24 : lw_okq (⟨"StormLoft$Night", "bumpAll", "()V"⟩, 13) := ⟨⟨by decide +kernel, by decide +kernel⟩, List.mem_of_getElem? (i := 314) (by decide +kernel), List.mem_of_getElem? (i := 883) (by decide +kernel), List.mem_of_getElem? (i := 884) (by decide +kernel)⟩
theorem lw_p25 : lw_okq (⟨"StormLoft$Night", "allAreAlike", "()Z"⟩, 13) := ⟨⟨by decide +kernel, by decide +kernel⟩, List.mem_of_getElem? (i := 314) (by decide +kernel), List.mem_of_getElem? (i := 887) (by decide +kernel), List.mem_of_getElem? (i := 888) (by decide +kernel)⟩
theorem lw_p26 : lw_okq (⟨"StormLoft$Night", "use", "(IILStormLoft$Machines;)V"⟩, 13) := ⟨⟨by decide +kernel, by decide +kernel⟩, List.mem_of_getElem? (i := 314) (by decide +kernel), List.mem_of_getElem? (i := 907) (by decide +kernel), List.mem_of_getElem? (i := 908) (by decide +kernel)⟩
theorem lw_p27 : lw_okq (⟨"StormLoft$Crew", "costOf", "(IILStormLoft$Plan;LStormLoft$Machines;)I"⟩, 16) := ⟨⟨by decide +kernel, by decide +kernel⟩, List.mem_of_getElem? (i := 104) (by decide +kernel), List.mem_of_getElem? (i := 938) (by decide +kernel), List.mem_of_getElem? (i := 939) (by decide +kernel)⟩
theorem lw_p28 : lw_okq (⟨"StormLoft$Crew", "assignAll", "()V"⟩, 16) := ⟨⟨by decide +kernel, by decide +kernel⟩, List.mem_of_getElem? (i := 104) (by decide +kernel), List.mem_of_getElem? (i := 956) (by decide +kernel), List.mem_of_getElem? (i := 957) (by decide +kernel)⟩
theorem lw_p29 : lw_okq (⟨"StormLoft$Crew", "assignRow", "(I)V"⟩, 16) := ⟨⟨by decide +kernel, by decide +kernel⟩, List.mem_of_getElem? (i := 104) (by decide +kernel), List.mem_of_getElem? (i := 960) (by decide +kernel), List.mem_of_getElem? (i := 961) (by decide +kernel)⟩
theorem lw_p30 : lw_okq (⟨"StormLoft$Crew", "relax", "(II)V"⟩, 16) := ⟨⟨by decide +kernel, by decide +kernel⟩, List.mem_of_getElem? (i := 104) (by decide +kernel), List.mem_of_getElem? (i := 965) (by decide +kernel), List.mem_of_getElem? (i := 966) (by decide +kernel)⟩
theorem lw_p31 : lw_okq (⟨"StormLoft$Crew", "nearest", "()I"⟩, 16) := ⟨⟨by decide +kernel, by decide +kernel⟩, List.mem_of_getElem? (i := 104) (by decide +kernel), List.mem_of_getElem? (i := 969) (by decide +kernel), List.mem_of_getElem? (i := 970) (by decide +kernel)⟩
def lw_privs_2 : List (MethodName × Nat) := [(⟨"StormLoft$Reader", "stormAt", "(I)LStormLoft$Plan;"⟩, 12), (⟨"StormLoft$Plan", "is", "(I)Z"⟩, 5), (⟨"StormLoft$Reader", "readStorm", "(LStormLoft$Tape;)V"⟩, 12), (⟨"StormLoft$Reader", "close", "(LStormLoft$Tape;)V"⟩, 12), (⟨"StormLoft$Plan", "sink", "(I)V"⟩, 5), (⟨"StormLoft$Night", "rollAll", "([LStormLoft$Path;)V"⟩, 13), (⟨"StormLoft$Night", "roll", "(LStormLoft$Ball;LStormLoft$Path;)V"⟩, 13), (⟨"StormLoft$Night", "hear", "(II)V"⟩, 13), (⟨"StormLoft$Night", "bumpAll", "()V"⟩, 13), (⟨"StormLoft$Night", "allAreAlike", "()Z"⟩, 13), (⟨"StormLoft$Night", "use", "(IILStormLoft$Machines;)V"⟩, 13), (⟨"StormLoft$Crew", "costOf", "(IILStormLoft$Plan;LStormLoft$Machines;)I"⟩, 16), (⟨"StormLoft$Crew", "assignAll", "()V"⟩, 16), (⟨"StormLoft$Crew", "assignRow", "(I)V"⟩, 16), (⟨"StormLoft$Crew", "relax", "(II)V"⟩, 16), (⟨"StormLoft$Crew", "nearest", "()I"⟩, 16)]
theorem lw_r2 : ∀ q ∈ lw_privs_2, lw_okq q := List.forall_mem_cons.mpr ⟨lw_p16, List.forall_mem_cons.mpr ⟨lw_p17, List.forall_mem_cons.mpr ⟨lw_p18, List.forall_mem_cons.mpr ⟨lw_p19, List.forall_mem_cons.mpr ⟨lw_p20, List.forall_mem_cons.mpr ⟨lw_p21, List.forall_mem_cons.mpr ⟨lw_p22, List.forall_mem_cons.mpr ⟨lw_p23, List.forall_mem_cons.mpr ⟨lw_p24, List.forall_mem_cons.mpr ⟨lw_p25, List.forall_mem_cons.mpr ⟨lw_p26, List.forall_mem_cons.mpr ⟨lw_p27, List.forall_mem_cons.mpr ⟨lw_p28, List.forall_mem_cons.mpr ⟨lw_p29, List.forall_mem_cons.mpr ⟨lw_p30, List.forall_mem_cons.mpr ⟨lw_p31, fun _ h => absurd h List.not_mem_nil⟩⟩⟩⟩⟩⟩⟩⟩⟩⟩⟩⟩⟩⟩⟩⟩
theorem lw_p32 : lw_okq (⟨"StormLoft$Crew", "lower", "(II)V"⟩, 16) := ⟨⟨by decide +kernel, by decide +kernel⟩, List.mem_of_getElem? (i := 104) (by decide +kernel), List.mem_of_getElem? (i := 973) (by decide +kernel), List.mem_of_getElem? (i := 974) (by decide +kernel)⟩
theorem lw_p33 : lw_okq (⟨"StormLoft$Crew", "flip", "(II)V"⟩, 16) := ⟨⟨by decide +kernel, by decide +kernel⟩, List.mem_of_getElem? (i := 104) (by decide +kernel), List.mem_of_getElem? (i := 977) (by decide +kernel), List.mem_of_getElem? (i := 978) (by decide +kernel)⟩
theorem lw_p34 : lw_okq (⟨"StormLoft$Crew", "chooseFirst", "()V"⟩, 16) := ⟨⟨by decide +kernel, by decide +kernel⟩, List.mem_of_getElem? (i := 104) (by decide +kernel), List.mem_of_getElem? (i := 981) (by decide +kernel), List.mem_of_getElem? (i := 982) (by decide +kernel)⟩
theorem lw_p35 : lw_okq (⟨"StormLoft$Crew", "canDoNext", "(II)Z"⟩, 16) := ⟨⟨by decide +kernel, by decide +kernel⟩, List.mem_of_getElem? (i := 104) (by decide +kernel), List.mem_of_getElem? (i := 985) (by decide +kernel), List.mem_of_getElem? (i := 986) (by decide +kernel)⟩
theorem lw_p36 : lw_okq (⟨"StormLoft$Crew", "isFree", "(II)Z"⟩, 16) := ⟨⟨by decide +kernel, by decide +kernel⟩, List.mem_of_getElem? (i := 104) (by decide +kernel), List.mem_of_getElem? (i := 989) (by decide +kernel), List.mem_of_getElem? (i := 990) (by decide +kernel)⟩
theorem lw_p37 : lw_okq (⟨"StormLoft$Crew", "reaches", "(II)Z"⟩, 16) := ⟨⟨by decide +kernel, by decide +kernel⟩, List.mem_of_getElem? (i := 104) (by decide +kernel), List.mem_of_getElem? (i := 993) (by decide +kernel), List.mem_of_getElem? (i := 994) (by decide +kernel)⟩
theorem lw_p38 : lw_okq (⟨"StormLoft$Machines", "letsGo", "(LStormLoft$Plan;II)Z"⟩, 5) := ⟨⟨by decide +kernel, by decide +kernel⟩, List.mem_of_getElem? (i := 80) (by decide +kernel), List.mem_of_getElem? (i := 1013) (by decide +kernel), List.mem_of_getElem? (i := 1014) (by decide +kernel)⟩
theorem lw_p39 : lw_okq (⟨"StormLoft$Carpenter", "begin", "()V"⟩, 14) := ⟨⟨by decide +kernel, by decide +kernel⟩, List.mem_of_getElem? (i := 369) (by decide +kernel), List.mem_of_getElem? (i := 1045) (by decide +kernel), List.mem_of_getElem? (i := 1046) (by decide +kernel)⟩
theorem lw_p40 : lw_okq (⟨"StormLoft$Carpenter", "store", "(II)V"⟩, 14) := ⟨⟨by decide +kernel, by decide +kernel⟩, List.mem_of_getElem? (i := 369) (by decide +kernel), List.mem_of_getElem? (i := 1049) (by decide +kernel), List.mem_of_getElem? (i := 1050) (by decide +kernel)⟩
theorem lw_p41 : lw_okq (⟨"StormLoft$Carpenter", "passes", "(LStormLoft$Board;LStormLoft$Tape;I)Z"⟩, 14) := ⟨⟨by decide +kernel, by decide +kernel⟩, List.mem_of_getElem? (i := 369) (by decide +kernel), List.mem_of_getElem? (i := 1057) (by decide +kernel), List.mem_of_getElem? (i := 1058) (by decide +kernel)⟩
theorem lw_p42 : lw_okq (⟨"StormLoft$Carpenter", "load", "(I)V"⟩, 14) := ⟨⟨by decide +kernel, by decide +kernel⟩, List.mem_of_getElem? (i := 369) (by decide +kernel), List.mem_of_getElem? (i := 1061) (by decide +kernel), List.mem_of_getElem? (i := 1062) (by decide +kernel)⟩
theorem lw_p43 : lw_okq (⟨"StormLoft$Carpenter", "rollToEnd", "(LStormLoft$Board;II)I"⟩, 14) := ⟨⟨by decide +kernel, by decide +kernel⟩, List.mem_of_getElem? (i := 369) (by decide +kernel), List.mem_of_getElem? (i := 1066) (by decide +kernel), List.mem_of_getElem? (i := 1067) (by decide +kernel)⟩
theorem lw_p44 : lw_okq (⟨"StormLoft$Carpenter", "glideToEnd", "(LStormLoft$Board;II)I"⟩, 14) := ⟨⟨by decide +kernel, by decide +kernel⟩, List.mem_of_getElem? (i := 369) (by decide +kernel), List.mem_of_getElem? (i := 1071) (by decide +kernel), List.mem_of_getElem? (i := 1072) (by decide +kernel)⟩
theorem lw_p45 : lw_okq (⟨"StormLoft$Carpenter", "judge", "(LStormLoft$Tape;II)V"⟩, 14) := ⟨⟨by decide +kernel, by decide +kernel⟩, List.mem_of_getElem? (i := 369) (by decide +kernel), List.mem_of_getElem? (i := 1081) (by decide +kernel), List.mem_of_getElem? (i := 1082) (by decide +kernel)⟩
theorem lw_p46 : lw_okq (⟨"StormLoft$Carpenter", "leastPossible", "(LStormLoft$Tape;I)I"⟩, 14) := ⟨⟨by decide +kernel, by decide +kernel⟩, List.mem_of_getElem? (i := 369) (by decide +kernel), List.mem_of_getElem? (i := 1086) (by decide +kernel), List.mem_of_getElem? (i := 1087) (by decide +kernel)⟩
theorem lw_p47 : lw_okq (⟨"StormLoft$Carpenter", "leave", "(LStormLoft$Path;LStormLoft$Board;LStormLoft$Tape;II)V"⟩, 14) := ⟨⟨by decide +kernel, by decide +kernel⟩, List.mem_of_getElem? (i := 369) (by decide +kernel), List.mem_of_getElem? (i := 1110) (by decide +kernel), List.mem_of_getElem? (i := 1111) (by decide +kernel)⟩
def lw_privs_3 : List (MethodName × Nat) := [(⟨"StormLoft$Crew", "lower", "(II)V"⟩, 16), (⟨"StormLoft$Crew", "flip", "(II)V"⟩, 16), (⟨"StormLoft$Crew", "chooseFirst", "()V"⟩, 16), (⟨"StormLoft$Crew", "canDoNext", "(II)Z"⟩, 16), (⟨"StormLoft$Crew", "isFree", "(II)Z"⟩, 16), (⟨"StormLoft$Crew", "reaches", "(II)Z"⟩, 16), (⟨"StormLoft$Machines", "letsGo", "(LStormLoft$Plan;II)Z"⟩, 5), (⟨"StormLoft$Carpenter", "begin", "()V"⟩, 14), (⟨"StormLoft$Carpenter", "store", "(II)V"⟩, 14), (⟨"StormLoft$Carpenter", "passes", "(LStormLoft$Board;LStormLoft$Tape;I)Z"⟩, 14), (⟨"StormLoft$Carpenter", "load", "(I)V"⟩, 14), (⟨"StormLoft$Carpenter", "rollToEnd", "(LStormLoft$Board;II)I"⟩, 14), (⟨"StormLoft$Carpenter", "glideToEnd", "(LStormLoft$Board;II)I"⟩, 14), (⟨"StormLoft$Carpenter", "judge", "(LStormLoft$Tape;II)V"⟩, 14), (⟨"StormLoft$Carpenter", "leastPossible", "(LStormLoft$Tape;I)I"⟩, 14), (⟨"StormLoft$Carpenter", "leave", "(LStormLoft$Path;LStormLoft$Board;LStormLoft$Tape;II)V"⟩, 14)]
theorem lw_r3 : ∀ q ∈ lw_privs_3, lw_okq q := List.forall_mem_cons.mpr ⟨lw_p32, List.forall_mem_cons.mpr ⟨lw_p33, List.forall_mem_cons.mpr ⟨lw_p34, List.forall_mem_cons.mpr ⟨lw_p35, List.forall_mem_cons.mpr ⟨lw_p36, List.forall_mem_cons.mpr ⟨lw_p37, List.forall_mem_cons.mpr ⟨lw_p38, List.forall_mem_cons.mpr ⟨lw_p39, List.forall_mem_cons.mpr ⟨lw_p40, List.forall_mem_cons.mpr ⟨lw_p41, List.forall_mem_cons.mpr ⟨lw_p42, List.forall_mem_cons.mpr ⟨lw_p43, List.forall_mem_cons.mpr ⟨lw_p44, List.forall_mem_cons.mpr ⟨lw_p45, List.forall_mem_cons.mpr ⟨lw_p46, List.forall_mem_cons.mpr ⟨lw_p47, fun _ h => absurd h List.not_mem_nil⟩⟩⟩⟩⟩⟩⟩⟩⟩⟩⟩⟩⟩⟩⟩⟩
theorem lw_p48 : lw_okq (⟨"StormLoft", "runsThatAre", "()I"⟩, 12) := ⟨⟨by decide +kernel, by decide +kernel⟩, List.mem_of_getElem? (i := 25) (by decide +kernel), List.mem_of_getElem? (i := 1119) (by decide +kernel), List.mem_of_getElem? (i := 1120) (by decide +kernel)⟩
theorem lw_p49 : lw_okq (⟨"java/lang/Throwable", "fillInStackTrace", "(I)Ljava/lang/Throwable;"⟩, 6) := ⟨⟨by decide +kernel, by decide +kernel⟩, List.mem_of_getElem? (i := 1167) (by decide +kernel), List.mem_of_getElem? (i := 1165) (by decide +kernel), List.mem_of_getElem? (i := 1166) (by decide +kernel)⟩
theorem lw_p50 : lw_okq (⟨"StormLoftModel", "come", "(I)V"⟩, 89) := ⟨⟨by decide +kernel, by decide +kernel⟩, List.mem_of_getElem? (i := 1225) (by decide +kernel), List.mem_of_getElem? (i := 1510) (by decide +kernel), List.mem_of_getElem? (i := 1511) (by decide +kernel)⟩
theorem lw_p51 : lw_okq (⟨"StormLoftModel", "isRun", "(I)Z"⟩, 89) := ⟨⟨by decide +kernel, by decide +kernel⟩, List.mem_of_getElem? (i := 1225) (by decide +kernel), List.mem_of_getElem? (i := 1536) (by decide +kernel), List.mem_of_getElem? (i := 1537) (by decide +kernel)⟩
theorem lw_p52 : lw_okq (⟨"StormLoftModel", "follow", "(II)V"⟩, 89) := ⟨⟨by decide +kernel, by decide +kernel⟩, List.mem_of_getElem? (i := 1225) (by decide +kernel), List.mem_of_getElem? (i := 1540) (by decide +kernel), List.mem_of_getElem? (i := 1541) (by decide +kernel)⟩
theorem lw_p53 : lw_okq (⟨"StormLoftModel", "step", "(II)V"⟩, 89) := ⟨⟨by decide +kernel, by decide +kernel⟩, List.mem_of_getElem? (i := 1225) (by decide +kernel), List.mem_of_getElem? (i := 1544) (by decide +kernel), List.mem_of_getElem? (i := 1545) (by decide +kernel)⟩
theorem lw_p54 : lw_okq (⟨"StormLoftModel", "lengthAt", "(II)I"⟩, 89) := ⟨⟨by decide +kernel, by decide +kernel⟩, List.mem_of_getElem? (i := 1225) (by decide +kernel), List.mem_of_getElem? (i := 1548) (by decide +kernel), List.mem_of_getElem? (i := 1549) (by decide +kernel)⟩
theorem lw_p55 : lw_okq (⟨"StormLoftModel", "nextOf", "(III)I"⟩, 89) := ⟨⟨by decide +kernel, by decide +kernel⟩, List.mem_of_getElem? (i := 1225) (by decide +kernel), List.mem_of_getElem? (i := 1552) (by decide +kernel), List.mem_of_getElem? (i := 1553) (by decide +kernel)⟩
theorem lw_p56 : lw_okq (⟨"StormLoftModel", "refuse", "()I"⟩, 89) := ⟨⟨by decide +kernel, by decide +kernel⟩, List.mem_of_getElem? (i := 1225) (by decide +kernel), List.mem_of_getElem? (i := 1560) (by decide +kernel), List.mem_of_getElem? (i := 1561) (by decide +kernel)⟩
theorem lw_p57 : lw_okq (⟨"StormLoftModel", "clear", "(I)V"⟩, 89) := ⟨⟨by decide +kernel, by decide +kernel⟩, List.mem_of_getElem? (i := 1225) (by decide +kernel), List.mem_of_getElem? (i := 1576) (by decide +kernel), List.mem_of_getElem? (i := 1577) (by decide +kernel)⟩
theorem lw_p58 : lw_okq (⟨"StormLoftModel", "go", "()V"⟩, 89) := ⟨⟨by decide +kernel, by decide +kernel⟩, List.mem_of_getElem? (i := 1225) (by decide +kernel), List.mem_of_getElem? (i := 1580) (by decide +kernel), List.mem_of_getElem? (i := 1581) (by decide +kernel)⟩
theorem lw_p59 : lw_okq (⟨"StormLoftModel", "byteAt", "(I)I"⟩, 89) := ⟨⟨by decide +kernel, by decide +kernel⟩, List.mem_of_getElem? (i := 1225) (by decide +kernel), List.mem_of_getElem? (i := 1590) (by decide +kernel), List.mem_of_getElem? (i := 1591) (by decide +kernel)⟩
theorem lw_p60 : lw_okq (⟨"StormLoftModel", "readPiece", "()Z"⟩, 89) := ⟨⟨by decide +kernel, by decide +kernel⟩, List.mem_of_getElem? (i := 1225) (by decide +kernel), List.mem_of_getElem? (i := 1596) (by decide +kernel), List.mem_of_getElem? (i := 1597) (by decide +kernel)⟩
theorem lw_p61 : lw_okq (⟨"StormLoftModel", "isAt", "()Z"⟩, 89) := ⟨⟨by decide +kernel, by decide +kernel⟩, List.mem_of_getElem? (i := 1225) (by decide +kernel), List.mem_of_getElem? (i := 1600) (by decide +kernel), List.mem_of_getElem? (i := 1601) (by decide +kernel)⟩
theorem lw_p62 : lw_okq (⟨"StormLoftModel", "isKey", "(J)Z"⟩, 89) := ⟨⟨by decide +kernel, by decide +kernel⟩, List.mem_of_getElem? (i := 1225) (by decide +kernel), List.mem_of_getElem? (i := 1607) (by decide +kernel), List.mem_of_getElem? (i := 1608) (by decide +kernel)⟩
theorem lw_p63 : lw_okq (⟨"StormLoftModel", "readNumber", "(II)Z"⟩, 89) := ⟨⟨by decide +kernel, by decide +kernel⟩, List.mem_of_getElem? (i := 1225) (by decide +kernel), List.mem_of_getElem? (i := 1611) (by decide +kernel), List.mem_of_getElem? (i := 1612) (by decide +kernel)⟩
def lw_privs_4 : List (MethodName × Nat) := [(⟨"StormLoft", "runsThatAre", "()I"⟩, 12), (⟨"java/lang/Throwable", "fillInStackTrace", "(I)Ljava/lang/Throwable;"⟩, 6), (⟨"StormLoftModel", "come", "(I)V"⟩, 89), (⟨"StormLoftModel", "isRun", "(I)Z"⟩, 89), (⟨"StormLoftModel", "follow", "(II)V"⟩, 89), (⟨"StormLoftModel", "step", "(II)V"⟩, 89), (⟨"StormLoftModel", "lengthAt", "(II)I"⟩, 89), (⟨"StormLoftModel", "nextOf", "(III)I"⟩, 89), (⟨"StormLoftModel", "refuse", "()I"⟩, 89), (⟨"StormLoftModel", "clear", "(I)V"⟩, 89), (⟨"StormLoftModel", "go", "()V"⟩, 89), (⟨"StormLoftModel", "byteAt", "(I)I"⟩, 89), (⟨"StormLoftModel", "readPiece", "()Z"⟩, 89), (⟨"StormLoftModel", "isAt", "()Z"⟩, 89), (⟨"StormLoftModel", "isKey", "(J)Z"⟩, 89), (⟨"StormLoftModel", "readNumber", "(II)Z"⟩, 89)]
theorem lw_r4 : ∀ q ∈ lw_privs_4, lw_okq q := List.forall_mem_cons.mpr ⟨lw_p48, List.forall_mem_cons.mpr ⟨lw_p49, List.forall_mem_cons.mpr ⟨lw_p50, List.forall_mem_cons.mpr ⟨lw_p51, List.forall_mem_cons.mpr ⟨lw_p52, List.forall_mem_cons.mpr ⟨lw_p53, List.forall_mem_cons.mpr ⟨lw_p54, List.forall_mem_cons.mpr ⟨lw_p55, List.forall_mem_cons.mpr ⟨lw_p56, List.forall_mem_cons.mpr ⟨lw_p57, List.forall_mem_cons.mpr ⟨lw_p58, List.forall_mem_cons.mpr ⟨lw_p59, List.forall_mem_cons.mpr ⟨lw_p60, List.forall_mem_cons.mpr ⟨lw_p61, List.forall_mem_cons.mpr ⟨lw_p62, List.forall_mem_cons.mpr ⟨lw_p63, fun _ h => absurd h List.not_mem_nil⟩⟩⟩⟩⟩⟩⟩⟩⟩⟩⟩⟩⟩⟩⟩⟩
theorem lw_p64 : lw_okq (⟨"StormLoftModel", "bad", "(I)Z"⟩, 89) := ⟨⟨by decide +kernel, by decide +kernel⟩, List.mem_of_getElem? (i := 1225) (by decide +kernel), List.mem_of_getElem? (i := 1615) (by decide +kernel), List.mem_of_getElem? (i := 1616) (by decide +kernel)⟩
theorem lw_p65 : lw_okq (⟨"StormLoftModel", "readUse", "(I)Z"⟩, 89) := ⟨⟨by decide +kernel, by decide +kernel⟩, List.mem_of_getElem? (i := 1225) (by decide +kernel), List.mem_of_getElem? (i := 1619) (by decide +kernel), List.mem_of_getElem? (i := 1620) (by decide +kernel)⟩
theorem lw_p66 : lw_okq (⟨"StormLoftModel", "isUse", "()Z"⟩, 89) := ⟨⟨by decide +kernel, by decide +kernel⟩, List.mem_of_getElem? (i := 1225) (by decide +kernel), List.mem_of_getElem? (i := 1623) (by decide +kernel), List.mem_of_getElem? (i := 1624) (by decide +kernel)⟩
theorem lw_p67 : lw_okq (⟨"StormLoftModel", "isWith", "()Z"⟩, 89) := ⟨⟨by decide +kernel, by decide +kernel⟩, List.mem_of_getElem? (i := 1225) (by decide +kernel), List.mem_of_getElem? (i := 1627) (by decide +kernel), List.mem_of_getElem? (i := 1628) (by decide +kernel)⟩
theorem lw_p68 : lw_okq (⟨"StormLoftModel", "readEnd", "()Z"⟩, 89) := ⟨⟨by decide +kernel, by decide +kernel⟩, List.mem_of_getElem? (i := 1225) (by decide +kernel), List.mem_of_getElem? (i := 1631) (by decide +kernel), List.mem_of_getElem? (i := 1632) (by decide +kernel)⟩
theorem lw_p69 : lw_okq (⟨"StormLoftModel", "put", "(IIII)V"⟩, 89) := ⟨⟨by decide +kernel, by decide +kernel⟩, List.mem_of_getElem? (i := 1225) (by decide +kernel), List.mem_of_getElem? (i := 1635) (by decide +kernel), List.mem_of_getElem? (i := 1636) (by decide +kernel)⟩
theorem lw_p70 : lw_okq (⟨"StormLoftModel", "isPlay", "()Z"⟩, 89) := ⟨⟨by decide +kernel, by decide +kernel⟩, List.mem_of_getElem? (i := 1225) (by decide +kernel), List.mem_of_getElem? (i := 1639) (by decide +kernel), List.mem_of_getElem? (i := 1640) (by decide +kernel)⟩
theorem lw_p71 : lw_okq (⟨"StormLoftModel", "readPlay", "()Z"⟩, 89) := ⟨⟨by decide +kernel, by decide +kernel⟩, List.mem_of_getElem? (i := 1225) (by decide +kernel), List.mem_of_getElem? (i := 1643) (by decide +kernel), List.mem_of_getElem? (i := 1644) (by decide +kernel)⟩
theorem lw_p72 : lw_okq (⟨"StormLoftModel", "isName", "()Z"⟩, 89) := ⟨⟨by decide +kernel, by decide +kernel⟩, List.mem_of_getElem? (i := 1225) (by decide +kernel), List.mem_of_getElem? (i := 1647) (by decide +kernel), List.mem_of_getElem? (i := 1648) (by decide +kernel)⟩
theorem lw_p73 : lw_okq (⟨"StormLoftModel", "isEnd", "()Z"⟩, 89) := ⟨⟨by decide +kernel, by decide +kernel⟩, List.mem_of_getElem? (i := 1225) (by decide +kernel), List.mem_of_getElem? (i := 1651) (by decide +kernel), List.mem_of_getElem? (i := 1652) (by decide +kernel)⟩
theorem lw_p74 : lw_okq (⟨"StormLoftModel", "isStorm", "()Z"⟩, 89) := ⟨⟨by decide +kernel, by decide +kernel⟩, List.mem_of_getElem? (i := 1225) (by decide +kernel), List.mem_of_getElem? (i := 1655) (by decide +kernel), List.mem_of_getElem? (i := 1656) (by decide +kernel)⟩
theorem lw_p75 : lw_okq (⟨"StormLoftModel", "isTimes", "()Z"⟩, 89) := ⟨⟨by decide +kernel, by decide +kernel⟩, List.mem_of_getElem? (i := 1225) (by decide +kernel), List.mem_of_getElem? (i := 1659) (by decide +kernel), List.mem_of_getElem? (i := 1660) (by decide +kernel)⟩
theorem lw_p76 : lw_okq (⟨"StormLoftModel", "isEvery", "()Z"⟩, 89) := ⟨⟨by decide +kernel, by decide +kernel⟩, List.mem_of_getElem? (i := 1225) (by decide +kernel), List.mem_of_getElem? (i := 1663) (by decide +kernel), List.mem_of_getElem? (i := 1664) (by decide +kernel)⟩
theorem lw_p77 : lw_okq (⟨"StormLoftModel", "stormOf", "(J)I"⟩, 89) := ⟨⟨by decide +kernel, by decide +kernel⟩, List.mem_of_getElem? (i := 1225) (by decide +kernel), List.mem_of_getElem? (i := 1667) (by decide +kernel), List.mem_of_getElem? (i := 1668) (by decide +kernel)⟩
theorem lw_p78 : lw_okq (⟨"StormLoftModel", "pour", "(III)V"⟩, 89) := ⟨⟨by decide +kernel, by decide +kernel⟩, List.mem_of_getElem? (i := 1225) (by decide +kernel), List.mem_of_getElem? (i := 1671) (by decide +kernel), List.mem_of_getElem? (i := 1672) (by decide +kernel)⟩
theorem lw_p79 : lw_okq (⟨"StormLoftModel", "readTimes", "()Z"⟩, 89) := ⟨⟨by decide +kernel, by decide +kernel⟩, List.mem_of_getElem? (i := 1225) (by decide +kernel), List.mem_of_getElem? (i := 1675) (by decide +kernel), List.mem_of_getElem? (i := 1676) (by decide +kernel)⟩
def lw_privs_5 : List (MethodName × Nat) := [(⟨"StormLoftModel", "bad", "(I)Z"⟩, 89), (⟨"StormLoftModel", "readUse", "(I)Z"⟩, 89), (⟨"StormLoftModel", "isUse", "()Z"⟩, 89), (⟨"StormLoftModel", "isWith", "()Z"⟩, 89), (⟨"StormLoftModel", "readEnd", "()Z"⟩, 89), (⟨"StormLoftModel", "put", "(IIII)V"⟩, 89), (⟨"StormLoftModel", "isPlay", "()Z"⟩, 89), (⟨"StormLoftModel", "readPlay", "()Z"⟩, 89), (⟨"StormLoftModel", "isName", "()Z"⟩, 89), (⟨"StormLoftModel", "isEnd", "()Z"⟩, 89), (⟨"StormLoftModel", "isStorm", "()Z"⟩, 89), (⟨"StormLoftModel", "isTimes", "()Z"⟩, 89), (⟨"StormLoftModel", "isEvery", "()Z"⟩, 89), (⟨"StormLoftModel", "stormOf", "(J)I"⟩, 89), (⟨"StormLoftModel", "pour", "(III)V"⟩, 89), (⟨"StormLoftModel", "readTimes", "()Z"⟩, 89)]
theorem lw_r5 : ∀ q ∈ lw_privs_5, lw_okq q := List.forall_mem_cons.mpr ⟨lw_p64, List.forall_mem_cons.mpr ⟨lw_p65, List.forall_mem_cons.mpr ⟨lw_p66, List.forall_mem_cons.mpr ⟨lw_p67, List.forall_mem_cons.mpr ⟨lw_p68, List.forall_mem_cons.mpr ⟨lw_p69, List.forall_mem_cons.mpr ⟨lw_p70, List.forall_mem_cons.mpr ⟨lw_p71, List.forall_mem_cons.mpr ⟨lw_p72, List.forall_mem_cons.mpr ⟨lw_p73, List.forall_mem_cons.mpr ⟨lw_p74, List.forall_mem_cons.mpr ⟨lw_p75, List.forall_mem_cons.mpr ⟨lw_p76, List.forall_mem_cons.mpr ⟨lw_p77, List.forall_mem_cons.mpr ⟨lw_p78, List.forall_mem_cons.mpr ⟨lw_p79, fun _ h => absurd h List.not_mem_nil⟩⟩⟩⟩⟩⟩⟩⟩⟩⟩⟩⟩⟩⟩⟩⟩
theorem lw_p80 : lw_okq (⟨"StormLoftModel", "endTimes", "()V"⟩, 89) := ⟨⟨by decide +kernel, by decide +kernel⟩, List.mem_of_getElem? (i := 1225) (by decide +kernel), List.mem_of_getElem? (i := 1679) (by decide +kernel), List.mem_of_getElem? (i := 1680) (by decide +kernel)⟩
theorem lw_p81 : lw_okq (⟨"StormLoftModel", "readStorm", "()Z"⟩, 89) := ⟨⟨by decide +kernel, by decide +kernel⟩, List.mem_of_getElem? (i := 1225) (by decide +kernel), List.mem_of_getElem? (i := 1683) (by decide +kernel), List.mem_of_getElem? (i := 1684) (by decide +kernel)⟩
theorem lw_p82 : lw_okq (⟨"StormLoftModel", "takes", "(I)I"⟩, 89) := ⟨⟨by decide +kernel, by decide +kernel⟩, List.mem_of_getElem? (i := 1225) (by decide +kernel), List.mem_of_getElem? (i := 1695) (by decide +kernel), List.mem_of_getElem? (i := 1696) (by decide +kernel)⟩
theorem lw_p83 : lw_okq (⟨"StormLoftModel", "worth", "(I)I"⟩, 89) := ⟨⟨by decide +kernel, by decide +kernel⟩, List.mem_of_getElem? (i := 1225) (by decide +kernel), List.mem_of_getElem? (i := 1699) (by decide +kernel), List.mem_of_getElem? (i := 1700) (by decide +kernel)⟩
theorem lw_p84 : lw_okq (⟨"StormLoftModel", "rollAll", "(I)V"⟩, 89) := ⟨⟨by decide +kernel, by decide +kernel⟩, List.mem_of_getElem? (i := 1225) (by decide +kernel), List.mem_of_getElem? (i := 1707) (by decide +kernel), List.mem_of_getElem? (i := 1708) (by decide +kernel)⟩
theorem lw_p85 : lw_okq (⟨"StormLoftModel", "hear", "(III)V"⟩, 89) := ⟨⟨by decide +kernel, by decide +kernel⟩, List.mem_of_getElem? (i := 1225) (by decide +kernel), List.mem_of_getElem? (i := 1711) (by decide +kernel), List.mem_of_getElem? (i := 1712) (by decide +kernel)⟩
theorem lw_p86 : lw_okq (⟨"StormLoftModel", "use", "(I)V"⟩, 89) := ⟨⟨by decide +kernel, by decide +kernel⟩, List.mem_of_getElem? (i := 1225) (by decide +kernel), List.mem_of_getElem? (i := 1715) (by decide +kernel), List.mem_of_getElem? (i := 1716) (by decide +kernel)⟩
theorem lw_p87 : lw_okq (⟨"StormLoftModel", "fillTable", "()V"⟩, 89) := ⟨⟨by decide +kernel, by decide +kernel⟩, List.mem_of_getElem? (i := 1225) (by decide +kernel), List.mem_of_getElem? (i := 1731) (by decide +kernel), List.mem_of_getElem? (i := 1732) (by decide +kernel)⟩
theorem lw_p88 : lw_okq (⟨"StormLoftModel", "prepare", "()V"⟩, 89) := ⟨⟨by decide +kernel, by decide +kernel⟩, List.mem_of_getElem? (i := 1225) (by decide +kernel), List.mem_of_getElem? (i := 1735) (by decide +kernel), List.mem_of_getElem? (i := 1736) (by decide +kernel)⟩
theorem lw_p89 : lw_okq (⟨"StormLoftModel", "choose", "(II)I"⟩, 89) := ⟨⟨by decide +kernel, by decide +kernel⟩, List.mem_of_getElem? (i := 1225) (by decide +kernel), List.mem_of_getElem? (i := 1742) (by decide +kernel), List.mem_of_getElem? (i := 1743) (by decide +kernel)⟩
theorem lw_p90 : lw_okq (⟨"StormLoftModel", "workOut", "(III)V"⟩, 89) := ⟨⟨by decide +kernel, by decide +kernel⟩, List.mem_of_getElem? (i := 1225) (by decide +kernel), List.mem_of_getElem? (i := 1746) (by decide +kernel), List.mem_of_getElem? (i := 1747) (by decide +kernel)⟩
theorem lw_p91 : lw_okq (⟨"StormLoftModel", "cellOf", "(IIIII)I"⟩, 89) := ⟨⟨by decide +kernel, by decide +kernel⟩, List.mem_of_getElem? (i := 1225) (by decide +kernel), List.mem_of_getElem? (i := 1750) (by decide +kernel), List.mem_of_getElem? (i := 1751) (by decide +kernel)⟩
theorem lw_p92 : lw_okq (⟨"StormLoftModel", "mayFollow", "(II)Z"⟩, 89) := ⟨⟨by decide +kernel, by decide +kernel⟩, List.mem_of_getElem? (i := 1225) (by decide +kernel), List.mem_of_getElem? (i := 1754) (by decide +kernel), List.mem_of_getElem? (i := 1755) (by decide +kernel)⟩
theorem lw_p93 : lw_okq (⟨"StormLoftModel", "standOf", "(I)I"⟩, 89) := ⟨⟨by decide +kernel, by decide +kernel⟩, List.mem_of_getElem? (i := 1225) (by decide +kernel), List.mem_of_getElem? (i := 1758) (by decide +kernel), List.mem_of_getElem? (i := 1759) (by decide +kernel)⟩
theorem lw_p94 : lw_okq (⟨"StormLoftModel", "mayBegin", "(II)Z"⟩, 89) := ⟨⟨by decide +kernel, by decide +kernel⟩, List.mem_of_getElem? (i := 1225) (by decide +kernel), List.mem_of_getElem? (i := 1765) (by decide +kernel), List.mem_of_getElem? (i := 1766) (by decide +kernel)⟩
theorem lw_p95 : lw_okq (⟨"StormLoftModel", "goesOn", "(II)Z"⟩, 89) := ⟨⟨by decide +kernel, by decide +kernel⟩, List.mem_of_getElem? (i := 1225) (by decide +kernel), List.mem_of_getElem? (i := 1769) (by decide +kernel), List.mem_of_getElem? (i := 1770) (by decide +kernel)⟩
def lw_privs_6 : List (MethodName × Nat) := [(⟨"StormLoftModel", "endTimes", "()V"⟩, 89), (⟨"StormLoftModel", "readStorm", "()Z"⟩, 89), (⟨"StormLoftModel", "takes", "(I)I"⟩, 89), (⟨"StormLoftModel", "worth", "(I)I"⟩, 89), (⟨"StormLoftModel", "rollAll", "(I)V"⟩, 89), (⟨"StormLoftModel", "hear", "(III)V"⟩, 89), (⟨"StormLoftModel", "use", "(I)V"⟩, 89), (⟨"StormLoftModel", "fillTable", "()V"⟩, 89), (⟨"StormLoftModel", "prepare", "()V"⟩, 89), (⟨"StormLoftModel", "choose", "(II)I"⟩, 89), (⟨"StormLoftModel", "workOut", "(III)V"⟩, 89), (⟨"StormLoftModel", "cellOf", "(IIIII)I"⟩, 89), (⟨"StormLoftModel", "mayFollow", "(II)Z"⟩, 89), (⟨"StormLoftModel", "standOf", "(I)I"⟩, 89), (⟨"StormLoftModel", "mayBegin", "(II)Z"⟩, 89), (⟨"StormLoftModel", "goesOn", "(II)Z"⟩, 89)]
theorem lw_r6 : ∀ q ∈ lw_privs_6, lw_okq q := List.forall_mem_cons.mpr ⟨lw_p80, List.forall_mem_cons.mpr ⟨lw_p81, List.forall_mem_cons.mpr ⟨lw_p82, List.forall_mem_cons.mpr ⟨lw_p83, List.forall_mem_cons.mpr ⟨lw_p84, List.forall_mem_cons.mpr ⟨lw_p85, List.forall_mem_cons.mpr ⟨lw_p86, List.forall_mem_cons.mpr ⟨lw_p87, List.forall_mem_cons.mpr ⟨lw_p88, List.forall_mem_cons.mpr ⟨lw_p89, List.forall_mem_cons.mpr ⟨lw_p90, List.forall_mem_cons.mpr ⟨lw_p91, List.forall_mem_cons.mpr ⟨lw_p92, List.forall_mem_cons.mpr ⟨lw_p93, List.forall_mem_cons.mpr ⟨lw_p94, List.forall_mem_cons.mpr ⟨lw_p95, fun _ h => absurd h List.not_mem_nil⟩⟩⟩⟩⟩⟩⟩⟩⟩⟩⟩⟩⟩⟩⟩⟩
theorem lw_p96 : lw_okq (⟨"StormLoftModel", "cellByMen", "(I)I"⟩, 89) := ⟨⟨by decide +kernel, by decide +kernel⟩, List.mem_of_getElem? (i := 1225) (by decide +kernel), List.mem_of_getElem? (i := 1773) (by decide +kernel), List.mem_of_getElem? (i := 1774) (by decide +kernel)⟩
theorem lw_p97 : lw_okq (⟨"StormLoftModel", "isLetGo", "(II)Z"⟩, 89) := ⟨⟨by decide +kernel, by decide +kernel⟩, List.mem_of_getElem? (i := 1225) (by decide +kernel), List.mem_of_getElem? (i := 1785) (by decide +kernel), List.mem_of_getElem? (i := 1786) (by decide +kernel)⟩
theorem lw_p98 : lw_okq (⟨"StormLoftModel", "takeTicks", "()Z"⟩, 89) := ⟨⟨by decide +kernel, by decide +kernel⟩, List.mem_of_getElem? (i := 1225) (by decide +kernel), List.mem_of_getElem? (i := 1797) (by decide +kernel), List.mem_of_getElem? (i := 1798) (by decide +kernel)⟩
theorem lw_p99 : lw_okq (⟨"StormLoftModel", "err", "()I"⟩, 89) := ⟨⟨by decide +kernel, by decide +kernel⟩, List.mem_of_getElem? (i := 1225) (by decide +kernel), List.mem_of_getElem? (i := 1801) (by decide +kernel), List.mem_of_getElem? (i := 1802) (by decide +kernel)⟩
theorem lw_p100 : lw_okq (⟨"StormLoftModel", "explains", "()Z"⟩, 89) := ⟨⟨by decide +kernel, by decide +kernel⟩, List.mem_of_getElem? (i := 1225) (by decide +kernel), List.mem_of_getElem? (i := 1813) (by decide +kernel), List.mem_of_getElem? (i := 1814) (by decide +kernel)⟩
def lw_privs_7 : List (MethodName × Nat) := [(⟨"StormLoftModel", "cellByMen", "(I)I"⟩, 89), (⟨"StormLoftModel", "isLetGo", "(II)Z"⟩, 89), (⟨"StormLoftModel", "takeTicks", "()Z"⟩, 89), (⟨"StormLoftModel", "err", "()I"⟩, 89), (⟨"StormLoftModel", "explains", "()Z"⟩, 89)]
theorem lw_r7 : ∀ q ∈ lw_privs_7, lw_okq q := List.forall_mem_cons.mpr ⟨lw_p96, List.forall_mem_cons.mpr ⟨lw_p97, List.forall_mem_cons.mpr ⟨lw_p98, List.forall_mem_cons.mpr ⟨lw_p99, List.forall_mem_cons.mpr ⟨lw_p100, fun _ h => absurd h List.not_mem_nil⟩⟩⟩⟩⟩
def lw_privs : List (MethodName × Nat) := lw_privs_1 ++ (lw_privs_2 ++ (lw_privs_3 ++ (lw_privs_4 ++ (lw_privs_5 ++ (lw_privs_6 ++ (lw_privs_7))))))
def lw_tbl : List Cond := k2_sels lw_privs ++ tables_1
theorem lw_privs_ok : ∀ q ∈ lw_privs, lw_okq q := by
  show ∀ q ∈ lw_privs_1 ++ (lw_privs_2 ++ (lw_privs_3 ++ (lw_privs_4 ++ (lw_privs_5 ++ (lw_privs_6 ++ (lw_privs_7)))))), lw_okq q
  exact List.forall_mem_append.mpr ⟨lw_r1, List.forall_mem_append.mpr ⟨lw_r2, List.forall_mem_append.mpr ⟨lw_r3, List.forall_mem_append.mpr ⟨lw_r4, List.forall_mem_append.mpr ⟨lw_r5, List.forall_mem_append.mpr ⟨lw_r6, lw_r7⟩⟩⟩⟩⟩⟩
def RX0 : String := "StormLoft$Ball"
def TX0 : u_T := fun k => match k with
  | 0 => ("StormLoft$Ball", "run", "I", false)
  | 1 => ("StormLoft$Ball", "place", "I", false)
  | 2 => ("StormLoft$Ball", "part", "I", false)
  | 3 => ("StormLoft$Ball", "speed", "I", false)
  | 4 => ("StormLoft$Ball", "placeAhead", "I", false)
  | _ => ("StormLoft$Ball", "partAhead", "I", false)
def tyX0 : Nat → FieldType := fun k => match k with
  | 0 => .int
  | 1 => .int
  | 2 => .int
  | 3 => .int
  | 4 => .int
  | _ => .int
abbrev wsX00 : List Cond := u_ws RX0 TX0 6
theorem nmX0 : ∀ a, a < 6 → ∀ b, b < 6 → a ≠ b → (TX0 a).2.1 ≠ (TX0 b).2.1 := by decide +kernel
theorem tyX0_ok : ∀ k, k < 6 → parseFieldDescriptor (TX0 k).2.2.1 = some (tyX0 k) := by decide +kernel
abbrev cX0_init : ByteArray := prog_2_method_1_code
def yX0_init : MethodName := ⟨RX0, "<init>", "()V"⟩
abbrev cX0_letGoOn : ByteArray := prog_2_method_2_code
def yX0_letGoOn : MethodName := ⟨RX0, "letGoOn", "(I)V"⟩
abbrev cX0_put : ByteArray := prog_2_method_3_code
def yX0_put : MethodName := ⟨RX0, "put", "(III)V"⟩
abbrev cX0_rollsOver : ByteArray := prog_2_method_4_code
def yX0_rollsOver : MethodName := ⟨RX0, "rollsOver", "(LStormLoft$Board;)Z"⟩
abbrev cX0_fallsOff : ByteArray := prog_2_method_5_code
def yX0_fallsOff : MethodName := ⟨RX0, "fallsOff", "(LStormLoft$Board;I)I"⟩
abbrev cX0_isAtRest : ByteArray := prog_2_method_6_code
def yX0_isAtRest : MethodName := ⟨RX0, "isAtRest", "()Z"⟩
abbrev cX0_overtook : ByteArray := prog_2_method_7_code
def yX0_overtook : MethodName := ⟨RX0, "overtook", "(LStormLoft$Ball;)Z"⟩
abbrev cX0_stayedWith : ByteArray := prog_2_method_8_code
def yX0_stayedWith : MethodName := ⟨RX0, "stayedWith", "(LStormLoft$Ball;)Z"⟩
def RX1 : String := "StormLoft$Board"
def TX1 : u_T := fun k => match k with
  | 0 => ("StormLoft$Board", "parts", "I", true)
  | 1 => ("StormLoft$Board", "slope", "I", true)
  | 2 => ("StormLoft$Board", "rough", "I", true)
  | 3 => ("StormLoft$Board", "drop", "I", true)
  | _ => ("StormLoft$Board", "turn", "I", true)
def tyX1 : Nat → FieldType := fun k => match k with
  | 0 => .int
  | 1 => .int
  | 2 => .int
  | 3 => .int
  | _ => .int
abbrev wsX10 : List Cond := u_ws RX1 TX1 5
theorem nmX1 : ∀ a, a < 5 → ∀ b, b < 5 → a ≠ b → (TX1 a).2.1 ≠ (TX1 b).2.1 := by decide +kernel
theorem tyX1_ok : ∀ k, k < 5 → parseFieldDescriptor (TX1 k).2.2.1 = some (tyX1 k) := by decide +kernel
abbrev cX1_init : ByteArray := prog_3_method_1_code
def yX1_init : MethodName := ⟨RX1, "<init>", "(IIIII)V"⟩
def RX2 : String := "StormLoft$Carpenter"
def TX2 : u_T := fun k => match k with
  | 0 => ("StormLoft$Carpenter", "tick", "[I", true)
  | 1 => ("StormLoft$Carpenter", "place", "[I", true)
  | 2 => ("StormLoft$Carpenter", "part", "[I", true)
  | 3 => ("StormLoft$Carpenter", "speed", "[I", true)
  | 4 => ("StormLoft$Carpenter", "knocks", "[I", true)
  | 5 => ("StormLoft$Carpenter", "sum", "[I", true)
  | 6 => ("StormLoft$Carpenter", "chosen", "[I", true)
  | 7 => ("StormLoft$Carpenter", "ball", "LStormLoft$Ball;", true)
  | 8 => ("StormLoft$Carpenter", "laid", "[I", true)
  | 9 => ("StormLoft$Carpenter", "laidCount", "I", false)
  | 10 => ("StormLoft$Carpenter", "wornSet", "I", false)
  | 11 => ("StormLoft$Carpenter", "many", "I", false)
  | 12 => ("StormLoft$Carpenter", "choice", "I", false)
  | _ => ("StormLoft$Carpenter", "least", "I", false)
def tyX2 : Nat → FieldType := fun k => match k with
  | 0 => .array .int
  | 1 => .array .int
  | 2 => .array .int
  | 3 => .array .int
  | 4 => .array .int
  | 5 => .array .int
  | 6 => .array .int
  | 7 => .object "StormLoft$Ball"
  | 8 => .array .int
  | 9 => .int
  | 10 => .int
  | 11 => .int
  | 12 => .int
  | _ => .int
abbrev wsX20 : List Cond := u_ws RX2 TX2 14
theorem nmX2 : ∀ a, a < 14 → ∀ b, b < 14 → a ≠ b → (TX2 a).2.1 ≠ (TX2 b).2.1 := by decide +kernel
theorem tyX2_ok : ∀ k, k < 14 → parseFieldDescriptor (TX2 k).2.2.1 = some (tyX2 k) := by decide +kernel
abbrev cX2_init : ByteArray := prog_4_method_1_code
def yX2_init : MethodName := ⟨RX2, "<init>", "()V"⟩
abbrev cX2_laidAt : ByteArray := prog_4_method_2_code
def yX2_laidAt : MethodName := ⟨RX2, "laidAt", "(I)I"⟩
abbrev cX2_layLikest : ByteArray := prog_4_method_3_code
def yX2_layLikest : MethodName := ⟨RX2, "layLikest", "([LStormLoft$Board;IILStormLoft$Tape;)I"⟩
abbrev cX2_explain : ByteArray := prog_4_method_4_code
def yX2_explain : MethodName := ⟨RX2, "explain", "(LStormLoft$Path;LStormLoft$Tape;)I"⟩
abbrev cX2_begin : ByteArray := prog_4_method_5_code
def yX2_begin : MethodName := ⟨RX2, "begin", "()V"⟩
abbrev cX2_store : ByteArray := prog_4_method_6_code
def yX2_store : MethodName := ⟨RX2, "store", "(II)V"⟩
abbrev cX2_load : ByteArray := prog_4_method_7_code
def yX2_load : MethodName := ⟨RX2, "load", "(I)V"⟩
abbrev cX2_rollToEnd : ByteArray := prog_4_method_8_code
def yX2_rollToEnd : MethodName := ⟨RX2, "rollToEnd", "(LStormLoft$Board;II)I"⟩
abbrev cX2_glideToEnd : ByteArray := prog_4_method_9_code
def yX2_glideToEnd : MethodName := ⟨RX2, "glideToEnd", "(LStormLoft$Board;II)I"⟩
abbrev cX2_layOn : ByteArray := prog_4_method_10_code
def yX2_layOn : MethodName := ⟨RX2, "layOn", "(LStormLoft$Carpenter;[LStormLoft$Board;LStormLoft$Tape;I)V"⟩
abbrev cX2_passes : ByteArray := prog_4_method_11_code
def yX2_passes : MethodName := ⟨RX2, "passes", "(LStormLoft$Board;LStormLoft$Tape;I)Z"⟩
abbrev cX2_leastPossible : ByteArray := prog_4_method_12_code
def yX2_leastPossible : MethodName := ⟨RX2, "leastPossible", "(LStormLoft$Tape;I)I"⟩
abbrev cX2_judge : ByteArray := prog_4_method_13_code
def yX2_judge : MethodName := ⟨RX2, "judge", "(LStormLoft$Tape;II)V"⟩
abbrev cX2_wearOn : ByteArray := prog_4_method_14_code
def yX2_wearOn : MethodName := ⟨RX2, "wearOn", "(LStormLoft$Carpenter;LStormLoft$Path;LStormLoft$Tape;I)V"⟩
abbrev cX2_leave : ByteArray := prog_4_method_15_code
def yX2_leave : MethodName := ⟨RX2, "leave", "(LStormLoft$Path;LStormLoft$Board;LStormLoft$Tape;II)V"⟩
def RX3 : String := "StormLoft$Crew"
def TX3 : u_T := fun k => match k with
  | 0 => ("StormLoft$Crew", "home", "[I", true)
  | 1 => ("StormLoft$Crew", "size", "I", false)
  | 2 => ("StormLoft$Crew", "doer", "[I", true)
  | 3 => ("StormLoft$Crew", "cost", "[[I", true)
  | 4 => ("StormLoft$Crew", "rowPrice", "[I", true)
  | 5 => ("StormLoft$Crew", "columnPrice", "[I", true)
  | 6 => ("StormLoft$Crew", "columnOf", "[I", true)
  | 7 => ("StormLoft$Crew", "rowOf", "[I", true)
  | 8 => ("StormLoft$Crew", "slack", "[I", true)
  | 9 => ("StormLoft$Crew", "cameFrom", "[I", true)
  | 10 => ("StormLoft$Crew", "seen", "[I", true)
  | 11 => ("StormLoft$Crew", "settled", "[I", true)
  | 12 => ("StormLoft$Crew", "queue", "[I", true)
  | 13 => ("StormLoft$Crew", "standsAt", "[I", true)
  | 14 => ("StormLoft$Crew", "events", "I", false)
  | _ => ("StormLoft$Crew", "side", "I", false)
def tyX3 : Nat → FieldType := fun k => match k with
  | 0 => .array .int
  | 1 => .int
  | 2 => .array .int
  | 3 => .array (.array .int)
  | 4 => .array .int
  | 5 => .array .int
  | 6 => .array .int
  | 7 => .array .int
  | 8 => .array .int
  | 9 => .array .int
  | 10 => .array .int
  | 11 => .array .int
  | 12 => .array .int
  | 13 => .array .int
  | 14 => .int
  | _ => .int
abbrev wsX30 : List Cond := u_ws RX3 TX3 16
theorem nmX3 : ∀ a, a < 16 → ∀ b, b < 16 → a ≠ b → (TX3 a).2.1 ≠ (TX3 b).2.1 := by decide +kernel
theorem tyX3_ok : ∀ k, k < 16 → parseFieldDescriptor (TX3 k).2.2.1 = some (tyX3 k) := by decide +kernel
abbrev cX3_init : ByteArray := prog_5_method_1_code
def yX3_init : MethodName := ⟨RX3, "<init>", "()V"⟩
abbrev cX3_forget : ByteArray := prog_5_method_2_code
def yX3_forget : MethodName := ⟨RX3, "forget", "()V"⟩
abbrev cX3_add : ByteArray := prog_5_method_3_code
def yX3_add : MethodName := ⟨RX3, "add", "(I)I"⟩
abbrev cX3_doerOf : ByteArray := prog_5_method_4_code
def yX3_doerOf : MethodName := ⟨RX3, "doerOf", "(I)I"⟩
abbrev cX3_makeMost : ByteArray := prog_5_method_5_code
def yX3_makeMost : MethodName := ⟨RX3, "makeMost", "(LStormLoft$Plan;LStormLoft$Machines;)I"⟩
abbrev cX3_costOf : ByteArray := prog_5_method_6_code
def yX3_costOf : MethodName := ⟨RX3, "costOf", "(IILStormLoft$Plan;LStormLoft$Machines;)I"⟩
abbrev cX3_assignAll : ByteArray := prog_5_method_7_code
def yX3_assignAll : MethodName := ⟨RX3, "assignAll", "()V"⟩
abbrev cX3_assignRow : ByteArray := prog_5_method_8_code
def yX3_assignRow : MethodName := ⟨RX3, "assignRow", "(I)V"⟩
abbrev cX3_relax : ByteArray := prog_5_method_9_code
def yX3_relax : MethodName := ⟨RX3, "relax", "(II)V"⟩
abbrev cX3_nearest : ByteArray := prog_5_method_10_code
def yX3_nearest : MethodName := ⟨RX3, "nearest", "()I"⟩
abbrev cX3_lower : ByteArray := prog_5_method_11_code
def yX3_lower : MethodName := ⟨RX3, "lower", "(II)V"⟩
abbrev cX3_flip : ByteArray := prog_5_method_12_code
def yX3_flip : MethodName := ⟨RX3, "flip", "(II)V"⟩
abbrev cX3_chooseFirst : ByteArray := prog_5_method_13_code
def yX3_chooseFirst : MethodName := ⟨RX3, "chooseFirst", "()V"⟩
abbrev cX3_isFree : ByteArray := prog_5_method_14_code
def yX3_isFree : MethodName := ⟨RX3, "isFree", "(II)Z"⟩
abbrev cX3_canDoNext : ByteArray := prog_5_method_15_code
def yX3_canDoNext : MethodName := ⟨RX3, "canDoNext", "(II)Z"⟩
abbrev cX3_reaches : ByteArray := prog_5_method_16_code
def yX3_reaches : MethodName := ⟨RX3, "reaches", "(II)Z"⟩
def RX4 : String := "StormLoft$Fall"
def TX4 : u_T := fun k => match k with
  | 0 => ("StormLoft$Fall", "tick", "[I", true)
  | 1 => ("StormLoft$Fall", "place", "[I", true)
  | 2 => ("StormLoft$Fall", "strong", "[I", true)
  | 3 => ("StormLoft$Fall", "ball", "LStormLoft$Ball;", true)
  | 4 => ("StormLoft$Fall", "knocks", "I", false)
  | 5 => ("StormLoft$Fall", "end", "I", false)
  | 6 => ("StormLoft$Fall", "jumped", "I", false)
  | _ => ("StormLoft$Fall", "fastest", "I", false)
def tyX4 : Nat → FieldType := fun k => match k with
  | 0 => .array .int
  | 1 => .array .int
  | 2 => .array .int
  | 3 => .object "StormLoft$Ball"
  | 4 => .int
  | 5 => .int
  | 6 => .int
  | _ => .int
abbrev wsX40 : List Cond := u_ws RX4 TX4 8
theorem nmX4 : ∀ a, a < 8 → ∀ b, b < 8 → a ≠ b → (TX4 a).2.1 ≠ (TX4 b).2.1 := by decide +kernel
theorem tyX4_ok : ∀ k, k < 8 → parseFieldDescriptor (TX4 k).2.2.1 = some (tyX4 k) := by decide +kernel
abbrev cX4_init : ByteArray := prog_6_method_1_code
def yX4_init : MethodName := ⟨RX4, "<init>", "()V"⟩
abbrev cX4_follow : ByteArray := prog_6_method_2_code
def yX4_follow : MethodName := ⟨RX4, "follow", "(LStormLoft$Path;I)V"⟩
abbrev cX4_hear : ByteArray := prog_6_method_3_code
def yX4_hear : MethodName := ⟨RX4, "hear", "(III)V"⟩
abbrev cX4_answer : ByteArray := prog_6_method_4_code
def yX4_answer : MethodName := ⟨RX4, "answer", "(I)I"⟩
abbrev cX4_knockAt : ByteArray := prog_6_method_5_code
def yX4_knockAt : MethodName := ⟨RX4, "knockAt", "(II)I"⟩
def RX5 : String := "StormLoft$Machines"
def TX5 : u_T := fun k => match k with
  | 0 => ("StormLoft$Machines", "kind", "[I", true)
  | 1 => ("StormLoft$Machines", "x", "[I", true)
  | 2 => ("StormLoft$Machines", "a", "[I", true)
  | 3 => ("StormLoft$Machines", "b", "[I", true)
  | _ => ("StormLoft$Machines", "size", "I", false)
def tyX5 : Nat → FieldType := fun k => match k with
  | 0 => .array .int
  | 1 => .array .int
  | 2 => .array .int
  | 3 => .array .int
  | _ => .int
abbrev wsX50 : List Cond := u_ws RX5 TX5 5
theorem nmX5 : ∀ a, a < 5 → ∀ b, b < 5 → a ≠ b → (TX5 a).2.1 ≠ (TX5 b).2.1 := by decide +kernel
theorem tyX5_ok : ∀ k, k < 5 → parseFieldDescriptor (TX5 k).2.2.1 = some (tyX5 k) := by decide +kernel
abbrev cX5_init : ByteArray := prog_7_method_1_code
def yX5_init : MethodName := ⟨RX5, "<init>", "()V"⟩
abbrev cX5_add : ByteArray := prog_7_method_2_code
def yX5_add : MethodName := ⟨RX5, "add", "(IIII)I"⟩
abbrev cX5_is : ByteArray := prog_7_method_3_code
def yX5_is : MethodName := ⟨RX5, "is", "(I)Z"⟩
abbrev cX5_kindOf : ByteArray := prog_7_method_4_code
def yX5_kindOf : MethodName := ⟨RX5, "kindOf", "(I)I"⟩
abbrev cX5_placeOf : ByteArray := prog_7_method_5_code
def yX5_placeOf : MethodName := ⟨RX5, "placeOf", "(I)I"⟩
abbrev cX5_firstOf : ByteArray := prog_7_method_6_code
def yX5_firstOf : MethodName := ⟨RX5, "firstOf", "(I)I"⟩
abbrev cX5_secondOf : ByteArray := prog_7_method_7_code
def yX5_secondOf : MethodName := ⟨RX5, "secondOf", "(I)I"⟩
abbrev cX5_leastNumber : ByteArray := prog_7_method_8_code
def yX5_leastNumber : MethodName := ⟨RX5, "leastNumber", "(I)I"⟩
abbrev cX5_mostNumber : ByteArray := prog_7_method_9_code
def yX5_mostNumber : MethodName := ⟨RX5, "mostNumber", "(I)I"⟩
abbrev cX5_takes : ByteArray := prog_7_method_10_code
def yX5_takes : MethodName := ⟨RX5, "takes", "(II)I"⟩
abbrev cX5_strength : ByteArray := prog_7_method_11_code
def yX5_strength : MethodName := ⟨RX5, "strength", "(II)I"⟩
abbrev cX5_ballsNeeded : ByteArray := prog_7_method_12_code
def yX5_ballsNeeded : MethodName := ⟨RX5, "ballsNeeded", "(LStormLoft$Plan;II)I"⟩
abbrev cX5_letsGo : ByteArray := prog_7_method_13_code
def yX5_letsGo : MethodName := ⟨RX5, "letsGo", "(LStormLoft$Plan;II)Z"⟩
abbrev cX5_fillingsNeeded : ByteArray := prog_7_method_14_code
def yX5_fillingsNeeded : MethodName := ⟨RX5, "fillingsNeeded", "(LStormLoft$Plan;I)I"⟩
def RX6 : String := "StormLoft$Night"
def TX6 : u_T := fun k => match k with
  | 0 => ("StormLoft$Night", "tick", "[I", true)
  | 1 => ("StormLoft$Night", "source", "[I", true)
  | 2 => ("StormLoft$Night", "strong", "[I", true)
  | 3 => ("StormLoft$Night", "kept", "I", false)
  | 4 => ("StormLoft$Night", "all", "I", false)
  | 5 => ("StormLoft$Night", "loudness", "I", false)
  | 6 => ("StormLoft$Night", "balls", "[LStormLoft$Ball;", true)
  | 7 => ("StormLoft$Night", "letGo", "I", false)
  | 8 => ("StormLoft$Night", "ended", "I", false)
  | 9 => ("StormLoft$Night", "bumps", "I", false)
  | 10 => ("StormLoft$Night", "gates", "[I", true)
  | 11 => ("StormLoft$Night", "now", "I", false)
  | _ => ("StormLoft$Night", "still", "Z", false)
def tyX6 : Nat → FieldType := fun k => match k with
  | 0 => .array .int
  | 1 => .array .int
  | 2 => .array .int
  | 3 => .int
  | 4 => .int
  | 5 => .int
  | 6 => .array (.object "StormLoft$Ball")
  | 7 => .int
  | 8 => .int
  | 9 => .int
  | 10 => .array .int
  | 11 => .int
  | _ => .boolean
abbrev wsX60 : List Cond := u_ws RX6 TX6 13
theorem nmX6 : ∀ a, a < 13 → ∀ b, b < 13 → a ≠ b → (TX6 a).2.1 ≠ (TX6 b).2.1 := by decide +kernel
theorem tyX6_ok : ∀ k, k < 13 → parseFieldDescriptor (TX6 k).2.2.1 = some (tyX6 k) := by decide +kernel
abbrev cX6_init : ByteArray := prog_8_method_1_code
def yX6_init : MethodName := ⟨RX6, "<init>", "()V"⟩
abbrev cX6_goThrough : ByteArray := prog_8_method_2_code
def yX6_goThrough : MethodName := ⟨RX6, "goThrough", "(LStormLoft$Plan;LStormLoft$Machines;[LStormLoft$Path;)V"⟩
abbrev cX6_rollAll : ByteArray := prog_8_method_3_code
def yX6_rollAll : MethodName := ⟨RX6, "rollAll", "([LStormLoft$Path;)V"⟩
abbrev cX6_roll : ByteArray := prog_8_method_4_code
def yX6_roll : MethodName := ⟨RX6, "roll", "(LStormLoft$Ball;LStormLoft$Path;)V"⟩
abbrev cX6_bumpAll : ByteArray := prog_8_method_5_code
def yX6_bumpAll : MethodName := ⟨RX6, "bumpAll", "()V"⟩
abbrev cX6_allAreAlike : ByteArray := prog_8_method_6_code
def yX6_allAreAlike : MethodName := ⟨RX6, "allAreAlike", "()Z"⟩
abbrev cX6_use : ByteArray := prog_8_method_7_code
def yX6_use : MethodName := ⟨RX6, "use", "(IILStormLoft$Machines;)V"⟩
abbrev cX6_hear : ByteArray := prog_8_method_8_code
def yX6_hear : MethodName := ⟨RX6, "hear", "(II)V"⟩
abbrev cX6_soundAt : ByteArray := prog_8_method_9_code
def yX6_soundAt : MethodName := ⟨RX6, "soundAt", "(II)I"⟩
def RX7 : String := "StormLoft$Path"
def TX7 : u_T := fun k => match k with
  | 0 => ("StormLoft$Path", "boards", "[LStormLoft$Board;", true)
  | 1 => ("StormLoft$Path", "straight", "[I", true)
  | 2 => ("StormLoft$Path", "turned", "[I", true)
  | _ => ("StormLoft$Path", "size", "I", false)
def tyX7 : Nat → FieldType := fun k => match k with
  | 0 => .array (.object "StormLoft$Board")
  | 1 => .array .int
  | 2 => .array .int
  | _ => .int
abbrev wsX70 : List Cond := u_ws RX7 TX7 4
theorem nmX7 : ∀ a, a < 4 → ∀ b, b < 4 → a ≠ b → (TX7 a).2.1 ≠ (TX7 b).2.1 := by decide +kernel
theorem tyX7_ok : ∀ k, k < 4 → parseFieldDescriptor (TX7 k).2.2.1 = some (tyX7 k) := by decide +kernel
abbrev cX7_init : ByteArray := prog_9_method_1_code
def yX7_init : MethodName := ⟨RX7, "<init>", "()V"⟩
abbrev cX7_isTold : ByteArray := prog_9_method_2_code
def yX7_isTold : MethodName := ⟨RX7, "isTold", "(LStormLoft$Tape;I)Z"⟩
abbrev cX7_leadsOn : ByteArray := prog_9_method_3_code
def yX7_leadsOn : MethodName := ⟨RX7, "leadsOn", "(III)Z"⟩
abbrev cX7_build : ByteArray := prog_9_method_4_code
def yX7_build : MethodName := ⟨RX7, "build", "(LStormLoft$Tape;[LStormLoft$Board;)V"⟩
abbrev cX7_boardAt : ByteArray := prog_9_method_5_code
def yX7_boardAt : MethodName := ⟨RX7, "boardAt", "(I)LStormLoft$Board;"⟩
abbrev cX7_leadsTo : ByteArray := prog_9_method_6_code
def yX7_leadsTo : MethodName := ⟨RX7, "leadsTo", "(II)I"⟩
abbrev cX7_carryOn : ByteArray := prog_9_method_7_code
def yX7_carryOn : MethodName := ⟨RX7, "carryOn", "(LStormLoft$Ball;I)I"⟩
def RX8 : String := "StormLoft$Plan"
def TX8 : u_T := fun k => match k with
  | 0 => ("StormLoft$Plan", "tick", "[I", true)
  | 1 => ("StormLoft$Plan", "machine", "[I", true)
  | 2 => ("StormLoft$Plan", "number", "[I", true)
  | 3 => ("StormLoft$Plan", "size", "I", false)
  | _ => ("StormLoft$Plan", "over", "Z", false)
def tyX8 : Nat → FieldType := fun k => match k with
  | 0 => .array .int
  | 1 => .array .int
  | 2 => .array .int
  | 3 => .int
  | _ => .boolean
abbrev wsX80 : List Cond := u_ws RX8 TX8 5
theorem nmX8 : ∀ a, a < 5 → ∀ b, b < 5 → a ≠ b → (TX8 a).2.1 ≠ (TX8 b).2.1 := by decide +kernel
theorem tyX8_ok : ∀ k, k < 5 → parseFieldDescriptor (TX8 k).2.2.1 = some (tyX8 k) := by decide +kernel
abbrev cX8_init : ByteArray := prog_10_method_1_code
def yX8_init : MethodName := ⟨RX8, "<init>", "()V"⟩
abbrev cX8_clear : ByteArray := prog_10_method_2_code
def yX8_clear : MethodName := ⟨RX8, "clear", "()V"⟩
abbrev cX8_is : ByteArray := prog_10_method_3_code
def yX8_is : MethodName := ⟨RX8, "is", "(I)Z"⟩
abbrev cX8_tickOf : ByteArray := prog_10_method_4_code
def yX8_tickOf : MethodName := ⟨RX8, "tickOf", "(I)I"⟩
abbrev cX8_machineOf : ByteArray := prog_10_method_5_code
def yX8_machineOf : MethodName := ⟨RX8, "machineOf", "(I)I"⟩
abbrev cX8_numberOf : ByteArray := prog_10_method_6_code
def yX8_numberOf : MethodName := ⟨RX8, "numberOf", "(I)I"⟩
abbrev cX8_add : ByteArray := prog_10_method_7_code
def yX8_add : MethodName := ⟨RX8, "add", "(III)V"⟩
abbrev cX8_addAll : ByteArray := prog_10_method_8_code
def yX8_addAll : MethodName := ⟨RX8, "addAll", "(LStormLoft$Plan;I)V"⟩
abbrev cX8_repeat : ByteArray := prog_10_method_9_code
def yX8_repeat : MethodName := ⟨RX8, "repeat", "(III)V"⟩
abbrev cX8_lastTick : ByteArray := prog_10_method_10_code
def yX8_lastTick : MethodName := ⟨RX8, "lastTick", "()I"⟩
abbrev cX8_becomes : ByteArray := prog_10_method_11_code
def yX8_becomes : MethodName := ⟨RX8, "becomes", "(LStormLoft$Plan;)V"⟩
abbrev cX8_sink : ByteArray := prog_10_method_12_code
def yX8_sink : MethodName := ⟨RX8, "sink", "(I)V"⟩
abbrev cX8_swap : ByteArray := prog_10_method_13_code
def yX8_swap : MethodName := ⟨RX8, "swap", "([II)V"⟩
def RX9 : String := "StormLoft$Reader"
def TX9 : u_T := fun k => match k with
  | 0 => ("StormLoft$Reader", "top", "LStormLoft$Plan;", true)
  | 1 => ("StormLoft$Reader", "storms", "[LStormLoft$Plan;", true)
  | 2 => ("StormLoft$Reader", "nameStart", "[I", true)
  | 3 => ("StormLoft$Reader", "nameStop", "[I", true)
  | 4 => ("StormLoft$Reader", "stormCount", "I", false)
  | 5 => ("StormLoft$Reader", "current", "LStormLoft$Plan;", false)
  | 6 => ("StormLoft$Reader", "timesFrom", "[I", true)
  | 7 => ("StormLoft$Reader", "timesMany", "[I", true)
  | 8 => ("StormLoft$Reader", "timesEvery", "[I", true)
  | 9 => ("StormLoft$Reader", "open", "I", false)
  | 10 => ("StormLoft$Reader", "faultKind", "I", false)
  | _ => ("StormLoft$Reader", "faultPlace", "I", false)
def tyX9 : Nat → FieldType := fun k => match k with
  | 0 => .object "StormLoft$Plan"
  | 1 => .array (.object "StormLoft$Plan")
  | 2 => .array .int
  | 3 => .array .int
  | 4 => .int
  | 5 => .object "StormLoft$Plan"
  | 6 => .array .int
  | 7 => .array .int
  | 8 => .array .int
  | 9 => .int
  | 10 => .int
  | _ => .int
abbrev wsX90 : List Cond := u_ws RX9 TX9 12
theorem nmX9 : ∀ a, a < 12 → ∀ b, b < 12 → a ≠ b → (TX9 a).2.1 ≠ (TX9 b).2.1 := by decide +kernel
theorem tyX9_ok : ∀ k, k < 12 → parseFieldDescriptor (TX9 k).2.2.1 = some (tyX9 k) := by decide +kernel
abbrev cX9_init : ByteArray := prog_11_method_1_code
def yX9_init : MethodName := ⟨RX9, "<init>", "()V"⟩
abbrev cX9_understands : ByteArray := prog_11_method_2_code
def yX9_understands : MethodName := ⟨RX9, "understands", "(LStormLoft$Tape;LStormLoft$Machines;)Z"⟩
abbrev cX9_begin : ByteArray := prog_11_method_3_code
def yX9_begin : MethodName := ⟨RX9, "begin", "(LStormLoft$Tape;)V"⟩
abbrev cX9_fail : ByteArray := prog_11_method_4_code
def yX9_fail : MethodName := ⟨RX9, "fail", "(II)V"⟩
abbrev cX9_readUse : ByteArray := prog_11_method_5_code
def yX9_readUse : MethodName := ⟨RX9, "readUse", "(LStormLoft$Tape;LStormLoft$Machines;)V"⟩
abbrev cX9_readTimes : ByteArray := prog_11_method_6_code
def yX9_readTimes : MethodName := ⟨RX9, "readTimes", "(LStormLoft$Tape;)V"⟩
abbrev cX9_readPlay : ByteArray := prog_11_method_7_code
def yX9_readPlay : MethodName := ⟨RX9, "readPlay", "(LStormLoft$Tape;)V"⟩
abbrev cX9_readStorm : ByteArray := prog_11_method_8_code
def yX9_readStorm : MethodName := ⟨RX9, "readStorm", "(LStormLoft$Tape;)V"⟩
abbrev cX9_close : ByteArray := prog_11_method_9_code
def yX9_close : MethodName := ⟨RX9, "close", "(LStormLoft$Tape;)V"⟩
abbrev cX9_stormAt : ByteArray := prog_11_method_10_code
def yX9_stormAt : MethodName := ⟨RX9, "stormAt", "(I)LStormLoft$Plan;"⟩
abbrev cX9_findStorm : ByteArray := prog_11_method_11_code
def yX9_findStorm : MethodName := ⟨RX9, "findStorm", "(LStormLoft$Tape;)I"⟩
abbrev cX9_isName : ByteArray := prog_11_method_12_code
def yX9_isName : MethodName := ⟨RX9, "isName", "(LStormLoft$Tape;)Z"⟩
abbrev cX9_readWord : ByteArray := prog_11_method_13_code
def yX9_readWord : MethodName := ⟨RX9, "readWord", "(LStormLoft$Tape;Ljava/lang/String;)V"⟩
abbrev cX9_readSemicolon : ByteArray := prog_11_method_14_code
def yX9_readSemicolon : MethodName := ⟨RX9, "readSemicolon", "(LStormLoft$Tape;)V"⟩
abbrev cX9_readNumber : ByteArray := prog_11_method_15_code
def yX9_readNumber : MethodName := ⟨RX9, "readNumber", "(LStormLoft$Tape;II)I"⟩
def RX10 : String := "StormLoft$Tape"
def TX10 : u_T := fun k => match k with
  | 0 => ("StormLoft$Tape", "bytes", "[I", true)
  | 1 => ("StormLoft$Tape", "size", "I", false)
  | 2 => ("StormLoft$Tape", "ticks", "[I", true)
  | 3 => ("StormLoft$Tape", "tickCount", "I", false)
  | 4 => ("StormLoft$Tape", "at", "I", false)
  | 5 => ("StormLoft$Tape", "kind", "I", false)
  | 6 => ("StormLoft$Tape", "start", "I", false)
  | 7 => ("StormLoft$Tape", "stop", "I", false)
  | _ => ("StormLoft$Tape", "value", "I", false)
def tyX10 : Nat → FieldType := fun k => match k with
  | 0 => .array .int
  | 1 => .int
  | 2 => .array .int
  | 3 => .int
  | 4 => .int
  | 5 => .int
  | 6 => .int
  | 7 => .int
  | _ => .int
abbrev wsX100 : List Cond := u_ws RX10 TX10 9
theorem nmX10 : ∀ a, a < 9 → ∀ b, b < 9 → a ≠ b → (TX10 a).2.1 ≠ (TX10 b).2.1 := by decide +kernel
theorem tyX10_ok : ∀ k, k < 9 → parseFieldDescriptor (TX10 k).2.2.1 = some (tyX10 k) := by decide +kernel
abbrev cX10_init : ByteArray := prog_12_method_1_code
def yX10_init : MethodName := ⟨RX10, "<init>", "()V"⟩
abbrev cX10_take : ByteArray := prog_12_method_2_code
def yX10_take : MethodName := ⟨RX10, "take", "(IIIII)I"⟩
abbrev cX10_put : ByteArray := prog_12_method_3_code
def yX10_put : MethodName := ⟨RX10, "put", "(I)V"⟩
abbrev cX10_cut : ByteArray := prog_12_method_4_code
def yX10_cut : MethodName := ⟨RX10, "cut", "(I)Z"⟩
abbrev cX10_clear : ByteArray := prog_12_method_5_code
def yX10_clear : MethodName := ⟨RX10, "clear", "()V"⟩
abbrev cX10_byteAt : ByteArray := prog_12_method_6_code
def yX10_byteAt : MethodName := ⟨RX10, "byteAt", "(I)I"⟩
abbrev cX10_readTicks : ByteArray := prog_12_method_7_code
def yX10_readTicks : MethodName := ⟨RX10, "readTicks", "()Z"⟩
abbrev cX10_tickAt : ByteArray := prog_12_method_8_code
def yX10_tickAt : MethodName := ⟨RX10, "tickAt", "(I)I"⟩
abbrev cX10_rewind : ByteArray := prog_12_method_9_code
def yX10_rewind : MethodName := ⟨RX10, "rewind", "()V"⟩
abbrev cX10_nextToken : ByteArray := prog_12_method_10_code
def yX10_nextToken : MethodName := ⟨RX10, "nextToken", "()V"⟩
abbrev cX10_readLettersAndDigits : ByteArray := prog_12_method_11_code
def yX10_readLettersAndDigits : MethodName := ⟨RX10, "readLettersAndDigits", "()V"⟩
abbrev cX10_isBlank : ByteArray := prog_12_method_12_code
def yX10_isBlank : MethodName := ⟨RX10, "isBlank", "(I)Z"⟩
abbrev cX10_isLetter : ByteArray := prog_12_method_13_code
def yX10_isLetter : MethodName := ⟨RX10, "isLetter", "(I)Z"⟩
abbrev cX10_isDigit : ByteArray := prog_12_method_14_code
def yX10_isDigit : MethodName := ⟨RX10, "isDigit", "(I)Z"⟩
abbrev cX10_isWord : ByteArray := prog_12_method_15_code
def yX10_isWord : MethodName := ⟨RX10, "isWord", "(Ljava/lang/String;)Z"⟩
abbrev cX10_isWordAt : ByteArray := prog_12_method_16_code
def yX10_isWordAt : MethodName := ⟨RX10, "isWordAt", "(II)Z"⟩
def RX11 : String := "StormLoft"
def TX11 : u_T := fun k => match k with
  | 0 => ("StormLoft", "tape", "LStormLoft$Tape;", true)
  | 1 => ("StormLoft", "stock", "[LStormLoft$Board;", true)
  | 2 => ("StormLoft", "runs", "[LStormLoft$Path;", true)
  | 3 => ("StormLoft", "machines", "LStormLoft$Machines;", true)
  | 4 => ("StormLoft", "crew", "LStormLoft$Crew;", true)
  | 5 => ("StormLoft", "reader", "LStormLoft$Reader;", true)
  | 6 => ("StormLoft", "plan", "LStormLoft$Plan;", true)
  | 7 => ("StormLoft", "heardFall", "LStormLoft$Fall;", true)
  | 8 => ("StormLoft", "triedFall", "LStormLoft$Fall;", true)
  | 9 => ("StormLoft", "playing", "LStormLoft$Night;", true)
  | 10 => ("StormLoft", "carpenter", "LStormLoft$Carpenter;", true)
  | _ => ("StormLoft", "boards", "I", false)
def tyX11 : Nat → FieldType := fun k => match k with
  | 0 => .object "StormLoft$Tape"
  | 1 => .array (.object "StormLoft$Board")
  | 2 => .array (.object "StormLoft$Path")
  | 3 => .object "StormLoft$Machines"
  | 4 => .object "StormLoft$Crew"
  | 5 => .object "StormLoft$Reader"
  | 6 => .object "StormLoft$Plan"
  | 7 => .object "StormLoft$Fall"
  | 8 => .object "StormLoft$Fall"
  | 9 => .object "StormLoft$Night"
  | 10 => .object "StormLoft$Carpenter"
  | _ => .int
abbrev wsX110 : List Cond := u_ws RX11 TX11 12
theorem nmX11 : ∀ a, a < 12 → ∀ b, b < 12 → a ≠ b → (TX11 a).2.1 ≠ (TX11 b).2.1 := by decide +kernel
theorem tyX11_ok : ∀ k, k < 12 → parseFieldDescriptor (TX11 k).2.2.1 = some (tyX11 k) := by decide +kernel
abbrev cX11_init : ByteArray := prog_1_method_1_code
def yX11_init : MethodName := ⟨RX11, "<init>", "()V"⟩
abbrev cX11_feed : ByteArray := prog_1_method_2_code
def yX11_feed : MethodName := ⟨RX11, "feed", "(IIIII)I"⟩
abbrev cX11_end : ByteArray := prog_1_method_3_code
def yX11_end : MethodName := ⟨RX11, "end", "(I)Z"⟩
abbrev cX11_board : ByteArray := prog_1_method_4_code
def yX11_board : MethodName := ⟨RX11, "board", "(IIIII)I"⟩
abbrev cX11_run : ByteArray := prog_1_method_5_code
def yX11_run : MethodName := ⟨RX11, "run", "(I)I"⟩
abbrev cX11_fall : ByteArray := prog_1_method_6_code
def yX11_fall : MethodName := ⟨RX11, "fall", "(III)I"⟩
abbrev cX11_knock : ByteArray := prog_1_method_7_code
def yX11_knock : MethodName := ⟨RX11, "knock", "(II)I"⟩
abbrev cX11_machine : ByteArray := prog_1_method_8_code
def yX11_machine : MethodName := ⟨RX11, "machine", "(IIII)I"⟩
abbrev cX11_man : ByteArray := prog_1_method_9_code
def yX11_man : MethodName := ⟨RX11, "man", "(I)I"⟩
abbrev cX11_score : ByteArray := prog_1_method_10_code
def yX11_score : MethodName := ⟨RX11, "score", "()I"⟩
abbrev cX11_fault : ByteArray := prog_1_method_11_code
def yX11_fault : MethodName := ⟨RX11, "fault", "()I"⟩
abbrev cX11_event : ByteArray := prog_1_method_12_code
def yX11_event : MethodName := ⟨RX11, "event", "(II)I"⟩
abbrev cX11_night : ByteArray := prog_1_method_13_code
def yX11_night : MethodName := ⟨RX11, "night", "()I"⟩
abbrev cX11_sound : ByteArray := prog_1_method_14_code
def yX11_sound : MethodName := ⟨RX11, "sound", "(II)I"⟩
abbrev cX11_told : ByteArray := prog_1_method_15_code
def yX11_told : MethodName := ⟨RX11, "told", "(I)I"⟩
abbrev cX11_made : ByteArray := prog_1_method_16_code
def yX11_made : MethodName := ⟨RX11, "made", "()I"⟩
abbrev cX11_who : ByteArray := prog_1_method_17_code
def yX11_who : MethodName := ⟨RX11, "who", "(I)I"⟩
abbrev cX11_balls : ByteArray := prog_1_method_18_code
def yX11_balls : MethodName := ⟨RX11, "balls", "(II)I"⟩
abbrev cX11_fillings : ByteArray := prog_1_method_19_code
def yX11_fillings : MethodName := ⟨RX11, "fillings", "(I)I"⟩
abbrev cX11_lay : ByteArray := prog_1_method_20_code
def yX11_lay : MethodName := ⟨RX11, "lay", "(I)I"⟩
abbrev cX11_laid : ByteArray := prog_1_method_21_code
def yX11_laid : MethodName := ⟨RX11, "laid", "(I)I"⟩
abbrev cX11_worn : ByteArray := prog_1_method_22_code
def yX11_worn : MethodName := ⟨RX11, "worn", "(I)I"⟩
abbrev cX11_count : ByteArray := prog_1_method_23_code
def yX11_count : MethodName := ⟨RX11, "count", "(I)I"⟩
abbrev cX11_within : ByteArray := prog_1_method_24_code
def yX11_within : MethodName := ⟨RX11, "within", "(III)Z"⟩
abbrev cX11_pathOf : ByteArray := prog_1_method_25_code
def yX11_pathOf : MethodName := ⟨RX11, "pathOf", "(I)LStormLoft$Path;"⟩
abbrev cX11_runsThatAre : ByteArray := prog_1_method_26_code
def yX11_runsThatAre : MethodName := ⟨RX11, "runsThatAre", "()I"⟩
abbrev cX11_canStand : ByteArray := prog_1_method_27_code
def yX11_canStand : MethodName := ⟨RX11, "canStand", "(III)Z"⟩
def RX12 : String := "StormLoftModel"
def TX12 : u_T := fun k => match k with
  | 0 => ("StormLoftModel", "thrown", "I", false)
  | 1 => ("StormLoftModel", "tape", "[I", true)
  | 2 => ("StormLoftModel", "taped", "I", false)
  | 3 => ("StormLoftModel", "length", "[I", true)
  | 4 => ("StormLoftModel", "slope", "[I", true)
  | 5 => ("StormLoftModel", "rough", "[I", true)
  | 6 => ("StormLoftModel", "drop", "[I", true)
  | 7 => ("StormLoftModel", "turn", "[I", true)
  | 8 => ("StormLoftModel", "placesOf", "[I", true)
  | 9 => ("StormLoftModel", "boardAt", "[I", true)
  | 10 => ("StormLoftModel", "onward", "[I", true)
  | 11 => ("StormLoftModel", "aside", "[I", true)
  | 12 => ("StormLoftModel", "less", "[I", true)
  | 13 => ("StormLoftModel", "boards", "I", false)
  | 14 => ("StormLoftModel", "place", "I", false)
  | 15 => ("StormLoftModel", "part", "I", false)
  | 16 => ("StormLoftModel", "speed", "I", false)
  | 17 => ("StormLoftModel", "strength", "I", false)
  | 18 => ("StormLoftModel", "jumped", "I", false)
  | 19 => ("StormLoftModel", "knockTick", "[I", true)
  | 20 => ("StormLoftModel", "knockPlace", "[I", true)
  | 21 => ("StormLoftModel", "knockStrength", "[I", true)
  | 22 => ("StormLoftModel", "toldTick", "[I", true)
  | 23 => ("StormLoftModel", "toldPlace", "[I", true)
  | 24 => ("StormLoftModel", "toldStrength", "[I", true)
  | 25 => ("StormLoftModel", "knocks", "I", false)
  | 26 => ("StormLoftModel", "ends", "I", false)
  | 27 => ("StormLoftModel", "fastest", "I", false)
  | 28 => ("StormLoftModel", "toldKnocks", "I", false)
  | 29 => ("StormLoftModel", "kindOf", "[I", true)
  | 30 => ("StormLoftModel", "stands", "[I", true)
  | 31 => ("StormLoftModel", "first", "[I", true)
  | 32 => ("StormLoftModel", "second", "[I", true)
  | 33 => ("StormLoftModel", "home", "[I", true)
  | 34 => ("StormLoftModel", "machines", "I", false)
  | 35 => ("StormLoftModel", "men", "I", false)
  | 36 => ("StormLoftModel", "size", "I", false)
  | 37 => ("StormLoftModel", "to", "I", false)
  | 38 => ("StormLoftModel", "from", "I", false)
  | 39 => ("StormLoftModel", "kind", "I", false)
  | 40 => ("StormLoftModel", "number", "I", false)
  | 41 => ("StormLoftModel", "fault", "I", false)
  | 42 => ("StormLoftModel", "faultAt", "I", false)
  | 43 => ("StormLoftModel", "word", "J", false)
  | 44 => ("StormLoftModel", "many", "[I", true)
  | 45 => ("StormLoftModel", "listTick", "[I", true)
  | 46 => ("StormLoftModel", "listMachine", "[I", true)
  | 47 => ("StormLoftModel", "listNumber", "[I", true)
  | 48 => ("StormLoftModel", "tooMuch", "[Z", true)
  | 49 => ("StormLoftModel", "stormName", "[J", true)
  | 50 => ("StormLoftModel", "times", "[I", true)
  | 51 => ("StormLoftModel", "every", "[I", true)
  | 52 => ("StormLoftModel", "open", "I", false)
  | 53 => ("StormLoftModel", "storms", "I", false)
  | 54 => ("StormLoftModel", "deep", "I", false)
  | 55 => ("StormLoftModel", "inStorm", "Z", false)
  | 56 => ("StormLoftModel", "tickOf", "[I", true)
  | 57 => ("StormLoftModel", "machineOf", "[I", true)
  | 58 => ("StormLoftModel", "numberOf", "[I", true)
  | 59 => ("StormLoftModel", "doneBy", "[I", true)
  | 60 => ("StormLoftModel", "events", "I", false)
  | 61 => ("StormLoftModel", "isMade", "Z", false)
  | 62 => ("StormLoftModel", "soundTick", "[I", true)
  | 63 => ("StormLoftModel", "soundFrom", "[I", true)
  | 64 => ("StormLoftModel", "soundStrength", "[I", true)
  | 65 => ("StormLoftModel", "ballRun", "[I", true)
  | 66 => ("StormLoftModel", "ballPlace", "[I", true)
  | 67 => ("StormLoftModel", "ballPart", "[I", true)
  | 68 => ("StormLoftModel", "ballSpeed", "[I", true)
  | 69 => ("StormLoftModel", "wasPlace", "[I", true)
  | 70 => ("StormLoftModel", "wasPart", "[I", true)
  | 71 => ("StormLoftModel", "gatesOf", "[I", true)
  | 72 => ("StormLoftModel", "kept", "I", false)
  | 73 => ("StormLoftModel", "balls", "I", false)
  | 74 => ("StormLoftModel", "ended", "I", false)
  | 75 => ("StormLoftModel", "bumps", "I", false)
  | 76 => ("StormLoftModel", "sounds", "I", false)
  | 77 => ("StormLoftModel", "together", "I", false)
  | 78 => ("StormLoftModel", "worths", "[I", true)
  | 79 => ("StormLoftModel", "offset", "[I", true)
  | 80 => ("StormLoftModel", "set", "[I", true)
  | 81 => ("StormLoftModel", "lastOf", "[I", true)
  | 82 => ("StormLoftModel", "binomial", "[I", true)
  | 83 => ("StormLoftModel", "full", "[I", true)
  | 84 => ("StormLoftModel", "turned", "[I", true)
  | 85 => ("StormLoftModel", "wished", "[I", true)
  | 86 => ("StormLoftModel", "laid", "[I", true)
  | 87 => ("StormLoftModel", "wishes", "I", false)
  | _ => ("StormLoftModel", "laidMany", "I", false)
def tyX12 : Nat → FieldType := fun k => match k with
  | 0 => .int
  | 1 => .array .int
  | 2 => .int
  | 3 => .array .int
  | 4 => .array .int
  | 5 => .array .int
  | 6 => .array .int
  | 7 => .array .int
  | 8 => .array .int
  | 9 => .array .int
  | 10 => .array .int
  | 11 => .array .int
  | 12 => .array .int
  | 13 => .int
  | 14 => .int
  | 15 => .int
  | 16 => .int
  | 17 => .int
  | 18 => .int
  | 19 => .array .int
  | 20 => .array .int
  | 21 => .array .int
  | 22 => .array .int
  | 23 => .array .int
  | 24 => .array .int
  | 25 => .int
  | 26 => .int
  | 27 => .int
  | 28 => .int
  | 29 => .array .int
  | 30 => .array .int
  | 31 => .array .int
  | 32 => .array .int
  | 33 => .array .int
  | 34 => .int
  | 35 => .int
  | 36 => .int
  | 37 => .int
  | 38 => .int
  | 39 => .int
  | 40 => .int
  | 41 => .int
  | 42 => .int
  | 43 => .long
  | 44 => .array .int
  | 45 => .array .int
  | 46 => .array .int
  | 47 => .array .int
  | 48 => .array .boolean
  | 49 => .array .long
  | 50 => .array .int
  | 51 => .array .int
  | 52 => .int
  | 53 => .int
  | 54 => .int
  | 55 => .boolean
  | 56 => .array .int
  | 57 => .array .int
  | 58 => .array .int
  | 59 => .array .int
  | 60 => .int
  | 61 => .boolean
  | 62 => .array .int
  | 63 => .array .int
  | 64 => .array .int
  | 65 => .array .int
  | 66 => .array .int
  | 67 => .array .int
  | 68 => .array .int
  | 69 => .array .int
  | 70 => .array .int
  | 71 => .array .int
  | 72 => .int
  | 73 => .int
  | 74 => .int
  | 75 => .int
  | 76 => .int
  | 77 => .int
  | 78 => .array .int
  | 79 => .array .int
  | 80 => .array .int
  | 81 => .array .int
  | 82 => .array .int
  | 83 => .array .int
  | 84 => .array .int
  | 85 => .array .int
  | 86 => .array .int
  | 87 => .int
  | _ => .int
abbrev wsX120 : List Cond := u_ws RX12 TX12 89
theorem nmX12 : ∀ a, a < 89 → ∀ b, b < 89 → a ≠ b → (TX12 a).2.1 ≠ (TX12 b).2.1 := by decide +kernel
theorem tyX12_ok : ∀ k, k < 89 → parseFieldDescriptor (TX12 k).2.2.1 = some (tyX12 k) := by decide +kernel
abbrev cX12_init : ByteArray := prog_14_method_1_code
def yX12_init : MethodName := ⟨RX12, "<init>", "()V"⟩
abbrev cX12_thrown : ByteArray := prog_14_method_2_code
def yX12_thrown : MethodName := ⟨RX12, "thrown", "()I"⟩
abbrev cX12_refuse : ByteArray := prog_14_method_3_code
def yX12_refuse : MethodName := ⟨RX12, "refuse", "()I"⟩
abbrev cX12_come : ByteArray := prog_14_method_4_code
def yX12_come : MethodName := ⟨RX12, "come", "(I)V"⟩
abbrev cX12_feed : ByteArray := prog_14_method_5_code
def yX12_feed : MethodName := ⟨RX12, "feed", "(IIIII)I"⟩
abbrev cX12_end : ByteArray := prog_14_method_6_code
def yX12_end : MethodName := ⟨RX12, "end", "(I)Z"⟩
abbrev cX12_isIn : ByteArray := prog_14_method_7_code
def yX12_isIn : MethodName := ⟨RX12, "isIn", "(III)Z"⟩
abbrev cX12_board : ByteArray := prog_14_method_8_code
def yX12_board : MethodName := ⟨RX12, "board", "(IIIII)I"⟩
abbrev cX12_isSlot : ByteArray := prog_14_method_9_code
def yX12_isSlot : MethodName := ⟨RX12, "isSlot", "(I)Z"⟩
abbrev cX12_isRun : ByteArray := prog_14_method_10_code
def yX12_isRun : MethodName := ⟨RX12, "isRun", "(I)Z"⟩
abbrev cX12_run : ByteArray := prog_14_method_11_code
def yX12_run : MethodName := ⟨RX12, "run", "(I)I"⟩
abbrev cX12_lengthAt : ByteArray := prog_14_method_12_code
def yX12_lengthAt : MethodName := ⟨RX12, "lengthAt", "(II)I"⟩
abbrev cX12_nextOf : ByteArray := prog_14_method_13_code
def yX12_nextOf : MethodName := ⟨RX12, "nextOf", "(III)I"⟩
abbrev cX12_step : ByteArray := prog_14_method_14_code
def yX12_step : MethodName := ⟨RX12, "step", "(II)V"⟩
abbrev cX12_follow : ByteArray := prog_14_method_15_code
def yX12_follow : MethodName := ⟨RX12, "follow", "(II)V"⟩
abbrev cX12_fall : ByteArray := prog_14_method_16_code
def yX12_fall : MethodName := ⟨RX12, "fall", "(III)I"⟩
abbrev cX12_knock : ByteArray := prog_14_method_17_code
def yX12_knock : MethodName := ⟨RX12, "knock", "(II)I"⟩
abbrev cX12_machine : ByteArray := prog_14_method_18_code
def yX12_machine : MethodName := ⟨RX12, "machine", "(IIII)I"⟩
abbrev cX12_man : ByteArray := prog_14_method_19_code
def yX12_man : MethodName := ⟨RX12, "man", "(I)I"⟩
abbrev cX12_byteAt : ByteArray := prog_14_method_20_code
def yX12_byteAt : MethodName := ⟨RX12, "byteAt", "(I)I"⟩
abbrev cX12_isDigit : ByteArray := prog_14_method_21_code
def yX12_isDigit : MethodName := ⟨RX12, "isDigit", "(I)Z"⟩
abbrev cX12_isLetter : ByteArray := prog_14_method_22_code
def yX12_isLetter : MethodName := ⟨RX12, "isLetter", "(I)Z"⟩
abbrev cX12_go : ByteArray := prog_14_method_23_code
def yX12_go : MethodName := ⟨RX12, "go", "()V"⟩
abbrev cX12_spelt : ByteArray := prog_14_method_24_code
def yX12_spelt : MethodName := ⟨RX12, "spelt", "(IIIII)J"⟩
abbrev cX12_isKey : ByteArray := prog_14_method_25_code
def yX12_isKey : MethodName := ⟨RX12, "isKey", "(J)Z"⟩
abbrev cX12_isAt : ByteArray := prog_14_method_26_code
def yX12_isAt : MethodName := ⟨RX12, "isAt", "()Z"⟩
abbrev cX12_isUse : ByteArray := prog_14_method_27_code
def yX12_isUse : MethodName := ⟨RX12, "isUse", "()Z"⟩
abbrev cX12_isWith : ByteArray := prog_14_method_28_code
def yX12_isWith : MethodName := ⟨RX12, "isWith", "()Z"⟩
abbrev cX12_isEnd : ByteArray := prog_14_method_29_code
def yX12_isEnd : MethodName := ⟨RX12, "isEnd", "()Z"⟩
abbrev cX12_isStorm : ByteArray := prog_14_method_30_code
def yX12_isStorm : MethodName := ⟨RX12, "isStorm", "()Z"⟩
abbrev cX12_isTimes : ByteArray := prog_14_method_31_code
def yX12_isTimes : MethodName := ⟨RX12, "isTimes", "()Z"⟩
abbrev cX12_isEvery : ByteArray := prog_14_method_32_code
def yX12_isEvery : MethodName := ⟨RX12, "isEvery", "()Z"⟩
abbrev cX12_isPlay : ByteArray := prog_14_method_33_code
def yX12_isPlay : MethodName := ⟨RX12, "isPlay", "()Z"⟩
abbrev cX12_isName : ByteArray := prog_14_method_34_code
def yX12_isName : MethodName := ⟨RX12, "isName", "()Z"⟩
abbrev cX12_bad : ByteArray := prog_14_method_35_code
def yX12_bad : MethodName := ⟨RX12, "bad", "(I)Z"⟩
abbrev cX12_readNumber : ByteArray := prog_14_method_36_code
def yX12_readNumber : MethodName := ⟨RX12, "readNumber", "(II)Z"⟩
abbrev cX12_readEnd : ByteArray := prog_14_method_37_code
def yX12_readEnd : MethodName := ⟨RX12, "readEnd", "()Z"⟩
abbrev cX12_clear : ByteArray := prog_14_method_38_code
def yX12_clear : MethodName := ⟨RX12, "clear", "(I)V"⟩
abbrev cX12_put : ByteArray := prog_14_method_39_code
def yX12_put : MethodName := ⟨RX12, "put", "(IIII)V"⟩
abbrev cX12_pour : ByteArray := prog_14_method_40_code
def yX12_pour : MethodName := ⟨RX12, "pour", "(III)V"⟩
abbrev cX12_readUse : ByteArray := prog_14_method_41_code
def yX12_readUse : MethodName := ⟨RX12, "readUse", "(I)Z"⟩
abbrev cX12_stormOf : ByteArray := prog_14_method_42_code
def yX12_stormOf : MethodName := ⟨RX12, "stormOf", "(J)I"⟩
abbrev cX12_readPlay : ByteArray := prog_14_method_43_code
def yX12_readPlay : MethodName := ⟨RX12, "readPlay", "()Z"⟩
abbrev cX12_readTimes : ByteArray := prog_14_method_44_code
def yX12_readTimes : MethodName := ⟨RX12, "readTimes", "()Z"⟩
abbrev cX12_endTimes : ByteArray := prog_14_method_45_code
def yX12_endTimes : MethodName := ⟨RX12, "endTimes", "()V"⟩
abbrev cX12_readStorm : ByteArray := prog_14_method_46_code
def yX12_readStorm : MethodName := ⟨RX12, "readStorm", "()Z"⟩
abbrev cX12_readPiece : ByteArray := prog_14_method_47_code
def yX12_readPiece : MethodName := ⟨RX12, "readPiece", "()Z"⟩
abbrev cX12_score : ByteArray := prog_14_method_48_code
def yX12_score : MethodName := ⟨RX12, "score", "()I"⟩
abbrev cX12_fault : ByteArray := prog_14_method_49_code
def yX12_fault : MethodName := ⟨RX12, "fault", "()I"⟩
abbrev cX12_takes : ByteArray := prog_14_method_50_code
def yX12_takes : MethodName := ⟨RX12, "takes", "(I)I"⟩
abbrev cX12_worth : ByteArray := prog_14_method_51_code
def yX12_worth : MethodName := ⟨RX12, "worth", "(I)I"⟩
abbrev cX12_event : ByteArray := prog_14_method_52_code
def yX12_event : MethodName := ⟨RX12, "event", "(II)I"⟩
abbrev cX12_hear : ByteArray := prog_14_method_53_code
def yX12_hear : MethodName := ⟨RX12, "hear", "(III)V"⟩
abbrev cX12_rollAll : ByteArray := prog_14_method_54_code
def yX12_rollAll : MethodName := ⟨RX12, "rollAll", "(I)V"⟩
abbrev cX12_use : ByteArray := prog_14_method_55_code
def yX12_use : MethodName := ⟨RX12, "use", "(I)V"⟩
abbrev cX12_night : ByteArray := prog_14_method_56_code
def yX12_night : MethodName := ⟨RX12, "night", "()I"⟩
abbrev cX12_sound : ByteArray := prog_14_method_57_code
def yX12_sound : MethodName := ⟨RX12, "sound", "(II)I"⟩
abbrev cX12_told : ByteArray := prog_14_method_58_code
def yX12_told : MethodName := ⟨RX12, "told", "(I)I"⟩
abbrev cX12_choose : ByteArray := prog_14_method_59_code
def yX12_choose : MethodName := ⟨RX12, "choose", "(II)I"⟩
abbrev cX12_prepare : ByteArray := prog_14_method_60_code
def yX12_prepare : MethodName := ⟨RX12, "prepare", "()V"⟩
abbrev cX12_bitsOf : ByteArray := prog_14_method_61_code
def yX12_bitsOf : MethodName := ⟨RX12, "bitsOf", "(I)I"⟩
abbrev cX12_far : ByteArray := prog_14_method_62_code
def yX12_far : MethodName := ⟨RX12, "far", "(II)I"⟩
abbrev cX12_standOf : ByteArray := prog_14_method_63_code
def yX12_standOf : MethodName := ⟨RX12, "standOf", "(I)I"⟩
abbrev cX12_mayFollow : ByteArray := prog_14_method_64_code
def yX12_mayFollow : MethodName := ⟨RX12, "mayFollow", "(II)Z"⟩
abbrev cX12_mayBegin : ByteArray := prog_14_method_65_code
def yX12_mayBegin : MethodName := ⟨RX12, "mayBegin", "(II)Z"⟩
abbrev cX12_cellOf : ByteArray := prog_14_method_66_code
def yX12_cellOf : MethodName := ⟨RX12, "cellOf", "(IIIII)I"⟩
abbrev cX12_workOut : ByteArray := prog_14_method_67_code
def yX12_workOut : MethodName := ⟨RX12, "workOut", "(III)V"⟩
abbrev cX12_goesOn : ByteArray := prog_14_method_68_code
def yX12_goesOn : MethodName := ⟨RX12, "goesOn", "(II)Z"⟩
abbrev cX12_fillTable : ByteArray := prog_14_method_69_code
def yX12_fillTable : MethodName := ⟨RX12, "fillTable", "()V"⟩
abbrev cX12_cellByMen : ByteArray := prog_14_method_70_code
def yX12_cellByMen : MethodName := ⟨RX12, "cellByMen", "(I)I"⟩
abbrev cX12_made : ByteArray := prog_14_method_71_code
def yX12_made : MethodName := ⟨RX12, "made", "()I"⟩
abbrev cX12_who : ByteArray := prog_14_method_72_code
def yX12_who : MethodName := ⟨RX12, "who", "(I)I"⟩
abbrev cX12_balls : ByteArray := prog_14_method_73_code
def yX12_balls : MethodName := ⟨RX12, "balls", "(II)I"⟩
abbrev cX12_isLetGo : ByteArray := prog_14_method_74_code
def yX12_isLetGo : MethodName := ⟨RX12, "isLetGo", "(II)Z"⟩
abbrev cX12_fillings : ByteArray := prog_14_method_75_code
def yX12_fillings : MethodName := ⟨RX12, "fillings", "(I)I"⟩
abbrev cX12_takeTicks : ByteArray := prog_14_method_76_code
def yX12_takeTicks : MethodName := ⟨RX12, "takeTicks", "()Z"⟩
abbrev cX12_err : ByteArray := prog_14_method_77_code
def yX12_err : MethodName := ⟨RX12, "err", "()I"⟩
abbrev cX12_lay : ByteArray := prog_14_method_78_code
def yX12_lay : MethodName := ⟨RX12, "lay", "(I)I"⟩
abbrev cX12_laid : ByteArray := prog_14_method_79_code
def yX12_laid : MethodName := ⟨RX12, "laid", "(I)I"⟩
abbrev cX12_explains : ByteArray := prog_14_method_80_code
def yX12_explains : MethodName := ⟨RX12, "explains", "()Z"⟩
abbrev cX12_worn : ByteArray := prog_14_method_81_code
def yX12_worn : MethodName := ⟨RX12, "worn", "(I)I"⟩
abbrev cX12_count : ByteArray := prog_14_method_82_code
def yX12_count : MethodName := ⟨RX12, "count", "(I)I"⟩
def RL : String := "StormLoftLaw"
abbrev cL_knock : ByteArray := method_3_code
def yL_knock : MethodName := ⟨RL, "knock", "(LStormLoft;II[J)I"⟩
abbrev cL_event : ByteArray := method_4_code
def yL_event : MethodName := ⟨RL, "event", "(LStormLoft;II[J)I"⟩
abbrev cL_sound : ByteArray := method_5_code
def yL_sound : MethodName := ⟨RL, "sound", "(LStormLoft;II[J)I"⟩
abbrev cL_law : ByteArray := code
def yL_law : MethodName := ⟨RL, "law", "([I)Z"⟩
abbrev vwCl : List vw_C := [(RX0, TX0, 6), (RX1, TX1, 5), (RX2, TX2, 14), (RX3, TX3, 16), (RX4, TX4, 8), (RX5, TX5, 5), (RX6, TX6, 13), (RX7, TX7, 4), (RX8, TX8, 5), (RX9, TX9, 12), (RX10, TX10, 9), (RX11, TX11, 12), (RX12, TX12, 89)]
end
section
/-! tables of the cells (printed by wip/whole/gen02.py) -/
abbrev am_CK : Type := Nat × Nat × Nat × Nat × Nat
abbrev am_SL : Type := Nat × Nat × Nat × Nat
def am_NC : Nat := 117
def am_cStr : Nat := 117
def am_cScr : Nat := 118
def am_nth {α : Type} (d : α) : List α → Nat → α
  | [], _ => d
  | x :: _, 0 => x
  | _ :: xs, n + 1 => am_nth d xs n
def am_lk {α : Type} (d : α) (rows : List (List α)) (i : Nat) : α := am_nth d (am_nth [] rows (i / 16)) (i % 16)
def am_ckT : List (List am_CK) := [[(0, 0, 6, 0, 0), (0, 1, 5, 0, 0), (0, 2, 14, 0, 0), (0, 3, 16, 0, 0), (0, 4, 8, 0, 0), (0, 5, 5, 0, 0), (0, 6, 13, 0, 0), (0, 7, 4, 0, 0), (0, 8, 5, 0, 0), (0, 9, 12, 0, 0), (0, 10, 9, 0, 0), (0, 11, 12, 0, 0), (0, 12, 89, 0, 0), (1, 13, 82, 0, 0), (1, 13, 83, 0, 0), (1, 13, 84, 0, 0)],
  [(1, 13, 85, 0, 0), (1, 13, 86, 0, 0), (1, 13, 87, 0, 0), (1, 13, 88, 0, 0), (1, 4, 89, 0, 0), (1, 4, 90, 0, 0), (1, 24, 91, 0, 0), (4, 28, 115, 0, 7), (1, 28, 92, 0, 0), (1, 28, 93, 0, 0), (1, 28, 94, 0, 0), (1, 28, 95, 0, 0), (1, 28, 96, 0, 0), (1, 28, 97, 0, 0), (1, 28, 98, 0, 0), (1, 28, 99, 0, 0)],
  [(1, 28, 100, 0, 0), (1, 4, 101, 0, 0), (1, 12, 102, 0, 0), (1, 12, 103, 0, 0), (1, 12, 104, 0, 0), (1, 12, 105, 0, 0), (1, 12, 106, 0, 0), (1, 12, 107, 0, 0), (1, 12, 108, 0, 0), (1, 300, 109, 0, 0), (1, 300, 110, 0, 0), (1, 300, 111, 0, 0), (4, 24, 0, 2, 6), (1, 4, 112, 0, 0), (5, 12, 1, 1, 3), (1, 12, 113, 0, 0)],
  [(1, 12, 114, 0, 0), (1, 24, 115, 0, 0), (1, 24, 116, 0, 0), (1, 24, 117, 0, 0), (4, 8, 8, 1, 5), (1, 8, 118, 0, 0), (1, 8, 119, 0, 0), (1, 4, 120, 0, 0), (1, 4, 121, 0, 0), (1, 4, 122, 0, 0), (1, 640, 123, 0, 0), (1, 10, 124, 0, 0), (5, 16, 2, 1, 3), (4, 4, 7, 0, 4), (1, 640, 125, 0, 0), (1, 16, 126, 0, 0)],
  [(1, 16, 127, 0, 0), (1, 16, 128, 0, 0), (1, 16, 129, 0, 0), (1, 16, 130, 0, 0), (1, 5, 131, 0, 0), (1, 60, 132, 0, 0), (1, 60, 133, 0, 0), (1, 60, 134, 0, 0), (1, 60, 135, 0, 0), (1, 12, 136, 0, 0), (1, 12, 137, 0, 0), (1, 12, 138, 0, 0), (1, 12, 139, 0, 0), (1, 12, 140, 0, 0), (1, 12, 141, 0, 0), (1, 12, 142, 0, 0)],
  [(1, 12, 143, 0, 0), (1, 12, 144, 0, 0), (1, 12, 145, 0, 0), (1, 4, 146, 0, 0), (1, 14, 147, 0, 0), (1, 336, 148, 0, 0), (1, 336, 149, 0, 0), (1, 336, 150, 0, 0), (2, 14, 151, 0, 1), (3, 8, 1, 0, 2), (1, 6, 152, 0, 0), (1, 6, 153, 0, 0), (1, 24, 154, 0, 0), (1, 24, 155, 0, 0), (1, 24, 156, 0, 0), (1, 24, 157, 0, 0)],
  [(1, 300, 158, 0, 0), (1, 300, 159, 0, 0), (1, 300, 160, 0, 0), (1, 24, 161, 0, 0), (1, 24, 162, 0, 0), (1, 24, 163, 0, 0), (1, 24, 164, 0, 0), (1, 24, 165, 0, 0), (1, 24, 166, 0, 0), (1, 4, 167, 0, 0), (1, 511875, 168, 0, 0), (1, 16, 169, 0, 0), (1, 5, 170, 0, 0), (1, 4, 171, 0, 0), (1, 150, 172, 0, 0), (1, 25, 173, 0, 0)],
  [(1, 24, 174, 0, 0), (1, 10, 175, 0, 0), (1, 4, 176, 0, 0), (1, 28, 177, 0, 0), (3, 1, 2, 0, 2)]]
def am_ck (c : Nat) : am_CK := am_lk (9, 0, 0, 0, 0) am_ckT c
def am_sl0 : List (List am_SL) := [[(0, 0, 0, 0), (0, 1, 0, 0), (0, 2, 0, 0), (0, 3, 0, 0), (0, 4, 0, 0), (0, 5, 0, 0)]]
def am_sl1 : List (List am_SL) := [[(0, 6, 0, 0), (0, 7, 0, 0), (0, 8, 0, 0), (0, 9, 0, 0), (0, 10, 0, 0)]]
def am_sl2 : List (List am_SL) := [[(3, 13, 0, 1), (3, 14, 0, 1), (3, 15, 0, 1), (3, 16, 0, 1), (3, 17, 0, 1), (3, 18, 0, 1), (3, 19, 0, 1), (3, 0, 26, 0), (3, 20, 0, 1), (0, 11, 0, 0), (0, 12, 0, 0), (0, 13, 0, 0), (0, 14, 0, 0), (0, 15, 0, 0)]]
def am_sl3 : List (List am_SL) := [[(3, 21, 0, 1), (0, 16, 0, 0), (3, 22, 0, 1), (3, 23, 0, 1), (3, 24, 0, 1), (3, 25, 0, 1), (3, 26, 0, 1), (3, 27, 0, 1), (3, 28, 0, 1), (3, 29, 0, 1), (3, 30, 0, 1), (3, 31, 0, 1), (3, 32, 0, 1), (3, 33, 0, 1), (0, 17, 0, 0), (0, 18, 0, 0)]]
def am_sl4 : List (List am_SL) := [[(3, 34, 0, 1), (3, 35, 0, 1), (3, 36, 0, 1), (3, 0, 0, 1), (0, 19, 0, 0), (0, 20, 0, 0), (0, 21, 0, 0), (0, 22, 0, 0)]]
def am_sl5 : List (List am_SL) := [[(3, 37, 0, 1), (3, 38, 0, 1), (3, 39, 0, 1), (3, 40, 0, 1), (0, 23, 0, 0)]]
def am_sl6 : List (List am_SL) := [[(3, 41, 0, 1), (3, 42, 0, 1), (3, 43, 0, 1), (0, 24, 0, 0), (0, 25, 0, 0), (0, 26, 0, 0), (3, 44, 0, 1), (0, 27, 0, 0), (0, 28, 0, 0), (0, 29, 0, 0), (3, 45, 0, 1), (0, 30, 0, 0), (1, 31, 0, 0)]]
def am_sl7 : List (List am_SL) := [[(3, 46, 0, 1), (3, 47, 0, 1), (3, 48, 0, 1), (0, 32, 0, 0)]]
def am_sl8 : List (List am_SL) := [[(3, 49, 0, 1), (3, 50, 0, 1), (3, 51, 0, 1), (0, 33, 0, 0), (1, 34, 0, 0)]]
def am_sl9 : List (List am_SL) := [[(3, 8, 0, 0), (3, 52, 0, 1), (3, 53, 0, 1), (3, 54, 0, 1), (0, 35, 0, 0), (4, 0, 8, 0), (3, 55, 0, 1), (3, 56, 0, 1), (3, 57, 0, 1), (0, 36, 0, 0), (0, 37, 0, 0), (0, 38, 0, 0)]]
def am_sl10 : List (List am_SL) := [[(3, 58, 0, 1), (0, 39, 0, 0), (3, 59, 0, 1), (0, 40, 0, 0), (0, 41, 0, 0), (0, 42, 0, 0), (0, 43, 0, 0), (0, 44, 0, 0), (0, 45, 0, 0)]]
def am_sl11 : List (List am_SL) := [[(3, 10, 0, 0), (3, 60, 0, 1), (3, 61, 0, 1), (3, 5, 0, 0), (3, 3, 0, 0), (3, 9, 0, 0), (3, 8, 9, 0), (3, 4, 0, 0), (3, 4, 1, 0), (3, 6, 0, 0), (3, 2, 0, 0), (0, 46, 0, 0)]]
def am_sl12 : List (List am_SL) := [[(0, 47, 0, 0), (3, 62, 0, 1), (0, 48, 0, 0), (3, 63, 0, 1), (3, 64, 0, 1), (3, 65, 0, 1), (3, 66, 0, 1), (3, 67, 0, 1), (3, 68, 0, 1), (3, 69, 0, 1), (3, 70, 0, 1), (3, 71, 0, 1), (3, 72, 0, 1), (0, 49, 0, 0), (0, 50, 0, 0), (0, 51, 0, 0)],
  [(0, 52, 0, 0), (0, 53, 0, 0), (0, 54, 0, 0), (3, 73, 0, 1), (3, 74, 0, 1), (3, 75, 0, 1), (3, 76, 0, 1), (3, 77, 0, 1), (3, 78, 0, 1), (0, 55, 0, 0), (0, 56, 0, 0), (0, 57, 0, 0), (0, 58, 0, 0), (3, 79, 0, 1), (3, 80, 0, 1), (3, 81, 0, 1)],
  [(3, 82, 0, 1), (3, 83, 0, 1), (0, 59, 0, 0), (0, 60, 0, 0), (0, 61, 0, 0), (0, 62, 0, 0), (0, 63, 0, 0), (0, 64, 0, 0), (0, 65, 0, 0), (0, 66, 0, 0), (0, 67, 0, 0), (2, 0, 0, 0), (3, 84, 0, 1), (3, 85, 0, 1), (3, 86, 0, 1), (3, 87, 0, 1)],
  [(3, 88, 0, 1), (3, 89, 0, 1), (3, 90, 0, 1), (3, 91, 0, 1), (0, 68, 0, 0), (0, 69, 0, 0), (0, 70, 0, 0), (1, 71, 0, 0), (3, 92, 0, 1), (3, 93, 0, 1), (3, 94, 0, 1), (3, 95, 0, 1), (0, 72, 0, 0), (1, 73, 0, 0), (3, 96, 0, 1), (3, 97, 0, 1)],
  [(3, 98, 0, 1), (3, 99, 0, 1), (3, 100, 0, 1), (3, 101, 0, 1), (3, 102, 0, 1), (3, 103, 0, 1), (3, 104, 0, 1), (3, 105, 0, 1), (0, 74, 0, 0), (0, 75, 0, 0), (0, 76, 0, 0), (0, 77, 0, 0), (0, 78, 0, 0), (0, 79, 0, 0), (3, 106, 0, 1), (3, 107, 0, 1)],
  [(3, 108, 0, 1), (3, 109, 0, 1), (3, 110, 0, 1), (3, 111, 0, 1), (3, 112, 0, 1), (3, 113, 0, 1), (3, 114, 0, 1), (0, 80, 0, 0), (0, 81, 0, 0)]]
def am_slT : List (List (List am_SL)) := [am_sl0, am_sl1, am_sl2, am_sl3, am_sl4, am_sl5, am_sl6, am_sl7, am_sl8, am_sl9, am_sl10, am_sl11, am_sl12]
def am_slot (c k : Nat) : am_SL := am_lk (9, 0, 0, 0) (am_nth [] am_slT c) k
def am_oIT : List (List (Nat × Nat)) := [[(0, 0), (0, 1), (0, 2), (0, 3), (0, 4), (0, 5), (1, 0), (1, 1), (1, 2), (1, 3), (1, 4), (2, 9), (2, 10), (2, 11), (2, 12), (2, 13)],
  [(3, 1), (3, 14), (3, 15), (4, 4), (4, 5), (4, 6), (4, 7), (5, 4), (6, 3), (6, 4), (6, 5), (6, 7), (6, 8), (6, 9), (6, 11), (6, 12)],
  [(7, 3), (8, 3), (8, 4), (9, 4), (9, 9), (9, 10), (9, 11), (10, 1), (10, 3), (10, 4), (10, 5), (10, 6), (10, 7), (10, 8), (11, 11), (12, 0)],
  [(12, 2), (12, 13), (12, 14), (12, 15), (12, 16), (12, 17), (12, 18), (12, 25), (12, 26), (12, 27), (12, 28), (12, 34), (12, 35), (12, 36), (12, 37), (12, 38)],
  [(12, 39), (12, 40), (12, 41), (12, 42), (12, 52), (12, 53), (12, 54), (12, 55), (12, 60), (12, 61), (12, 72), (12, 73), (12, 74), (12, 75), (12, 76), (12, 77)],
  [(12, 87), (12, 88), (13, 0), (14, 0), (15, 0), (16, 0), (17, 0), (18, 0), (19, 0), (20, 0), (21, 0), (22, 0), (24, 0), (25, 0), (26, 0), (27, 0)],
  [(28, 0), (29, 0), (30, 0), (31, 0), (32, 0), (33, 0), (34, 0), (35, 0), (36, 0), (37, 0), (38, 0), (39, 0), (40, 0), (41, 0), (42, 0), (43, 0)],
  [(45, 0), (47, 0), (48, 0), (49, 0), (50, 0), (51, 0), (53, 0), (54, 0), (55, 0), (56, 0), (57, 0), (58, 0), (59, 0), (62, 0), (63, 0), (64, 0)],
  [(65, 0), (66, 0), (67, 0), (68, 0), (69, 0), (70, 0), (71, 0), (72, 0), (73, 0), (74, 0), (75, 0), (76, 0), (77, 0), (78, 0), (79, 0), (80, 0)],
  [(81, 0), (82, 0), (83, 0), (84, 0), (85, 0), (86, 0), (87, 0), (88, 0), (90, 0), (91, 0), (92, 0), (93, 0), (94, 0), (95, 0), (96, 0), (97, 0)],
  [(98, 0), (99, 0), (100, 0), (101, 0), (102, 0), (103, 0), (104, 0), (105, 0), (106, 0), (107, 0), (108, 0), (109, 0), (110, 0), (111, 0), (112, 0), (113, 0)],
  [(114, 0), (115, 0)]]
def am_oI (v : Nat) : Nat × Nat := am_lk (999, 0) am_oIT v
def am_oL (v : Nat) : Nat × Nat := am_nth (999, 0) [(12, 43), (89, 0), (116, 0)] v
def am_oR (v : Nat) : Nat × Nat := am_nth (999, 0) [(9, 5), (46, 0), (60, 0)] v
/-- the tables fit together -/
def am_chkT (c : Nat) : Bool := match am_ck c with
  | (0, x, n, _) => x == c && (Nat.blt c 13 && ((match vwCl[c]? with
    | some r => r.2.2 == n
    | none => false) && (List.range n).all (fun k => match am_slot c k with
    | (0, v, _) => am_oI v == (c, k)
    | (1, v, _) => am_oI v == (c, k)
    | (2, v, _) => am_oL v == (c, k)
    | (3, t, _, _) => Nat.blt t am_NC
    | (4, v, t, _) => am_oR v == (c, k) && Nat.blt t am_NC
    | _ => false)))
  | (1, _, v, _, t) => am_oI v == (c, 0) && t == 0
  | (2, _, v, _, t) => am_oI v == (c, 0) && t == 1
  | (3, _, v, _, t) => am_oL v == (c, 0) && t == 2
  | (4, _, t, _, y) => Nat.blt t am_NC && (y == 4 && t == 7 || (y == 5 && t == 8 || (y == 6 && t == 0 || y == 7)))
  | (5, _, v, t, y) => am_oR v == (c, 0) && (t == 1 && y == 3)
  | _ => false
theorem am_chkT_ok : ∀ c, c < am_NC → am_chkT c = true := by
  have h : (List.range am_NC).all am_chkT = true := by decide +kernel
  exact fun c hc => List.all_eq_true.mp h c (List.mem_range.mpr hc)
end
section
/-! The abstract machine (AM): values without addresses, state by named variables, a judgement am_J over the kit's W, contracts am_Sp over Met, and a program am_adv that walks a method's code and leaves what is to be shown. -/
abbrev AV : Type := Int32 ⊕ (Int64 ⊕ Option (Nat × Nat))
abbrev II : Type := Nat → Nat → Nat → Int32
abbrev LJ : Type := Nat → Nat → Nat → Int64
abbrev RR : Type := Nat → Nat → Nat → Option Nat
abbrev GG : Type := (Nat → Nat → Nat → Bool) × (Nat → Nat)
abbrev QQ : Type := Option AV → II → LJ → RR → GG → Prop
abbrev LL : Type := List (Option AV)
abbrev vI (x : Int32) : AV := Sum.inl x
abbrev vL (x : Int64) : AV := Sum.inr (Sum.inl x)
abbrev vR (c i : Nat) : AV := Sum.inr (Sum.inr (some (c, i)))
abbrev vN : AV := Sum.inr (Sum.inr none)
def zI (z : Int) : Int32 := Int32.ofInt z
def zL (z : Int) : Int64 := Int64.ofInt z
def up3 {α : Type} (f : Nat → Nat → Nat → α) (v i j : Nat) (x : α) : Nat → Nat → Nat → α := fun v' i' j' => if v' = v ∧ i' = i ∧ j' = j then x else f v' i' j'
def up1 {α : Type} (f : Nat → α) (v : Nat) (x : α) : Nat → α := fun v' => if v' = v then x else f v'
/-- the global context: launch, class numbers, array class numbers, addresses of old things (texts), the script, the heap at the start, what else the tables say -/
abbrev AMG : Type := Launch × va_G × (Nat → ClassId) × (Nat → Nat) × (Nat × Nat × (Nat → Int32)) × Heap × (State → Prop)
abbrev AMG.l (Γ : AMG) : Launch := Γ.1
abbrev AMG.D (Γ : AMG) : va_G := Γ.2.1
abbrev AMG.cy (Γ : AMG) : Nat → ClassId := Γ.2.2.1
abbrev AMG.SA (Γ : AMG) : Nat → Nat := Γ.2.2.2.1
abbrev AMG.scr (Γ : AMG) : Nat × Nat × (Nat → Int32) := Γ.2.2.2.2.1
abbrev AMG.HH (Γ : AMG) : Heap := Γ.2.2.2.2.2.1
abbrev AMG.KX (Γ : AMG) : State → Prop := Γ.2.2.2.2.2.2
def am_sidx (base mul i : Nat) : Nat := match mul with
  | 0 => base
  | _ => i
def am_aidx (base j : Nat) : Nat := match base with
  | 0 => j
  | _ => base + j
/-- the reference that stands at place k of the cell (c, i) -/
def am_ref (R : RR) (G : GG) (c i k : Nat) : Option (Nat × Nat) := match am_ck c with
  | (0, _) => (match am_slot c k with
    | (3, t, b, m) => cond (G.1 c i k) (some (t, am_sidx b m i)) none
    | (4, v, t, _) => (R v i 0).map (fun b => (t, b))
    | _ => none)
  | (4, N, t, b, _) => cond (Nat.blt k N && G.1 c i k) (some (t, am_aidx b k)) none
  | (5, _, v, t, _) => (R v i k).map (fun b => (t, b))
  | _ => none
def am_val (ρ : Nat → Nat → Nat) (I : II) (Lg : LJ) (R : RR) (G : GG) (c i k : Nat) : Value := match am_slot c k with
  | (0, v, _) => .int (I v i 0)
  | (1, v, _) => .int (I v i 0)
  | (2, v, _) => .long (Lg v i 0)
  | _ => va_rf ((am_ref R G c i k).map (fun p => ρ p.1 p.2))
def am_E (Γ : AMG) (ρ : Nat → Nat → Nat) (I : II) (Lg : LJ) (R : RR) (G : GG) (c i : Nat) : va_E := match am_ck c with
  | (0, x, n, _) => .inr (x, (List.range n).map (am_val ρ I Lg R G c i))
  | (1, n, v, _, t) => .inl (Γ.cy t, n, .inl (I v i))
  | (2, n, v, _, t) => .inl (Γ.cy t, n, .inl (I v i))
  | (3, n, v, _, t) => .inl (Γ.cy t, n, .inr (.inl (Lg v i)))
  | (_, n, _, _, t) => .inl (Γ.cy t, n, .inr (.inr (.inr (.inr (fun k => (am_ref R G c i k).map (fun p => ρ p.1 p.2))))))
def am_con (ρ : Nat → Nat → Nat) : AV → Value
  | .inl x => .int x
  | .inr (.inl x) => .long x
  | .inr (.inr none) => .null
  | .inr (.inr (some (c, i))) => .ref (ρ c i)
/-- a reference is to a cell that is there, or to an old one -/
def am_okR (G : GG) (c i : Nat) : Prop := (c < am_NC ∧ i < G.2 c) ∨ am_NC ≤ c
def am_ok (G : GG) : AV → Prop
  | .inr (.inr (some (c, i))) => am_okR G c i
  | _ => True
def am_okL (nL : Nat) (G : GG) (L : LL) : Prop := L.length = nL ∧ ∀ v, some v ∈ L → am_ok G v
def am_okS (G : GG) (st : List AV) : Prop := ∀ v ∈ st, am_ok G v
/-- nothing stands yet in the cell (c, i) -/
def am_zero (c i : Nat) (I : II) (Lg : LJ) (R : RR) (G : GG) : Prop := (∀ v j, (am_oI v).1 = c → I v i j = 0) ∧ (∀ v j, (am_oL v).1 = c → Lg v i j = 0) ∧ (∀ v j, (am_oR v).1 = c → R v i j = none) ∧ ∀ k, G.1 c i k = false
/-- the world: the heap holds the cells that the state tells of -/
def am_Wd (Γ : AMG) (ρ : Nat → Nat → Nat) (I : II) (Lg : LJ) (R : RR) (G : GG) (H : Heap) : Prop :=
  (∀ c i : Nat, c < am_NC → i < G.2 c → va_at Γ.D vwCl (ρ c i, am_E Γ ρ I Lg R G c i) H) ∧
  (∀ c i c' i' : Nat, c < am_NC → c' < am_NC → i < G.2 c → i' < G.2 c' → ρ c i = ρ c' i' → c = c' ∧ i = i') ∧
  (∀ c i : Nat, c < am_NC → i < G.2 c → Γ.HH.size ≤ ρ c i) ∧
  (∀ k : Nat, ρ am_cStr k = Γ.SA k) ∧ (∀ k : Nat, ρ am_cScr k = Γ.scr.1) ∧
  Γ.HH.size ≤ H.size ∧ (∀ q : Nat, q < Γ.HH.size → H[q]? = Γ.HH[q]?) ∧
  (∀ c i k c' i' : Nat, c < am_NC → i < G.2 c → am_ref R G c i k = some (c', i') → c' < am_NC ∧ i' < G.2 c') ∧
  (∀ c i : Nat, c < am_NC → G.2 c ≤ i → G.1 1000 c 0 = false → am_zero c i I Lg R G)
def am_Ext (ρ : Nat → Nat → Nat) (G : GG) (ρ' : Nat → Nat → Nat) (G' : GG) : Prop := (∀ c : Nat, G.2 c ≤ G'.2 c) ∧ ∀ c i : Nat, am_okR G c i → ρ' c i = ρ c i
theorem am_Ext.rf {ρ : Nat → Nat → Nat} {G : GG} : am_Ext ρ G ρ G := ⟨fun _ => Nat.le_refl _, fun _ _ _ => rfl⟩
theorem am_okR.ext {ρ ρ' : Nat → Nat → Nat} {G G' : GG} {c i : Nat} (h : am_Ext ρ G ρ' G') (hk : am_okR G c i) : am_okR G' c i := hk.elim (fun z => Or.inl ⟨z.1, Nat.lt_of_lt_of_le z.2 (h.1 c)⟩) Or.inr
theorem am_Ext.tr {ρ ρ' ρ2 : Nat → Nat → Nat} {G G' G2 : GG} (h : am_Ext ρ G ρ' G') (h2 : am_Ext ρ' G' ρ2 G2) : am_Ext ρ G ρ2 G2 := ⟨fun c => Nat.le_trans (h.1 c) (h2.1 c), fun c i k => (h2.2 c i (k.ext h)).trans (h.2 c i k)⟩
/-- a method: its class, name, code, locals, answer, number of arguments -/
abbrev MD : Type := String × MethodName × ByteArray × Nat × Option FieldType × Nat
/-- a place of a method's code: the instruction, the next place, whether a loop begins here, notes, the method that is called -/
abbrev CE : Type := Instr × Nat × Bool × List Nat × MD
def am_BIG : List Cond := lw_tbl.filter goodWord
def am_tys (Γ : AMG) : List (ClassId × FieldType) := [(Γ.cy 0, .int), (Γ.cy 1, .boolean), (Γ.cy 2, .long), (Γ.cy 3, .object "StormLoft$Board"), (Γ.cy 4, .object "StormLoft$Path"), (Γ.cy 5, .object "StormLoft$Plan"), (Γ.cy 6, .object "StormLoft$Ball"), (Γ.cy 7, .array .int)]
/-- what the tables say, beside the words that keep -/
def am_K (Γ : AMG) (U : State) : Prop := va_K Γ.D vwCl (am_tys Γ) U ∧ Γ.KX U
/-- Γ's own part moves with the machine -/
def am_GK (Γ : AMG) : Prop := (∀ s U : State, Γ.KX s → s.WarmedH U.vm → Γ.KX U) ∧ (∀ u U : State, Γ.KX u → u.vm = U.vm → Γ.KX U)
def am_Cx (Γ : AMG) (M : MD) (p : Program) (s : State) (m : MethodId) (args : Array Value) (meth : Method) (c : Code) : Prop :=
  p.tables.exec = Jvm.exec ∧ c.code = M.2.2.1 ∧ c.maxLocals = M.2.2.2.1 ∧ meth.sig.returnType = M.2.2.2.2.1 ∧ meth.locks = false ∧ s.vm.findClass M.1 = some m.cls ∧ (∀ w ∈ am_BIG, w.before args s = true) ∧ (M.2.1.name = "<init>" → meth.name = "<init>") ∧ am_K Γ s ∧ am_GK Γ
def am_hL (ρ : Nat → Nat → Nat) (ls : Array Slot) (L : LL) : Prop := ls.size = L.length ∧ lv_wf ls ∧ ∀ (i : Nat) (v : AV), L[i]? = some (some v) → ls[i]? = some (.val (am_con ρ v))
/-- the instruction at pc gives back that answer -/
def am_At (M : MD) (pc : Nat) : Option AV → Prop
  | none => decode M.2.2.1 pc = .ok (.return_, 1) ∧ M.2.2.2.2.1 = none
  | some (.inl x) => decode M.2.2.1 pc = .ok (.ireturn, 1) ∧ (M.2.2.2.2.1 = some .int ∨ M.2.2.2.2.1 = some .boolean ∧ (x = zI 0 ∨ x = zI 1))
  | some (.inr (.inl _)) => decode M.2.2.1 pc = .ok (.lreturn, 1) ∧ M.2.2.2.2.1 = some .long
  | some (.inr (.inr _)) => decode M.2.2.1 pc = .ok (.areturn, 1) ∧ ∃ n, M.2.2.2.2.1 = some (.object n)
abbrev am_LOC : Nat := 48
/-- THE JUDGEMENT: from here the method comes to its end with Q; d: how many calls deep, k, n: how many cells and slots it may still make -/
def am_J (Γ : AMG) (M : MD) (Q : QQ) (d k n pc : Nat) (L : LL) (st : List AV) (I : II) (Lg : LJ) (R : RR) (G : GG) : Prop :=
  ∀ (ρ : Nat → Nat → Nat) (p : Program) (e : Env) (Rm : Room) (s : State) (m : MethodId) (args : Array Value) (below : List Frame) (meth : Method) (c : Code) (H : Heap) (locs : List Loc) (cells slots : Nat) (Z : State → Prop),
    am_Cx Γ M p s m args meth c → d ≤ Rm.frames → am_LOC * d ≤ Rm.locals → cells + k ≤ Rm.cells → slots + n ≤ Rm.slots → am_Wd Γ ρ I Lg R G H → (∀ q ∈ locs, Γ.HH.size ≤ q.base) → am_okL M.2.2.2.1 G L → am_okS G st →
    (∀ (ρ' : Nat → Nat → Nat) (r : Option AV) (I' : II) (Lg' : LJ) (R' : RR) (G' : GG) (H' : Heap) (locs' : List Loc) (cells' slots' pc' : Nat) (ls' : Array Slot), am_Wd Γ ρ' I' Lg' R' G' H' → am_Ext ρ G ρ' G' → (∀ v ∈ r, am_ok G' v) → (∀ q ∈ locs', Γ.HH.size ≤ q.base) → cells' ≤ cells + k → slots' ≤ slots + n → Q r I' Lg' R' G' → am_At M pc' r →
      W p Γ.l e Rm s m args below meth c H' locs' cells' slots' Z (F0 m pc' ls' (r.toList.map (am_con ρ')))) →
    ∀ ls : Array Slot, am_hL ρ ls L → W p Γ.l e Rm s m args below meth c H locs cells slots Z (F0 m pc ls (st.map (am_con ρ)))
def am_ws (M : MD) : List Cond := .code M.2.1 M.2.2.1 M.2.2.2.1 M.2.2.2.2.1 :: am_BIG
def am_rm (d k n : Nat) : Room := { frames := d, cells := k, slots := n, locals := am_LOC * d }
def am_Pc (Γ : AMG) (ρ : Nat → Nat → Nat) (args : List AV) (I : II) (Lg : LJ) (R : RR) (G : GG) : Array Value → State → Prop := fun a U => a = (args.map (am_con ρ)).toArray ∧ am_K Γ U ∧ am_Wd Γ ρ I Lg R G U.heap
def am_Qc (Γ : AMG) (Q : QQ) (ρ : Nat → Nat → Nat) (G : GG) : Array Value → State → Outcome → State → Prop := fun _ _ o t => ∃ (ρ' : Nat → Nat → Nat) (r : Option AV) (I' : II) (Lg' : LJ) (R' : RR) (G' : GG), o = .returned (r.map (am_con ρ')) ∧ am_Wd Γ ρ' I' Lg' R' G' t.heap ∧ am_Ext ρ G ρ' G' ∧ (∀ v ∈ r, am_ok G' v) ∧ Q r I' Lg' R' G'
/-- THE CONTRACT of a method: with these arguments, in this state, it comes to its end with Q -/
def am_Sp (Γ : AMG) (d k n : Nat) (M : MD) (args : List AV) (I : II) (Lg : LJ) (R : RR) (G : GG) (Q : QQ) : Prop :=
  ∀ ρ : Nat → Nat → Nat, am_GK Γ → am_okS G args → Met Γ.l M.2.1 (am_ws M) (am_rm d k n) (am_Pc Γ ρ args I Lg R G) (am_Qc Γ Q ρ G) k n (fun q => Γ.HH.size ≤ q)
end
section
/-! The rules of am_J: an instruction each. First those that touch locals and stack alone. -/
def am_clr : Option AV → Option AV
  | some (.inr (.inl _)) => none
  | o => o
def am_st : LL → Nat → Option AV → LL
  | [], _, _ => []
  | _ :: xs, 0, o => o :: xs
  | x :: xs, 1, o => am_clr x :: am_st xs 0 o
  | x :: xs, n + 2, o => x :: am_st xs (n + 1) o
theorem am_st_len : ∀ (L : LL) (i : Nat) (o : Option AV), (am_st L i o).length = L.length
  | [], _, _ => rfl
  | _ :: _, 0, _ => rfl
  | _ :: xs, 1, o => by simp [am_st, am_st_len xs 0 o]
  | _ :: xs, n + 2, o => by simp [am_st, am_st_len xs (n + 1) o]
theorem am_st_get : ∀ (L : LL) (i j : Nat) (o : Option AV), (am_st L i o)[j]? = if j = i ∧ i < L.length then some o else if j + 1 = i then (L[j]?).map am_clr else L[j]?
  | [], _, _, _ => by simp [am_st]
  | _ :: _, 0, 0, _ => by simp [am_st]
  | _ :: _, 0, j + 1, _ => by simp [am_st]
  | x :: xs, 1, 0, o => by simp [am_st]
  | x :: xs, 1, j + 1, o => by
    simp only [am_st, List.getElem?_cons_succ, am_st_get xs 0 j o, List.length_cons]
    by_cases h : j = 0 <;> simp [h]
  | x :: xs, n + 2, 0, o => by simp [am_st]
  | x :: xs, n + 2, j + 1, o => by
    simp only [am_st, List.getElem?_cons_succ, am_st_get xs (n + 1) j o, List.length_cons]
    by_cases h : j = n + 1
    · subst h
      simp
      split <;> split <;> first | rfl | omega
    · simp [h]
theorem am_clr_some {x : Option AV} {v : AV} (h : am_clr x = some v) : x = some v ∧ ∀ ρ, (am_con ρ v).category ≠ 2 := by
  match x, h with
  | some (.inl a), h => cases h; exact ⟨rfl, fun _ => by simp [am_con, Value.category]⟩
  | some (.inr (.inr none)), h => cases h; exact ⟨rfl, fun _ => by simp [am_con, Value.category]⟩
  | some (.inr (.inr (some (a, b)))), h => cases h; exact ⟨rfl, fun _ => by simp [am_con, Value.category]⟩
def am_as (ρ : Nat → Nat → Nat) (L : LL) : List (Nat × Value) := (List.range L.length).filterMap (fun i => match L[i]? with
  | some (some v) => some (i, am_con ρ v)
  | _ => none)
theorem am_as_in {ρ : Nat → Nat → Nat} {L : LL} {q : Nat × Value} : q ∈ am_as ρ L ↔ ∃ v, L[q.1]? = some (some v) ∧ q.2 = am_con ρ v := by
  obtain ⟨i, w⟩ := q
  simp only [am_as, List.mem_filterMap, List.mem_range]
  constructor
  · rintro ⟨a, ha, h⟩
    split at h
    · next v hv => cases h; exact ⟨v, hv, rfl⟩
    · cases h
  · rintro ⟨v, hv, rfl⟩
    refine ⟨i, (List.getElem?_eq_some_iff.mp hv).1, ?_⟩
    simp only [hv]
theorem am_hL.has {ρ : Nat → Nat → Nat} {ls : Array Slot} {L : LL} (h : am_hL ρ ls L) : lv_has ls L.length (am_as ρ L) := ⟨h.1, h.2.1, fun q hq => by
  obtain ⟨v, hv, e⟩ := am_as_in.mp hq
  rw [e]
  exact h.2.2 _ _ hv⟩
theorem am_hL.at {ρ : Nat → Nat → Nat} {ls : Array Slot} {L : LL} (h : am_hL ρ ls L) {i : Nat} {v : AV} (hv : L[i]? = some (some v)) : ls[i]? = some (.val (am_con ρ v)) := h.2.2 _ _ hv
/-- a value of one slot is stored -/
theorem am_hL.st1 {ρ : Nat → Nat → Nat} {ls : Array Slot} {L : LL} (h : am_hL ρ ls L) {i : Nat} {v : AV} (hi : i < L.length) (hc : (am_con ρ v).category = 1) : ∃ ls', storeLocals ls i (am_con ρ v) = some ls' ∧ am_hL ρ ls' (am_st L i (some v)) := by
  obtain ⟨ls', e, h1, h2, h3⟩ := lv_store1 (v := am_con ρ v) h.has hi hc
  refine ⟨ls', e, by rw [am_st_len]; exact h1, h2, fun j w hw => ?_⟩
  rw [am_st_get] at hw
  split at hw
  · next hj => cases hw; rw [hj.1]; exact h3 (i, am_con ρ v) List.mem_cons_self
  · next hj =>
    have hne : j ≠ i := fun q => hj ⟨q, hi⟩
    refine h3 (j, am_con ρ w) (List.mem_cons_of_mem _ (List.mem_filter.mpr ?_))
    split at hw
    · next hji =>
      cases hx : L[j]? with
      | none => rw [hx] at hw; cases hw
      | some x =>
        rw [hx] at hw
        obtain ⟨e1, e2⟩ := am_clr_some (Option.some.inj hw)
        subst e1
        refine ⟨am_as_in.mpr ⟨w, hx, rfl⟩, ?_⟩
        have := e2 ρ
        simp [hne, hji, this]
    · next hji => exact ⟨am_as_in.mpr ⟨w, hw, rfl⟩, by simp [hne, hji]⟩
/-- a long is stored -/
theorem am_hL.st2 {ρ : Nat → Nat → Nat} {ls : Array Slot} {L : LL} (h : am_hL ρ ls L) {i : Nat} {v : AV} (hi : i + 1 < L.length) (hc : (am_con ρ v).category = 2) : ∃ ls', storeLocals ls i (am_con ρ v) = some ls' ∧ am_hL ρ ls' ((am_st L i (some v)).set (i + 1) none) := by
  obtain ⟨ls', e, h1, h2, h3⟩ := lv_store2 (v := am_con ρ v) h.has hi hc
  refine ⟨ls', e, by rw [List.length_set, am_st_len]; exact h1, h2, fun j w hw => ?_⟩
  rw [List.getElem?_set] at hw
  split at hw
  · next hj => split at hw <;> cases hw
  next hj1 =>
  rw [am_st_get] at hw
  split at hw
  · next hj => cases hw; rw [hj.1]; exact h3 (i, am_con ρ v) List.mem_cons_self
  · next hj =>
    have hne : j ≠ i := fun q => hj ⟨q, by omega⟩
    refine h3 (j, am_con ρ w) (List.mem_cons_of_mem _ (List.mem_filter.mpr ?_))
    split at hw
    · next hji =>
      cases hx : L[j]? with
      | none => rw [hx] at hw; cases hw
      | some x =>
        rw [hx] at hw
        obtain ⟨e1, e2⟩ := am_clr_some (Option.some.inj hw)
        subst e1
        refine ⟨am_as_in.mpr ⟨w, hx, rfl⟩, ?_⟩
        have := e2 ρ
        simp [hne, this, show j ≠ i + 1 from fun q => hj1 q.symm]
    · next hji => exact ⟨am_as_in.mpr ⟨w, hw, rfl⟩, by simp [hne, hji, show j ≠ i + 1 from fun q => hj1 q.symm]⟩
section AMR
variable {Γ : AMG} {M : MD} {Q : QQ} {d k n pc pc' : Nat} {L L' : LL} {st st' : List AV} {I : II} {Lg : LJ} {R : RR} {G : GG}
/-- a step that touches locals and stack alone -/
theorem am_J.step (hs : ∀ (ρ : Nat → Nat → Nat) (p : Program) (e : Env) (Rm : Room) (s : State) (m : MethodId) (args : Array Value) (below : List Frame) (meth : Method) (c : Code) (H : Heap) (locs : List Loc) (cells slots : Nat) (Z : State → Prop) (ls : Array Slot), am_Cx Γ M p s m args meth c → am_hL ρ ls L →
      (∀ ls' : Array Slot, am_hL ρ ls' L' → W p Γ.l e Rm s m args below meth c H locs cells slots Z (F0 m pc' ls' (st'.map (am_con ρ)))) → W p Γ.l e Rm s m args below meth c H locs cells slots Z (F0 m pc ls (st.map (am_con ρ))))
    (ho : am_okL M.2.2.2.1 G L → am_okS G st → am_okL M.2.2.2.1 G L' ∧ am_okS G st') (h : am_J Γ M Q d k n pc' L' st' I Lg R G) : am_J Γ M Q d k n pc L st I Lg R G := by
  intro ρ p e Rm s m args below meth c H locs cells slots Z C h1 h2 h3 h4 hW hl hoL hoS ret ls hL
  exact hs ρ p e Rm s m args below meth c H locs cells slots Z ls C hL (fun ls' hL' => h ρ p e Rm s m args below meth c H locs cells slots Z C h1 h2 h3 h4 hW hl (ho hoL hoS).1 (ho hoL hoS).2 ret ls' hL')
theorem am_okS.cons {v : AV} (h : am_ok G v) (hs : am_okS G st) : am_okS G (v :: st) := fun w hw => (List.mem_cons.mp hw).elim (fun e => e ▸ h) (hs w)
theorem am_okS.tl {v : AV} (hs : am_okS G (v :: st)) : am_okS G st := fun w hw => hs w (List.mem_cons_of_mem _ hw)
theorem am_okS.hd {v : AV} (hs : am_okS G (v :: st)) : am_ok G v := hs v List.mem_cons_self
theorem am_okL.at {i nL : Nat} {v : AV} (h : am_okL nL G L) (hv : L[i]? = some (some v)) : am_ok G v := h.2 v (List.mem_of_getElem? hv)
theorem am_okL.sto {i nL : Nat} {v : AV} (h : am_okL nL G L) (hv : am_ok G v) : am_okL nL G (am_st L i (some v)) := by
  refine ⟨by rw [am_st_len]; exact h.1, ?_⟩
  intro w hw
  obtain ⟨j, hj⟩ := List.getElem?_of_mem hw
  rw [am_st_get] at hj
  split at hj
  · cases hj; exact hv
  · split at hj
    · cases hx : L[j]? with
      | none => rw [hx] at hj; cases hj
      | some x =>
        rw [hx] at hj
        obtain ⟨e1, -⟩ := am_clr_some (Option.some.inj hj)
        subst e1
        exact h.at hx
    · exact h.at hj
theorem am_okL.set {i nL : Nat} (h : am_okL nL G L) : am_okL nL G (L.set i none) := by
  refine ⟨by rw [List.length_set]; exact h.1, ?_⟩
  intro w hw
  obtain ⟨j, hj⟩ := List.getElem?_of_mem hw
  rw [List.getElem?_set] at hj
  split at hj
  · split at hj <;> cases hj
  · exact h.at hj
theorem am_okS.i {x : Int32} (h : am_okS G st) : am_okS G (vI x :: st) := am_okS.cons (v := vI x) trivial h
theorem am_okS.l {x : Int64} (h : am_okS G st) : am_okS G (vL x :: st) := am_okS.cons (v := vL x) trivial h
theorem ar_iconst {z : Int} (hd : decode M.2.2.1 pc = .ok (.iconst z, 1)) (h : am_J Γ M Q d k n (pc + 1) L (vI (zI z) :: st) I Lg R G) : am_J Γ M Q d k n pc L st I Lg R G :=
  am_J.step (fun ρ p e Rm s m args below meth c H locs cells slots Z ls C hl kk => lv_iconst C.1 C.2.1 hd rfl (kk ls hl)) (fun a b => ⟨a, b.i⟩) h
theorem ar_bipush {z : Int} (hz : (Int8.ofInt z).toInt32 = zI z) (hd : decode M.2.2.1 pc = .ok (.bipush z, 2)) (h : am_J Γ M Q d k n (pc + 2) L (vI (zI z) :: st) I Lg R G) : am_J Γ M Q d k n pc L st I Lg R G :=
  am_J.step (fun ρ p e Rm s m args below meth c H locs cells slots Z ls C hl kk => lv_bipush C.1 C.2.1 hd hz (kk ls hl)) (fun a b => ⟨a, b.i⟩) h
theorem ar_sipush {z : Int} (hz : (Int16.ofInt z).toInt32 = zI z) (hd : decode M.2.2.1 pc = .ok (.sipush z, 3)) (h : am_J Γ M Q d k n (pc + 3) L (vI (zI z) :: st) I Lg R G) : am_J Γ M Q d k n pc L st I Lg R G :=
  am_J.step (fun ρ p e Rm s m args below meth c H locs cells slots Z ls C hl kk => lv_sipush C.1 C.2.1 hd hz (kk ls hl)) (fun a b => ⟨a, b.i⟩) h
theorem ar_ldc {z : Int} {i : Nat} (hz : Cond.constant M.1 i (zI z) ∈ am_BIG) (hd : decode M.2.2.1 pc = .ok (.ldc i, 2)) (h : am_J Γ M Q d k n (pc + 2) L (vI (zI z) :: st) I Lg R G) : am_J Γ M Q d k n pc L st I Lg R G :=
  am_J.step (fun ρ p e Rm s m args below meth c H locs cells slots Z ls C hl kk => lv_ldc C.1 C.2.1 C.2.2.2.2.2.1 (C.2.2.2.2.2.2.1 _ hz) hd (kk ls hl)) (fun a b => ⟨a, b.i⟩) h
theorem ar_ldc2 {z : Int} {i : Nat} (hz : Cond.constantLong M.1 i (zL z) ∈ am_BIG) (hd : decode M.2.2.1 pc = .ok (.ldc2_w i, 3)) (h : am_J Γ M Q d k n (pc + 3) L (vL (zL z) :: st) I Lg R G) : am_J Γ M Q d k n pc L st I Lg R G :=
  am_J.step (fun ρ p e Rm s m args below meth c H locs cells slots Z ls C hl kk => lv_ldc2 C.1 C.2.1 C.2.2.2.2.2.1 (C.2.2.2.2.2.2.1 _ hz) hd (kk ls hl)) (fun a b => ⟨a, b.l⟩) h
theorem ar_lconst {j : Fin 2} {z : Int} (hz : Int64.ofNat (j : Nat) = zL z) (hd : decode M.2.2.1 pc = .ok (.lconst j, 1)) (h : am_J Γ M Q d k n (pc + 1) L (vL (zL z) :: st) I Lg R G) : am_J Γ M Q d k n pc L st I Lg R G :=
  am_J.step (fun ρ p e Rm s m args below meth c H locs cells slots Z ls C hl kk => lv_lconst C.1 C.2.1 hd hz (kk ls hl)) (fun a b => ⟨a, b.l⟩) h
theorem ar_iload_n {j : Fin 4} {x : Int32} (hv : L[(j : Nat)]? = some (some (vI x))) (hd : decode M.2.2.1 pc = .ok (.iload_n j, 1)) (h : am_J Γ M Q d k n (pc + 1) L (vI x :: st) I Lg R G) : am_J Γ M Q d k n pc L st I Lg R G :=
  am_J.step (fun ρ p e Rm s m args below meth c H locs cells slots Z ls C hl kk => lv_iload_n C.1 C.2.1 hd rfl (hl.at hv) (kk ls hl)) (fun a b => ⟨a, b.i⟩) h
theorem ar_iload {j : Nat} {x : Int32} (hv : L[j]? = some (some (vI x))) (hd : decode M.2.2.1 pc = .ok (.iload j, 2)) (h : am_J Γ M Q d k n (pc + 2) L (vI x :: st) I Lg R G) : am_J Γ M Q d k n pc L st I Lg R G :=
  am_J.step (fun ρ p e Rm s m args below meth c H locs cells slots Z ls C hl kk => lv_iload C.1 C.2.1 hd (hl.at hv) (kk ls hl)) (fun a b => ⟨a, b.i⟩) h
theorem ar_lload_n {j : Fin 4} {x : Int64} (hv : L[(j : Nat)]? = some (some (vL x))) (hd : decode M.2.2.1 pc = .ok (.lload_n j, 1)) (h : am_J Γ M Q d k n (pc + 1) L (vL x :: st) I Lg R G) : am_J Γ M Q d k n pc L st I Lg R G :=
  am_J.step (fun ρ p e Rm s m args below meth c H locs cells slots Z ls C hl kk => lv_lload_n C.1 C.2.1 hd rfl (hl.at hv) (kk ls hl)) (fun a b => ⟨a, b.l⟩) h
theorem ar_lload {j : Nat} {x : Int64} (hv : L[j]? = some (some (vL x))) (hd : decode M.2.2.1 pc = .ok (.lload j, 2)) (h : am_J Γ M Q d k n (pc + 2) L (vL x :: st) I Lg R G) : am_J Γ M Q d k n pc L st I Lg R G :=
  am_J.step (fun ρ p e Rm s m args below meth c H locs cells slots Z ls C hl kk => lv_lload C.1 C.2.1 hd (hl.at hv) (kk ls hl)) (fun a b => ⟨a, b.l⟩) h
theorem ar_aload_n {j : Fin 4} {o : Option (Nat × Nat)} (hv : L[(j : Nat)]? = some (some (.inr (.inr o)))) (hd : decode M.2.2.1 pc = .ok (.aload_n j, 1)) (h : am_J Γ M Q d k n (pc + 1) L (.inr (.inr o) :: st) I Lg R G) : am_J Γ M Q d k n pc L st I Lg R G :=
  am_J.step (fun ρ p e Rm s m args below meth c H locs cells slots Z ls C hl kk => by
    have h1 := hl.at hv
    obtain _ | ⟨a, b⟩ := o
    · refine W.go (g2 := F0 m (pc + 1) ls (.null :: st.map (am_con ρ))) (fun T hT tg ht => ?_) (kk ls hl)
      have h2 : ls[(j : Nat)]? = some (.val .null) := h1
      jvm_step hT [hT.top, C.1, C.2.1, hd, h2, Value.isRef]
      exact ht
    · exact lv_aload_n C.1 C.2.1 hd rfl h1 (kk ls hl)) (fun a b => ⟨a, am_okS.cons (a.at hv) b⟩) h
theorem ar_aload {j : Nat} {o : Option (Nat × Nat)} (hv : L[j]? = some (some (.inr (.inr o)))) (hd : decode M.2.2.1 pc = .ok (.aload j, 2)) (h : am_J Γ M Q d k n (pc + 2) L (.inr (.inr o) :: st) I Lg R G) : am_J Γ M Q d k n pc L st I Lg R G :=
  am_J.step (fun ρ p e Rm s m args below meth c H locs cells slots Z ls C hl kk => by
    have h1 := hl.at hv
    obtain _ | ⟨a, b⟩ := o
    · refine W.go (g2 := F0 m (pc + 2) ls (.null :: st.map (am_con ρ))) (fun T hT tg ht => ?_) (kk ls hl)
      have h2 : ls[j]? = some (.val .null) := h1
      jvm_step hT [hT.top, C.1, C.2.1, hd, h2, Value.isRef]
      exact ht
    · exact lv_aload C.1 C.2.1 hd h1 (kk ls hl)) (fun a b => ⟨a, am_okS.cons (a.at hv) b⟩) h
end AMR
end
section
/-! rules: stores, arithmetic, branches -/
section AMR
variable {Γ : AMG} {M : MD} {Q : QQ} {d k n pc pc' pc2 : Nat} {L L' : LL} {st st' : List AV} {I : II} {Lg : LJ} {R : RR} {G : GG}
/-- a step with two ends -/
theorem am_J.br {A B : Prop} (hs : ∀ (ρ : Nat → Nat → Nat) (p : Program) (e : Env) (Rm : Room) (s : State) (m : MethodId) (args : Array Value) (below : List Frame) (meth : Method) (c : Code) (H : Heap) (locs : List Loc) (cells slots : Nat) (Z : State → Prop) (ls : Array Slot), am_Cx Γ M p s m args meth c →
      (A → W p Γ.l e Rm s m args below meth c H locs cells slots Z (F0 m pc' ls (st'.map (am_con ρ)))) → (B → W p Γ.l e Rm s m args below meth c H locs cells slots Z (F0 m pc2 ls (st'.map (am_con ρ)))) → W p Γ.l e Rm s m args below meth c H locs cells slots Z (F0 m pc ls (st.map (am_con ρ))))
    (ho : am_okS G st → am_okS G st') (h1 : A → am_J Γ M Q d k n pc' L st' I Lg R G) (h2 : B → am_J Γ M Q d k n pc2 L st' I Lg R G) : am_J Γ M Q d k n pc L st I Lg R G := by
  intro ρ p e Rm s m args below meth c H locs cells slots Z C g1 g2 g3 g4 hW hl hoL hoS ret ls hL
  exact hs ρ p e Rm s m args below meth c H locs cells slots Z ls C (fun q => h1 q ρ p e Rm s m args below meth c H locs cells slots Z C g1 g2 g3 g4 hW hl hoL (ho hoS) ret ls hL) (fun q => h2 q ρ p e Rm s m args below meth c H locs cells slots Z C g1 g2 g3 g4 hW hl hoL (ho hoS) ret ls hL)
theorem ar_istore_n {j : Fin 4} {x : Int32} (hi : (j : Nat) < L.length) (hd : decode M.2.2.1 pc = .ok (.istore_n j, 1)) (h : am_J Γ M Q d k n (pc + 1) (am_st L (j : Nat) (some (vI x))) st I Lg R G) : am_J Γ M Q d k n pc L (vI x :: st) I Lg R G :=
  am_J.step (fun ρ p e Rm s m args below meth c H locs cells slots Z ls C hl kk => by
    obtain ⟨ls', e', h'⟩ := hl.st1 (v := vI x) hi (by rfl)
    have e2 : storeLocals ls (j : Nat) (.int x) = some ls' := e'
    refine W.go (g2 := F0 m (pc + 1) ls' (st.map (am_con ρ))) (fun T hT tg ht => ?_) (kk ls' h')
    show Steps p.tables e below (T.setTop (F0 m pc ls (.int x :: st.map (am_con ρ)))) tg
    jvm_step hT [hT.top, ↓top_set hT.top, C.1, C.2.1, hd, e2]
    exact ht) (fun a b => ⟨a.sto (v := vI x) trivial, b.tl⟩) h
theorem ar_istore {j : Nat} {x : Int32} (hi : j < L.length) (hd : decode M.2.2.1 pc = .ok (.istore j, 2)) (h : am_J Γ M Q d k n (pc + 2) (am_st L j (some (vI x))) st I Lg R G) : am_J Γ M Q d k n pc L (vI x :: st) I Lg R G :=
  am_J.step (fun ρ p e Rm s m args below meth c H locs cells slots Z ls C hl kk => by
    obtain ⟨ls', e', h'⟩ := hl.st1 (v := vI x) hi (by rfl)
    have e2 : storeLocals ls j (.int x) = some ls' := e'
    refine W.go (g2 := F0 m (pc + 2) ls' (st.map (am_con ρ))) (fun T hT tg ht => ?_) (kk ls' h')
    show Steps p.tables e below (T.setTop (F0 m pc ls (.int x :: st.map (am_con ρ)))) tg
    jvm_step hT [hT.top, ↓top_set hT.top, C.1, C.2.1, hd, e2]
    exact ht) (fun a b => ⟨a.sto (v := vI x) trivial, b.tl⟩) h
theorem ar_astore_n {j : Fin 4} {o : Option (Nat × Nat)} (hi : (j : Nat) < L.length) (hd : decode M.2.2.1 pc = .ok (.astore_n j, 1)) (h : am_J Γ M Q d k n (pc + 1) (am_st L (j : Nat) (some (.inr (.inr o)))) st I Lg R G) : am_J Γ M Q d k n pc L (.inr (.inr o) :: st) I Lg R G :=
  am_J.step (fun ρ p e Rm s m args below meth c H locs cells slots Z ls C hl kk => by
    obtain ⟨ls', e', h'⟩ := hl.st1 (v := .inr (.inr o)) hi (by obtain _ | ⟨a, b⟩ := o <;> rfl)
    refine W.go (g2 := F0 m (pc + 1) ls' (st.map (am_con ρ))) (fun T hT tg ht => ?_) (kk ls' h')
    obtain _ | ⟨a, b⟩ := o
    · have e2 : storeLocals ls (j : Nat) .null = some ls' := e'
      show Steps p.tables e below (T.setTop (F0 m pc ls (.null :: st.map (am_con ρ)))) tg
      jvm_step hT [hT.top, ↓top_set hT.top, C.1, C.2.1, hd, e2, Value.isRef]
      exact ht
    · have e2 : storeLocals ls (j : Nat) (.ref (ρ a b)) = some ls' := e'
      show Steps p.tables e below (T.setTop (F0 m pc ls (.ref (ρ a b) :: st.map (am_con ρ)))) tg
      jvm_step hT [hT.top, ↓top_set hT.top, C.1, C.2.1, hd, e2, Value.isRef]
      exact ht) (fun a b => ⟨a.sto b.hd, b.tl⟩) h
theorem ar_astore {j : Nat} {o : Option (Nat × Nat)} (hi : j < L.length) (hd : decode M.2.2.1 pc = .ok (.astore j, 2)) (h : am_J Γ M Q d k n (pc + 2) (am_st L j (some (.inr (.inr o)))) st I Lg R G) : am_J Γ M Q d k n pc L (.inr (.inr o) :: st) I Lg R G :=
  am_J.step (fun ρ p e Rm s m args below meth c H locs cells slots Z ls C hl kk => by
    obtain ⟨ls', e', h'⟩ := hl.st1 (v := .inr (.inr o)) hi (by obtain _ | ⟨a, b⟩ := o <;> rfl)
    refine W.go (g2 := F0 m (pc + 2) ls' (st.map (am_con ρ))) (fun T hT tg ht => ?_) (kk ls' h')
    obtain _ | ⟨a, b⟩ := o
    · have e2 : storeLocals ls j .null = some ls' := e'
      show Steps p.tables e below (T.setTop (F0 m pc ls (.null :: st.map (am_con ρ)))) tg
      jvm_step hT [hT.top, ↓top_set hT.top, C.1, C.2.1, hd, e2, Value.isRef]
      exact ht
    · have e2 : storeLocals ls j (.ref (ρ a b)) = some ls' := e'
      show Steps p.tables e below (T.setTop (F0 m pc ls (.ref (ρ a b) :: st.map (am_con ρ)))) tg
      jvm_step hT [hT.top, ↓top_set hT.top, C.1, C.2.1, hd, e2, Value.isRef]
      exact ht) (fun a b => ⟨a.sto b.hd, b.tl⟩) h
theorem ar_lstore_n {j : Fin 4} {x : Int64} (hi : (j : Nat) + 1 < L.length) (hd : decode M.2.2.1 pc = .ok (.lstore_n j, 1)) (h : am_J Γ M Q d k n (pc + 1) ((am_st L (j : Nat) (some (vL x))).set ((j : Nat) + 1) none) st I Lg R G) : am_J Γ M Q d k n pc L (vL x :: st) I Lg R G :=
  am_J.step (fun ρ p e Rm s m args below meth c H locs cells slots Z ls C hl kk => by
    obtain ⟨ls', e', h'⟩ := hl.st2 (v := vL x) hi rfl
    have e2 : storeLocals ls (j : Nat) (.long x) = some ls' := e'
    refine W.go (g2 := F0 m (pc + 1) ls' (st.map (am_con ρ))) (fun T hT tg ht => ?_) (kk ls' h')
    show Steps p.tables e below (T.setTop (F0 m pc ls (.long x :: st.map (am_con ρ)))) tg
    jvm_step hT [hT.top, ↓top_set hT.top, C.1, C.2.1, hd, e2]
    exact ht) (fun a b => ⟨(a.sto (v := vL x) trivial).set, b.tl⟩) h
theorem ar_lstore {j : Nat} {x : Int64} (hi : j + 1 < L.length) (hd : decode M.2.2.1 pc = .ok (.lstore j, 2)) (h : am_J Γ M Q d k n (pc + 2) ((am_st L j (some (vL x))).set (j + 1) none) st I Lg R G) : am_J Γ M Q d k n pc L (vL x :: st) I Lg R G :=
  am_J.step (fun ρ p e Rm s m args below meth c H locs cells slots Z ls C hl kk => by
    obtain ⟨ls', e', h'⟩ := hl.st2 (v := vL x) hi rfl
    have e2 : storeLocals ls j (.long x) = some ls' := e'
    refine W.go (g2 := F0 m (pc + 2) ls' (st.map (am_con ρ))) (fun T hT tg ht => ?_) (kk ls' h')
    show Steps p.tables e below (T.setTop (F0 m pc ls (.long x :: st.map (am_con ρ)))) tg
    jvm_step hT [hT.top, ↓top_set hT.top, C.1, C.2.1, hd, e2]
    exact ht) (fun a b => ⟨(a.sto (v := vL x) trivial).set, b.tl⟩) h
theorem ar_iinc {j : Nat} {z : Int} {x : Int32} (hv : L[j]? = some (some (vI x))) (hd : decode M.2.2.1 pc = .ok (.iinc j z, 3)) (h : am_J Γ M Q d k n (pc + 3) (am_st L j (some (vI (x + zI z)))) st I Lg R G) : am_J Γ M Q d k n pc L st I Lg R G :=
  am_J.step (fun ρ p e Rm s m args below meth c H locs cells slots Z ls C hl kk => by
    obtain ⟨ls', e', h'⟩ := hl.st1 (v := vI (x + zI z)) (List.getElem?_eq_some_iff.mp hv).1 rfl
    have e2 : storeLocals ls j (.int (x + Int32.ofInt z)) = some ls' := e'
    have hg : ls[j]? = some (.val (.int x)) := hl.at hv
    refine W.go (g2 := F0 m (pc + 3) ls' (st.map (am_con ρ))) (fun T hT tg ht => ?_) (kk ls' h')
    jvm_step hT [hT.top, ↓top_set hT.top, C.1, C.2.1, hd, hg, e2]
    exact ht) (fun a b => ⟨a.sto (v := vI (x + zI z)) trivial, b⟩) h
theorem ar_iadd {x y : Int32} (hd : decode M.2.2.1 pc = .ok (.iadd, 1)) (h : am_J Γ M Q d k n (pc + 1) L (vI (x + y) :: st) I Lg R G) : am_J Γ M Q d k n pc L (vI y :: vI x :: st) I Lg R G :=
  am_J.step (fun ρ p e Rm s m args below meth c H locs cells slots Z ls C hl kk => lv_iadd C.1 C.2.1 hd (kk ls hl)) (fun a b => ⟨a, b.tl.tl.i⟩) h
theorem ar_isub {x y : Int32} (hd : decode M.2.2.1 pc = .ok (.isub, 1)) (h : am_J Γ M Q d k n (pc + 1) L (vI (x - y) :: st) I Lg R G) : am_J Γ M Q d k n pc L (vI y :: vI x :: st) I Lg R G :=
  am_J.step (fun ρ p e Rm s m args below meth c H locs cells slots Z ls C hl kk => lv_isub C.1 C.2.1 hd (kk ls hl)) (fun a b => ⟨a, b.tl.tl.i⟩) h
theorem ar_imul {x y : Int32} (hd : decode M.2.2.1 pc = .ok (.imul, 1)) (h : am_J Γ M Q d k n (pc + 1) L (vI (x * y) :: st) I Lg R G) : am_J Γ M Q d k n pc L (vI y :: vI x :: st) I Lg R G :=
  am_J.step (fun ρ p e Rm s m args below meth c H locs cells slots Z ls C hl kk => lv_imul C.1 C.2.1 hd (kk ls hl)) (fun a b => ⟨a, b.tl.tl.i⟩) h
theorem ar_iand {x y : Int32} (hd : decode M.2.2.1 pc = .ok (.iand, 1)) (h : am_J Γ M Q d k n (pc + 1) L (vI (x &&& y) :: st) I Lg R G) : am_J Γ M Q d k n pc L (vI y :: vI x :: st) I Lg R G :=
  am_J.step (fun ρ p e Rm s m args below meth c H locs cells slots Z ls C hl kk => lv_iand C.1 C.2.1 hd (kk ls hl)) (fun a b => ⟨a, b.tl.tl.i⟩) h
theorem ar_ior {x y : Int32} (hd : decode M.2.2.1 pc = .ok (.ior, 1)) (h : am_J Γ M Q d k n (pc + 1) L (vI (x ||| y) :: st) I Lg R G) : am_J Γ M Q d k n pc L (vI y :: vI x :: st) I Lg R G :=
  am_J.step (fun ρ p e Rm s m args below meth c H locs cells slots Z ls C hl kk => lv_ior C.1 C.2.1 hd (kk ls hl)) (fun a b => ⟨a, b.tl.tl.i⟩) h
theorem ar_ixor {x y : Int32} (hd : decode M.2.2.1 pc = .ok (.ixor, 1)) (h : am_J Γ M Q d k n (pc + 1) L (vI (x ^^^ y) :: st) I Lg R G) : am_J Γ M Q d k n pc L (vI y :: vI x :: st) I Lg R G :=
  am_J.step (fun ρ p e Rm s m args below meth c H locs cells slots Z ls C hl kk => lv_ixor C.1 C.2.1 hd (kk ls hl)) (fun a b => ⟨a, b.tl.tl.i⟩) h
theorem ar_ishl {x y : Int32} (hd : decode M.2.2.1 pc = .ok (.ishl, 1)) (h : am_J Γ M Q d k n (pc + 1) L (vI (x <<< (y &&& 31)) :: st) I Lg R G) : am_J Γ M Q d k n pc L (vI y :: vI x :: st) I Lg R G :=
  am_J.step (fun ρ p e Rm s m args below meth c H locs cells slots Z ls C hl kk => lv_ishl C.1 C.2.1 hd (kk ls hl)) (fun a b => ⟨a, b.tl.tl.i⟩) h
theorem ar_ishr {x y : Int32} (hd : decode M.2.2.1 pc = .ok (.ishr, 1)) (h : am_J Γ M Q d k n (pc + 1) L (vI (x >>> (y &&& 31)) :: st) I Lg R G) : am_J Γ M Q d k n pc L (vI y :: vI x :: st) I Lg R G :=
  am_J.step (fun ρ p e Rm s m args below meth c H locs cells slots Z ls C hl kk => lv_ishr C.1 C.2.1 hd (kk ls hl)) (fun a b => ⟨a, b.tl.tl.i⟩) h
theorem ar_idiv {x y : Int32} (hy : y.toInt ≠ 0) (hd : decode M.2.2.1 pc = .ok (.idiv, 1)) (h : am_J Γ M Q d k n (pc + 1) L (vI (x / y) :: st) I Lg R G) : am_J Γ M Q d k n pc L (vI y :: vI x :: st) I Lg R G :=
  am_J.step (fun ρ p e Rm s m args below meth c H locs cells slots Z ls C hl kk => lv_idiv C.1 C.2.1 hd (fun z => hy (by rw [z]; rfl)) (kk ls hl)) (fun a b => ⟨a, b.tl.tl.i⟩) h
theorem ar_irem {x y : Int32} (hy : y.toInt ≠ 0) (hd : decode M.2.2.1 pc = .ok (.irem, 1)) (h : am_J Γ M Q d k n (pc + 1) L (vI (x - x / y * y) :: st) I Lg R G) : am_J Γ M Q d k n pc L (vI y :: vI x :: st) I Lg R G :=
  am_J.step (fun ρ p e Rm s m args below meth c H locs cells slots Z ls C hl kk => lv_irem C.1 C.2.1 hd (fun z => hy (by rw [z]; rfl)) (kk ls hl)) (fun a b => ⟨a, b.tl.tl.i⟩) h
theorem ar_iushr {x y : Int32} (hd : decode M.2.2.1 pc = .ok (.iushr, 1)) (h : am_J Γ M Q d k n (pc + 1) L (vI (x.toUInt32 >>> (y.toUInt32 &&& Int32.toUInt32 31)).toInt32 :: st) I Lg R G) : am_J Γ M Q d k n pc L (vI y :: vI x :: st) I Lg R G :=
  am_J.step (fun ρ p e Rm s m args below meth c H locs cells slots Z ls C hl kk => lv_iushr C.1 C.2.1 hd rfl (kk ls hl)) (fun a b => ⟨a, b.tl.tl.i⟩) h
theorem ar_ineg {x : Int32} (hd : decode M.2.2.1 pc = .ok (.ineg, 1)) (h : am_J Γ M Q d k n (pc + 1) L (vI (-x) :: st) I Lg R G) : am_J Γ M Q d k n pc L (vI x :: st) I Lg R G :=
  am_J.step (fun ρ p e Rm s m args below meth c H locs cells slots Z ls C hl kk => lv_ineg C.1 C.2.1 hd (kk ls hl)) (fun a b => ⟨a, b.tl.i⟩) h
theorem ar_i2l {x : Int32} (hd : decode M.2.2.1 pc = .ok (.i2l, 1)) (h : am_J Γ M Q d k n (pc + 1) L (vL x.toInt64 :: st) I Lg R G) : am_J Γ M Q d k n pc L (vI x :: st) I Lg R G :=
  am_J.step (fun ρ p e Rm s m args below meth c H locs cells slots Z ls C hl kk => lv_i2l C.1 C.2.1 hd rfl (kk ls hl)) (fun a b => ⟨a, b.tl.l⟩) h
theorem ar_ladd {x y : Int64} (hd : decode M.2.2.1 pc = .ok (.ladd, 1)) (h : am_J Γ M Q d k n (pc + 1) L (vL (x + y) :: st) I Lg R G) : am_J Γ M Q d k n pc L (vL y :: vL x :: st) I Lg R G :=
  am_J.step (fun ρ p e Rm s m args below meth c H locs cells slots Z ls C hl kk => lv_ladd C.1 C.2.1 hd (kk ls hl)) (fun a b => ⟨a, b.tl.tl.l⟩) h
theorem ar_lsub {x y : Int64} (hd : decode M.2.2.1 pc = .ok (.lsub, 1)) (h : am_J Γ M Q d k n (pc + 1) L (vL (x - y) :: st) I Lg R G) : am_J Γ M Q d k n pc L (vL y :: vL x :: st) I Lg R G :=
  am_J.step (fun ρ p e Rm s m args below meth c H locs cells slots Z ls C hl kk => lv_lsub C.1 C.2.1 hd (kk ls hl)) (fun a b => ⟨a, b.tl.tl.l⟩) h
theorem ar_lmul {x y : Int64} (hd : decode M.2.2.1 pc = .ok (.lmul, 1)) (h : am_J Γ M Q d k n (pc + 1) L (vL (x * y) :: st) I Lg R G) : am_J Γ M Q d k n pc L (vL y :: vL x :: st) I Lg R G :=
  am_J.step (fun ρ p e Rm s m args below meth c H locs cells slots Z ls C hl kk => lv_lmul C.1 C.2.1 hd (kk ls hl)) (fun a b => ⟨a, b.tl.tl.l⟩) h
theorem ar_lcmp {x y : Int64} (hd : decode M.2.2.1 pc = .ok (.lcmp, 1)) (h : am_J Γ M Q d k n (pc + 1) L (vI (lg_cmp x y) :: st) I Lg R G) : am_J Γ M Q d k n pc L (vL y :: vL x :: st) I Lg R G :=
  am_J.step (fun ρ p e Rm s m args below meth c H locs cells slots Z ls C hl kk => W.lcmp C.1 C.2.1 hd (kk ls hl)) (fun a b => ⟨a, b.tl.tl.i⟩) h
theorem ar_if_eq {x : Int32} {off : Int} {tgt : Nat} (hd : decode M.2.2.1 pc = .ok (.ifCond .eq off, 3)) (ht : (pc : Int) + off = (tgt : Int)) (h1 : x.toInt = 0 → am_J Γ M Q d k n tgt L st I Lg R G) (h2 : x.toInt ≠ 0 → am_J Γ M Q d k n (pc + 3) L st I Lg R G) : am_J Γ M Q d k n pc L (vI x :: st) I Lg R G :=
  am_J.br (fun ρ p e Rm s m args below meth c H locs cells slots Z ls C k1 k2 => lv_if_eq C.1 C.2.1 hd ht (fun q => k1 (by have := q; simp only [Int32.lt_iff_toInt_lt, Int32.le_iff_toInt_le, ← Int32.toInt_inj, Int32.toInt_zero] at this; omega)) (fun q => k2 (by have := q; simp only [Int32.lt_iff_toInt_lt, Int32.le_iff_toInt_le, ← Int32.toInt_inj, Int32.toInt_zero] at this; omega))) (fun b => b.tl) h1 h2
theorem ar_ic_eq {x y : Int32} {off : Int} {tgt : Nat} (hd : decode M.2.2.1 pc = .ok (.if_icmp .eq off, 3)) (ht : (pc : Int) + off = (tgt : Int)) (h1 : x.toInt = y.toInt → am_J Γ M Q d k n tgt L st I Lg R G) (h2 : x.toInt ≠ y.toInt → am_J Γ M Q d k n (pc + 3) L st I Lg R G) : am_J Γ M Q d k n pc L (vI y :: vI x :: st) I Lg R G :=
  am_J.br (fun ρ p e Rm s m args below meth c H locs cells slots Z ls C k1 k2 => lv_icmp_eq C.1 C.2.1 hd ht (fun q => k1 (by have := q; simp only [Int32.lt_iff_toInt_lt, Int32.le_iff_toInt_le, ← Int32.toInt_inj] at this; omega)) (fun q => k2 (by have := q; simp only [Int32.lt_iff_toInt_lt, Int32.le_iff_toInt_le, ← Int32.toInt_inj] at this; omega))) (fun b => b.tl.tl) h1 h2
theorem ar_if_ne {x : Int32} {off : Int} {tgt : Nat} (hd : decode M.2.2.1 pc = .ok (.ifCond .ne off, 3)) (ht : (pc : Int) + off = (tgt : Int)) (h1 : x.toInt ≠ 0 → am_J Γ M Q d k n tgt L st I Lg R G) (h2 : x.toInt = 0 → am_J Γ M Q d k n (pc + 3) L st I Lg R G) : am_J Γ M Q d k n pc L (vI x :: st) I Lg R G :=
  am_J.br (fun ρ p e Rm s m args below meth c H locs cells slots Z ls C k1 k2 => lv_if_ne C.1 C.2.1 hd ht (fun q => k1 (by have := q; simp only [Int32.lt_iff_toInt_lt, Int32.le_iff_toInt_le, ← Int32.toInt_inj, Int32.toInt_zero] at this; omega)) (fun q => k2 (by have := q; simp only [Int32.lt_iff_toInt_lt, Int32.le_iff_toInt_le, ← Int32.toInt_inj, Int32.toInt_zero] at this; omega))) (fun b => b.tl) h1 h2
theorem ar_ic_ne {x y : Int32} {off : Int} {tgt : Nat} (hd : decode M.2.2.1 pc = .ok (.if_icmp .ne off, 3)) (ht : (pc : Int) + off = (tgt : Int)) (h1 : x.toInt ≠ y.toInt → am_J Γ M Q d k n tgt L st I Lg R G) (h2 : x.toInt = y.toInt → am_J Γ M Q d k n (pc + 3) L st I Lg R G) : am_J Γ M Q d k n pc L (vI y :: vI x :: st) I Lg R G :=
  am_J.br (fun ρ p e Rm s m args below meth c H locs cells slots Z ls C k1 k2 => lv_icmp_ne C.1 C.2.1 hd ht (fun q => k1 (by have := q; simp only [Int32.lt_iff_toInt_lt, Int32.le_iff_toInt_le, ← Int32.toInt_inj] at this; omega)) (fun q => k2 (by have := q; simp only [Int32.lt_iff_toInt_lt, Int32.le_iff_toInt_le, ← Int32.toInt_inj] at this; omega))) (fun b => b.tl.tl) h1 h2
theorem ar_if_lt {x : Int32} {off : Int} {tgt : Nat} (hd : decode M.2.2.1 pc = .ok (.ifCond .lt off, 3)) (ht : (pc : Int) + off = (tgt : Int)) (h1 : x.toInt < 0 → am_J Γ M Q d k n tgt L st I Lg R G) (h2 : 0 ≤ x.toInt → am_J Γ M Q d k n (pc + 3) L st I Lg R G) : am_J Γ M Q d k n pc L (vI x :: st) I Lg R G :=
  am_J.br (fun ρ p e Rm s m args below meth c H locs cells slots Z ls C k1 k2 => lv_if_lt C.1 C.2.1 hd ht (fun q => k1 (by have := q; simp only [Int32.lt_iff_toInt_lt, Int32.le_iff_toInt_le, ← Int32.toInt_inj, Int32.toInt_zero] at this; omega)) (fun q => k2 (by have := q; simp only [Int32.lt_iff_toInt_lt, Int32.le_iff_toInt_le, ← Int32.toInt_inj, Int32.toInt_zero] at this; omega))) (fun b => b.tl) h1 h2
theorem ar_ic_lt {x y : Int32} {off : Int} {tgt : Nat} (hd : decode M.2.2.1 pc = .ok (.if_icmp .lt off, 3)) (ht : (pc : Int) + off = (tgt : Int)) (h1 : x.toInt < y.toInt → am_J Γ M Q d k n tgt L st I Lg R G) (h2 : y.toInt ≤ x.toInt → am_J Γ M Q d k n (pc + 3) L st I Lg R G) : am_J Γ M Q d k n pc L (vI y :: vI x :: st) I Lg R G :=
  am_J.br (fun ρ p e Rm s m args below meth c H locs cells slots Z ls C k1 k2 => lv_icmp_lt C.1 C.2.1 hd ht (fun q => k1 (by have := q; simp only [Int32.lt_iff_toInt_lt, Int32.le_iff_toInt_le, ← Int32.toInt_inj] at this; omega)) (fun q => k2 (by have := q; simp only [Int32.lt_iff_toInt_lt, Int32.le_iff_toInt_le, ← Int32.toInt_inj] at this; omega))) (fun b => b.tl.tl) h1 h2
theorem ar_if_ge {x : Int32} {off : Int} {tgt : Nat} (hd : decode M.2.2.1 pc = .ok (.ifCond .ge off, 3)) (ht : (pc : Int) + off = (tgt : Int)) (h1 : 0 ≤ x.toInt → am_J Γ M Q d k n tgt L st I Lg R G) (h2 : x.toInt < 0 → am_J Γ M Q d k n (pc + 3) L st I Lg R G) : am_J Γ M Q d k n pc L (vI x :: st) I Lg R G :=
  am_J.br (fun ρ p e Rm s m args below meth c H locs cells slots Z ls C k1 k2 => lv_if_ge C.1 C.2.1 hd ht (fun q => k1 (by have := q; simp only [Int32.lt_iff_toInt_lt, Int32.le_iff_toInt_le, ← Int32.toInt_inj, Int32.toInt_zero] at this; omega)) (fun q => k2 (by have := q; simp only [Int32.lt_iff_toInt_lt, Int32.le_iff_toInt_le, ← Int32.toInt_inj, Int32.toInt_zero] at this; omega))) (fun b => b.tl) h1 h2
theorem ar_ic_ge {x y : Int32} {off : Int} {tgt : Nat} (hd : decode M.2.2.1 pc = .ok (.if_icmp .ge off, 3)) (ht : (pc : Int) + off = (tgt : Int)) (h1 : y.toInt ≤ x.toInt → am_J Γ M Q d k n tgt L st I Lg R G) (h2 : x.toInt < y.toInt → am_J Γ M Q d k n (pc + 3) L st I Lg R G) : am_J Γ M Q d k n pc L (vI y :: vI x :: st) I Lg R G :=
  am_J.br (fun ρ p e Rm s m args below meth c H locs cells slots Z ls C k1 k2 => lv_icmp_ge C.1 C.2.1 hd ht (fun q => k1 (by have := q; simp only [Int32.lt_iff_toInt_lt, Int32.le_iff_toInt_le, ← Int32.toInt_inj] at this; omega)) (fun q => k2 (by have := q; simp only [Int32.lt_iff_toInt_lt, Int32.le_iff_toInt_le, ← Int32.toInt_inj] at this; omega))) (fun b => b.tl.tl) h1 h2
theorem ar_if_gt {x : Int32} {off : Int} {tgt : Nat} (hd : decode M.2.2.1 pc = .ok (.ifCond .gt off, 3)) (ht : (pc : Int) + off = (tgt : Int)) (h1 : 0 < x.toInt → am_J Γ M Q d k n tgt L st I Lg R G) (h2 : x.toInt ≤ 0 → am_J Γ M Q d k n (pc + 3) L st I Lg R G) : am_J Γ M Q d k n pc L (vI x :: st) I Lg R G :=
  am_J.br (fun ρ p e Rm s m args below meth c H locs cells slots Z ls C k1 k2 => lv_if_gt C.1 C.2.1 hd ht (fun q => k1 (by have := q; simp only [Int32.lt_iff_toInt_lt, Int32.le_iff_toInt_le, ← Int32.toInt_inj, Int32.toInt_zero] at this; omega)) (fun q => k2 (by have := q; simp only [Int32.lt_iff_toInt_lt, Int32.le_iff_toInt_le, ← Int32.toInt_inj, Int32.toInt_zero] at this; omega))) (fun b => b.tl) h1 h2
theorem ar_ic_gt {x y : Int32} {off : Int} {tgt : Nat} (hd : decode M.2.2.1 pc = .ok (.if_icmp .gt off, 3)) (ht : (pc : Int) + off = (tgt : Int)) (h1 : y.toInt < x.toInt → am_J Γ M Q d k n tgt L st I Lg R G) (h2 : x.toInt ≤ y.toInt → am_J Γ M Q d k n (pc + 3) L st I Lg R G) : am_J Γ M Q d k n pc L (vI y :: vI x :: st) I Lg R G :=
  am_J.br (fun ρ p e Rm s m args below meth c H locs cells slots Z ls C k1 k2 => lv_icmp_gt C.1 C.2.1 hd ht (fun q => k1 (by have := q; simp only [Int32.lt_iff_toInt_lt, Int32.le_iff_toInt_le, ← Int32.toInt_inj] at this; omega)) (fun q => k2 (by have := q; simp only [Int32.lt_iff_toInt_lt, Int32.le_iff_toInt_le, ← Int32.toInt_inj] at this; omega))) (fun b => b.tl.tl) h1 h2
theorem ar_if_le {x : Int32} {off : Int} {tgt : Nat} (hd : decode M.2.2.1 pc = .ok (.ifCond .le off, 3)) (ht : (pc : Int) + off = (tgt : Int)) (h1 : x.toInt ≤ 0 → am_J Γ M Q d k n tgt L st I Lg R G) (h2 : 0 < x.toInt → am_J Γ M Q d k n (pc + 3) L st I Lg R G) : am_J Γ M Q d k n pc L (vI x :: st) I Lg R G :=
  am_J.br (fun ρ p e Rm s m args below meth c H locs cells slots Z ls C k1 k2 => lv_if_le C.1 C.2.1 hd ht (fun q => k1 (by have := q; simp only [Int32.lt_iff_toInt_lt, Int32.le_iff_toInt_le, ← Int32.toInt_inj, Int32.toInt_zero] at this; omega)) (fun q => k2 (by have := q; simp only [Int32.lt_iff_toInt_lt, Int32.le_iff_toInt_le, ← Int32.toInt_inj, Int32.toInt_zero] at this; omega))) (fun b => b.tl) h1 h2
theorem ar_ic_le {x y : Int32} {off : Int} {tgt : Nat} (hd : decode M.2.2.1 pc = .ok (.if_icmp .le off, 3)) (ht : (pc : Int) + off = (tgt : Int)) (h1 : x.toInt ≤ y.toInt → am_J Γ M Q d k n tgt L st I Lg R G) (h2 : y.toInt < x.toInt → am_J Γ M Q d k n (pc + 3) L st I Lg R G) : am_J Γ M Q d k n pc L (vI y :: vI x :: st) I Lg R G :=
  am_J.br (fun ρ p e Rm s m args below meth c H locs cells slots Z ls C k1 k2 => lv_icmp_le C.1 C.2.1 hd ht (fun q => k1 (by have := q; simp only [Int32.lt_iff_toInt_lt, Int32.le_iff_toInt_le, ← Int32.toInt_inj] at this; omega)) (fun q => k2 (by have := q; simp only [Int32.lt_iff_toInt_lt, Int32.le_iff_toInt_le, ← Int32.toInt_inj] at this; omega))) (fun b => b.tl.tl) h1 h2
theorem ar_goto {off : Int} {tgt : Nat} (hd : decode M.2.2.1 pc = .ok (.goto off, 3)) (ht : (pc : Int) + off = (tgt : Int)) (h : am_J Γ M Q d k n tgt L st I Lg R G) : am_J Γ M Q d k n pc L st I Lg R G :=
  am_J.step (fun ρ p e Rm s m args below meth c H locs cells slots Z ls C hl kk => lv_goto C.1 C.2.1 hd ht (kk ls hl)) (fun a b => ⟨a, b⟩) h
theorem ar_null (hd : decode M.2.2.1 pc = .ok (.aconst_null, 1)) (h : am_J Γ M Q d k n (pc + 1) L (vN :: st) I Lg R G) : am_J Γ M Q d k n pc L st I Lg R G :=
  am_J.step (fun ρ p e Rm s m args below meth c H locs cells slots Z ls C hl kk => lv_null C.1 C.2.1 hd (kk ls hl)) (fun a b => ⟨a, am_okS.cons (v := vN) trivial b⟩) h
theorem ar_ifnull {a b : Nat} {off : Int} (hd : decode M.2.2.1 pc = .ok (.ifnull off, 3)) (h : am_J Γ M Q d k n (pc + 3) L st I Lg R G) : am_J Γ M Q d k n pc L (vR a b :: st) I Lg R G :=
  am_J.step (fun ρ p e Rm s m args below meth c H locs cells slots Z ls C hl kk => lv_ifnull C.1 C.2.1 hd (kk ls hl)) (fun a b => ⟨a, b.tl⟩) h
theorem ar_ifnullN {off : Int} {tgt : Nat} (hd : decode M.2.2.1 pc = .ok (.ifnull off, 3)) (ht : (pc : Int) + off = (tgt : Int)) (h : am_J Γ M Q d k n tgt L st I Lg R G) : am_J Γ M Q d k n pc L (vN :: st) I Lg R G :=
  am_J.step (fun ρ p e Rm s m args below meth c H locs cells slots Z ls C hl kk => lv_ifnullN C.1 C.2.1 hd ht (kk ls hl)) (fun a b => ⟨a, b.tl⟩) h
theorem ar_ifnonnull {a b : Nat} {off : Int} {tgt : Nat} (hd : decode M.2.2.1 pc = .ok (.ifnonnull off, 3)) (ht : (pc : Int) + off = (tgt : Int)) (h : am_J Γ M Q d k n tgt L st I Lg R G) : am_J Γ M Q d k n pc L (vR a b :: st) I Lg R G :=
  am_J.step (fun ρ p e Rm s m args below meth c H locs cells slots Z ls C hl kk => lv_ifnonnull C.1 C.2.1 hd ht (kk ls hl)) (fun a b => ⟨a, b.tl⟩) h
theorem ar_ifnonnullN {off : Int} (hd : decode M.2.2.1 pc = .ok (.ifnonnull off, 3)) (h : am_J Γ M Q d k n (pc + 3) L st I Lg R G) : am_J Γ M Q d k n pc L (vN :: st) I Lg R G :=
  am_J.step (fun ρ p e Rm s m args below meth c H locs cells slots Z ls C hl kk => lv_ifnonnullN C.1 C.2.1 hd (kk ls hl)) (fun a b => ⟨a, b.tl⟩) h
theorem ar_dup {v : AV} (hc : ∀ ρ, (am_con ρ v).category = 1) (hd : decode M.2.2.1 pc = .ok (.dup, 1)) (h : am_J Γ M Q d k n (pc + 1) L (v :: v :: st) I Lg R G) : am_J Γ M Q d k n pc L (v :: st) I Lg R G :=
  am_J.step (fun ρ p e Rm s m args below meth c H locs cells slots Z ls C hl kk => lv_dup C.1 C.2.1 hd (hc ρ) (kk ls hl)) (fun a b => ⟨a, am_okS.cons b.hd b⟩) h
theorem ar_dup2 {v w : AV} (hc : ∀ ρ, (am_con ρ v).category = 1) (hw : ∀ ρ, (am_con ρ w).category = 1) (hd : decode M.2.2.1 pc = .ok (.dup2, 1)) (h : am_J Γ M Q d k n (pc + 1) L (v :: w :: v :: w :: st) I Lg R G) : am_J Γ M Q d k n pc L (v :: w :: st) I Lg R G :=
  am_J.step (fun ρ p e Rm s m args below meth c H locs cells slots Z ls C hl kk => lv_dup2_11 C.1 C.2.1 hd (hc ρ) (hw ρ) (kk ls hl)) (fun a b => ⟨a, am_okS.cons b.hd (am_okS.cons b.tl.hd b)⟩) h
theorem ar_pop {v : AV} (hc : ∀ ρ, (am_con ρ v).category = 1) (hd : decode M.2.2.1 pc = .ok (.pop, 1)) (h : am_J Γ M Q d k n (pc + 1) L st I Lg R G) : am_J Γ M Q d k n pc L (v :: st) I Lg R G :=
  am_J.step (fun ρ p e Rm s m args below meth c H locs cells slots Z ls C hl kk => lv_pop C.1 C.2.1 hd (hc ρ) (kk ls hl)) (fun a b => ⟨a, b.tl⟩) h
end AMR
end
section
/-! The world: what a cell says is unchanged when none of its variables is; a cell is written. -/
theorem am_chk0 {c x n : Nat} {z : Nat × Nat} (h : am_ck c = (0, x, n, z)) (hc : c < am_NC) : x = c ∧ c < 13 ∧ (∃ r : vw_C, vwCl[c]? = some r ∧ r.2.2 = n) ∧ ∀ k, k < n → match am_slot c k with
    | (0, v, _) => am_oI v = (c, k)
    | (1, v, _) => am_oI v = (c, k)
    | (2, v, _) => am_oL v = (c, k)
    | (3, t, _, _) => t < am_NC
    | (4, v, t, _) => am_oR v = (c, k) ∧ t < am_NC
    | _ => False := by
  have h1 := am_chkT_ok c hc
  unfold am_chkT at h1
  rw [h] at h1
  simp only [Bool.and_eq_true, beq_iff_eq, List.all_eq_true, List.mem_range] at h1
  obtain ⟨e, h2, h3, h4⟩ := h1
  subst e
  refine ⟨rfl, Nat.blt_eq.mp h2, ?_, fun k hk => ?_⟩
  · cases hr : vwCl[x]? with
    | none => rw [hr] at h3; cases h3
    | some r => rw [hr] at h3; exact ⟨r, rfl, by simpa using h3⟩
  · have h5 := h4 k hk
    generalize am_slot x k = sl at h5
    obtain ⟨a, v, t, b⟩ := sl
    match a, h5 with
    | 0, h5 => simpa using h5
    | 1, h5 => simpa using h5
    | 2, h5 => simpa using h5
    | 3, h5 => simpa using h5
    | 4, h5 => simpa using h5
/-- two states that agree on the variables of a cell: the cell is the same -/
theorem am_ref_congr {R R' : RR} {G G' : GG} {c i : Nat} (hc : c < am_NC) (hR : ∀ v, (am_oR v).1 = c → R' v i = R v i) (hG : G'.1 c i = G.1 c i) (k : Nat) (hk : ∀ n z x, am_ck c = (0, x, n, z) → k < n) : am_ref R' G' c i k = am_ref R G c i k := by
  unfold am_ref
  rcases hck : am_ck c with ⟨a, x, n, y, t⟩
  match a, hck with
  | 0, hck =>
    obtain ⟨e, -, -, hs⟩ := am_chk0 hck hc
    subst e
    have hkn := hk n _ _ hck
    have h1 := hs k hkn
    rcases hsl : am_slot x k with ⟨a, v, t, b⟩
    rw [hsl] at h1
    match a, h1, hsl with
    | 0, _, _ => rfl
    | 1, _, _ => rfl
    | 2, _, _ => rfl
    | 3, _, _ => simp only [hG]
    | 4, h1, _ =>
      have h2 : (am_oR v).1 = x := by rw [h1.1]
      simp only [hR v h2]
    | _ + 5, h1, _ => exact h1.elim
  | 1, _ => rfl
  | 2, _ => rfl
  | 3, _ => rfl
  | 4, _ => simp only [hG]
  | 5, hck =>
    have h1 := am_chkT_ok c hc
    unfold am_chkT at h1
    rw [hck] at h1
    simp only [Bool.and_eq_true, beq_iff_eq] at h1
    simp only [hR n (by rw [h1.1])]
  | _ + 6, _ => rfl
theorem am_E_congr {Γ : AMG} {ρ : Nat → Nat → Nat} {I I' : II} {Lg Lg' : LJ} {R R' : RR} {G G' : GG} {c i : Nat} (hc : c < am_NC) (hI : ∀ v, (am_oI v).1 = c → I' v i = I v i) (hL : ∀ v, (am_oL v).1 = c → Lg' v i = Lg v i) (hR : ∀ v, (am_oR v).1 = c → R' v i = R v i) (hG : G'.1 c i = G.1 c i) : am_E Γ ρ I' Lg' R' G' c i = am_E Γ ρ I Lg R G c i := by
  have hrf := am_ref_congr (R := R) (R' := R') (G := G) (G' := G') hc hR hG
  unfold am_E
  rcases hck : am_ck c with ⟨a, x, n, y, t⟩
  match a, hck with
  | 0, hck =>
    obtain ⟨e, -, -, hs⟩ := am_chk0 hck hc
    subst e
    show Sum.inr (x, (List.range n).map (am_val ρ I' Lg' R' G' x i)) = Sum.inr (x, (List.range n).map (am_val ρ I Lg R G x i))
    congr 2
    apply List.map_congr_left
    intro k hk
    have hkn := List.mem_range.mp hk
    have h1 := hs k hkn
    have h9 := hrf k (fun n' z' x' q => by rw [hck] at q; cases q; exact hkn)
    unfold am_val
    rcases hsl : am_slot x k with ⟨a, v, t, b⟩
    rw [hsl] at h1
    match a, h1 with
    | 0, h1 =>
      have h2 : (am_oI v).1 = x := by rw [show am_oI v = (x, k) from h1]
      simp only [hI v h2]
    | 1, h1 =>
      have h2 : (am_oI v).1 = x := by rw [show am_oI v = (x, k) from h1]
      simp only [hI v h2]
    | 2, h1 =>
      have h2 : (am_oL v).1 = x := by rw [show am_oL v = (x, k) from h1]
      simp only [hL v h2]
    | 3, _ => simp only [h9]
    | 4, _ => simp only [h9]
    | _ + 5, h1 => exact h1.elim
  | 1, hck =>
    have h1 := am_chkT_ok c hc
    unfold am_chkT at h1
    rw [hck] at h1
    simp only [Bool.and_eq_true, beq_iff_eq] at h1
    simp only [hI n (by rw [h1.1])]
  | 2, hck =>
    have h1 := am_chkT_ok c hc
    unfold am_chkT at h1
    rw [hck] at h1
    simp only [Bool.and_eq_true, beq_iff_eq] at h1
    simp only [hI n (by rw [h1.1])]
  | 3, hck =>
    have h1 := am_chkT_ok c hc
    unfold am_chkT at h1
    rw [hck] at h1
    simp only [Bool.and_eq_true, beq_iff_eq] at h1
    simp only [hL n (by rw [h1.1])]
  | 4, hck =>
    have hf : (fun k => (am_ref R' G' c i k).map (fun p => ρ p.1 p.2)) = (fun k => (am_ref R G c i k).map (fun p => ρ p.1 p.2)) := funext fun k => by rw [hrf k (fun n' z' x' q => by rw [hck] at q; cases q)]
    simp only [hf]
  | 5, hck =>
    have hf : (fun k => (am_ref R' G' c i k).map (fun p => ρ p.1 p.2)) = (fun k => (am_ref R G c i k).map (fun p => ρ p.1 p.2)) := funext fun k => by rw [hrf k (fun n' z' x' q => by rw [hck] at q; cases q)]
    simp only [hf]
  | 6, hck =>
    have h1 := am_chkT_ok c hc
    unfold am_chkT at h1
    rw [hck] at h1
    cases h1
  | _ + 7, hck =>
    have h1 := am_chkT_ok c hc
    unfold am_chkT at h1
    rw [hck] at h1
    cases h1
theorem am_nth_out {α : Type} (d : α) : ∀ (l : List α) (n : Nat), l.length ≤ n → am_nth d l n = d
  | [], _, _ => rfl
  | _ :: xs, 0, h => absurd h (by simp)
  | _ :: xs, n + 1, h => am_nth_out d xs n (by simpa using h)
/-- rows of sixteen, the last one shorter: beyond the end nothing stands -/
def am_rowsOk {α : Type} (n : Nat) : List (List α) → Bool
  | [] => n == 0
  | [r] => r.length == n && Nat.ble n 16
  | r :: rs => r.length == 16 && (Nat.ble 16 n && am_rowsOk (n - 16) rs)
theorem am_lk_out {α : Type} (d : α) : ∀ (rows : List (List α)) (n k : Nat), am_rowsOk n rows = true → n ≤ k → am_lk d rows k = d
  | [], n, k, _, _ => by simp [am_lk, am_nth]
  | [r], n, k, h, hk => by
    simp only [am_rowsOk, Bool.and_eq_true, beq_iff_eq] at h
    have h2 := Nat.le_of_ble_eq_true h.2
    unfold am_lk
    by_cases h16 : k < 16
    · rw [show k / 16 = 0 by omega, show k % 16 = k by omega]
      exact am_nth_out d r k (by omega)
    · obtain ⟨q, hq⟩ : ∃ q, k / 16 = q + 1 := ⟨k / 16 - 1, by omega⟩
      rw [hq]
      rfl
  | r :: r2 :: rs, n, k, h, hk => by
    have h0 : r.length = 16 ∧ 16 ≤ n ∧ am_rowsOk (n - 16) (r2 :: rs) = true := by
      simp only [am_rowsOk, Bool.and_eq_true, beq_iff_eq] at h
      exact ⟨h.1, Nat.le_of_ble_eq_true h.2.1, h.2.2⟩
    have ih := am_lk_out d (r2 :: rs) (n - 16) (k - 16) h0.2.2 (by omega)
    unfold am_lk at ih ⊢
    obtain ⟨q, hq⟩ : ∃ q, k / 16 = q + 1 := ⟨k / 16 - 1, by omega⟩
    rw [show (k - 16) / 16 = q by omega, show (k - 16) % 16 = k % 16 by omega] at ih
    rw [hq]
    exact ih
theorem am_slot_ok : ∀ c, c < 13 → am_rowsOk (am_ck c).2.2.1 (am_nth [] am_slT c) = true := by decide +kernel
theorem am_slot_out {c k x n : Nat} {z : Nat × Nat} (hck : am_ck c = (0, x, n, z)) (hc : c < 13) (hk : n ≤ k) : am_slot c k = (9, 0, 0, 0) := by
  have h := am_slot_ok c hc
  rw [hck] at h
  exact am_lk_out _ _ _ _ h hk
/-- the world behind a write into the cell (c, i) -/
theorem am_Wd.upd {Γ : AMG} {ρ : Nat → Nat → Nat} {I I' : II} {Lg Lg' : LJ} {R R' : RR} {G G' : GG} {H H1 : Heap} {c i : Nat} (hW : am_Wd Γ ρ I Lg R G H) (hc : c < am_NC) (hi : i < G.2 c) (hz : H1.size = H.size) (hq : ∀ q, q ≠ ρ c i → H1[q]? = H[q]?) (hat : va_at Γ.D vwCl (ρ c i, am_E Γ ρ I' Lg' R' G' c i) H1)
    (hI : ∀ v i', ¬ ((am_oI v).1 = c ∧ i' = i) → I' v i' = I v i') (hL : ∀ v i', ¬ ((am_oL v).1 = c ∧ i' = i) → Lg' v i' = Lg v i') (hR : ∀ v i', ¬ ((am_oR v).1 = c ∧ i' = i) → R' v i' = R v i') (hG : ∀ c' i', ¬ (c' = c ∧ i' = i) → G'.1 c' i' = G.1 c' i') (hG2 : G'.2 = G.2)
    (hcl : ∀ k c' i', (∀ n z x, am_ck c = (0, x, n, z) → k < n) → am_ref R' G' c i k = some (c', i') → c' < am_NC ∧ i' < G.2 c') : am_Wd Γ ρ I' Lg' R' G' H1 := by
  obtain ⟨w1, w2, w3, w4, w5, w6, w7, w8, w9⟩ := hW
  have hother : ∀ c' i', ¬ (c' = c ∧ i' = i) → c' < am_NC → am_E Γ ρ I' Lg' R' G' c' i' = am_E Γ ρ I Lg R G c' i' := fun c' i' hne hc' =>
    am_E_congr hc' (fun v hv => hI v i' (fun q => hne ⟨hv.symm.trans q.1, q.2⟩)) (fun v hv => hL v i' (fun q => hne ⟨hv.symm.trans q.1, q.2⟩)) (fun v hv => hR v i' (fun q => hne ⟨hv.symm.trans q.1, q.2⟩)) (hG c' i' hne)
  refine ⟨fun c' i' hc' hi' => ?_, by rw [hG2]; exact w2, by rw [hG2]; exact w3, w4, w5, by rw [hz]; exact w6, fun q hlt => ?_, fun c' i' k c2 i2 hc' hi' hr => ?_, fun c' i' hc' hi' hop => ?_⟩
  · rw [hG2] at hi'
    by_cases e : c' = c ∧ i' = i
    · obtain ⟨rfl, rfl⟩ := e
      exact hat
    · rw [hother c' i' e hc']
      exact (w1 c' i' hc' hi').kept (hq _ (fun z => e (w2 c' i' c i hc' hc hi' hi z)))
  · rw [hq q (fun z => by have := w3 c i hc hi; omega)]
    exact w7 q hlt
  · rw [hG2] at hi' ⊢
    have hk9 : ∀ n z x, am_ck c' = (0, x, n, z) → k < n := by
      intro n z x hck
      unfold am_ref at hr
      rw [hck] at hr
      obtain ⟨e, hlt, ⟨r, hr1, hr2⟩, hs⟩ := am_chk0 hck hc'
      subst e
      apply Decidable.byContradiction
      intro hkn
      have hb : am_slot x k = (9, 0, 0, 0) := am_slot_out hck hlt (Nat.not_lt.mp hkn)
      rw [hb] at hr
      cases hr
    by_cases e : c' = c ∧ i' = i
    · obtain ⟨rfl, rfl⟩ := e
      exact hcl k c2 i2 hk9 hr
    · rw [am_ref_congr hc' (fun v hv => hR v i' (fun q => e ⟨hv.symm.trans q.1, q.2⟩)) (hG c' i' e) k hk9] at hr
      exact w8 c' i' k c2 i2 hc' hi' hr
  · rw [hG2] at hi'
    have hne : ¬ (c' = c ∧ i' = i) := fun q => by obtain ⟨rfl, rfl⟩ := q; omega
    rw [hG 1000 c' (fun q => by have h1 : c < am_NC := hc; unfold am_NC at h1; omega)] at hop
    obtain ⟨z1, z2, z3, z4⟩ := w9 c' i' hc' hi' hop
    exact ⟨fun v j hv => by rw [hI v i' (fun q => hne ⟨hv.symm.trans q.1, q.2⟩)]; exact z1 v j hv, fun v j hv => by rw [hL v i' (fun q => hne ⟨hv.symm.trans q.1, q.2⟩)]; exact z2 v j hv, fun v j hv => by rw [hR v i' (fun q => hne ⟨hv.symm.trans q.1, q.2⟩)]; exact z3 v j hv, fun k => by rw [hG c' i' hne]; exact z4 k⟩
end
section
/-! Fields: read and written. -/
def am_tyC : List (Nat → FieldType) := [tyX0, tyX1, tyX2, tyX3, tyX4, tyX5, tyX6, tyX7, tyX8, tyX9, tyX10, tyX11, tyX12]
def am_ty (c k : Nat) : FieldType := am_nth (fun _ => .int) am_tyC c k
theorem am_inp {big ws : List Cond} (ps : List Nat) (hp : ws = ps.filterMap (fun i => big[i]?)) (hg : ws.all goodWord = true) : ∀ w ∈ ws, w ∈ big.filter goodWord := by
  intro w hw
  have h1 := List.all_eq_true.mp hg w hw
  rw [hp] at hw
  obtain ⟨i, -, hi⟩ := List.mem_filterMap.mp hw
  exact List.mem_filter.mpr ⟨List.mem_of_getElem? hi, h1⟩
theorem am_wsin0 : ∀ w ∈ wsX00, w ∈ am_BIG := am_inp [374, 376, 378, 380, 382, 384] (by decide +kernel) (by decide +kernel)
theorem am_wsin1 : ∀ w ∈ wsX10, w ∈ am_BIG := am_inp [624, 626, 628, 630, 632] (by decide +kernel) (by decide +kernel)
theorem am_wsin2 : ∀ w ∈ wsX20, w ∈ am_BIG := am_inp [492, 494, 496, 498, 500, 502, 504, 506, 508, 510, 512, 514, 516, 518] (by decide +kernel) (by decide +kernel)
theorem am_wsin3 : ∀ w ∈ wsX30, w ∈ am_BIG := am_inp [236, 238, 240, 242, 244, 246, 248, 250, 252, 254, 256, 258, 260, 262, 264, 266] (by decide +kernel) (by decide +kernel)
theorem am_wsin4 : ∀ w ∈ wsX40, w ∈ am_BIG := am_inp [397, 399, 401, 403, 405, 407, 409, 411] (by decide +kernel) (by decide +kernel)
theorem am_wsin5 : ∀ w ∈ wsX50, w ∈ am_BIG := am_inp [193, 195, 197, 199, 201] (by decide +kernel) (by decide +kernel)
theorem am_wsin6 : ∀ w ∈ wsX60, w ∈ am_BIG := am_inp [442, 444, 446, 448, 450, 452, 454, 456, 458, 460, 462, 464, 466] (by decide +kernel) (by decide +kernel)
theorem am_wsin7 : ∀ w ∈ wsX70, w ∈ am_BIG := am_inp [532, 534, 536, 538] (by decide +kernel) (by decide +kernel)
theorem am_wsin8 : ∀ w ∈ wsX80, w ∈ am_BIG := am_inp [292, 294, 296, 298, 300] (by decide +kernel) (by decide +kernel)
theorem am_wsin9 : ∀ w ∈ wsX90, w ∈ am_BIG := am_inp [319, 321, 323, 325, 327, 329, 331, 333, 335, 337, 339, 341] (by decide +kernel) (by decide +kernel)
theorem am_wsin10 : ∀ w ∈ wsX100, w ∈ am_BIG := am_inp [156, 158, 160, 162, 164, 166, 168, 170, 172] (by decide +kernel) (by decide +kernel)
theorem am_wsin11 : ∀ w ∈ wsX110, w ∈ am_BIG := am_inp [553, 555, 557, 559, 561, 563, 565, 567, 569, 571, 573, 575] (by decide +kernel) (by decide +kernel)
theorem am_wsin12 : ∀ w ∈ wsX120, w ∈ am_BIG := am_inp [1421, 1423, 1425, 1427, 1429, 1431, 1433, 1435, 1437, 1439, 1441, 1443, 1445, 1447, 1449, 1451, 1453, 1455, 1457, 1459, 1461, 1463, 1465, 1467, 1469, 1471, 1473, 1475, 1477, 1479, 1481, 1483, 1485, 1487, 1489, 1491, 1493, 1495, 1497, 1499, 1501, 1503, 1505, 1507, 1509, 1511, 1513, 1515, 1517, 1519, 1521, 1523, 1525, 1527, 1529, 1531, 1533, 1535, 1537, 1539, 1541, 1543, 1545, 1547, 1549, 1551, 1553, 1555, 1557, 1559, 1561, 1563, 1565, 1567, 1569, 1571, 1573, 1575, 1577, 1579, 1581, 1583, 1585, 1587, 1589, 1591, 1593, 1595, 1597] (by decide +kernel) (by decide +kernel)
theorem am_wsin : ∀ (c : Nat) (r : vw_C), vwCl[c]? = some r → ∀ w ∈ u_ws r.1 r.2.1 r.2.2, w ∈ am_BIG
  | 0, _, h => by cases h; exact am_wsin0
  | 1, _, h => by cases h; exact am_wsin1
  | 2, _, h => by cases h; exact am_wsin2
  | 3, _, h => by cases h; exact am_wsin3
  | 4, _, h => by cases h; exact am_wsin4
  | 5, _, h => by cases h; exact am_wsin5
  | 6, _, h => by cases h; exact am_wsin6
  | 7, _, h => by cases h; exact am_wsin7
  | 8, _, h => by cases h; exact am_wsin8
  | 9, _, h => by cases h; exact am_wsin9
  | 10, _, h => by cases h; exact am_wsin10
  | 11, _, h => by cases h; exact am_wsin11
  | 12, _, h => by cases h; exact am_wsin12
  | _ + 13, _, h => by cases h
theorem am_fld : ∀ (c : Nat) (r : vw_C), vwCl[c]? = some r → (∀ k, k < r.2.2 → parseFieldDescriptor (r.2.1 k).2.2.1 = some (am_ty c k)) ∧ (∀ a, a < r.2.2 → ∀ b, b < r.2.2 → a ≠ b → (r.2.1 a).2.1 ≠ (r.2.1 b).2.1)
  | 0, _, h => by cases h; exact ⟨tyX0_ok, nmX0⟩
  | 1, _, h => by cases h; exact ⟨tyX1_ok, nmX1⟩
  | 2, _, h => by cases h; exact ⟨tyX2_ok, nmX2⟩
  | 3, _, h => by cases h; exact ⟨tyX3_ok, nmX3⟩
  | 4, _, h => by cases h; exact ⟨tyX4_ok, nmX4⟩
  | 5, _, h => by cases h; exact ⟨tyX5_ok, nmX5⟩
  | 6, _, h => by cases h; exact ⟨tyX6_ok, nmX6⟩
  | 7, _, h => by cases h; exact ⟨tyX7_ok, nmX7⟩
  | 8, _, h => by cases h; exact ⟨tyX8_ok, nmX8⟩
  | 9, _, h => by cases h; exact ⟨tyX9_ok, nmX9⟩
  | 10, _, h => by cases h; exact ⟨tyX10_ok, nmX10⟩
  | 11, _, h => by cases h; exact ⟨tyX11_ok, nmX11⟩
  | 12, _, h => by cases h; exact ⟨tyX12_ok, nmX12⟩
  | _ + 13, _, h => by cases h
/-- a slot's tag and its type -/
def am_tagOk (c k : Nat) : Bool := match am_slot c k, am_ty c k with
  | (0, _), .int => true
  | (1, _), .boolean => true
  | (2, _), .long => true
  | (3, _), .object _ => true
  | (3, _), .array _ => true
  | (4, _), .object _ => true
  | _, _ => false
theorem am_tagOk_all : ∀ c, c < 13 → ∀ k, k < (am_ck c).2.2.1 → am_tagOk c k = true := by
  have h : (List.range 13).all (fun c => (List.range (am_ck c).2.2.1).all (am_tagOk c)) = true := by decide +kernel
  exact fun c hc k hk => List.all_eq_true.mp (List.all_eq_true.mp h c (List.mem_range.mpr hc)) k (List.mem_range.mpr hk)
theorem am_ckN : ∀ (c : Nat) (r : vw_C), vwCl[c]? = some r → am_ck c = (0, c, r.2.2, 0, 0) ∧ c < 13
  | 0, _, h => by cases h; exact ⟨rfl, by decide⟩
  | 1, _, h => by cases h; exact ⟨rfl, by decide⟩
  | 2, _, h => by cases h; exact ⟨rfl, by decide⟩
  | 3, _, h => by cases h; exact ⟨rfl, by decide⟩
  | 4, _, h => by cases h; exact ⟨rfl, by decide⟩
  | 5, _, h => by cases h; exact ⟨rfl, by decide⟩
  | 6, _, h => by cases h; exact ⟨rfl, by decide⟩
  | 7, _, h => by cases h; exact ⟨rfl, by decide⟩
  | 8, _, h => by cases h; exact ⟨rfl, by decide⟩
  | 9, _, h => by cases h; exact ⟨rfl, by decide⟩
  | 10, _, h => by cases h; exact ⟨rfl, by decide⟩
  | 11, _, h => by cases h; exact ⟨rfl, by decide⟩
  | 12, _, h => by cases h; exact ⟨rfl, by decide⟩
  | _ + 13, _, h => by cases h
theorem am_lt13 {c : Nat} (h : c < 13) : c < am_NC := Nat.lt_of_lt_of_le h (by decide)
/-- an object's cell -/
theorem am_Wd.obj {Γ : AMG} {ρ : Nat → Nat → Nat} {I : II} {Lg : LJ} {R : RR} {G : GG} {H : Heap} {c i : Nat} (hW : am_Wd Γ ρ I Lg R G H) {r : vw_C} (hr : vwCl[c]? = some r) (hi : i < G.2 c) : va_at Γ.D vwCl (ρ c i, .inr (c, (List.range r.2.2).map (am_val ρ I Lg R G c i))) H := by
  obtain ⟨hck, hc⟩ := am_ckN c r hr
  have h := hW.1 c i (am_lt13 hc) hi
  unfold am_E at h
  rw [hck] at h
  exact h
section AMW
variable {Γ : AMG} {M : MD} {ρ : Nat → Nat → Nat} {p : Program} {e : Env} {Rm : Room} {s : State} {m : MethodId} {args : Array Value} {below : List Frame} {meth : Method} {c0 : Code} {H : Heap} {locs : List Loc} {cells slots : Nat} {Z : State → Prop}
variable {I : II} {Lg : LJ} {R : RR} {G : GG} {pc : Nat} {ls : Array Slot} {rest : List Value}
theorem am_getW (C : am_Cx Γ M p s m args meth c0) (hW : am_Wd Γ ρ I Lg R G H) {c i k idx : Nat} {r : vw_C} (hr : vwCl[c]? = some r) (hi : i < G.2 c) (hk : k < r.2.2) (hlink : Cond.fieldLink M.1 idx (r.2.1 k).1 (r.2.1 k).2.1 (r.2.1 k).2.2.1 ∈ am_BIG) (hd : decode M.2.2.1 pc = .ok (.getfield idx, 3))
    (kk : W p Γ.l e Rm s m args below meth c0 H locs cells slots Z (F0 m (pc + 3) ls (am_val ρ I Lg R G c i k :: rest))) : W p Γ.l e Rm s m args below meth c0 H locs cells slots Z (F0 m pc ls (.ref (ρ c i) :: rest)) := by
  have hP : va_P Γ.D vwCl [(ρ c i, .inr (c, (List.range r.2.2).map (am_val ρ I Lg R G c i)))] H := by
    intro j q hq
    match j, hq with
    | 0, hq => cases hq; exact hW.obj hr hi
  exact va_get (C := r.1) (T := r.2.1) (N := r.2.2) C.1 C.2.1 C.2.2.2.2.2.2.1 (am_wsin c r hr) C.2.2.2.2.2.1 C.2.2.2.2.2.2.2.2.1.1 hP 0 rfl hr k hk (C.2.2.2.2.2.2.1 _ hlink) (fun _ h => h) (by simp [hk]) hd kk
theorem am_putW (C : am_Cx Γ M p s m args meth c0) (hW : am_Wd Γ ρ I Lg R G H) (hl : ∀ q ∈ locs, Γ.HH.size ≤ q.base) {c i k idx : Nat} {r : vw_C} {v : Value} (hr : vwCl[c]? = some r) (hi : i < G.2 c) (hk : k < r.2.2) (hlink : Cond.fieldLink M.1 idx (r.2.1 k).1 (r.2.1 k).2.1 (r.2.1 k).2.2.1 ∈ am_BIG)
    (hfin : (r.2.1 k).2.2.2 = false ∨ (r.2.1 k).2.2.2 = true ∧ M.2.1.name = "<init>" ∧ (r.2.1 k).1 = M.1) (hn : narrow (am_ty c k) v = v) (hfit : fits (am_ty c k) v = true) (hd : decode M.2.2.1 pc = .ok (.putfield idx, 3))
    (kk : ∀ (H1 : Heap) (locs1 : List Loc), H1.size = H.size → (∀ q, q ≠ ρ c i → H1[q]? = H[q]?) → va_at Γ.D vwCl (ρ c i, .inr (c, ((List.range r.2.2).map (am_val ρ I Lg R G c i)).set k v)) H1 → (∀ q ∈ locs1, Γ.HH.size ≤ q.base) →
      W p Γ.l e Rm s m args below meth c0 H1 locs1 cells slots Z (F0 m (pc + 3) ls rest)) : W p Γ.l e Rm s m args below meth c0 H locs cells slots Z (F0 m pc ls (v :: .ref (ρ c i) :: rest)) := by
  obtain ⟨hx, hb, hml, hret, hlk, hown, hts, hin, ⟨hK, -⟩, -⟩ := C
  obtain ⟨hty, hnm⟩ := am_fld c r hr
  have hap := va_apart (own := M.1) hts (am_wsin c r hr) (am_ty c) hty hnm hK hr
  have hlow := hW.2.2.1 c i (am_lt13 (am_ckN c r hr).2) hi
  have hlen : k < ((List.range r.2.2).map (am_val ρ I Lg R G c i)).length := by simpa using hk
  obtain ⟨r', h1, cell, q1, q2, q3, q4⟩ := hW.obj hr hi
  have hrr : r' = r := Option.some.inj (h1.symm.trans hr)
  subst hrr
  obtain ⟨hS, hfc, kC, hkC, hkind⟩ := hK.1 c _ hr
  obtain ⟨cf, kf, fi, f, hif, hsl⟩ := hS k hk
  have hlay := hts _ (am_wsin c r' hr _ (u_in_lay hk))
  have hst := (u_facts hfc hkC (u_lays hts (am_wsin c r' hr) hk) hif).1
  have hl1 : ∀ q ∈ locs ++ [⟨ρ c i, f.slot⟩], Γ.HH.size ≤ q.base := fun q hq => (List.mem_append.mp hq).elim (hl q) (fun h => by rw [List.mem_singleton.mp h]; exact hlow)
  have fin : ∀ H' : Heap, H'[ρ c i]? = some (cell.setSlot f.slot v) → va_at Γ.D vwCl (ρ c i, .inr (c, ((List.range r'.2.2).map (am_val ρ I Lg R G c i)).set k v)) H' := fun H' e1 => by
    rw [hsl] at e1
    exact ⟨_, hr, t_OB.to (V := updV (vp_V ((List.range r'.2.2).map (am_val ρ I Lg R G c i))) k v) ⟨_, e1, q2, q3, t_set q4 hap hk v⟩ (fun j _ => vp_updV_set hlen v j)⟩
  have hlt : f.slot < cell.slots.size := by rw [hsl]; exact k2_hasslot (q4 k hk)
  unfold u_lay at hlay
  rcases hfin with hf | ⟨hf, hnI, hdecl⟩
  · rw [if_neg (by rw [hf]; decide)] at hlay
    have h6 := u_store hfc hkC hkind hlay hif (hty k hk) hn hfit
    exact W.putK hx hb (f := f) ⟨hown, hts _ hlink, ⟨_, _, _, hif⟩, hst⟩ (by rw [q2]; exact h6) q1 q3 hlt rfl rfl hd fun H' e1 e2 e3 => kk H' _ e2 e3 (fin H' e1) hl1
  · rw [if_pos hf] at hlay
    have hcf : m.cls = cf := by
      obtain ⟨_, _, c', _, _, _, -, -, hf', -, -, -, hown2, -⟩ := Cond.laysFinal_spec hlay
      have e1 : c' = cf := by have := hif.symm.trans hf'; simp at this; exact this.1.symm
      rw [hdecl] at hown2
      rw [← e1]; exact Option.some.inj (hown.symm.trans hown2)
    have h6 := u_fits hfc hkC hkind (Or.inr hlay) hif (hty k hk) hn hfit
    exact W.putFinK hx hb hown (hts _ hlink) hif hst hcf (hin hnI) (by rw [q2]; exact h6) q1 q3 hlt rfl rfl hd fun H' e1 e2 e3 => kk H' _ e2 e3 (fin H' e1) hl1
end AMW
end
section
/-! Rules that read and write cells. -/
theorem am_Ext.of2 {ρ ρ' : Nat → Nat → Nat} {G G1 G' : GG} (h : G1.2 = G.2) (hx : am_Ext ρ G1 ρ' G') : am_Ext ρ G ρ' G' := ⟨fun c => by rw [← h]; exact hx.1 c, fun c i k => hx.2 c i (k.imp (fun z => by rw [h]; exact z) id)⟩
theorem am_okR.of2 {G G1 : GG} {c i : Nat} (h : G1.2 = G.2) (hx : am_okR G c i) : am_okR G1 c i := hx.imp (fun z => by rw [h]; exact z) id
theorem am_ok.of2 {G G1 : GG} {v : AV} (h : G1.2 = G.2) (hx : am_ok G v) : am_ok G1 v := by
  match v, hx with
  | .inl _, _ => trivial
  | .inr (.inl _), _ => trivial
  | .inr (.inr none), _ => trivial
  | .inr (.inr (some (c, i))), hx => exact am_okR.of2 h hx
theorem am_set_map {N k : Nat} {f g : Nat → Value} {v : Value} (h : ∀ j, j < N → g j = if j = k then v else f j) : ((List.range N).map f).set k v = (List.range N).map g := by
  apply List.ext_getElem
  · simp
  · intro j h1 h2
    have hj : j < N := by simpa using h2
    rw [List.getElem_set, List.getElem_map, List.getElem_map, List.getElem_range, h j hj]
    by_cases e : j = k
    · simp [e]
    · simp [e, Ne.symm e]
def am_aV (ρ : Nat → Nat → Nat) (I : II) (Lg : LJ) (R : RR) (G : GG) (c i k : Nat) : Value := match am_ck c with
  | (1, _, v, _) => .int (I v i k)
  | (2, _, v, _) => .int (I v i k)
  | (3, _, v, _) => .long (Lg v i k)
  | _ => va_rf ((am_ref R G c i k).map (fun p => ρ p.1 p.2))
/-- an array's cell -/
theorem am_E_arr {Γ : AMG} {ρ : Nat → Nat → Nat} {I : II} {Lg : LJ} {R : RR} {G : GG} {c i a n x y t : Nat} (hck : am_ck c = (a + 1, n, x, y, t)) : ∃ w : vp_A, am_E Γ ρ I Lg R G c i = .inl (Γ.cy t, w) ∧ w.1 = n ∧ ∀ cA, vp_cell cA w = arrV cA n (am_aV ρ I Lg R G c i) := by
  unfold am_E am_aV
  rw [hck]
  match a, hck with
  | 0, _ => exact ⟨_, rfl, rfl, fun _ => rfl⟩
  | 1, _ => exact ⟨_, rfl, rfl, fun _ => rfl⟩
  | 2, _ => exact ⟨_, rfl, rfl, fun _ => rfl⟩
  | _ + 3, _ => exact ⟨_, rfl, rfl, fun _ => rfl⟩
theorem am_ckNC {c a n x y t : Nat} (hck : am_ck c = (a + 1, n, x, y, t)) (ha : a < 5) : c < am_NC := by
  apply Decidable.byContradiction
  intro h
  have h1 : am_ck c = (9, 0, 0, 0, 0) := am_lk_out _ _ am_NC c (by decide +kernel) (Nat.not_lt.mp h)
  rw [h1] at hck
  have h2 : 9 = a + 1 := congrArg Prod.fst hck
  omega
theorem am_Wd.arr {Γ : AMG} {ρ : Nat → Nat → Nat} {I : II} {Lg : LJ} {R : RR} {G : GG} {H : Heap} {c i a n x y t : Nat} (hW : am_Wd Γ ρ I Lg R G H) (hck : am_ck c = (a + 1, n, x, y, t)) (ha : a < 5) (hi : i < G.2 c) : H[ρ c i]? = some (arrV (Γ.cy t) n (am_aV ρ I Lg R G c i)) := by
  obtain ⟨w, h1, -, h3⟩ := am_E_arr (Γ := Γ) (ρ := ρ) (I := I) (Lg := Lg) (R := R) (G := G) (i := i) hck
  have h := hW.1 c i (am_ckNC hck ha) hi
  rw [h1] at h
  have h4 : H[ρ c i]? = some (vp_cell (Γ.cy t) w) := h
  rw [h4, h3]
theorem am_at_arr {Γ : AMG} {ρ : Nat → Nat → Nat} {I : II} {Lg : LJ} {R : RR} {G : GG} {H : Heap} {c i a n x y t : Nat} (hck : am_ck c = (a + 1, n, x, y, t)) (h : H[ρ c i]? = some (arrV (Γ.cy t) n (am_aV ρ I Lg R G c i))) : va_at Γ.D vwCl (ρ c i, am_E Γ ρ I Lg R G c i) H := by
  obtain ⟨w, h1, -, h3⟩ := am_E_arr (Γ := Γ) (ρ := ρ) (I := I) (Lg := Lg) (R := R) (G := G) (i := i) hck
  rw [h1]
  show H[ρ c i]? = some (vp_cell (Γ.cy t) w)
  rw [h, h3]
theorem am_vin {j : Int32} {n : Nat} (h0 : 0 ≤ j.toInt) (h1 : j.toInt < n) : vp_in j n := vp_in_iff.mpr ⟨h0, h1⟩
theorem am_vlt {j : Int32} {n : Nat} (h0 : 0 ≤ j.toInt) (h1 : j.toInt < n) : j.toNatClampNeg < n := Nat.not_le.mp fun q => am_vin h0 h1 (Or.inr q)
theorem am_up3_ne {α : Type} {f : Nat → Nat → Nat → α} {o : Nat → Nat × Nat} {v c k i j : Nat} {x : α} (hv : o v = (c, k)) : ∀ v2 i2, ¬ ((o v2).1 = c ∧ i2 = i) → up3 f v i j x v2 i2 = f v2 i2 := by
  intro v2 i2 hne
  funext j2
  unfold up3
  rw [if_neg]
  rintro ⟨rfl, rfl, -⟩
  exact hne ⟨by rw [hv], rfl⟩
theorem am_up3_v {α : Type} {f : Nat → Nat → Nat → α} {o : Nat → Nat × Nat} {v v2 c k k2 i j : Nat} {x : α} (hv : o v = (c, k)) (hv2 : o v2 = (c, k2)) (hne : ¬ k2 = k) : up3 f v i j x v2 i j = f v2 i j := by
  unfold up3
  rw [if_neg]
  rintro ⟨rfl, -, -⟩
  rw [hv] at hv2
  exact hne (congrArg Prod.snd hv2).symm
section AMR
variable {Γ : AMG} {M : MD} {Q : QQ} {d k n pc pc' pc2 : Nat} {L L' : LL} {st st' : List AV} {I I' : II} {Lg Lg' : LJ} {R R' : RR} {G G' : GG}
/-- a step that reads the heap -/
theorem am_J.rd (hs : ∀ (ρ : Nat → Nat → Nat) (p : Program) (e : Env) (Rm : Room) (s : State) (m : MethodId) (args : Array Value) (below : List Frame) (meth : Method) (c : Code) (H : Heap) (locs : List Loc) (cells slots : Nat) (Z : State → Prop) (ls : Array Slot), am_Cx Γ M p s m args meth c → am_Wd Γ ρ I Lg R G H → am_okS G st →
      (am_okS G st' → W p Γ.l e Rm s m args below meth c H locs cells slots Z (F0 m pc' ls (st'.map (am_con ρ)))) → W p Γ.l e Rm s m args below meth c H locs cells slots Z (F0 m pc ls (st.map (am_con ρ))))
    (h : am_J Γ M Q d k n pc' L st' I Lg R G) : am_J Γ M Q d k n pc L st I Lg R G := by
  intro ρ p e Rm s m args below meth c H locs cells slots Z C h1 h2 h3 h4 hW hl hoL hoS ret ls hL
  exact hs ρ p e Rm s m args below meth c H locs cells slots Z ls C hW hoS (fun hoS' => h ρ p e Rm s m args below meth c H locs cells slots Z C h1 h2 h3 h4 hW hl hoL hoS' ret ls hL)
/-- a step that writes the heap -/
theorem am_J.wr (hs : ∀ (ρ : Nat → Nat → Nat) (p : Program) (e : Env) (Rm : Room) (s : State) (m : MethodId) (args : Array Value) (below : List Frame) (meth : Method) (c : Code) (H : Heap) (locs : List Loc) (cells slots : Nat) (Z : State → Prop) (ls : Array Slot), am_Cx Γ M p s m args meth c → am_Wd Γ ρ I Lg R G H → am_okS G st → (∀ q ∈ locs, Γ.HH.size ≤ q.base) →
      (∀ (H1 : Heap) (locs1 : List Loc), am_Wd Γ ρ I' Lg' R' G' H1 → (∀ q ∈ locs1, Γ.HH.size ≤ q.base) → W p Γ.l e Rm s m args below meth c H1 locs1 cells slots Z (F0 m pc' ls (st'.map (am_con ρ)))) → W p Γ.l e Rm s m args below meth c H locs cells slots Z (F0 m pc ls (st.map (am_con ρ))))
    (hG : G'.2 = G.2) (ho : am_okS G st → am_okS G st') (h : am_J Γ M Q d k n pc' L st' I' Lg' R' G') : am_J Γ M Q d k n pc L st I Lg R G := by
  intro ρ p e Rm s m args below meth c H locs cells slots Z C h1 h2 h3 h4 hW hl hoL hoS ret ls hL
  exact hs ρ p e Rm s m args below meth c H locs cells slots Z ls C hW hoS hl (fun H1 locs1 hW1 hl1 => h ρ p e Rm s m args below meth c H1 locs1 cells slots Z C h1 h2 h3 h4 hW1 hl1 ⟨hoL.1, fun v hv => (hoL.2 v hv).of2 hG⟩ (fun v hv => (ho hoS v hv).of2 hG) (fun ρ' r I2 Lg2 R2 G2 H2 locs2 cells2 slots2 pc2 ls2 a1 a2 a3 a4 a5 a6 a7 a8 => ret ρ' r I2 Lg2 R2 G2 H2 locs2 cells2 slots2 pc2 ls2 a1 (a2.of2 hG) a3 a4 a5 a6 a7 a8) ls hL)
theorem am_okR.lt {c i : Nat} (h : am_okR G c i) (hc : c < am_NC) : i < G.2 c := h.elim (fun z => z.2) (fun z => absurd hc (Nat.not_lt.mpr z))
theorem ar_getI {c i f idx : Nat} {r : vw_C} {v : Nat} {z : Nat × Nat} (hr : vwCl[c]? = some r) (hk : f < r.2.2) (hlink : Cond.fieldLink M.1 idx (r.2.1 f).1 (r.2.1 f).2.1 (r.2.1 f).2.2.1 ∈ am_BIG) (hs : am_slot c f = (0, v, z)) (hd : decode M.2.2.1 pc = .ok (.getfield idx, 3)) (h : am_J Γ M Q d k n (pc + 3) L (vI (I v i 0) :: st) I Lg R G) : am_J Γ M Q d k n pc L (vR c i :: st) I Lg R G :=
  am_J.rd (fun ρ p e Rm s m args below meth c0 H locs cells slots Z ls C hW hoS kk => am_getW C hW hr (hoS.hd.lt (am_lt13 (am_ckN c r hr).2)) hk hlink hd (by
    have e1 : am_val ρ I Lg R G c i f = (.int (I v i 0)) := by unfold am_val; rw [hs]; rfl
    rw [e1]
    exact kk (hoS.tl.i))) h
theorem ar_getZ {c i f idx : Nat} {r : vw_C} {v : Nat} {z : Nat × Nat} (hr : vwCl[c]? = some r) (hk : f < r.2.2) (hlink : Cond.fieldLink M.1 idx (r.2.1 f).1 (r.2.1 f).2.1 (r.2.1 f).2.2.1 ∈ am_BIG) (hs : am_slot c f = (1, v, z)) (hd : decode M.2.2.1 pc = .ok (.getfield idx, 3)) (h : am_J Γ M Q d k n (pc + 3) L (vI (I v i 0) :: st) I Lg R G) : am_J Γ M Q d k n pc L (vR c i :: st) I Lg R G :=
  am_J.rd (fun ρ p e Rm s m args below meth c0 H locs cells slots Z ls C hW hoS kk => am_getW C hW hr (hoS.hd.lt (am_lt13 (am_ckN c r hr).2)) hk hlink hd (by
    have e1 : am_val ρ I Lg R G c i f = (.int (I v i 0)) := by unfold am_val; rw [hs]; rfl
    rw [e1]
    exact kk (hoS.tl.i))) h
theorem ar_getJ {c i f idx : Nat} {r : vw_C} {v : Nat} {z : Nat × Nat} (hr : vwCl[c]? = some r) (hk : f < r.2.2) (hlink : Cond.fieldLink M.1 idx (r.2.1 f).1 (r.2.1 f).2.1 (r.2.1 f).2.2.1 ∈ am_BIG) (hs : am_slot c f = (2, v, z)) (hd : decode M.2.2.1 pc = .ok (.getfield idx, 3)) (h : am_J Γ M Q d k n (pc + 3) L (vL (Lg v i 0) :: st) I Lg R G) : am_J Γ M Q d k n pc L (vR c i :: st) I Lg R G :=
  am_J.rd (fun ρ p e Rm s m args below meth c0 H locs cells slots Z ls C hW hoS kk => am_getW C hW hr (hoS.hd.lt (am_lt13 (am_ckN c r hr).2)) hk hlink hd (by
    have e1 : am_val ρ I Lg R G c i f = (.long (Lg v i 0)) := by unfold am_val; rw [hs]; rfl
    rw [e1]
    exact kk (hoS.tl.l))) h
theorem ar_getS {c i f idx : Nat} {r : vw_C} {t b z : Nat} (hr : vwCl[c]? = some r) (hk : f < r.2.2) (hlink : Cond.fieldLink M.1 idx (r.2.1 f).1 (r.2.1 f).2.1 (r.2.1 f).2.2.1 ∈ am_BIG) (hs : am_slot c f = (3, t, b, z)) (hin : G.1 c i f = true) (hd : decode M.2.2.1 pc = .ok (.getfield idx, 3)) (h : am_J Γ M Q d k n (pc + 3) L (vR t (am_sidx b z i) :: st) I Lg R G) : am_J Γ M Q d k n pc L (vR c i :: st) I Lg R G :=
  am_J.rd (fun ρ p e Rm s m args below meth c0 H locs cells slots Z ls C hW hoS kk => by
    obtain ⟨hck, h13⟩ := am_ckN c r hr
    have hi := hoS.hd.lt (am_lt13 h13)
    have e2 : am_ref R G c i f = some (t, am_sidx b z i) := by unfold am_ref; rw [hck]; simp only [hs, hin]; rfl
    refine am_getW C hW hr hi hk hlink hd ?_
    have e1 : am_val ρ I Lg R G c i f = .ref (ρ t (am_sidx b z i)) := by unfold am_val; simp only [hs, e2]; rfl
    rw [e1]
    exact kk (am_okS.cons (v := vR t (am_sidx b z i)) (Or.inl (hW.2.2.2.2.2.2.2.1 c i f _ _ (am_lt13 h13) hi e2)) hoS.tl)) h
theorem ar_getD {c i f idx : Nat} {r : vw_C} {v t z : Nat} (hr : vwCl[c]? = some r) (hk : f < r.2.2) (hlink : Cond.fieldLink M.1 idx (r.2.1 f).1 (r.2.1 f).2.1 (r.2.1 f).2.2.1 ∈ am_BIG) (hs : am_slot c f = (4, v, t, z)) (hd : decode M.2.2.1 pc = .ok (.getfield idx, 3)) (h1 : R v i 0 = none → am_J Γ M Q d k n (pc + 3) L (vN :: st) I Lg R G) (h2 : ∀ b, R v i 0 = some b → am_J Γ M Q d k n (pc + 3) L (vR t b :: st) I Lg R G) : am_J Γ M Q d k n pc L (vR c i :: st) I Lg R G := by
  cases hR : R v i 0 with
  | none =>
    refine am_J.rd (fun ρ p e Rm s m args below meth c0 H locs cells slots Z ls C hW hoS kk => ?_) (h1 hR)
    obtain ⟨hck, h13⟩ := am_ckN c r hr
    have hi := hoS.hd.lt (am_lt13 h13)
    have e2 : am_ref R G c i f = none := by unfold am_ref; rw [hck]; simp only [hs, hR]; rfl
    refine am_getW C hW hr hi hk hlink hd ?_
    have e1 : am_val ρ I Lg R G c i f = .null := by unfold am_val; simp only [hs, e2]; rfl
    rw [e1]
    exact kk (am_okS.cons (v := vN) trivial hoS.tl)
  | some b =>
    refine am_J.rd (fun ρ p e Rm s m args below meth c0 H locs cells slots Z ls C hW hoS kk => ?_) (h2 b hR)
    obtain ⟨hck, h13⟩ := am_ckN c r hr
    have hi := hoS.hd.lt (am_lt13 h13)
    have e2 : am_ref R G c i f = some (t, b) := by unfold am_ref; rw [hck]; simp only [hs, hR]; rfl
    refine am_getW C hW hr hi hk hlink hd ?_
    have e1 : am_val ρ I Lg R G c i f = .ref (ρ t b) := by unfold am_val; simp only [hs, e2]; rfl
    rw [e1]
    exact kk (am_okS.cons (v := vR t b) (Or.inl (hW.2.2.2.2.2.2.2.1 c i f _ _ (am_lt13 h13) hi e2)) hoS.tl)
theorem ar_putI {c i f idx : Nat} {r : vw_C} {v : Nat} {x : Int32} {z : Nat × Nat} (hr : vwCl[c]? = some r) (hk : f < r.2.2) (hlink : Cond.fieldLink M.1 idx (r.2.1 f).1 (r.2.1 f).2.1 (r.2.1 f).2.2.1 ∈ am_BIG) (hfin : (r.2.1 f).2.2.2 = false ∨ (r.2.1 f).2.2.2 = true ∧ M.2.1.name = "<init>" ∧ (r.2.1 f).1 = M.1) (hs : am_slot c f = (0, v, z)) (hd : decode M.2.2.1 pc = .ok (.putfield idx, 3)) (h : am_J Γ M Q d k n (pc + 3) L st (up3 I v i 0 x) (Lg) R G) : am_J Γ M Q d k n pc L (vI x :: vR c i :: st) I Lg R G := by
  refine am_J.wr (fun ρ p e Rm s m args below meth c0 H locs cells slots Z ls C hW hoS hl kk => ?_) rfl (fun b => b.tl.tl) h
  obtain ⟨hck, h13⟩ := am_ckN c r hr
  have hi := hoS.tl.hd.lt (am_lt13 h13)
  obtain ⟨-, -, -, hsl⟩ := am_chk0 hck (am_lt13 h13)
  have hv : am_oI v = (c, f) := by have := hsl f hk; rw [hs] at this; exact this
  have ety : am_ty c f = .int := by
    have h9 := am_tagOk_all c h13 f (by rw [hck]; exact hk)
    unfold am_tagOk at h9
    rw [hs] at h9
    generalize am_ty c f = ty at h9
    cases ty <;> first | rfl | cases h9
  refine am_putW (v := .int x) C hW hl hr hi hk hlink hfin (by rw [ety]; rfl) (by rw [ety]; rfl) hd fun H1 locs1 z1 o1 at1 l1 => kk H1 locs1 (hW.upd (am_lt13 h13) hi z1 o1 ?_ (am_up3_ne hv) (fun v2 i2 hne => rfl) (fun _ _ _ => rfl) (fun _ _ _ => rfl) rfl (fun k2 c2 i2 _ hk2 => hW.2.2.2.2.2.2.2.1 c i k2 c2 i2 (am_lt13 h13) hi hk2)) l1
  have e9 : am_E Γ ρ (up3 I v i 0 x) (Lg) R G c i = .inr (c, (List.range r.2.2).map (am_val ρ (up3 I v i 0 x) (Lg) R G c i)) := by unfold am_E; rw [hck]; rfl
  rw [e9, ← am_set_map (k := f) (v := .int x) (f := am_val ρ I Lg R G c i) (fun j hj => ?_)]
  · exact at1
  · have hj9 := hsl j hj
    unfold am_val
    rcases hsj : am_slot c j with ⟨a9, v9, t9, b9⟩
    rw [hsj] at hj9
    by_cases ej : j = f
    · subst ej
      rw [hs] at hsj
      cases hsj
      simp [up3]
    · rw [if_neg ej]
      match a9, hj9 with
      | 0, hj9 => simp only [show up3 I v i 0 x v9 i 0 = I v9 i 0 from am_up3_v hv hj9 ej]
      | 1, hj9 => simp only [show up3 I v i 0 x v9 i 0 = I v9 i 0 from am_up3_v hv hj9 ej]
      | 2, hj9 => simp only []
      | 3, _ => rfl
      | 4, _ => rfl
      | _ + 5, hj9 => exact hj9.elim
theorem ar_putZ {c i f idx : Nat} {r : vw_C} {v : Nat} {x : Int32} {z : Nat × Nat} (hr : vwCl[c]? = some r) (hk : f < r.2.2) (hlink : Cond.fieldLink M.1 idx (r.2.1 f).1 (r.2.1 f).2.1 (r.2.1 f).2.2.1 ∈ am_BIG) (hfin : (r.2.1 f).2.2.2 = false ∨ (r.2.1 f).2.2.2 = true ∧ M.2.1.name = "<init>" ∧ (r.2.1 f).1 = M.1) (hs : am_slot c f = (1, v, z)) (hx : x = zI 0 ∨ x = zI 1) (hd : decode M.2.2.1 pc = .ok (.putfield idx, 3)) (h : am_J Γ M Q d k n (pc + 3) L st (up3 I v i 0 x) (Lg) R G) : am_J Γ M Q d k n pc L (vI x :: vR c i :: st) I Lg R G := by
  refine am_J.wr (fun ρ p e Rm s m args below meth c0 H locs cells slots Z ls C hW hoS hl kk => ?_) rfl (fun b => b.tl.tl) h
  obtain ⟨hck, h13⟩ := am_ckN c r hr
  have hi := hoS.tl.hd.lt (am_lt13 h13)
  obtain ⟨-, -, -, hsl⟩ := am_chk0 hck (am_lt13 h13)
  have hv : am_oI v = (c, f) := by have := hsl f hk; rw [hs] at this; exact this
  have ety : am_ty c f = .boolean := by
    have h9 := am_tagOk_all c h13 f (by rw [hck]; exact hk)
    unfold am_tagOk at h9
    rw [hs] at h9
    generalize am_ty c f = ty at h9
    cases ty <;> first | rfl | cases h9
  refine am_putW (v := .int x) C hW hl hr hi hk hlink hfin (by rw [ety]; rcases hx with rfl | rfl <;> rfl) (by rw [ety]; rcases hx with rfl | rfl <;> rfl) hd fun H1 locs1 z1 o1 at1 l1 => kk H1 locs1 (hW.upd (am_lt13 h13) hi z1 o1 ?_ (am_up3_ne hv) (fun v2 i2 hne => rfl) (fun _ _ _ => rfl) (fun _ _ _ => rfl) rfl (fun k2 c2 i2 _ hk2 => hW.2.2.2.2.2.2.2.1 c i k2 c2 i2 (am_lt13 h13) hi hk2)) l1
  have e9 : am_E Γ ρ (up3 I v i 0 x) (Lg) R G c i = .inr (c, (List.range r.2.2).map (am_val ρ (up3 I v i 0 x) (Lg) R G c i)) := by unfold am_E; rw [hck]; rfl
  rw [e9, ← am_set_map (k := f) (v := .int x) (f := am_val ρ I Lg R G c i) (fun j hj => ?_)]
  · exact at1
  · have hj9 := hsl j hj
    unfold am_val
    rcases hsj : am_slot c j with ⟨a9, v9, t9, b9⟩
    rw [hsj] at hj9
    by_cases ej : j = f
    · subst ej
      rw [hs] at hsj
      cases hsj
      simp [up3]
    · rw [if_neg ej]
      match a9, hj9 with
      | 0, hj9 => simp only [show up3 I v i 0 x v9 i 0 = I v9 i 0 from am_up3_v hv hj9 ej]
      | 1, hj9 => simp only [show up3 I v i 0 x v9 i 0 = I v9 i 0 from am_up3_v hv hj9 ej]
      | 2, hj9 => simp only []
      | 3, _ => rfl
      | 4, _ => rfl
      | _ + 5, hj9 => exact hj9.elim
theorem ar_putJ {c i f idx : Nat} {r : vw_C} {v : Nat} {x : Int64} {z : Nat × Nat} (hr : vwCl[c]? = some r) (hk : f < r.2.2) (hlink : Cond.fieldLink M.1 idx (r.2.1 f).1 (r.2.1 f).2.1 (r.2.1 f).2.2.1 ∈ am_BIG) (hfin : (r.2.1 f).2.2.2 = false ∨ (r.2.1 f).2.2.2 = true ∧ M.2.1.name = "<init>" ∧ (r.2.1 f).1 = M.1) (hs : am_slot c f = (2, v, z)) (hd : decode M.2.2.1 pc = .ok (.putfield idx, 3)) (h : am_J Γ M Q d k n (pc + 3) L st (I) (up3 Lg v i 0 x) R G) : am_J Γ M Q d k n pc L (vL x :: vR c i :: st) I Lg R G := by
  refine am_J.wr (fun ρ p e Rm s m args below meth c0 H locs cells slots Z ls C hW hoS hl kk => ?_) rfl (fun b => b.tl.tl) h
  obtain ⟨hck, h13⟩ := am_ckN c r hr
  have hi := hoS.tl.hd.lt (am_lt13 h13)
  obtain ⟨-, -, -, hsl⟩ := am_chk0 hck (am_lt13 h13)
  have hv : am_oL v = (c, f) := by have := hsl f hk; rw [hs] at this; exact this
  have ety : am_ty c f = .long := by
    have h9 := am_tagOk_all c h13 f (by rw [hck]; exact hk)
    unfold am_tagOk at h9
    rw [hs] at h9
    generalize am_ty c f = ty at h9
    cases ty <;> first | rfl | cases h9
  refine am_putW (v := .long x) C hW hl hr hi hk hlink hfin (by rw [ety]; rfl) (by rw [ety]; rfl) hd fun H1 locs1 z1 o1 at1 l1 => kk H1 locs1 (hW.upd (am_lt13 h13) hi z1 o1 ?_ (fun v2 i2 hne => rfl) (am_up3_ne hv) (fun _ _ _ => rfl) (fun _ _ _ => rfl) rfl (fun k2 c2 i2 _ hk2 => hW.2.2.2.2.2.2.2.1 c i k2 c2 i2 (am_lt13 h13) hi hk2)) l1
  have e9 : am_E Γ ρ (I) (up3 Lg v i 0 x) R G c i = .inr (c, (List.range r.2.2).map (am_val ρ (I) (up3 Lg v i 0 x) R G c i)) := by unfold am_E; rw [hck]; rfl
  rw [e9, ← am_set_map (k := f) (v := .long x) (f := am_val ρ I Lg R G c i) (fun j hj => ?_)]
  · exact at1
  · have hj9 := hsl j hj
    unfold am_val
    rcases hsj : am_slot c j with ⟨a9, v9, t9, b9⟩
    rw [hsj] at hj9
    by_cases ej : j = f
    · subst ej
      rw [hs] at hsj
      cases hsj
      simp [up3]
    · rw [if_neg ej]
      match a9, hj9 with
      | 0, hj9 => simp only []
      | 1, hj9 => simp only []
      | 2, hj9 => simp only [show up3 Lg v i 0 x v9 i 0 = Lg v9 i 0 from am_up3_v hv hj9 ej]
      | 3, _ => rfl
      | 4, _ => rfl
      | _ + 5, hj9 => exact hj9.elim
end AMR
end
section
/-! Rules: references written, rows read and written. -/
theorem am_up3_neG {α : Type} {f : Nat → Nat → Nat → α} {c i k : Nat} {x : α} : ∀ c2 i2, ¬ (c2 = c ∧ i2 = i) → up3 f c i k x c2 i2 = f c2 i2 := by
  intro c2 i2 hne
  funext j2
  unfold up3
  rw [if_neg]
  rintro ⟨rfl, rfl, -⟩
  exact hne ⟨rfl, rfl⟩
theorem am_kept {H H1 : Heap} {locs : List Loc} {z a j : Nat} (hl : ∀ q ∈ locs, z ≤ q.base) (ha : z ≤ a) : ∀ q ∈ locs ++ [⟨a, j⟩], z ≤ Loc.base q := fun q hq => (List.mem_append.mp hq).elim (hl q) (fun h => by rw [List.mem_singleton.mp h]; exact ha)
section AMR
variable {Γ : AMG} {M : MD} {Q : QQ} {d k n pc pc' pc2 : Nat} {L L' : LL} {st st' : List AV} {I I' : II} {Lg Lg' : LJ} {R R' : RR} {G G' : GG}
theorem ar_putS {c i f idx : Nat} {r : vw_C} {t b z b2 : Nat} (hr : vwCl[c]? = some r) (hk : f < r.2.2) (hlink : Cond.fieldLink M.1 idx (r.2.1 f).1 (r.2.1 f).2.1 (r.2.1 f).2.2.1 ∈ am_BIG) (hfin : (r.2.1 f).2.2.2 = false ∨ (r.2.1 f).2.2.2 = true ∧ M.2.1.name = "<init>" ∧ (r.2.1 f).1 = M.1) (hs : am_slot c f = (3, t, b, z)) (hb2 : b2 = am_sidx b z i) (hd : decode M.2.2.1 pc = .ok (.putfield idx, 3)) (h : am_J Γ M Q d k n (pc + 3) L st I Lg R (up3 G.1 c i f true, G.2)) : am_J Γ M Q d k n pc L (vR t b2 :: vR c i :: st) I Lg R G := by
  refine am_J.wr (G' := (up3 G.1 c i f true, G.2)) (fun ρ p e Rm s m args below meth c0 H locs cells slots Z ls C hW hoS hl kk => ?_) rfl (fun b => b.tl.tl) h
  obtain ⟨hck, h13⟩ := am_ckN c r hr
  have hi := hoS.tl.hd.lt (am_lt13 h13)
  have htN : t < am_NC := by have := (am_chk0 hck (am_lt13 h13)).2.2.2 f hk; rw [hs] at this; exact this
  have hb3 : b2 < G.2 t := hoS.hd.lt htN
  have ety : (∃ q, am_ty c f = .object q) ∨ ∃ q, am_ty c f = .array q := by
    have h9 := am_tagOk_all c h13 f (by rw [hck]; exact hk)
    unfold am_tagOk at h9
    rw [hs] at h9
    generalize am_ty c f = ty at h9
    cases ty <;> first | exact Or.inl ⟨_, rfl⟩ | exact Or.inr ⟨_, rfl⟩ | cases h9
  have eref : am_ref R (up3 G.1 c i f true, G.2) c i f = some (t, b2) := by
    unfold am_ref; rw [hck]; simp only [hs, hb2]; simp [up3]
  have eoth : ∀ j, ¬ j = f → am_ref R (up3 G.1 c i f true, G.2) c i j = am_ref R G c i j := by
    intro j hj
    have : up3 G.1 c i f true c i j = G.1 c i j := by simp [up3, hj]
    unfold am_ref
    simp only [this]
  refine am_putW (v := .ref (ρ t b2)) C hW hl hr hi hk hlink hfin (by rcases ety with ⟨q, e9⟩ | ⟨q, e9⟩ <;> rw [e9] <;> rfl) (by rcases ety with ⟨q, e9⟩ | ⟨q, e9⟩ <;> rw [e9] <;> rfl) hd fun H1 locs1 z1 o1 at1 l1 => kk H1 locs1 (hW.upd (am_lt13 h13) hi z1 o1 ?_ (fun _ _ _ => rfl) (fun _ _ _ => rfl) (fun _ _ _ => rfl) am_up3_neG rfl (fun k2 c2 i2 _ hk2 => ?_)) l1
  · have e9 : am_E Γ ρ I Lg R (up3 G.1 c i f true, G.2) c i = .inr (c, (List.range r.2.2).map (am_val ρ I Lg R (up3 G.1 c i f true, G.2) c i)) := by unfold am_E; rw [hck]; rfl
    rw [e9, ← am_set_map (k := f) (v := .ref (ρ t b2)) (f := am_val ρ I Lg R G c i) (fun j hj => ?_)]
    · exact at1
    · by_cases ej : j = f
      · subst ej
        unfold am_val
        simp only [hs, eref, if_true]
        rfl
      · rw [if_neg ej]
        unfold am_val
        simp only [eoth j ej]
  · by_cases ek : k2 = f
    · subst ek
      rw [eref] at hk2
      cases hk2
      exact ⟨htN, hb3⟩
    · rw [eoth k2 ek] at hk2
      exact hW.2.2.2.2.2.2.2.1 c i k2 c2 i2 (am_lt13 h13) hi hk2
theorem ar_putD {c i f idx : Nat} {r : vw_C} {v t z b2 : Nat} (hr : vwCl[c]? = some r) (hk : f < r.2.2) (hlink : Cond.fieldLink M.1 idx (r.2.1 f).1 (r.2.1 f).2.1 (r.2.1 f).2.2.1 ∈ am_BIG) (hfin : (r.2.1 f).2.2.2 = false ∨ (r.2.1 f).2.2.2 = true ∧ M.2.1.name = "<init>" ∧ (r.2.1 f).1 = M.1) (hs : am_slot c f = (4, v, t, z)) (hd : decode M.2.2.1 pc = .ok (.putfield idx, 3)) (h : am_J Γ M Q d k n (pc + 3) L st I Lg (up3 R v i 0 (some b2)) G) : am_J Γ M Q d k n pc L (vR t b2 :: vR c i :: st) I Lg R G := by
  refine am_J.wr (fun ρ p e Rm s m args below meth c0 H locs cells slots Z ls C hW hoS hl kk => ?_) rfl (fun b => b.tl.tl) h
  obtain ⟨hck, h13⟩ := am_ckN c r hr
  have hi := hoS.tl.hd.lt (am_lt13 h13)
  obtain ⟨-, -, -, hsl⟩ := am_chk0 hck (am_lt13 h13)
  have hvt : am_oR v = (c, f) ∧ t < am_NC := by have := hsl f hk; rw [hs] at this; exact this
  have ety : ∃ q, am_ty c f = .object q := by
    have h9 := am_tagOk_all c h13 f (by rw [hck]; exact hk)
    unfold am_tagOk at h9
    rw [hs] at h9
    generalize am_ty c f = ty at h9
    cases ty <;> first | exact ⟨_, rfl⟩ | cases h9
  have eref : am_ref (up3 R v i 0 (some b2)) G c i f = (some b2 : Option Nat).map (fun b => (t, b)) := by
    unfold am_ref; rw [hck]; simp only [hs]; simp [up3]
  have eoth : ∀ j, j < r.2.2 → ¬ j = f → am_ref (up3 R v i 0 (some b2)) G c i j = am_ref R G c i j := by
    intro j hj hne
    have hj9 := hsl j hj
    unfold am_ref
    rw [hck]
    rcases hsj : am_slot c j with ⟨a9, v9, t9, b9⟩
    rw [hsj] at hj9
    match a9, hj9 with
    | 0, _ => rfl
    | 1, _ => rfl
    | 2, _ => rfl
    | 3, _ => rfl
    | 4, hj9 => simp only [show up3 R v i 0 (some b2) v9 i 0 = R v9 i 0 from am_up3_v hvt.1 hj9.1 hne]
    | _ + 5, hj9 => exact hj9.elim
  refine am_putW (v := .ref (ρ t b2)) C hW hl hr hi hk hlink hfin (by obtain ⟨q, e9⟩ := ety; rw [e9]; rfl) (by obtain ⟨q, e9⟩ := ety; rw [e9]; rfl) hd fun H1 locs1 z1 o1 at1 l1 => kk H1 locs1 (hW.upd (am_lt13 h13) hi z1 o1 ?_ (fun _ _ _ => rfl) (fun _ _ _ => rfl) (am_up3_ne hvt.1) (fun _ _ _ => rfl) rfl (fun k2 c2 i2 hkn hk2 => ?_)) l1
  · have e9 : am_E Γ ρ I Lg (up3 R v i 0 (some b2)) G c i = .inr (c, (List.range r.2.2).map (am_val ρ I Lg (up3 R v i 0 (some b2)) G c i)) := by unfold am_E; rw [hck]; rfl
    rw [e9, ← am_set_map (k := f) (v := .ref (ρ t b2)) (f := am_val ρ I Lg R G c i) (fun j hj => ?_)]
    · exact at1
    · by_cases ej : j = f
      · subst ej
        unfold am_val
        simp only [hs, eref, if_true]
        rfl
      · rw [if_neg ej]
        unfold am_val
        simp only [eoth j hj ej]
  · by_cases ek : k2 = f
    · subst ek
      rw [eref] at hk2
      cases hk2
      exact ⟨hvt.2, hoS.hd.lt hvt.2⟩
    · rw [eoth k2 (hkn _ _ _ hck) ek] at hk2
      exact hW.2.2.2.2.2.2.2.1 c i k2 c2 i2 (am_lt13 h13) hi hk2
theorem ar_putN {c i f idx : Nat} {r : vw_C} {v t z : Nat} (hr : vwCl[c]? = some r) (hk : f < r.2.2) (hlink : Cond.fieldLink M.1 idx (r.2.1 f).1 (r.2.1 f).2.1 (r.2.1 f).2.2.1 ∈ am_BIG) (hfin : (r.2.1 f).2.2.2 = false ∨ (r.2.1 f).2.2.2 = true ∧ M.2.1.name = "<init>" ∧ (r.2.1 f).1 = M.1) (hs : am_slot c f = (4, v, t, z)) (hd : decode M.2.2.1 pc = .ok (.putfield idx, 3)) (h : am_J Γ M Q d k n (pc + 3) L st I Lg (up3 R v i 0 (none)) G) : am_J Γ M Q d k n pc L (vN :: vR c i :: st) I Lg R G := by
  refine am_J.wr (fun ρ p e Rm s m args below meth c0 H locs cells slots Z ls C hW hoS hl kk => ?_) rfl (fun b => b.tl.tl) h
  obtain ⟨hck, h13⟩ := am_ckN c r hr
  have hi := hoS.tl.hd.lt (am_lt13 h13)
  obtain ⟨-, -, -, hsl⟩ := am_chk0 hck (am_lt13 h13)
  have hvt : am_oR v = (c, f) ∧ t < am_NC := by have := hsl f hk; rw [hs] at this; exact this
  have ety : ∃ q, am_ty c f = .object q := by
    have h9 := am_tagOk_all c h13 f (by rw [hck]; exact hk)
    unfold am_tagOk at h9
    rw [hs] at h9
    generalize am_ty c f = ty at h9
    cases ty <;> first | exact ⟨_, rfl⟩ | cases h9
  have eref : am_ref (up3 R v i 0 (none)) G c i f = (none : Option Nat).map (fun b => (t, b)) := by
    unfold am_ref; rw [hck]; simp only [hs]; simp [up3]
  have eoth : ∀ j, j < r.2.2 → ¬ j = f → am_ref (up3 R v i 0 (none)) G c i j = am_ref R G c i j := by
    intro j hj hne
    have hj9 := hsl j hj
    unfold am_ref
    rw [hck]
    rcases hsj : am_slot c j with ⟨a9, v9, t9, b9⟩
    rw [hsj] at hj9
    match a9, hj9 with
    | 0, _ => rfl
    | 1, _ => rfl
    | 2, _ => rfl
    | 3, _ => rfl
    | 4, hj9 => simp only [show up3 R v i 0 (none) v9 i 0 = R v9 i 0 from am_up3_v hvt.1 hj9.1 hne]
    | _ + 5, hj9 => exact hj9.elim
  refine am_putW (v := .null) C hW hl hr hi hk hlink hfin (by obtain ⟨q, e9⟩ := ety; rw [e9]; rfl) (by obtain ⟨q, e9⟩ := ety; rw [e9]; rfl) hd fun H1 locs1 z1 o1 at1 l1 => kk H1 locs1 (hW.upd (am_lt13 h13) hi z1 o1 ?_ (fun _ _ _ => rfl) (fun _ _ _ => rfl) (am_up3_ne hvt.1) (fun _ _ _ => rfl) rfl (fun k2 c2 i2 hkn hk2 => ?_)) l1
  · have e9 : am_E Γ ρ I Lg (up3 R v i 0 (none)) G c i = .inr (c, (List.range r.2.2).map (am_val ρ I Lg (up3 R v i 0 (none)) G c i)) := by unfold am_E; rw [hck]; rfl
    rw [e9, ← am_set_map (k := f) (v := .null) (f := am_val ρ I Lg R G c i) (fun j hj => ?_)]
    · exact at1
    · by_cases ej : j = f
      · subst ej
        unfold am_val
        simp only [hs, eref, if_true]
        rfl
      · rw [if_neg ej]
        unfold am_val
        simp only [eoth j hj ej]
  · by_cases ek : k2 = f
    · subst ek
      rw [eref] at hk2
      cases hk2
      
    · rw [eoth k2 (hkn _ _ _ hck) ek] at hk2
      exact hW.2.2.2.2.2.2.2.1 c i k2 c2 i2 (am_lt13 h13) hi hk2
theorem ar_iald {c i N v z t : Nat} {j : Int32} (hck : am_ck c = (1, N, v, z, t)) (h0 : 0 ≤ j.toInt) (h1 : j.toInt < N) (hd : decode M.2.2.1 pc = .ok (.iaload, 1)) (h : am_J Γ M Q d k n (pc + 1) L (vI (I v i j.toInt.toNat) :: st) I Lg R G) : am_J Γ M Q d k n pc L (vI j :: vR c i :: st) I Lg R G :=
  am_J.rd (fun ρ p e Rm s m args below meth c0 H locs cells slots Z ls C hW hoS kk => by
    have hc : c < am_NC := am_ckNC (a := 0) hck (by decide)
    have hi := hoS.tl.hd.lt hc
    have ht : t = 0 := by have := am_chkT_ok c hc; unfold am_chkT at this; rw [hck] at this; simp only [Bool.and_eq_true, beq_iff_eq] at this; exact this.2
    subst ht
    have hlt := am_vlt h0 h1
    have e1 : am_aV ρ I Lg R G c i j.toNatClampNeg = .int (I v i j.toInt.toNat) := by unfold am_aV; rw [hck]; rfl
    exact W.iald (v := .int (I v i j.toInt.toNat)) C.1 C.2.1 (hW.arr (a := 0) hck (by decide) hi) ((C.2.2.2.2.2.2.2.2.1.1.2 0 _ rfl).1 N _) (fun q => by cases q) (by rw [arrV_size]; exact am_vin h0 h1) (by rw [arrV_read _ _ hlt, e1]) rfl rfl hd (kk hoS.tl.tl.i)) h
theorem ar_zald {c i N v z t : Nat} {j : Int32} (hck : am_ck c = (2, N, v, z, t)) (h0 : 0 ≤ j.toInt) (h1 : j.toInt < N) (hd : decode M.2.2.1 pc = .ok (.baload, 1)) (h : am_J Γ M Q d k n (pc + 1) L (vI (I v i j.toInt.toNat) :: st) I Lg R G) : am_J Γ M Q d k n pc L (vI j :: vR c i :: st) I Lg R G :=
  am_J.rd (fun ρ p e Rm s m args below meth c0 H locs cells slots Z ls C hW hoS kk => by
    have hc : c < am_NC := am_ckNC (a := 1) hck (by decide)
    have hi := hoS.tl.hd.lt hc
    have ht : t = 1 := by have := am_chkT_ok c hc; unfold am_chkT at this; rw [hck] at this; simp only [Bool.and_eq_true, beq_iff_eq] at this; exact this.2
    subst ht
    have hlt := am_vlt h0 h1
    have e1 : am_aV ρ I Lg R G c i j.toNatClampNeg = .int (I v i j.toInt.toNat) := by unfold am_aV; rw [hck]; rfl
    exact W.zald (v := .int (I v i j.toInt.toNat)) C.1 C.2.1 (hW.arr (a := 1) hck (by decide) hi) ((C.2.2.2.2.2.2.2.2.1.1.2 1 _ rfl).1 N _) (fun q => by cases q) (by rw [arrV_size]; exact am_vin h0 h1) (by rw [arrV_read _ _ hlt, e1]) rfl rfl hd (kk hoS.tl.tl.i)) h
theorem ar_lald {c i N v z t : Nat} {j : Int32} (hck : am_ck c = (3, N, v, z, t)) (h0 : 0 ≤ j.toInt) (h1 : j.toInt < N) (hd : decode M.2.2.1 pc = .ok (.laload, 1)) (h : am_J Γ M Q d k n (pc + 1) L (vL (Lg v i j.toInt.toNat) :: st) I Lg R G) : am_J Γ M Q d k n pc L (vI j :: vR c i :: st) I Lg R G :=
  am_J.rd (fun ρ p e Rm s m args below meth c0 H locs cells slots Z ls C hW hoS kk => by
    have hc : c < am_NC := am_ckNC (a := 2) hck (by decide)
    have hi := hoS.tl.hd.lt hc
    have ht : t = 2 := by have := am_chkT_ok c hc; unfold am_chkT at this; rw [hck] at this; simp only [Bool.and_eq_true, beq_iff_eq] at this; exact this.2
    subst ht
    have hlt := am_vlt h0 h1
    have e1 : am_aV ρ I Lg R G c i j.toNatClampNeg = .long (Lg v i j.toInt.toNat) := by unfold am_aV; rw [hck]; rfl
    exact W.lald (v := .long (Lg v i j.toInt.toNat)) C.1 C.2.1 (hW.arr (a := 2) hck (by decide) hi) ((C.2.2.2.2.2.2.2.2.1.1.2 2 _ rfl).1 N _) (fun q => by cases q) (by rw [arrV_size]; exact am_vin h0 h1) (by rw [arrV_read _ _ hlt, e1]) rfl rfl hd (kk hoS.tl.tl.l)) h
theorem ar_iast {c i N v z t : Nat} {j : Int32} {x : Int32} (hck : am_ck c = (1, N, v, z, t)) (h0 : 0 ≤ j.toInt) (h1 : j.toInt < N) (hd : decode M.2.2.1 pc = .ok (.iastore, 1)) (h : am_J Γ M Q d k n (pc + 1) L st (up3 I v i j.toInt.toNat x) (Lg) R G) : am_J Γ M Q d k n pc L (vI x :: vI j :: vR c i :: st) I Lg R G := by
  refine am_J.wr (fun ρ p e Rm s m args below meth c0 H locs cells slots Z ls C hW hoS hl kk => ?_) rfl (fun b => b.tl.tl.tl) h
  have hc : c < am_NC := am_ckNC (a := 0) hck (by decide)
  have hi := hoS.tl.tl.hd.lt hc
  have ht : am_oI v = (c, 0) ∧ t = 0 := by have := am_chkT_ok c hc; unfold am_chkT at this; rw [hck] at this; simp only [Bool.and_eq_true, beq_iff_eq] at this; exact this
  obtain ⟨hv, rfl⟩ := ht
  refine W.iast C.1 C.2.1 (hW.arr (a := 0) hck (by decide) hi) ((C.2.2.2.2.2.2.2.2.1.1.2 0 _ rfl).1 N _) (fun q => by cases q) (by rw [arrV_size]; exact am_vin h0 h1) rfl rfl hd fun H1 e z1 oq => kk H1 _ (hW.upd hc hi z1 oq (am_at_arr (a := 0) hck ?_) (am_up3_ne (k := 0) hv) (fun _ _ _ => rfl) (fun _ _ _ => rfl) (fun _ _ _ => rfl) rfl (fun k2 c2 i2 _ hk2 => hW.2.2.2.2.2.2.2.1 c i k2 c2 i2 hc hi hk2)) (am_kept (H := H) (H1 := H1) hl (hW.2.2.1 c i hc hi))
  · skip
    rw [e, arrV_store]
    congr 2
    funext q
    unfold updV am_aV
    rw [hck]
    by_cases hq : q = j.toNatClampNeg
    · rw [if_pos hq]
      subst hq
      simp [up3]
    · rw [if_neg hq]
      simp [up3, hq]
theorem ar_zast {c i N v z t : Nat} {j : Int32} {x : Int32} (hck : am_ck c = (2, N, v, z, t)) (h0 : 0 ≤ j.toInt) (h1 : j.toInt < N) (hx : x = zI 0 ∨ x = zI 1) (hd : decode M.2.2.1 pc = .ok (.bastore, 1)) (h : am_J Γ M Q d k n (pc + 1) L st (up3 I v i j.toInt.toNat x) (Lg) R G) : am_J Γ M Q d k n pc L (vI x :: vI j :: vR c i :: st) I Lg R G := by
  refine am_J.wr (fun ρ p e Rm s m args below meth c0 H locs cells slots Z ls C hW hoS hl kk => ?_) rfl (fun b => b.tl.tl.tl) h
  have hc : c < am_NC := am_ckNC (a := 1) hck (by decide)
  have hi := hoS.tl.tl.hd.lt hc
  have ht : am_oI v = (c, 0) ∧ t = 1 := by have := am_chkT_ok c hc; unfold am_chkT at this; rw [hck] at this; simp only [Bool.and_eq_true, beq_iff_eq] at this; exact this
  obtain ⟨hv, rfl⟩ := ht
  refine W.zast C.1 C.2.1 (hW.arr (a := 1) hck (by decide) hi) ((C.2.2.2.2.2.2.2.2.1.1.2 1 _ rfl).1 N _) (fun q => by cases q) (by rw [arrV_size]; exact am_vin h0 h1) rfl rfl hd fun H1 e z1 oq => kk H1 _ (hW.upd hc hi z1 oq (am_at_arr (a := 1) hck ?_) (am_up3_ne (k := 0) hv) (fun _ _ _ => rfl) (fun _ _ _ => rfl) (fun _ _ _ => rfl) rfl (fun k2 c2 i2 _ hk2 => hW.2.2.2.2.2.2.2.1 c i k2 c2 i2 hc hi hk2)) (am_kept (H := H) (H1 := H1) hl (hW.2.2.1 c i hc hi))
  · have enar : narrow .boolean (.int x) = .int x := by rcases hx with rfl | rfl <;> rfl
    rw [enar] at e
    rw [e, arrV_store]
    congr 2
    funext q
    unfold updV am_aV
    rw [hck]
    by_cases hq : q = j.toNatClampNeg
    · rw [if_pos hq]
      subst hq
      simp [up3]
    · rw [if_neg hq]
      simp [up3, hq]
theorem ar_last {c i N v z t : Nat} {j : Int32} {x : Int64} (hck : am_ck c = (3, N, v, z, t)) (h0 : 0 ≤ j.toInt) (h1 : j.toInt < N) (hd : decode M.2.2.1 pc = .ok (.lastore, 1)) (h : am_J Γ M Q d k n (pc + 1) L st (I) (up3 Lg v i j.toInt.toNat x) R G) : am_J Γ M Q d k n pc L (vL x :: vI j :: vR c i :: st) I Lg R G := by
  refine am_J.wr (fun ρ p e Rm s m args below meth c0 H locs cells slots Z ls C hW hoS hl kk => ?_) rfl (fun b => b.tl.tl.tl) h
  have hc : c < am_NC := am_ckNC (a := 2) hck (by decide)
  have hi := hoS.tl.tl.hd.lt hc
  have ht : am_oL v = (c, 0) ∧ t = 2 := by have := am_chkT_ok c hc; unfold am_chkT at this; rw [hck] at this; simp only [Bool.and_eq_true, beq_iff_eq] at this; exact this
  obtain ⟨hv, rfl⟩ := ht
  refine W.last C.1 C.2.1 (hW.arr (a := 2) hck (by decide) hi) ((C.2.2.2.2.2.2.2.2.1.1.2 2 _ rfl).1 N _) (fun q => by cases q) (by rw [arrV_size]; exact am_vin h0 h1) rfl rfl hd fun H1 e z1 oq => kk H1 _ (hW.upd hc hi z1 oq (am_at_arr (a := 2) hck ?_) (fun _ _ _ => rfl) (am_up3_ne (k := 0) hv) (fun _ _ _ => rfl) (fun _ _ _ => rfl) rfl (fun k2 c2 i2 _ hk2 => hW.2.2.2.2.2.2.2.1 c i k2 c2 i2 hc hi hk2)) (am_kept (H := H) (H1 := H1) hl (hW.2.2.1 c i hc hi))
  · skip
    rw [e, arrV_store]
    congr 2
    funext q
    unfold updV am_aV
    rw [hck]
    by_cases hq : q = j.toNatClampNeg
    · rw [if_pos hq]
      subst hq
      simp [up3]
    · rw [if_neg hq]
      simp [up3, hq]
theorem am_tyR {Γ : AMG} {t y : Nat} (h : y = 4 ∧ t = 7 ∨ (y = 5 ∧ t = 8 ∨ (y = 6 ∧ t = 0 ∨ y = 7))) : ∃ ty, (am_tys Γ)[y]? = some (Γ.cy y, ty) ∧ ty.isReference = true := by
  rcases h with ⟨rfl, -⟩ | ⟨rfl, -⟩ | ⟨rfl, -⟩ | rfl <;> exact ⟨_, rfl, rfl⟩
theorem ar_aaldS {c i N t b y : Nat} {j : Int32} (hck : am_ck c = (4, N, t, b, y)) (h0 : 0 ≤ j.toInt) (h1 : j.toInt < N) (hin : G.1 c i j.toInt.toNat = true) (hd : decode M.2.2.1 pc = .ok (.aaload, 1)) (h : am_J Γ M Q d k n (pc + 1) L (vR t (am_aidx b j.toInt.toNat) :: st) I Lg R G) : am_J Γ M Q d k n pc L (vI j :: vR c i :: st) I Lg R G :=
  am_J.rd (fun ρ p e Rm s m args below meth c0 H locs cells slots Z ls C hW hoS kk => by
    have hc : c < am_NC := am_ckNC (a := 3) hck (by decide)
    have hi := hoS.tl.hd.lt hc
    have ht := am_chkT_ok c hc
    unfold am_chkT at ht
    rw [hck] at ht
    simp only [Bool.and_eq_true, Bool.or_eq_true, beq_iff_eq] at ht
    obtain ⟨ty, hty, hrf⟩ := am_tyR (Γ := Γ) ht.2
    have hlt := am_vlt h0 h1
    have e2 : am_ref R G c i j.toInt.toNat = some (t, am_aidx b j.toInt.toNat) := by unfold am_ref; rw [hck]; simp only [hin, (Nat.blt_eq.mpr hlt : Nat.blt j.toInt.toNat N = true), Bool.and_self]; rfl
    have e1 : am_aV ρ I Lg R G c i j.toNatClampNeg = .ref (ρ t (am_aidx b j.toInt.toNat)) := by
      unfold am_aV; rw [hck]
      show va_rf ((am_ref R G c i j.toInt.toNat).map (fun p => ρ p.1 p.2)) = _
      rw [e2]; rfl
    exact W.aald (v := .ref (ρ t (am_aidx b j.toInt.toNat))) C.1 C.2.1 (hW.arr (a := 3) hck (by decide) hi) ((C.2.2.2.2.2.2.2.2.1.1.2 y _ hty).1 N _) hrf (fun q => by cases q) (by rw [arrV_size]; exact am_vin h0 h1) (by rw [arrV_read _ _ hlt, e1]) rfl rfl hd (kk (am_okS.cons (v := vR t (am_aidx b j.toInt.toNat)) (Or.inl (hW.2.2.2.2.2.2.2.1 c i _ _ _ hc hi e2)) hoS.tl.tl))) h
theorem ar_aaldN {c i N v t y : Nat} {j : Int32} (hck : am_ck c = (5, N, v, t, y)) (h0 : 0 ≤ j.toInt) (h1 : j.toInt < N) (hR : R v i j.toInt.toNat = none) (hd : decode M.2.2.1 pc = .ok (.aaload, 1)) (h : am_J Γ M Q d k n (pc + 1) L (vN :: st) I Lg R G) : am_J Γ M Q d k n pc L (vI j :: vR c i :: st) I Lg R G :=
  am_J.rd (fun ρ p e Rm s m args below meth c0 H locs cells slots Z ls C hW hoS kk => by
    have hc : c < am_NC := am_ckNC (a := 4) hck (by decide)
    have hi := hoS.tl.hd.lt hc
    have ht : t = 1 ∧ y = 3 := by have := am_chkT_ok c hc; unfold am_chkT at this; rw [hck] at this; simp only [Bool.and_eq_true, beq_iff_eq] at this; exact this.2
    obtain ⟨rfl, rfl⟩ := ht
    have hlt := am_vlt h0 h1
    have e2 : am_ref R G c i j.toInt.toNat = (none : Option Nat).map (fun b => (1, b)) := by unfold am_ref; rw [hck]; simp only [hR]
    have e1 : am_aV ρ I Lg R G c i j.toNatClampNeg = .null := by
      unfold am_aV; rw [hck]
      show va_rf ((am_ref R G c i j.toInt.toNat).map (fun p => ρ p.1 p.2)) = _
      rw [e2]; rfl
    exact W.aald (v := .null) C.1 C.2.1 (hW.arr (a := 4) hck (by decide) hi) ((C.2.2.2.2.2.2.2.2.1.1.2 3 _ rfl).1 N _) rfl (fun q => by cases q) (by rw [arrV_size]; exact am_vin h0 h1) (by rw [arrV_read _ _ hlt, e1]) rfl rfl hd (kk (am_okS.cons (v := vN) trivial hoS.tl.tl))) h
theorem ar_aaldD {c i N v t y b : Nat} {j : Int32} (hck : am_ck c = (5, N, v, t, y)) (h0 : 0 ≤ j.toInt) (h1 : j.toInt < N) (hR : R v i j.toInt.toNat = some b) (hd : decode M.2.2.1 pc = .ok (.aaload, 1)) (h : am_J Γ M Q d k n (pc + 1) L (vR t b :: st) I Lg R G) : am_J Γ M Q d k n pc L (vI j :: vR c i :: st) I Lg R G :=
  am_J.rd (fun ρ p e Rm s m args below meth c0 H locs cells slots Z ls C hW hoS kk => by
    have hc : c < am_NC := am_ckNC (a := 4) hck (by decide)
    have hi := hoS.tl.hd.lt hc
    have ht : t = 1 ∧ y = 3 := by have := am_chkT_ok c hc; unfold am_chkT at this; rw [hck] at this; simp only [Bool.and_eq_true, beq_iff_eq] at this; exact this.2
    obtain ⟨rfl, rfl⟩ := ht
    have hlt := am_vlt h0 h1
    have e2 : am_ref R G c i j.toInt.toNat = (some b : Option Nat).map (fun b => (1, b)) := by unfold am_ref; rw [hck]; simp only [hR]
    have e1 : am_aV ρ I Lg R G c i j.toNatClampNeg = .ref (ρ 1 b) := by
      unfold am_aV; rw [hck]
      show va_rf ((am_ref R G c i j.toInt.toNat).map (fun p => ρ p.1 p.2)) = _
      rw [e2]; rfl
    exact W.aald (v := .ref (ρ 1 b)) C.1 C.2.1 (hW.arr (a := 4) hck (by decide) hi) ((C.2.2.2.2.2.2.2.2.1.1.2 3 _ rfl).1 N _) rfl (fun q => by cases q) (by rw [arrV_size]; exact am_vin h0 h1) (by rw [arrV_read _ _ hlt, e1]) rfl rfl hd (kk (am_okS.cons (v := vR 1 b) (Or.inl (hW.2.2.2.2.2.2.2.1 c i _ _ _ hc hi e2)) hoS.tl.tl))) h
theorem ar_alen {c i a9 N x y t : Nat} (hck : am_ck c = (a9 + 1, N, x, y, t)) (ha : a9 < 5) (hd : decode M.2.2.1 pc = .ok (.arraylength, 1)) (h : am_J Γ M Q d k n (pc + 1) L (vI (zI N) :: st) I Lg R G) : am_J Γ M Q d k n pc L (vR c i :: st) I Lg R G :=
  am_J.rd (fun ρ p e Rm s m args below meth c0 H locs cells slots Z ls C hW hoS kk => by
    have hc : c < am_NC := am_ckNC hck ha
    have hi := hoS.hd.lt hc
    have hty : ∃ ty, (am_tys Γ)[t]? = some (Γ.cy t, ty) := by
      have ht := am_chkT_ok c hc
      unfold am_chkT at ht
      rw [hck] at ht
      match a9, ha, ht with
      | 0, _, ht => simp only [Bool.and_eq_true, beq_iff_eq] at ht; rw [ht.2]; exact ⟨_, rfl⟩
      | 1, _, ht => simp only [Bool.and_eq_true, beq_iff_eq] at ht; rw [ht.2]; exact ⟨_, rfl⟩
      | 2, _, ht => simp only [Bool.and_eq_true, beq_iff_eq] at ht; rw [ht.2]; exact ⟨_, rfl⟩
      | 3, _, ht =>
        simp only [Bool.and_eq_true, Bool.or_eq_true, beq_iff_eq] at ht
        obtain ⟨ty, hty, -⟩ := am_tyR (Γ := Γ) ht.2
        exact ⟨ty, hty⟩
      | 4, _, ht => simp only [Bool.and_eq_true, beq_iff_eq] at ht; rw [ht.2.2]; exact ⟨_, rfl⟩
      | q + 5, h5, _ => omega
    obtain ⟨ty, hty⟩ := hty
    exact W.alen (n := zI N) C.1 C.2.1 (hW.arr hck ha hi) ((C.2.2.2.2.2.2.2.2.1.1.2 t _ hty).1 N _) (by rw [arrV_size]; rfl) rfl rfl hd (kk hoS.tl.i)) h
end AMR
end
section
/-! Cells are made. -/
theorem am_ref_zero {I : II} {Lg : LJ} {R : RR} {G : GG} {c i : Nat} (hc : c < am_NC) (h : am_zero c i I Lg R G) (k : Nat) : am_ref R G c i k = none := by
  obtain ⟨-, -, h3, h4⟩ := h
  unfold am_ref
  rcases hck : am_ck c with ⟨a, x, n, y, t⟩
  match a, hck with
  | 0, hck =>
    obtain ⟨e, hlt, -, hs⟩ := am_chk0 hck hc
    subst e
    by_cases hkn : k < n
    · have h1 := hs k hkn
      rcases hsl : am_slot x k with ⟨a, v, t, b⟩
      rw [hsl] at h1
      match a, h1 with
      | 0, _ => rfl
      | 1, _ => rfl
      | 2, _ => rfl
      | 3, _ => simp only [h4]; rfl
      | 4, h1 => simp only [h3 v 0 (by rw [h1.1])]; rfl
      | _ + 5, h1 => exact h1.elim
    · have hb : am_slot x k = (9, 0, 0, 0) := am_slot_out hck hlt (Nat.not_lt.mp hkn)
      rw [hb]
      rfl
  | 1, _ => rfl
  | 2, _ => rfl
  | 3, _ => rfl
  | 4, _ => simp only [h4, Bool.and_false]; rfl
  | 5, hck =>
    have h1 := am_chkT_ok c hc
    unfold am_chkT at h1
    rw [hck] at h1
    simp only [Bool.and_eq_true, beq_iff_eq] at h1
    simp only [h3 n k (by rw [h1.1])]
    rfl
  | _ + 6, _ => rfl
theorem am_ref_G2 {R : RR} {G G' : GG} (h : G'.1 = G.1) (c i k : Nat) : am_ref R G' c i k = am_ref R G c i k := by
  unfold am_ref
  rw [h]
/-- other addresses, and more cells counted: a cell that points nowhere else is the same -/
theorem am_E_rho {Γ : AMG} {ρ ρ' : Nat → Nat → Nat} {I : II} {Lg : LJ} {R : RR} {G G' : GG} {c i : Nat} (hG : G'.1 = G.1) (h : ∀ k c2 i2, am_ref R G c i k = some (c2, i2) → ρ' c2 i2 = ρ c2 i2) : am_E Γ ρ' I Lg R G' c i = am_E Γ ρ I Lg R G c i := by
  have hm : ∀ k, (am_ref R G' c i k).map (fun p => ρ' p.1 p.2) = (am_ref R G c i k).map (fun p => ρ p.1 p.2) := by
    intro k
    rw [am_ref_G2 hG]
    cases hr : am_ref R G c i k with
    | none => rfl
    | some q => exact congrArg some (h k q.1 q.2 hr)
  have hv : ∀ k, am_val ρ' I Lg R G' c i k = am_val ρ I Lg R G c i k := by
    intro k
    unfold am_val
    rw [hm k]
  unfold am_E
  rw [show am_val ρ' I Lg R G' c i = am_val ρ I Lg R G c i from funext hv, show (fun k => (am_ref R G' c i k).map (fun p => ρ' p.1 p.2)) = (fun k => (am_ref R G c i k).map (fun p => ρ p.1 p.2)) from funext hm]
def am_newρ (ρ : Nat → Nat → Nat) (c i a : Nat) : Nat → Nat → Nat := fun c' i' => if c' = c ∧ i' = i then a else ρ c' i'
abbrev am_newG (G : GG) (c : Nat) : GG := (G.1, up1 G.2 c (G.2 c + 1))
theorem am_newG_le {G : GG} {c : Nat} (c' : Nat) : G.2 c' ≤ (am_newG G c).2 c' := by
  show _ ≤ up1 G.2 c (G.2 c + 1) c'
  unfold up1
  split
  · next h => subst h; omega
  · exact Nat.le_refl _
theorem am_newρ_old {ρ : Nat → Nat → Nat} {G : GG} {c a c' i' : Nat} (hc : c < am_NC) (h : am_okR G c' i') : am_newρ ρ c (G.2 c) a c' i' = ρ c' i' := by
  unfold am_newρ
  rw [if_neg]
  rintro ⟨rfl, rfl⟩
  rcases h with h | h <;> omega
theorem am_new_ext {ρ : Nat → Nat → Nat} {G : GG} {c a : Nat} (hc : c < am_NC) : am_Ext ρ G (am_newρ ρ c (G.2 c) a) (am_newG G c) := ⟨am_newG_le, fun _ _ h => am_newρ_old hc h⟩
/-- the world behind a new cell -/
theorem am_Wd.new {Γ : AMG} {ρ : Nat → Nat → Nat} {I : II} {Lg : LJ} {R : RR} {G : GG} {H H1 : Heap} {c : Nat} (hW : am_Wd Γ ρ I Lg R G H) (hc : c < am_NC) (hop : G.1 1000 c 0 = false) (hz : H1.size = H.size + 1) (hq : ∀ q, q < H.size → H1[q]? = H[q]?)
    (hat : va_at Γ.D vwCl (H.size, am_E Γ (am_newρ ρ c (G.2 c) H.size) I Lg R (am_newG G c) c (G.2 c)) H1) : am_Wd Γ (am_newρ ρ c (G.2 c) H.size) I Lg R (am_newG G c) H1 := by
  obtain ⟨w1, w2, w3, w4, w5, w6, w7, w8, w9⟩ := hW
  have hcnt : ∀ c' i', i' < (am_newG G c).2 c' → ¬ (c' = c ∧ i' = G.2 c) → i' < G.2 c' := by
    intro c' i' h hne
    have h' : i' < up1 G.2 c (G.2 c + 1) c' := h
    unfold up1 at h'
    split at h'
    · next e =>
      subst e
      have : i' ≠ G.2 c' := fun q => hne ⟨rfl, q⟩
      omega
    · exact h'
  have hold : ∀ c' i', c' < am_NC → i' < G.2 c' → ρ c' i' < H.size := fun c' i' h1 h2 => (w1 c' i' h1 h2).lt
  have hρo : ∀ c' i', c' < am_NC → i' < G.2 c' → am_newρ ρ c (G.2 c) H.size c' i' = ρ c' i' := fun c' i' h1 h2 => am_newρ_old hc (Or.inl ⟨h1, h2⟩)
  have hρn : am_newρ ρ c (G.2 c) H.size c (G.2 c) = H.size := by unfold am_newρ; rw [if_pos ⟨rfl, rfl⟩]
  refine ⟨fun c' i' h1 h2 => ?_, fun c1 i1 c2 i2 h1 h2 h3 h4 h5 => ?_, fun c' i' h1 h2 => ?_, fun k => ?_, fun k => ?_, by omega, fun q hlt => by rw [hq q (by omega)]; exact w7 q hlt, fun c' i' k c2 i2 h1 h2 h3 => ?_, fun c' i' h1 h2 h3 => ?_⟩
  · by_cases e : c' = c ∧ i' = G.2 c
    · obtain ⟨rfl, rfl⟩ := e
      rw [hρn]
      exact hat
    · have h3 := hcnt c' i' h2 e
      rw [hρo c' i' h1 h3, am_E_rho (ρ := ρ) (ρ' := am_newρ ρ c (G.2 c) H.size) (G := G) (G' := am_newG G c) rfl (fun k c2 i2 hr => hρo c2 i2 (w8 c' i' k c2 i2 h1 h3 hr).1 (w8 c' i' k c2 i2 h1 h3 hr).2)]
      exact (w1 c' i' h1 h3).kept (hq _ (hold c' i' h1 h3))
  · by_cases e1 : c1 = c ∧ i1 = G.2 c <;> by_cases e2 : c2 = c ∧ i2 = G.2 c
    · exact ⟨e1.1.trans e2.1.symm, e1.2.trans e2.2.symm⟩
    · obtain ⟨rfl, rfl⟩ := e1
      have := hcnt c2 i2 h4 e2
      rw [hρn, hρo c2 i2 h2 this] at h5
      have := hold c2 i2 h2 this
      omega
    · obtain ⟨rfl, rfl⟩ := e2
      have := hcnt c1 i1 h3 e1
      rw [hρn, hρo c1 i1 h1 this] at h5
      have := hold c1 i1 h1 this
      omega
    · rw [hρo c1 i1 h1 (hcnt c1 i1 h3 e1), hρo c2 i2 h2 (hcnt c2 i2 h4 e2)] at h5
      exact w2 c1 i1 c2 i2 h1 h2 (hcnt c1 i1 h3 e1) (hcnt c2 i2 h4 e2) h5
  · by_cases e : c' = c ∧ i' = G.2 c
    · obtain ⟨rfl, rfl⟩ := e
      rw [hρn]
      exact w6
    · rw [hρo c' i' h1 (hcnt c' i' h2 e)]
      exact w3 c' i' h1 (hcnt c' i' h2 e)
  · rw [am_newρ_old hc (Or.inr (by decide))]
    exact w4 k
  · rw [am_newρ_old hc (Or.inr (by decide))]
    exact w5 k
  · rw [am_ref_G2 (G := G) (G' := am_newG G c) rfl] at h3
    by_cases e : c' = c ∧ i' = G.2 c
    · obtain ⟨rfl, rfl⟩ := e
      rw [am_ref_zero h1 (w9 c' (G.2 c') h1 (Nat.le_refl _) hop) k] at h3
      cases h3
    · have := w8 c' i' k c2 i2 h1 (hcnt c' i' h2 e) h3
      exact ⟨this.1, Nat.lt_of_lt_of_le this.2 (am_newG_le c2)⟩
  · exact w9 c' i' h1 (Nat.le_trans (am_newG_le c') h2) h3
theorem am_val_zero {ρ : Nat → Nat → Nat} {I : II} {Lg : LJ} {R : RR} {G : GG} {c i k : Nat} (h13 : c < 13) (hk : k < (am_ck c).2.2.1) (h : am_zero c i I Lg R G) : am_val ρ I Lg R G c i k = defaultValue (am_ty c k) := by
  have hz := am_ref_zero (am_lt13 h13) h k
  obtain ⟨h1, h2, -, -⟩ := h
  have htag := am_tagOk_all c h13 k hk
  rcases hck : am_ck c with ⟨a, x, n, y, t⟩
  rw [hck] at hk
  have ha : am_ck c = (0, x, n, (y, t)) := by
    have : ∀ c, c < 13 → (am_ck c).1 = 0 := by decide +kernel
    have h9 := this c h13
    rw [hck] at h9
    rw [hck, show a = 0 from h9]
  obtain ⟨-, -, -, hs⟩ := am_chk0 ha (am_lt13 h13)
  have h9 := hs k hk
  unfold am_tagOk at htag
  unfold am_val
  rw [hz]
  rcases hsl : am_slot c k with ⟨a, v, t, b⟩
  rw [hsl] at h9 htag
  match a, h9, htag with
  | 0, h9, htag =>
    have e : am_ty c k = .int := by generalize am_ty c k = ty at htag; cases ty <;> first | rfl | cases htag
    rw [e]
    show Value.int (I v i 0) = _
    rw [h1 v 0 (by rw [show am_oI v = (c, k) from h9])]
    rfl
  | 1, h9, htag =>
    have e : am_ty c k = .boolean := by generalize am_ty c k = ty at htag; cases ty <;> first | rfl | cases htag
    rw [e]
    show Value.int (I v i 0) = _
    rw [h1 v 0 (by rw [show am_oI v = (c, k) from h9])]
    rfl
  | 2, h9, htag =>
    have e : am_ty c k = .long := by generalize am_ty c k = ty at htag; cases ty <;> first | rfl | cases htag
    rw [e]
    show Value.long (Lg v i 0) = _
    rw [h2 v 0 (by rw [show am_oL v = (c, k) from h9])]
    rfl
  | 3, h9, htag => generalize am_ty c k = ty at htag ⊢; cases ty <;> first | rfl | cases htag
  | 4, h9, htag => generalize am_ty c k = ty at htag ⊢; cases ty <;> first | rfl | cases htag
  | _ + 5, h9, _ => exact h9.elim
theorem am_atA {Γ : AMG} {ρ : Nat → Nat → Nat} {I : II} {Lg : LJ} {R : RR} {G : GG} {H : Heap} {c i a n x y t b : Nat} (hck : am_ck c = (a + 1, n, x, y, t)) (h : H[b]? = some (arrV (Γ.cy t) n (am_aV ρ I Lg R G c i))) : va_at Γ.D vwCl (b, am_E Γ ρ I Lg R G c i) H := by
  obtain ⟨w, h1, -, h3⟩ := am_E_arr (Γ := Γ) (ρ := ρ) (I := I) (Lg := Lg) (R := R) (G := G) (i := i) hck
  rw [h1]
  show H[b]? = some (vp_cell (Γ.cy t) w)
  rw [h, h3]
section AMR
variable {Γ : AMG} {M : MD} {Q : QQ} {d k n pc pc' pc2 : Nat} {L L' : LL} {st st' : List AV} {I I' : II} {Lg Lg' : LJ} {R R' : RR} {G G' : GG}
/-- a step that makes a cell -/
theorem am_J.mk {c N : Nat} (hc : c < am_NC) (hop : G.1 1000 c 0 = false) (hs : ∀ (ρ : Nat → Nat → Nat) (p : Program) (e : Env) (Rm : Room) (s : State) (m : MethodId) (args : Array Value) (below : List Frame) (meth : Method) (c0 : Code) (H : Heap) (locs : List Loc) (cells slots : Nat) (Z : State → Prop) (ls : Array Slot), am_Cx Γ M p s m args meth c0 → am_Wd Γ ρ I Lg R G H → am_zero c (G.2 c) I Lg R G → cells + 1 ≤ Rm.cells → slots + N ≤ Rm.slots →
      (∀ H1 : Heap, H1.size = H.size + 1 → (∀ q, q < H.size → H1[q]? = H[q]?) → va_at Γ.D vwCl (H.size, am_E Γ (am_newρ ρ c (G.2 c) H.size) I Lg R (am_newG G c) c (G.2 c)) H1 → W p Γ.l e Rm s m args below meth c0 H1 locs (cells + 1) (slots + N) Z (F0 m pc' ls (.ref H.size :: st'.map (am_con ρ)))) → W p Γ.l e Rm s m args below meth c0 H locs cells slots Z (F0 m pc ls (st.map (am_con ρ))))
    (hst : ∀ v ∈ st', v ∈ st) (h : am_zero c (G.2 c) I Lg R G → am_J Γ M Q d k n pc' L (vR c (G.2 c) :: st') I Lg R (am_newG G c)) : am_J Γ M Q d (k + 1) (n + N) pc L st I Lg R G := by
  intro ρ p e Rm s m args below meth c0 H locs cells slots Z C h1 h2 h3 h4 hW hl hoL hoS ret ls hL
  have hz := hW.2.2.2.2.2.2.2.2 c (G.2 c) hc (Nat.le_refl _) hop
  have hext : am_Ext ρ G (am_newρ ρ c (G.2 c) H.size) (am_newG G c) := am_new_ext hc
  refine hs ρ p e Rm s m args below meth c0 H locs cells slots Z ls C hW hz (by omega) (by omega) (fun H1 z1 o1 at1 => ?_)
  have hcon : ∀ v, am_ok G v → am_con (am_newρ ρ c (G.2 c) H.size) v = am_con ρ v := by
    intro v hv
    match v, hv with
    | .inl _, _ => rfl
    | .inr (.inl _), _ => rfl
    | .inr (.inr none), _ => rfl
    | .inr (.inr (some (a, b))), hv => exact congrArg Value.ref (hext.2 a b hv)
  have hokx : ∀ v, am_ok G v → am_ok (am_newG G c) v := by
    intro v hv
    match v, hv with
    | .inl _, _ => trivial
    | .inr (.inl _), _ => trivial
    | .inr (.inr none), _ => trivial
    | .inr (.inr (some (a, b))), hv => exact am_okR.ext hext hv
  have key := h hz (am_newρ ρ c (G.2 c) H.size) p e Rm s m args below meth c0 H1 locs (cells + 1) (slots + N) Z C h1 h2 (by omega) (by omega) (hW.new hc hop z1 o1 at1) hl ⟨hoL.1, fun v hv => hokx v (hoL.2 v hv)⟩ (am_okS.cons (v := vR c (G.2 c)) (Or.inl ⟨hc, by show _ < up1 G.2 c (G.2 c + 1) c; simp [up1]⟩) (fun v hv => hokx v (hoS v (hst v hv))))
    (fun ρ' r I2 Lg2 R2 G2 H2 locs2 cells2 slots2 pc2 ls2 a1 a2 a3 a4 a5 a6 a7 a8 => ret ρ' r I2 Lg2 R2 G2 H2 locs2 cells2 slots2 pc2 ls2 a1 (hext.tr a2) a3 a4 (by omega) (by omega) a7 a8) ls ⟨hL.1, hL.2.1, fun j v hv => by rw [hcon v (hoL.at hv)]; exact hL.2.2 j v hv⟩
  have e1 : (vR c (G.2 c) :: st').map (am_con (am_newρ ρ c (G.2 c) H.size)) = .ref H.size :: st'.map (am_con ρ) := by
    rw [List.map_cons]
    congr 1
    · show Value.ref (am_newρ ρ c (G.2 c) H.size c (G.2 c)) = _
      unfold am_newρ
      rw [if_pos ⟨rfl, rfl⟩]
    · exact List.map_congr_left (fun v hv => hcon v (hoS v (hst v hv)))
  rw [e1] at key
  exact key
theorem ar_new {c N idx : Nat} {r : vw_C} (hop : G.1 1000 c 0 = false) (hr : vwCl[c]? = some r) (hN : r.2.2 = N) (hcl : Cond.classLink M.1 idx r.1 ∈ am_BIG) (hinst : Cond.instantiable r.1 r.2.2 ∈ am_BIG) (hini : Cond.initialized r.1 ∈ am_BIG) (hd : decode M.2.2.1 pc = .ok (.new idx, 3)) (h : am_zero c (G.2 c) I Lg R G → am_J Γ M Q d k n (pc + 3) L (vR c (G.2 c) :: st) I Lg R (am_newG G c)) : am_J Γ M Q d (k + 1) (n + N) pc L st I Lg R G := by
  subst hN
  obtain ⟨hck, h13⟩ := am_ckN c r hr
  refine am_J.mk (am_lt13 h13) hop (fun ρ p e Rm s m args below meth c0 H locs cells slots Z ls C hW hz hc1 hc2 kk => ?_) (fun _ h => h) h
  have hts := C.2.2.2.2.2.2.1
  have hKn := C.2.2.2.2.2.2.2.2.1.1.1 c _ hr
  refine W.newcK C.1 C.2.1 C.2.2.2.2.2.1 (hts _ hcl) (hts _ hinst) (hts _ hini) rfl hd hc1 hc2 hKn.2.1 rfl fun H1 kC hkC e1 z1 o1 => kk H1 z1 o1 ?_
  obtain ⟨hty, -⟩ := am_fld c r hr
  have hb := (u_born (am_ty c) hts (am_wsin c r hr) hKn hkC e1 hty)
  have hz' : am_zero c (G.2 c) I Lg R (am_newG G c) := hz
  have e9 : am_E Γ (am_newρ ρ c (G.2 c) H.size) I Lg R (am_newG G c) c (G.2 c) = .inr (c, (List.range r.2.2).map (am_val (am_newρ ρ c (G.2 c) H.size) I Lg R (am_newG G c) c (G.2 c))) := by unfold am_E; rw [hck]; rfl
  rw [e9]
  refine ⟨_, hr, hb.to (fun j hj => ?_)⟩
  have hv := am_val_zero (ρ := am_newρ ρ c (G.2 c) H.size) (k := j) h13 (by rw [hck]; exact hj) hz'
  rw [← hv]
  unfold vp_V
  rw [List.getD_eq_getElem?_getD, List.getElem?_map, List.getElem?_range hj]
  rfl
def am_dv : Nat → Value
  | 0 => .int 0
  | 1 => .int 0
  | 2 => .long 0
  | _ => .null
theorem am_aV_zero {ρ : Nat → Nat → Nat} {a N x y t c i : Nat} (hck : am_ck c = (a + 1, N, x, y, t)) (ha : a < 5) (h : am_zero c i I Lg R G) : am_aV ρ I Lg R G c i = fun _ => am_dv a := by
  have hc := am_ckNC hck ha
  funext j
  have hz := am_ref_zero hc h j
  obtain ⟨h1, h2, -, -⟩ := h
  have h9 := am_chkT_ok c hc
  unfold am_chkT at h9
  unfold am_aV
  rw [hck] at h9 ⊢
  match a, ha, h9 with
  | 0, _, h9 =>
    simp only [Bool.and_eq_true, beq_iff_eq] at h9
    show Value.int (I x i j) = .int 0
    rw [h1 x j (by rw [h9.1])]
  | 1, _, h9 =>
    simp only [Bool.and_eq_true, beq_iff_eq] at h9
    show Value.int (I x i j) = .int 0
    rw [h1 x j (by rw [h9.1])]
  | 2, _, h9 =>
    simp only [Bool.and_eq_true, beq_iff_eq] at h9
    show Value.long (Lg x i j) = .long 0
    rw [h2 x j (by rw [h9.1])]
  | 3, _, _ => simp only [hz]; rfl
  | 4, _, _ => simp only [hz]; rfl
  | q + 5, h5, _ => omega
def am_atype : Nat → ArrayType
  | 0 => .int
  | 1 => .boolean
  | _ => .long
theorem am_aVG {ρ : Nat → Nat → Nat} {c i : Nat} (hG : G'.1 = G.1) : am_aV ρ I Lg R G' c i = am_aV ρ I Lg R G c i := by
  funext j
  unfold am_aV
  rw [am_ref_G2 hG]
theorem ar_newa {c a N x y t : Nat} (hop : G.1 1000 c 0 = false) (hck : am_ck c = (a + 1, N, x, y, t)) (ha : a < 3) (hN : N ≤ 1000000) (harr : Cond.arrayClass (newarray.typeOf (am_atype a)) ∈ am_BIG) (hd : decode M.2.2.1 pc = .ok (.newarray (am_atype a), 2)) (h : am_zero c (G.2 c) I Lg R G → am_J Γ M Q d k n (pc + 2) L (vR c (G.2 c) :: st) I Lg R (am_newG G c)) : am_J Γ M Q d (k + 1) (n + N) pc L (vI (zI N) :: st) I Lg R G := by
  have hc := am_ckNC hck (by omega)
  refine am_J.mk hc hop (fun ρ p e Rm s m args below meth c0 H locs cells slots Z ls C hW hz hc1 hc2 kk => ?_) (fun _ h => List.mem_cons_of_mem _ h) h
  have hzN : zI N = nI N := Int32.ofInt_eq_ofNat
  have hn0 : ¬ zI N < 0 := by rw [hzN]; exact nI_pos (by omega)
  have hnN : (zI N).toNatClampNeg = N := by rw [hzN]; exact nI_clamp (by omega)
  refine va_newaK C.1 C.2.1 (C.2.2.2.2.2.2.1 _ harr) rfl hd rfl hn0 hnN (by match a, ha with | 0, _ => show N * 4 ≤ _; omega | 1, _ => show N * 1 ≤ _; omega | 2, _ => show N * 8 ≤ _; omega) hc1 hc2 rfl fun H1 cA e1 z1 o1 hAr hnm => kk H1 z1 o1 (am_atA (a := a) hck ?_)
  rw [am_aV_zero hck (by omega) (show am_zero c (G.2 c) I Lg R (am_newG G c) from hz), e1]
  have ht := am_chkT_ok c hc
  unfold am_chkT at ht
  rw [hck] at ht
  match a, ha, ht with
  | 0, _, ht =>
    simp only [Bool.and_eq_true, beq_iff_eq] at ht
    rw [ht.2]
    have h2 : s.vm.findClass ("[" ++ (FieldType.int).toString) = some (Γ.cy 0) := (C.2.2.2.2.2.2.2.2.1.1.2 0 _ rfl).2
    rw [Option.some.inj (hnm.symm.trans h2)]
    rfl
  | 1, _, ht =>
    simp only [Bool.and_eq_true, beq_iff_eq] at ht
    rw [ht.2]
    have h2 : s.vm.findClass ("[" ++ (FieldType.boolean).toString) = some (Γ.cy 1) := (C.2.2.2.2.2.2.2.2.1.1.2 1 _ rfl).2
    rw [Option.some.inj (hnm.symm.trans h2)]
    rfl
  | 2, _, ht =>
    simp only [Bool.and_eq_true, beq_iff_eq] at ht
    rw [ht.2]
    have h2 : s.vm.findClass ("[" ++ (FieldType.long).toString) = some (Γ.cy 2) := (C.2.2.2.2.2.2.2.2.1.1.2 2 _ rfl).2
    rw [Option.some.inj (hnm.symm.trans h2)]
    rfl
end AMR
end
section
/-! Calls. -/
def am_cat : AV → Nat
  | .inr (.inl _) => 2
  | _ => 1
theorem am_cat_con (ρ : Nat → Nat → Nat) (v : AV) : (am_con ρ v).category = am_cat v := by
  match v with
  | .inl _ => rfl
  | .inr (.inl _) => rfl
  | .inr (.inr none) => rfl
  | .inr (.inr (some (a, b))) => rfl
def am_cats (st : List AV) : Nat := match st with
  | [] => 0
  | v :: r => am_cat v + am_cats r
theorem am_cats_con (ρ : Nat → Nat → Nat) : ∀ st : List AV, ((st.map (am_con ρ)).map fun v => v.category).sum = am_cats st
  | [] => rfl
  | v :: r => by
    rw [List.map_cons, List.map_cons, List.sum_cons, am_cats_con ρ r, am_cat_con]
    rfl
/-- a method that can be called -/
def am_Mok (M : MD) : Prop := Cond.code M.2.1 M.2.2.1 M.2.2.2.1 M.2.2.2.2.1 ∈ am_BIG ∧ M.2.1.cls = M.1 ∧ M.2.1.cls ≠ "java/lang/invoke/MethodHandle" ∧ M.2.1.cls ≠ "java/lang/invoke/VarHandle" ∧ (parseMethodDescriptor M.2.1.desc).map (fun d => d.parameters.length) = some M.2.2.2.2.2 ∧ M.2.2.2.1 ≤ 29
theorem am_BIG_good {ws : List Cond} (h : ∀ w ∈ ws, w ∈ am_BIG) : GoodIn am_BIG ws := fun w hw => ⟨h w hw, good_of_word (List.mem_filter.mp (h w hw)).2⟩
theorem am_ws_in {M : MD} (h : am_Mok M) : ∀ w ∈ am_ws M, w ∈ am_BIG := fun w hw => (List.mem_cons.mp hw).elim (fun e => by rw [e]; exact h.1) id
theorem am_Pc_blind {Γ : AMG} {ρ : Nat → Nat → Nat} {args : List AV} {I : II} {Lg : LJ} {R : RR} {G : GG} (hg : am_GK Γ) : FrameBlind (am_Pc Γ ρ args I Lg R G) := fun a U g mk q => ⟨q.1, ⟨va_K.moved (u := U) (U := U.calling g mk a) (Vm.Alike.refl U.vm) q.2.1.1, hg.2 U (U.calling g mk a) q.2.1.2 rfl⟩, q.2.2⟩
theorem am_K.warm {Γ : AMG} {s U : State} (hg : am_GK Γ) (h : am_K Γ s) (hW : s.WarmedH U.vm) : am_K Γ U := ⟨va_K.moved hW.alike h.1, hg.1 s U h.2 hW⟩
section AMR
variable {Γ : AMG} {M M2 : MD} {Q : QQ} {d k n k2 n2 pc pc' pc2 : Nat} {L L' : LL} {st st' As rest : List AV} {I I' : II} {Lg Lg' : LJ} {R R' : RR} {G G' : GG}
/-- a call that is run: what is behind it -/
theorem am_J.call {ρ : Nat → Nat → Nat} {p : Program} {e : Env} {Rm : Room} {s : State} {m : MethodId} {args a : Array Value} {below : List Frame} {meth : Method} {c : Code} {H : Heap} {locs : List Loc} {cells slots : Nat} {Z : State → Prop} {ls : Array Slot} {st0 : List Value}
    (run : va_Run p Γ.l e Rm s m args below meth c H locs cells slots k2 n2 (F0 m pc ls st0) (rest.map (am_con ρ)) (am_Qc Γ (fun r I' Lg' R' G' => am_J Γ M Q d k n (pc + 3) L (r.toList ++ rest) I' Lg' R' G') ρ G a) (fun q => Γ.HH.size ≤ q))
    (C : am_Cx Γ M p s m args meth c) (h1 : d ≤ Rm.frames) (h2 : am_LOC * d ≤ Rm.locals) (h3 : cells + (k2 + k) ≤ Rm.cells) (h4 : slots + (n2 + n) ≤ Rm.slots) (hl : ∀ q ∈ locs, Γ.HH.size ≤ q.base) (hoL : am_okL M.2.2.2.1 G L) (hoR : am_okS G rest)
    (ret : ∀ (ρ' : Nat → Nat → Nat) (r : Option AV) (I' : II) (Lg' : LJ) (R' : RR) (G' : GG) (H' : Heap) (locs' : List Loc) (cells' slots' pc' : Nat) (ls' : Array Slot), am_Wd Γ ρ' I' Lg' R' G' H' → am_Ext ρ G ρ' G' → (∀ v ∈ r, am_ok G' v) → (∀ q ∈ locs', Γ.HH.size ≤ q.base) → cells' ≤ cells + (k2 + k) → slots' ≤ slots + (n2 + n) → Q r I' Lg' R' G' → am_At M pc' r →
      W p Γ.l e Rm s m args below meth c H' locs' cells' slots' Z (F0 m pc' ls' (r.toList.map (am_con ρ'))))
    (hL : am_hL ρ ls L) : W p Γ.l e Rm s m args below meth c H locs cells slots Z (F0 m pc ls st0) := by
  intro T hT X
  obtain ⟨v, st₀, t, T', L1, h0, X', hL1, e1, e2, ⟨ρ', r, I', Lg', R', G', hv, hW', hx, hr, hq⟩, stp⟩ := run T hT X
  have hv2 : v = r.map (am_con ρ') := Outcome.returned.inj hv
  subst hv2
  have hcon : ∀ w, am_ok G w → am_con ρ' w = am_con ρ w := by
    intro w hw
    match w, hw with
    | .inl _, _ => rfl
    | .inr (.inl _), _ => rfl
    | .inr (.inr none), _ => rfl
    | .inr (.inr (some (a, b))), hw => exact congrArg Value.ref (hx.2 a b hw)
  have hokx : ∀ w, am_ok G w → am_ok G' w := by
    intro w hw
    match w, hw with
    | .inl _, _ => trivial
    | .inr (.inl _), _ => trivial
    | .inr (.inr none), _ => trivial
    | .inr (.inr (some (a, b))), hw => exact am_okR.ext hx hw
  rw [← e1] at hW'
  obtain ⟨t2, a1, b1⟩ := hq ρ' p e Rm s m args below meth c T'.heap (locs ++ L1) (cells + k2) (slots + n2) Z C h1 h2 (by omega) (by omega) hW' (fun q hq => (List.mem_append.mp hq).elim (hl q) (hL1 q)) ⟨hoL.1, fun w hw => hokx w (hoL.2 w hw)⟩ (fun w hw => (List.mem_append.mp hw).elim (fun z => hr w (Option.mem_toList.mp z)) (fun z => hokx w (hoR w z)))
    (fun ρ2 r2 I2 Lg2 R2 G2 H2 locs2 cells2 slots2 pc2 ls2 b1 b2 b3 b4 b5 b6 b7 b8 => ret ρ2 r2 I2 Lg2 R2 G2 H2 locs2 cells2 slots2 pc2 ls2 b1 (hx.tr b2) b3 b4 (by omega) (by omega) b7 b8) ls ⟨hL.1, hL.2.1, fun j w hw => by rw [hcon w (hoL.at hw)]; exact hL.2.2 j w hw⟩ T' rfl X'
  refine ⟨t2, stp t2 ?_, b1⟩
  have e9 : (r.toList ++ rest).map (am_con ρ') = (r.map (am_con ρ')).toList ++ rest.map (am_con ρ) := by
    rw [List.map_append]
    congr 1
    · cases r <;> rfl
    · exact List.map_congr_left (fun w hw => hcon w (hoR w hw))
  rw [e9] at a1
  exact a1
theorem ar_invV {c i idx : Nat} {r : vw_C} (hst : st = As.reverse ++ vR c i :: rest) (hr : vwCl[c]? = some r) (hrM : r.1 = M2.1) (hok : am_Mok M2) (h1 : Cond.methodLink M.1 idx M2.2.1 ∈ am_BIG) (h2 : Cond.instanceMethod M2.2.1 ∈ am_BIG) (h3 : Cond.selects M2.1 M2.2.1 M2.2.1 ∈ am_BIG) (h4 : Cond.initialized M2.1 ∈ am_BIG)
    (hlen : As.length = M2.2.2.2.2.2) (hcat : am_cats rest ≤ 8) (hd : decode M.2.2.1 pc = .ok (.invokevirtual idx, 3)) (h : am_Sp Γ d k2 n2 M2 (vR c i :: As) I Lg R G (fun r I' Lg' R' G' => am_J Γ M Q (d + 1) k n (pc + 3) L (r.toList ++ rest) I' Lg' R' G')) : am_J Γ M Q (d + 1) (k2 + k) (n2 + n) pc L st I Lg R G := by
  subst hst
  intro ρ p e Rm s m args below meth c0 H locs cells slots Z C g1 g2 g3 g4 hW hl hoL hoS ret ls hL
  have hrecv : am_ok G (vR c i) := hoS (vR c i) (by simp)
  have hargs : am_okS G (vR c i :: As) := fun v hv => (List.mem_cons.mp hv).elim (fun e => by rw [e]; exact hrecv) (fun z => hoS v (by simp [z]))
  have hrest : am_okS G rest := fun v hv => hoS v (by simp [hv])
  have hi : i < G.2 c := am_okR.lt hrecv (am_lt13 (am_ckN c r hr).2)
  have hGK : am_GK Γ := C.2.2.2.2.2.2.2.2.2
  have hK : am_K Γ s := C.2.2.2.2.2.2.2.2.1
  have hts := C.2.2.2.2.2.2.1
  have hM := h ρ hGK hargs
  have hgood : GoodIn am_BIG (wsV M.1 idx M2.1 M2.2.1 (am_ws M2)) := am_BIG_good (fun w hw => by
    rcases List.mem_append.mp hw with hw | hw
    · simp only [List.mem_cons, List.not_mem_nil, or_false] at hw
      rcases hw with rfl | rfl | rfl | rfl
      · exact h1
      · exact h2
      · exact h3
      · exact h4
    · exact am_ws_in hok w hw)
  have hl29 := hok.2.2.2.2.2
  refine am_J.call (k2 := k2) (n2 := n2) (rest := rest) (st0 := (As.reverse ++ vR c i :: rest).map (am_con ρ)) (va_runV (C := M2.1) (As := As.map (am_con ρ)) (rest := rest.map (am_con ρ)) ⟨C.1, C.2.1, C.2.2.1, C.2.2.2.2.2.1, hts⟩ hM (cwV (ws' := am_BIG) M2.2.2.2.2.2 hts hgood rfl rfl rfl ⟨hok.2.1, hok.2.2.1, hok.2.2.2.1, hok.2.2.2.2.1⟩ ⟨by show d + 1 ≤ _; exact g1, by show 8 + (M2.2.2.2.1 + 11) + am_LOC * d ≤ _; have e9 : am_LOC * (d + 1) = am_LOC * d + 48 := rfl; omega⟩) ⟨am_Pc_blind hGK, ?_, fun U hU hWm => ⟨rfl, hK.warm hGK hWm, by rw [hU]; exact hW⟩⟩ rfl (by simpa using hlen) (hL.1.trans hoL.1) (by show List.map _ _ = _; simp [am_con]) (lv_room (by rw [am_cats_con]; exact hcat)) hd ⟨by omega, by omega⟩) C g1 g2 g3 g4 hl hoL hrest ret hL
  obtain ⟨q', z1, cell, z2, z3, z4, -⟩ := hW.obj hr hi
  exact ⟨cell, z2, by rw [z4]; rfl, by rw [z3, ← hrM]; exact (hK.1.1 c r hr).2.1⟩
theorem ar_invS {idx : Nat} (hst : st = As.reverse ++ rest) (hok : am_Mok M2) (h1 : Cond.methodLink M.1 idx M2.2.1 ∈ am_BIG) (h2 : Cond.static M2.2.1 ∈ am_BIG) (h4 : Cond.initialized M2.1 ∈ am_BIG)
    (hlen : As.length = M2.2.2.2.2.2) (hcat : am_cats rest ≤ 8) (hd : decode M.2.2.1 pc = .ok (.invokestatic idx, 3)) (h : am_Sp Γ d k2 n2 M2 As I Lg R G (fun r I' Lg' R' G' => am_J Γ M Q (d + 1) k n (pc + 3) L (r.toList ++ rest) I' Lg' R' G')) : am_J Γ M Q (d + 1) (k2 + k) (n2 + n) pc L st I Lg R G := by
  subst hst
  intro ρ p e Rm s m args below meth c0 H locs cells slots Z C g1 g2 g3 g4 hW hl hoL hoS ret ls hL
  have hargs : am_okS G As := fun v hv => hoS v (by simp [hv])
  have hrest : am_okS G rest := fun v hv => hoS v (by simp [hv])
  have hGK : am_GK Γ := C.2.2.2.2.2.2.2.2.2
  have hK : am_K Γ s := C.2.2.2.2.2.2.2.2.1
  have hts := C.2.2.2.2.2.2.1
  have hM := h ρ hGK hargs
  have hl29 := hok.2.2.2.2.2
  exact am_J.call (k2 := k2) (n2 := n2) (rest := rest) (st0 := (As.reverse ++ rest).map (am_con ρ)) (va_runS (As := As.map (am_con ρ)) (rest := rest.map (am_con ρ)) ⟨C.1, C.2.1, C.2.2.1, C.2.2.2.2.2.1, hts⟩ hM ⟨callB_of (ws' := am_BIG) M2.2.2.2.2.2 hts (am_BIG_good (am_ws_in hok)) rfl rfl rfl (by rw [hok.2.1]; exact hts _ h4) (hts _ h1) ⟨hok.2.2.1, hok.2.2.2.1, hok.2.2.2.2.1⟩ ⟨by show d + 1 ≤ _; exact g1, by show 8 + (M2.2.2.2.1 + 11) + am_LOC * d ≤ _; have e9 : am_LOC * (d + 1) = am_LOC * d + 48 := rfl; omega⟩, hts _ h2⟩ ⟨am_Pc_blind hGK, fun U hU hWm => ⟨rfl, hK.warm hGK hWm, by rw [hU]; exact hW⟩⟩ rfl (by simpa using hlen) (hL.1.trans hoL.1) (by show List.map _ _ = _; simp) (lv_room (by rw [am_cats_con]; exact hcat)) hd ⟨by omega, by omega⟩) C g1 g2 g3 g4 hl hoL hrest ret hL
theorem ar_invI {c i idx : Nat} (hst : st = As.reverse ++ vR c i :: rest) (hok : am_Mok M2) (hni : M2.2.1.name = "<init>") (hrt : M2.2.2.2.2.1 = none) (h1 : Cond.methodLink M.1 idx M2.2.1 ∈ am_BIG) (h2 : Cond.instanceMethod M2.2.1 ∈ am_BIG) (h4 : Cond.initialized M2.1 ∈ am_BIG)
    (hlen : As.length = M2.2.2.2.2.2) (hcat : am_cats rest ≤ 8) (hd : decode M.2.2.1 pc = .ok (.invokespecial idx, 3)) (h : am_Sp Γ d k2 n2 M2 (vR c i :: As) I Lg R G (fun r I' Lg' R' G' => am_J Γ M Q (d + 1) k n (pc + 3) L (r.toList ++ rest) I' Lg' R' G')) : am_J Γ M Q (d + 1) (k2 + k) (n2 + n) pc L st I Lg R G := by
  subst hst
  intro ρ p e Rm s m args below meth c0 H locs cells slots Z C g1 g2 g3 g4 hW hl hoL hoS ret ls hL
  have hargs : am_okS G (vR c i :: As) := fun v hv => (List.mem_cons.mp hv).elim (fun e => by rw [e]; exact hoS (vR c i) (by simp)) (fun z => hoS v (by simp [z]))
  have hrest : am_okS G rest := fun v hv => hoS v (by simp [hv])
  have hGK : am_GK Γ := C.2.2.2.2.2.2.2.2.2
  have hK : am_K Γ s := C.2.2.2.2.2.2.2.2.1
  have hts := C.2.2.2.2.2.2.1
  have hM := h ρ hGK hargs
  have hl29 := hok.2.2.2.2.2
  obtain ⟨own2, y2, by2, mx2, rt2, na2⟩ := M2
  dsimp only at hrt
  subst hrt
  exact am_J.call (k2 := k2) (n2 := n2) (rest := rest) (st0 := (As.reverse ++ vR c i :: rest).map (am_con ρ)) (va_runI (As := As.map (am_con ρ)) (rest := rest.map (am_con ρ)) ⟨C.1, C.2.1, C.2.2.1, C.2.2.2.2.2.1, hts⟩ hM (cwI (ws' := am_BIG) na2 hts (am_BIG_good (am_ws_in hok)) rfl rfl rfl (by rw [hok.2.1]; exact hts _ h4) (hts _ h1) (hts _ h2) hni ⟨hok.2.2.1, hok.2.2.2.1, hok.2.2.2.2.1⟩ ⟨by show d + 1 ≤ _; exact g1, by show 8 + (mx2 + 11) + am_LOC * d ≤ _; have e9 : am_LOC * (d + 1) = am_LOC * d + 48 := rfl; dsimp only at hl29; omega⟩) ⟨am_Pc_blind hGK, fun U hU hWm => ⟨rfl, hK.warm hGK hWm, by rw [hU]; exact hW⟩⟩ rfl (by simpa using hlen) (hL.1.trans hoL.1) (by show List.map _ _ = _; simp [am_con]) (lv_room (by rw [am_cats_con]; exact hcat)) hd ⟨by omega, by omega⟩) C g1 g2 g3 g4 hl hoL hrest ret hL
/-- a private constructor of a nest mate -/
theorem ar_invN {c i idx : Nat} {host : String} (hst : st = As.reverse ++ vR c i :: rest) (hok : am_Mok M2) (hni : M2.2.1.name = "<init>") (hrt : M2.2.2.2.2.1 = none) (h1 : ∀ U, Γ.KX U → va_Nw (.methodLinkNest M.1 idx M2.2.1 host) U) (h2 : Cond.instanceMethod M2.2.1 ∈ am_BIG) (h4 : Cond.initialized M2.1 ∈ am_BIG)
    (hlen : As.length = M2.2.2.2.2.2) (hcat : am_cats rest ≤ 8) (hd : decode M.2.2.1 pc = .ok (.invokespecial idx, 3)) (h : am_Sp Γ d k2 n2 M2 (vR c i :: As) I Lg R G (fun r I' Lg' R' G' => am_J Γ M Q (d + 1) k n (pc + 3) L (r.toList ++ rest) I' Lg' R' G')) : am_J Γ M Q (d + 1) (k2 + k) (n2 + n) pc L st I Lg R G := by
  subst hst
  intro ρ p e Rm s m args below meth c0 H locs cells slots Z C g1 g2 g3 g4 hW hl hoL hoS ret ls hL
  have hargs : am_okS G (vR c i :: As) := fun v hv => (List.mem_cons.mp hv).elim (fun e => by rw [e]; exact hoS (vR c i) (by simp)) (fun z => hoS v (by simp [z]))
  have hrest : am_okS G rest := fun v hv => hoS v (by simp [hv])
  have hGK : am_GK Γ := C.2.2.2.2.2.2.2.2.2
  have hK : am_K Γ s := C.2.2.2.2.2.2.2.2.1
  have hts := C.2.2.2.2.2.2.1
  have hM := h ρ hGK hargs
  have hl29 := hok.2.2.2.2.2
  obtain ⟨own2, y2, by2, mx2, rt2, na2⟩ := M2
  dsimp only at hrt
  subst hrt
  exact am_J.call (k2 := k2) (n2 := n2) (rest := rest) (st0 := (As.reverse ++ vR c i :: rest).map (am_con ρ)) (va_runIN (As := As.map (am_con ρ)) (rest := rest.map (am_con ρ)) (Ts := am_BIG) ⟨C.1, C.2.1, C.2.2.1, C.2.2.2.2.2.1, hts⟩ hM ⟨va_cnB (ws' := am_BIG) na2 hts (am_BIG_good (am_ws_in hok)) rfl rfl rfl (h1 s hK.2) (by rw [hok.2.1]; exact hts _ h4) ⟨hok.2.2.1, hok.2.2.2.1, hok.2.2.2.2.1⟩ ⟨by show d + 1 ≤ _; exact g1, by show 8 + (mx2 + 11) + am_LOC * d ≤ _; have e9 : am_LOC * (d + 1) = am_LOC * d + 48 := rfl; dsimp only at hl29; omega⟩, hni, hts _ h2⟩ ⟨am_Pc_blind hGK, fun U hU hWm => ⟨rfl, hK.warm hGK hWm, by rw [hU]; exact hW⟩⟩ rfl (by simpa using hlen) (hL.1.trans hoL.1) (by show List.map _ _ = _; simp [am_con]) (lv_room (by rw [am_cats_con]; exact hcat)) hd ⟨by omega, by omega⟩) C g1 g2 g3 g4 hl hoL hrest ret hL
end AMR
end
section
/-! A contract out of the judgement: how a method is entered and left; what is weaker. -/
theorem am_J.mono {Γ : AMG} {M : MD} {Q Q2 : QQ} {d k n pc : Nat} {L : LL} {st : List AV} {I : II} {Lg : LJ} {R : RR} {G : GG} (h : am_J Γ M Q d k n pc L st I Lg R G) (hq : ∀ r I' Lg' R' G', Q r I' Lg' R' G' → Q2 r I' Lg' R' G') : am_J Γ M Q2 d k n pc L st I Lg R G :=
  fun ρ p e Rm s m args below meth c H locs cells slots Z C h1 h2 h3 h4 hW hl hoL hoS ret ls hL => h ρ p e Rm s m args below meth c H locs cells slots Z C h1 h2 h3 h4 hW hl hoL hoS (fun ρ' r I' Lg' R' G' H' locs' cells' slots' pc' ls' b1 b2 b3 b4 b5 b6 b7 b8 => ret ρ' r I' Lg' R' G' H' locs' cells' slots' pc' ls' b1 b2 b3 b4 b5 b6 (hq _ _ _ _ _ b7) b8) ls hL
/-- what stands in a local is forgotten -/
theorem am_J.drop {Γ : AMG} {M : MD} {Q : QQ} {d k n pc : Nat} {L L' : LL} {st : List AV} {I : II} {Lg : LJ} {R : RR} {G : GG} (hlen : L'.length = L.length) (hs : ∀ (i : Nat) (v : AV), L'[i]? = some (some v) → L[i]? = some (some v)) (h : am_J Γ M Q d k n pc L' st I Lg R G) : am_J Γ M Q d k n pc L st I Lg R G :=
  am_J.step (fun ρ p e Rm s m args below meth c H locs cells slots Z ls C hl kk => kk ls ⟨hl.1.trans hlen.symm, hl.2.1, fun i v hv => hl.2.2 i v (hs i v hv)⟩) (fun a b => ⟨⟨hlen.trans a.1, fun v hv => by
    obtain ⟨i, hi⟩ := List.getElem?_of_mem hv
    exact a.at (hs i v hi)⟩, b⟩) h
def am_dropR : LL → LL → Bool
  | [], [] => true
  | none :: a, _ :: b => am_dropR a b
  | some _ :: _, none :: _ => false
  | some _ :: a, some _ :: b => am_dropR a b
  | _, _ => false
/-- the slots of the arguments -/
def am_slots : List AV → LL
  | [] => []
  | .inr (.inl x) :: r => some (vL x) :: none :: am_slots r
  | .inl x :: r => some (vI x) :: am_slots r
  | .inr (.inr o) :: r => some (.inr (.inr o)) :: am_slots r
def am_pad : Nat → LL → LL
  | 0, l => l
  | n + 1, [] => none :: am_pad n []
  | n + 1, x :: l => x :: am_pad n l
theorem am_pad_get : ∀ (n : Nat) (l : LL) (i : Nat) (v : AV), (am_pad n l)[i]? = some (some v) → l[i]? = some (some v)
  | 0, _, _, _, h => h
  | n + 1, [], 0, _, h => by cases h
  | n + 1, [], i + 1, v, h => by
    have h1 := am_pad_get n [] i v (by simpa [am_pad] using h)
    simp at h1
  | n + 1, x :: l, 0, v, h => h
  | n + 1, x :: l, i + 1, v, h => by
    have h1 := am_pad_get n l i v (by simpa [am_pad] using h)
    simpa using h1
theorem am_pad_len : ∀ (n : Nat) (l : LL), l.length ≤ n → (am_pad n l).length = n
  | 0, [], _ => rfl
  | 0, _ :: _, h => absurd h (by simp)
  | n + 1, [], _ => by simp [am_pad, am_pad_len n [] (by simp)]
  | n + 1, x :: l, h => by simp [am_pad, am_pad_len n l (by simpa using h)]
theorem am_slots_len (ρ : Nat → Nat → Nat) : ∀ args : List AV, (am_slots args).length = (lg_sl (args.map (am_con ρ))).length
  | [] => rfl
  | .inr (.inl x) :: r => by
    have h := am_slots_len ρ r
    simp only [am_slots, List.length_cons, h, lg_sl, List.map_cons, List.flatMap_cons, am_con, Value.category, List.length_append]
    simp
    omega
  | .inl x :: r => by
    have h := am_slots_len ρ r
    simp only [am_slots, List.length_cons, h, lg_sl, List.map_cons, List.flatMap_cons, am_con, Value.category, List.length_append]
    simp
    omega
  | .inr (.inr none) :: r => by
    have h := am_slots_len ρ r
    simp only [am_slots, List.length_cons, h, lg_sl, List.map_cons, List.flatMap_cons, am_con, Value.category, List.length_append]
    simp
    omega
  | .inr (.inr (some (a, b))) :: r => by
    have h := am_slots_len ρ r
    simp only [am_slots, List.length_cons, h, lg_sl, List.map_cons, List.flatMap_cons, am_con, Value.category, List.length_append]
    simp
    omega
theorem am_slots_get (ρ : Nat → Nat → Nat) : ∀ (args : List AV) (o i : Nat) (v : AV), (am_slots args)[i]? = some (some v) → (o + i, am_con ρ v) ∈ lv_args o (args.map (am_con ρ))
  | [], _, _, _, h => by simp [am_slots] at h
  | .inr (.inl x) :: r, o, 0, v, h => by
    simp only [am_slots, List.getElem?_cons_zero, Option.some.injEq] at h
    subst h
    exact List.mem_cons_self
  | .inr (.inl x) :: r, o, 1, v, h => by simp [am_slots] at h
  | .inr (.inl x) :: r, o, i + 2, v, h => by
    have h1 := am_slots_get ρ r (o + 2) i v (by simpa [am_slots] using h)
    refine List.mem_cons_of_mem _ ?_
    rw [if_pos (show (am_con ρ (Sum.inr (Sum.inl x))).category = 2 from rfl), show o + (i + 2) = o + 2 + i by omega]
    exact h1
  | .inl x :: r, o, 0, v, h => by
    simp only [am_slots, List.getElem?_cons_zero, Option.some.injEq] at h
    subst h
    exact List.mem_cons_self
  | .inl x :: r, o, i + 1, v, h => by
    have h1 := am_slots_get ρ r (o + 1) i v (by simpa [am_slots] using h)
    refine List.mem_cons_of_mem _ ?_
    rw [if_neg (by simp [am_con, Value.category]), show o + (i + 1) = o + 1 + i by omega]
    exact h1
  | .inr (.inr q) :: r, o, 0, v, h => by
    simp only [am_slots, List.getElem?_cons_zero, Option.some.injEq] at h
    subst h
    exact List.mem_cons_self
  | .inr (.inr q) :: r, o, i + 1, v, h => by
    have h1 := am_slots_get ρ r (o + 1) i v (by simpa [am_slots] using h)
    refine List.mem_cons_of_mem _ ?_
    rw [if_neg (by obtain _ | ⟨a, b⟩ := q <;> simp [am_con, Value.category]), show o + (i + 1) = o + 1 + i by omega]
    exact h1
theorem am_slots_ok {G : GG} : ∀ (args : List AV), am_okS G args → ∀ v, some v ∈ am_slots args → am_ok G v
  | [], _, v, h => by simp [am_slots] at h
  | .inr (.inl x) :: r, hs, v, h => by
    simp only [am_slots, List.mem_cons, Option.some.injEq] at h
    rcases h with rfl | h | h
    · trivial
    · cases h
    · exact am_slots_ok r (fun w hw => hs w (List.mem_cons_of_mem _ hw)) v h
  | .inl x :: r, hs, v, h => by
    simp only [am_slots, List.mem_cons, Option.some.injEq] at h
    rcases h with rfl | h
    · trivial
    · exact am_slots_ok r (fun w hw => hs w (List.mem_cons_of_mem _ hw)) v h
  | .inr (.inr q) :: r, hs, v, h => by
    simp only [am_slots, List.mem_cons, Option.some.injEq] at h
    rcases h with rfl | h
    · exact hs _ List.mem_cons_self
    · exact am_slots_ok r (fun w hw => hs w (List.mem_cons_of_mem _ hw)) v h
/-- the contract out of the judgement at the method's entry -/
theorem am_Sp.of {Γ : AMG} {M : MD} {Q : QQ} {d k n : Nat} {args : List AV} {I : II} {Lg : LJ} {R : RR} {G : GG} (hpl : plainName M.2.1.cls = true) (hown : M.2.1.cls = M.1) (hlen : (am_slots args).length ≤ M.2.2.2.1) (h : am_J Γ M Q d k n 0 (am_pad M.2.2.2.1 (am_slots args)) [] I Lg R G) : am_Sp Γ d k n M args I Lg R G Q := by
  intro ρ hGK hargs
  refine Met.ofW (cc := M.2.2.1) (maxL := M.2.2.2.1) (ret := M.2.2.2.2.1) hpl rfl ?_
  intro p e s m args9 below meth c s₁ B hml hv
  obtain ⟨rfl, hK, hW⟩ := hv
  have hts := atoms_spec (ws := am_ws M) B.pre
  have hown2 : s.vm.findClass M.1 = some m.cls := by rw [← hown]; exact findClass_of_methodNamed B.named
  have hin : meth.name = M.2.1.name := (name_of_methodNamed B.named B.method).1
  have hle : (lg_sl (args.map (am_con ρ))).length ≤ M.2.2.2.1 := by rw [← am_slots_len]; exact hlen
  have hl := lv_entry (args.map (am_con ρ)) (n := M.2.2.2.1) hle
  rw [lg_entry_eq]
  have hb := B.bytes
  have hr := B.returns
  have hx := B.exec
  have hlocks := B.notSynchronized
  refine h ρ p e (headSpec (am_ws M) (am_rm d k n)).room s m _ below meth c s.heap [] 0 0 _ ⟨hx, hb, hml, hr, hlocks, hown2, fun w hw => hts w (List.mem_cons_of_mem _ hw), fun z => hin.trans z, hK, hGK⟩ (Nat.le_refl _) (Nat.le_refl _) (by show 0 + k ≤ k; omega) (by show 0 + n ≤ n; omega) hW (fun q hq => by cases hq) ⟨am_pad_len _ _ hlen, fun v hv => ?_⟩ (fun v hv => by cases hv) ?_ _ ⟨hl.1.trans (am_pad_len _ _ hlen).symm, hl.2.1, fun i v hv => ?_⟩
  · obtain ⟨i, hi⟩ := List.getElem?_of_mem hv
    exact am_slots_ok args hargs v (List.mem_of_getElem? (am_pad_get _ _ i v hi))
  · intro ρ' r I' Lg' R' G' H' locs' cells' slots' pc' ls' b1 b2 b3 b4 b5 b6 b7 b8
    refine W.widen (k := k) (n := n) (by omega) (by omega) ?_
    match r, b3, b7, b8 with
    | none, b3, b7, b8 => exact W.vret hx hb (hr.trans b8.2) (fun t ht hWm => ⟨ρ', none, I', Lg', R', G', rfl, by rw [ht]; exact b1, b2, b3, b7⟩) b4 b8.1
    | some (.inl x), b3, b7, b8 =>
      obtain ⟨b8, b9 | ⟨b9, b10⟩⟩ := b8
      · exact W.iret hx hb (hr.trans b9) (fun t ht hWm => ⟨ρ', some (.inl x), I', Lg', R', G', rfl, by rw [ht]; exact b1, b2, b3, b7⟩) b4 b8
      · exact W.zret hx hb (hr.trans b9) (by rcases b10 with rfl | rfl <;> rfl) (fun t ht hWm => ⟨ρ', some (.inl x), I', Lg', R', G', rfl, by rw [ht]; exact b1, b2, b3, b7⟩) b4 b8
    | some (.inr (.inl x)), b3, b7, b8 => exact W.lret hx hb (hr.trans b8.2) (fun t ht hWm => ⟨ρ', some (.inr (.inl x)), I', Lg', R', G', rfl, by rw [ht]; exact b1, b2, b3, b7⟩) b4 b8.1
    | some (.inr (.inr none)), b3, b7, b8 =>
      obtain ⟨b8, nm, b9⟩ := b8
      exact W.aret (v := .null) hx hb (hr.trans b9) (Or.inl ⟨nm, rfl⟩) (Or.inl rfl) (fun t ht hWm => ⟨ρ', some vN, I', Lg', R', G', rfl, by rw [ht]; exact b1, b2, b3, b7⟩) b4 b8
    | some (.inr (.inr (some (a, b)))), b3, b7, b8 =>
      obtain ⟨b8, nm, b9⟩ := b8
      exact W.aret (v := .ref (ρ' a b)) hx hb (hr.trans b9) (Or.inl ⟨nm, rfl⟩) (Or.inr ⟨_, rfl⟩) (fun t ht hWm => ⟨ρ', some (vR a b), I', Lg', R', G', rfl, by rw [ht]; exact b1, b2, b3, b7⟩) b4 b8
  · have h1 := am_slots_get ρ args 0 i v (am_pad_get _ _ i v hv)
    rw [Nat.zero_add] at h1
    exact hl.2.2 _ h1
theorem am_Sp.mono {Γ : AMG} {M : MD} {Q Q2 : QQ} {d k n : Nat} {args : List AV} {I : II} {Lg : LJ} {R : RR} {G : GG} (h : am_Sp Γ d k n M args I Lg R G Q) (hq : ∀ r I' Lg' R' G', Q r I' Lg' R' G' → Q2 r I' Lg' R' G') : am_Sp Γ d k n M args I Lg R G Q2 := by
  intro ρ hGK hargs p e ha hc hk s m a below hf happ hP hK
  obtain ⟨n1, o, h1, h2, h3, ⟨ρ', r, I', Lg', R', G', e1, e2, e3, e4, e5⟩, hL⟩ := h ρ hGK hargs p e ha hc hk s m a below hf happ hP hK
  exact ⟨n1, o, h1, h2, h3, ⟨ρ', r, I', Lg', R', G', e1, e2, e3, e4, hq _ _ _ _ _ e5⟩, hL⟩
end
section
/-! More rules: returns, Math, Object's constructor, references compared, switches, texts, the script, references stored in rows. -/
def am_max (x y : Int32) : Int32 := if x < y then y else x
def am_min (x y : Int32) : Int32 := if y < x then y else x
def am_abs (x : Int32) : Int32 := if 0 ≤ x then x else 0 - x
section AMR
variable {Γ : AMG} {M : MD} {Q : QQ} {d k n pc pc' pc2 : Nat} {L L' : LL} {st st' : List AV} {I I' : II} {Lg Lg' : LJ} {R R' : RR} {G G' : GG}
theorem ar_ret (hd : decode M.2.2.1 pc = .ok (.return_, 1)) (hr : M.2.2.2.2.1 = none) (h : Q none I Lg R G) : am_J Γ M Q d k n pc L [] I Lg R G :=
  fun ρ p e Rm s m args below meth c H locs cells slots Z C h1 h2 h3 h4 hW hl hoL hoS ret ls hL => ret ρ none I Lg R G H locs cells slots pc ls hW am_Ext.rf (fun v hv => by cases hv) hl (by omega) (by omega) h ⟨hd, hr⟩
theorem ar_iret {x : Int32} (hd : decode M.2.2.1 pc = .ok (.ireturn, 1)) (hr : M.2.2.2.2.1 = some .int ∨ M.2.2.2.2.1 = some .boolean ∧ (x = zI 0 ∨ x = zI 1)) (h : Q (some (vI x)) I Lg R G) : am_J Γ M Q d k n pc L [vI x] I Lg R G :=
  fun ρ p e Rm s m args below meth c H locs cells slots Z C h1 h2 h3 h4 hW hl hoL hoS ret ls hL => ret ρ (some (vI x)) I Lg R G H locs cells slots pc ls hW am_Ext.rf (fun v hv => by cases hv; trivial) hl (by omega) (by omega) h ⟨hd, hr⟩
theorem ar_lret {x : Int64} (hd : decode M.2.2.1 pc = .ok (.lreturn, 1)) (hr : M.2.2.2.2.1 = some .long) (h : Q (some (vL x)) I Lg R G) : am_J Γ M Q d k n pc L [vL x] I Lg R G :=
  fun ρ p e Rm s m args below meth c H locs cells slots Z C h1 h2 h3 h4 hW hl hoL hoS ret ls hL => ret ρ (some (vL x)) I Lg R G H locs cells slots pc ls hW am_Ext.rf (fun v hv => by cases hv; trivial) hl (by omega) (by omega) h ⟨hd, hr⟩
theorem ar_aret {o : Option (Nat × Nat)} (hd : decode M.2.2.1 pc = .ok (.areturn, 1)) (hr : ∃ q, M.2.2.2.2.1 = some (.object q)) (h : Q (some (.inr (.inr o))) I Lg R G) : am_J Γ M Q d k n pc L [.inr (.inr o)] I Lg R G :=
  fun ρ p e Rm s m args below meth c H locs cells slots Z C h1 h2 h3 h4 hW hl hoL hoS ret ls hL => ret ρ (some (.inr (.inr o))) I Lg R G H locs cells slots pc ls hW am_Ext.rf (fun v hv => by cases hv; exact hoS _ List.mem_cons_self) hl (by omega) (by omega) h ⟨hd, hr⟩
/-- a step for which there must be room for a frame -/
theorem am_J.fr (hs : ∀ (ρ : Nat → Nat → Nat) (p : Program) (e : Env) (Rm : Room) (s : State) (m : MethodId) (args : Array Value) (below : List Frame) (meth : Method) (c : Code) (H : Heap) (locs : List Loc) (cells slots : Nat) (Z : State → Prop) (ls : Array Slot), am_Cx Γ M p s m args meth c → am_Wd Γ ρ I Lg R G H → am_okS G st → d + 1 ≤ Rm.frames → am_LOC * (d + 1) ≤ Rm.locals → cells ≤ Rm.cells → slots ≤ Rm.slots → ls.size = c.maxLocals →
      (am_okS G st' → W p Γ.l e Rm s m args below meth c H locs cells slots Z (F0 m pc' ls (st'.map (am_con ρ)))) → W p Γ.l e Rm s m args below meth c H locs cells slots Z (F0 m pc ls (st.map (am_con ρ))))
    (h : am_J Γ M Q (d + 1) k n pc' L st' I Lg R G) : am_J Γ M Q (d + 1) k n pc L st I Lg R G := by
  intro ρ p e Rm s m args below meth c H locs cells slots Z C h1 h2 h3 h4 hW hl hoL hoS ret ls hL
  exact hs ρ p e Rm s m args below meth c H locs cells slots Z ls C hW hoS h1 h2 (by omega) (by omega) (hL.1.trans (hoL.1.trans C.2.2.1.symm)) (fun hoS' => h ρ p e Rm s m args below meth c H locs cells slots Z C h1 h2 h3 h4 hW hl hoL hoS' ret ls hL)
theorem ar_mmax {x y : Int32} {idx : Nat} (h1 : Cond.methodLink M.1 idx Lib.Math.max.name ∈ am_BIG) (h2 : Cond.static Lib.Math.max.name ∈ am_BIG) (h3 : Cond.initialized "java/lang/Math" ∈ am_BIG) (h4 : Cond.code Lib.Math.max.name Lib.Math.max.code 2 (some .int) ∈ am_BIG) (hcat : am_cats st ≤ 8) (hd : decode M.2.2.1 pc = .ok (.invokestatic idx, 3)) (h : am_J Γ M Q (d + 1) k n (pc + 3) L (vI (am_max x y) :: st) I Lg R G) : am_J Γ M Q (d + 1) k n pc L (vI y :: vI x :: st) I Lg R G :=
  am_J.fr (fun ρ p e Rm s m args below meth c0 H locs cells slots Z ls C hW hoS g1 g2 g3 g4 g5 kk => by
    have hts := C.2.2.2.2.2.2.1
    exact va_mmax C.1 C.2.1 g5.symm C.2.2.2.2.2.1 (hts _ h1) (hts _ h2) (hts _ h3) (hts _ h4) (by omega) (by rw [am_cats_con]; have e9 : am_LOC * (d + 1) = am_LOC * d + 48 := rfl; omega) g3 g4 hd (kk hoS.tl.tl.i)) h
theorem ar_mmin {x y : Int32} {idx : Nat} (h1 : Cond.methodLink M.1 idx Lib.Math.min.name ∈ am_BIG) (h2 : Cond.static Lib.Math.min.name ∈ am_BIG) (h3 : Cond.initialized "java/lang/Math" ∈ am_BIG) (h4 : Cond.code Lib.Math.min.name Lib.Math.min.code 2 (some .int) ∈ am_BIG) (hcat : am_cats st ≤ 8) (hd : decode M.2.2.1 pc = .ok (.invokestatic idx, 3)) (h : am_J Γ M Q (d + 1) k n (pc + 3) L (vI (am_min x y) :: st) I Lg R G) : am_J Γ M Q (d + 1) k n pc L (vI y :: vI x :: st) I Lg R G :=
  am_J.fr (fun ρ p e Rm s m args below meth c0 H locs cells slots Z ls C hW hoS g1 g2 g3 g4 g5 kk => by
    have hts := C.2.2.2.2.2.2.1
    exact va_mmin C.1 C.2.1 g5.symm C.2.2.2.2.2.1 (hts _ h1) (hts _ h2) (hts _ h3) (hts _ h4) (by omega) (by rw [am_cats_con]; have e9 : am_LOC * (d + 1) = am_LOC * d + 48 := rfl; omega) g3 g4 hd (kk hoS.tl.tl.i)) h
theorem ar_mabs {x : Int32} {idx : Nat} (h1 : Cond.methodLink M.1 idx Lib.Math.abs.name ∈ am_BIG) (h2 : Cond.static Lib.Math.abs.name ∈ am_BIG) (h3 : Cond.initialized "java/lang/Math" ∈ am_BIG) (h4 : Cond.code Lib.Math.abs.name Lib.Math.abs.code 1 (some .int) ∈ am_BIG) (hcat : am_cats st ≤ 8) (hd : decode M.2.2.1 pc = .ok (.invokestatic idx, 3)) (h : am_J Γ M Q (d + 1) k n (pc + 3) L (vI (am_abs x) :: st) I Lg R G) : am_J Γ M Q (d + 1) k n pc L (vI x :: st) I Lg R G :=
  am_J.fr (fun ρ p e Rm s m args below meth c0 H locs cells slots Z ls C hW hoS g1 g2 g3 g4 g5 kk => by
    have hts := C.2.2.2.2.2.2.1
    exact va_mabs C.1 C.2.1 g5.symm C.2.2.2.2.2.1 (hts _ h1) (hts _ h2) (hts _ h3) (hts _ h4) (by omega) (by rw [am_cats_con]; have e9 : am_LOC * (d + 1) = am_LOC * d + 48 := rfl; omega) g3 g4 hd (kk hoS.tl.i)) h
theorem ar_obj {a b idx : Nat} (h1 : Cond.methodLink M.1 idx Lib.objectInit ∈ am_BIG) (h2 : Cond.instanceMethod Lib.objectInit ∈ am_BIG) (h4 : Cond.code Lib.objectInit ⟨#[0xb1]⟩ 1 none ∈ am_BIG) (hcat : am_cats st ≤ 8) (hd : decode M.2.2.1 pc = .ok (.invokespecial idx, 3)) (h : am_J Γ M Q (d + 1) k n (pc + 3) L st I Lg R G) : am_J Γ M Q (d + 1) k n pc L (vR a b :: st) I Lg R G :=
  am_J.fr (fun ρ p e Rm s m args below meth c0 H locs cells slots Z ls C hW hoS g1 g2 g3 g4 g5 kk => by
    have hts := C.2.2.2.2.2.2.1
    have e8 := am_cats_con ρ st
    exact W.objInit C.1 C.2.1 C.2.2.2.2.2.1 (hts _ h1) (hts _ h2) (hts _ h4) rfl g5 rfl hd (by omega) (by have e9 : am_LOC * (d + 1) = am_LOC * d + 48 := rfl; have h0 : 2 * (F0 m pc ls ((vR a b :: st).map (am_con ρ))).monitorRoom + ((st.map (am_con ρ)).map fun v => v.category).sum ≤ 8 := lv_room (by rw [e8]; exact hcat); omega) (kk hoS.tl)) h
theorem am_rf_con (ρ : Nat → Nat → Nat) (o : Option (Nat × Nat)) : am_con ρ (.inr (.inr o)) = va_rf (o.map (fun p => ρ p.1 p.2)) := by
  obtain _ | ⟨a, b⟩ := o <;> rfl
/-- two references to cells that are there: the same address only if the same cell -/
theorem am_ref_eq {ρ : Nat → Nat → Nat} {H : Heap} (hW : am_Wd Γ ρ I Lg R G H) {c i c2 i2 : Nat} (hc : c < am_NC) (hc2 : c2 < am_NC) (h1 : am_okR G c i) (h2 : am_okR G c2 i2) : some (ρ c i) = some (ρ c2 i2) ↔ c = c2 ∧ i = i2 :=
  ⟨fun h => hW.2.1 c i c2 i2 hc hc2 (h1.lt hc) (h2.lt hc2) (Option.some.inj h), fun h => by rw [h.1, h.2]⟩
theorem ar_acne {c i c2 i2 : Nat} {off : Int} {tgt : Nat} (hc : c < am_NC) (hc2 : c2 < am_NC) (hd : decode M.2.2.1 pc = .ok (.if_acmp .ne off, 3)) (ht : (pc : Int) + off = (tgt : Int)) (h1 : ¬ (c = c2 ∧ i = i2) → am_J Γ M Q d k n tgt L st I Lg R G) (h2 : c = c2 ∧ i = i2 → am_J Γ M Q d k n (pc + 3) L st I Lg R G) : am_J Γ M Q d k n pc L (vR c2 i2 :: vR c i :: st) I Lg R G := by
  intro ρ p e Rm s m args below meth c0 H locs cells slots Z C g1 g2 g3 g4 hW hl hoL hoS ret ls hL
  have he := am_ref_eq hW hc hc2 hoS.tl.hd hoS.hd
  exact lv_acmp_ne (rx := some (ρ c i)) (ry := some (ρ c2 i2)) C.1 C.2.1 hd ht (fun q => h1 (fun z => q (he.mpr z)) ρ p e Rm s m args below meth c0 H locs cells slots Z C g1 g2 g3 g4 hW hl hoL hoS.tl.tl ret ls hL) (fun q => h2 (he.mp q) ρ p e Rm s m args below meth c0 H locs cells slots Z C g1 g2 g3 g4 hW hl hoL hoS.tl.tl ret ls hL)
theorem ar_aceq {c i c2 i2 : Nat} {off : Int} {tgt : Nat} (hc : c < am_NC) (hc2 : c2 < am_NC) (hd : decode M.2.2.1 pc = .ok (.if_acmp .eq off, 3)) (ht : (pc : Int) + off = (tgt : Int)) (h1 : c = c2 ∧ i = i2 → am_J Γ M Q d k n tgt L st I Lg R G) (h2 : ¬ (c = c2 ∧ i = i2) → am_J Γ M Q d k n (pc + 3) L st I Lg R G) : am_J Γ M Q d k n pc L (vR c2 i2 :: vR c i :: st) I Lg R G := by
  intro ρ p e Rm s m args below meth c0 H locs cells slots Z C g1 g2 g3 g4 hW hl hoL hoS ret ls hL
  have he := am_ref_eq hW hc hc2 hoS.tl.hd hoS.hd
  exact lv_acmp_eq (rx := some (ρ c i)) (ry := some (ρ c2 i2)) C.1 C.2.1 hd ht (fun q => h1 (he.mp q) ρ p e Rm s m args below meth c0 H locs cells slots Z C g1 g2 g3 g4 hW hl hoL hoS.tl.tl ret ls hL) (fun q => h2 (fun z => q (he.mpr z)) ρ p e Rm s m args below meth c0 H locs cells slots Z C g1 g2 g3 g4 hW hl hoL hoS.tl.tl ret ls hL)
theorem ar_tsIn {dflt lo hi : Int} {offs : Array Int} {len : Nat} {x : Int32} {off : Int} {tgt : Nat} (hd : decode M.2.2.1 pc = .ok (.tableswitch dflt lo hi offs, len)) (h1 : ¬ x.toInt < lo) (h2 : ¬ hi < x.toInt) (ho : offs[(x.toInt - lo).toNat]? = some off) (ht : (pc : Int) + off = (tgt : Int)) (h : am_J Γ M Q d k n tgt L st I Lg R G) : am_J Γ M Q d k n pc L (vI x :: st) I Lg R G :=
  am_J.step (fun ρ p e Rm s m args below meth c H locs cells slots Z ls C hl kk => lv_tableIn C.1 C.2.1 hd h1 h2 ho ht (kk ls hl)) (fun a b => ⟨a, b.tl⟩) h
theorem ar_tsOut {dflt lo hi : Int} {offs : Array Int} {len : Nat} {x : Int32} {tgt : Nat} (hd : decode M.2.2.1 pc = .ok (.tableswitch dflt lo hi offs, len)) (h1 : x.toInt < lo ∨ hi < x.toInt) (ht : (pc : Int) + dflt = (tgt : Int)) (h : am_J Γ M Q d k n tgt L st I Lg R G) : am_J Γ M Q d k n pc L (vI x :: st) I Lg R G :=
  am_J.step (fun ρ p e Rm s m args below meth c H locs cells slots Z ls C hl kk => lv_tableOut C.1 C.2.1 hd h1 ht (kk ls hl)) (fun a b => ⟨a, b.tl⟩) h
theorem ar_lsw {dflt : Int} {ps : Array (Int × Int)} {len : Nat} {x : Int32} {off : Int} {tgt : Nat} (hd : decode M.2.2.1 pc = .ok (.lookupswitch dflt ps, len)) (hp : (ps.toList.zip (ps.toList.drop 1)).all (fun (a, next) => a.1 < next.1) = true) (ho : Op.lookupswitch.offset ps.toList dflt x.toInt = off) (ht : (pc : Int) + off = (tgt : Int)) (h : am_J Γ M Q d k n tgt L st I Lg R G) : am_J Γ M Q d k n pc L (vI x :: st) I Lg R G :=
  am_J.step (fun ρ p e Rm s m args below meth c H locs cells slots Z ls C hl kk => lv_lookup C.1 C.2.1 hd hp ho ht (kk ls hl)) (fun a b => ⟨a, b.tl⟩) h
theorem ar_ldcS {idx q : Nat} {tx : String} (hR : ∀ U, Γ.KX U → vk_R M.1 idx tx (Γ.SA q) U) (hd : decode M.2.2.1 pc = .ok (.ldc idx, 2)) (h : am_J Γ M Q d k n (pc + 2) L (vR am_cStr q :: st) I Lg R G) : am_J Γ M Q d k n pc L st I Lg R G :=
  am_J.rd (fun ρ p e Rm s m args below meth c H locs cells slots Z ls C hW hoS kk => by
    refine va_ldcS (q := Γ.SA q) C.1 C.2.1 C.2.2.2.2.2.1 (hR s C.2.2.2.2.2.2.2.2.1.2) hd ?_
    have := kk (am_okS.cons (v := vR am_cStr q) (Or.inr (by decide)) hoS)
    rw [List.map_cons, show am_con ρ (vR am_cStr q) = .ref (Γ.SA q) from congrArg Value.ref (hW.2.2.2.1 q)] at this
    exact this) h
/-- the script is read -/
def am_scr (Γ : AMG) : Prop := ∀ U, Γ.KX U → va_X Γ.scr.1 Γ.scr.2.1 Γ.scr.2.2 U Γ.HH
theorem am_scr_at {ρ : Nat → Nat → Nat} {s : State} {H : Heap} (hs : am_scr Γ) (hK : Γ.KX s) (hW : am_Wd Γ ρ I Lg R G H) : va_X Γ.scr.1 Γ.scr.2.1 Γ.scr.2.2 s H := by
  obtain ⟨cell, h1, h2⟩ := hs s hK
  exact ⟨cell, by rw [hW.2.2.2.2.2.2.1 _ (Array.getElem?_eq_some_iff.mp h1).1]; exact h1, h2⟩
theorem ar_scrL {q : Nat} (hs : am_scr Γ) (hd : decode M.2.2.1 pc = .ok (.arraylength, 1)) (h : am_J Γ M Q d k n (pc + 1) L (vI (zI Γ.scr.2.1) :: st) I Lg R G) : am_J Γ M Q d k n pc L (vR am_cScr q :: st) I Lg R G :=
  am_J.rd (fun ρ p e Rm s m args below meth c H locs cells slots Z ls C hW hoS kk => by
    obtain ⟨cell, h1, h2, h3, h4, h5⟩ := am_scr_at hs C.2.2.2.2.2.2.2.2.1.2 hW
    have h9 : H[ρ am_cScr q]? = some cell := by rw [hW.2.2.2.2.1 q]; exact h1
    exact W.alen (n := zI Γ.scr.2.1) C.1 C.2.1 h9 h2 (by rw [h4]; exact (Int32.ofInt_eq_ofNat).symm) rfl rfl hd (kk hoS.tl.i)) h
theorem ar_scrI {q : Nat} {j : Int32} (hs : am_scr Γ) (h0 : 0 ≤ j.toInt) (h1 : j.toInt < Γ.scr.2.1) (hd : decode M.2.2.1 pc = .ok (.iaload, 1)) (h : am_J Γ M Q d k n (pc + 1) L (vI (Γ.scr.2.2 j.toInt.toNat) :: st) I Lg R G) : am_J Γ M Q d k n pc L (vI j :: vR am_cScr q :: st) I Lg R G :=
  am_J.rd (fun ρ p e Rm s m args below meth c H locs cells slots Z ls C hW hoS kk => by
    obtain ⟨cell, g1, g2, g3, g4, g5⟩ := am_scr_at hs C.2.2.2.2.2.2.2.2.1.2 hW
    have h9 : H[ρ am_cScr q]? = some cell := by rw [hW.2.2.2.2.1 q]; exact g1
    exact W.iald (v := .int (Γ.scr.2.2 j.toInt.toNat)) C.1 C.2.1 h9 g2 g3 (by rw [g4]; exact am_vin h0 h1) (g5 _ (am_vlt h0 h1)) rfl rfl hd (kk hoS.tl.tl.i)) h
theorem am_tyO {Γ : AMG} {t y : Nat} (h : y = 4 ∧ t = 7 ∨ (y = 5 ∧ t = 8 ∨ (y = 6 ∧ t = 0 ∨ y = 3 ∧ t = 1))) : ∃ r : vw_C, vwCl[t]? = some r ∧ (am_tys Γ)[y]? = some (Γ.cy y, .object r.1) := by
  rcases h with ⟨rfl, rfl⟩ | ⟨rfl, rfl⟩ | ⟨rfl, rfl⟩ | ⟨rfl, rfl⟩ <;> exact ⟨_, rfl, rfl⟩
theorem am_aast {ρ : Nat → Nat → Nat} {p : Program} {e : Env} {Rm : Room} {s : State} {m : MethodId} {args : Array Value} {below : List Frame} {meth : Method} {c0 : Code} {H : Heap} {locs : List Loc} {cells slots : Nat} {Z : State → Prop} {ls : Array Slot} {rest : List Value} (C : am_Cx Γ M p s m args meth c0) (hW : am_Wd Γ ρ I Lg R G H) {c i a N x y t b z : Nat} {j : Int32} (hck : am_ck c = (a + 1, N, x, z, y)) (ha : a < 5) (hi : i < G.2 c) (hty : y = 4 ∧ t = 7 ∨ (y = 5 ∧ t = 8 ∨ (y = 6 ∧ t = 0 ∨ y = 3 ∧ t = 1))) (hb : b < G.2 t) (h0 : 0 ≤ j.toInt) (h1 : j.toInt < N) (hd : decode M.2.2.1 pc = .ok (.aastore, 1))
    (kk : ∀ H1 : Heap, H1[ρ c i]? = some (arrV (Γ.cy y) N (updV (am_aV ρ I Lg R G c i) j.toInt.toNat (.ref (ρ t b)))) → H1.size = H.size → (∀ q, q ≠ ρ c i → H1[q]? = H[q]?) → W p Γ.l e Rm s m args below meth c0 H1 (locs ++ [⟨ρ c i, j.toInt.toNat⟩]) cells slots Z (F0 m (pc + 1) ls rest)) : W p Γ.l e Rm s m args below meth c0 H locs cells slots Z (F0 m pc ls (.ref (ρ t b) :: .int j :: .ref (ρ c i) :: rest)) := by
  obtain ⟨r, hr, hy⟩ := am_tyO (Γ := Γ) hty
  have hK := C.2.2.2.2.2.2.2.2.1.1
  have hlt := am_vlt h0 h1
  obtain ⟨r', hr', cellV, g1, g2, g3, -⟩ := hW.obj hr hb
  have hcls := (hK.1 t r hr).2
  obtain ⟨kA, comp, k1, k2, k3, -⟩ := (hK.2 y _ hy).2
  have hcomp : comp = Γ.D.1 t := Option.some.inj (k3.symm.trans hcls.1)
  subst hcomp
  obtain ⟨kC, hkC, -⟩ := hcls.2
  refine W.aast C.1 C.2.1 (hW.arr hck ha hi) (fun q h => by cases h) (fun h => by cases h) k1 k2 rfl hkC ⟨fun q => am_vin h0 h1 (Or.inl q), by rw [arrV_size]; exact hlt⟩ g1 (fun q h => by rw [g3] at h; cases h) (by rw [g2]; exact hkC) (by rw [g2]; exact va_assign hcls) rfl rfl hd fun H1 e1 z1 oq => kk H1 (by rw [e1, arrV_store]; rfl) z1 oq
theorem ar_aastS {c i N t b y b2 : Nat} {j : Int32} (hck : am_ck c = (4, N, t, b, y)) (hy7 : y < 7) (h0 : 0 ≤ j.toInt) (h1 : j.toInt < N) (hb2 : b2 = am_aidx b j.toInt.toNat) (hd : decode M.2.2.1 pc = .ok (.aastore, 1)) (h : am_J Γ M Q d k n (pc + 1) L st I Lg R (up3 G.1 c i j.toInt.toNat true, G.2)) : am_J Γ M Q d k n pc L (vR t b2 :: vI j :: vR c i :: st) I Lg R G := by
  refine am_J.wr (G' := (up3 G.1 c i j.toInt.toNat true, G.2)) (fun ρ p e Rm s m args below meth c0 H locs cells slots Z ls C hW hoS hl kk => ?_) rfl (fun b => b.tl.tl.tl) h
  have hc : c < am_NC := am_ckNC (a := 3) hck (by decide)
  have hi := hoS.tl.tl.hd.lt hc
  have ht := am_chkT_ok c hc
  unfold am_chkT at ht
  rw [hck] at ht
  simp only [Bool.and_eq_true, Bool.or_eq_true, beq_iff_eq] at ht
  have htN : t < am_NC := Nat.blt_eq.mp ht.1
  have hb3 := hoS.hd.lt htN
  have eref : am_ref R (up3 G.1 c i j.toInt.toNat true, G.2) c i j.toInt.toNat = some (t, b2) := by
    have hbl : Nat.blt j.toInt.toNat N = true := Nat.blt_eq.mpr (am_vlt h0 h1)
    unfold am_ref; rw [hck, hb2]; simp only [hbl, Bool.true_and]; simp [up3]
  have eoth : ∀ q, ¬ q = j.toInt.toNat → am_ref R (up3 G.1 c i j.toInt.toNat true, G.2) c i q = am_ref R G c i q := by
    intro q hq
    have : up3 G.1 c i j.toInt.toNat true c i q = G.1 c i q := by simp only [up3]; rw [if_neg]; exact fun z => hq z.2.2
    unfold am_ref
    simp only [this]
  refine am_aast (a := 3) (t := t) C hW hck (by decide) hi (by omega) hb3 h0 h1 hd fun H1 e1 z1 oq => kk H1 _ (hW.upd hc hi z1 oq (am_at_arr (a := 3) hck ?_) (fun _ _ _ => rfl) (fun _ _ _ => rfl) (fun _ _ _ => rfl) am_up3_neG rfl (fun k2 c2 i2 _ hk2 => ?_)) (am_kept (H := H) (H1 := H1) hl (hW.2.2.1 c i hc hi))
  · rw [e1]
    congr 2
    funext q
    unfold updV am_aV
    rw [hck]
    by_cases hq : q = j.toInt.toNat
    · rw [if_pos hq, hq]
      show _ = va_rf ((am_ref R (up3 G.1 c i j.toInt.toNat true, G.2) c i j.toInt.toNat).map (fun p => ρ p.1 p.2))
      rw [eref]; rfl
    · rw [if_neg hq]
      show va_rf ((am_ref R G c i q).map (fun p => ρ p.1 p.2)) = va_rf ((am_ref R (up3 G.1 c i j.toInt.toNat true, G.2) c i q).map (fun p => ρ p.1 p.2))
      rw [eoth q hq]
  · by_cases ek : k2 = j.toInt.toNat
    · rw [ek, eref] at hk2
      cases hk2
      exact ⟨htN, hb3⟩
    · rw [eoth k2 ek] at hk2
      exact hW.2.2.2.2.2.2.2.1 c i k2 c2 i2 hc hi hk2
theorem ar_aastD {c i N v t y b2 : Nat} {j : Int32} (hck : am_ck c = (5, N, v, t, y)) (h0 : 0 ≤ j.toInt) (h1 : j.toInt < N) (hd : decode M.2.2.1 pc = .ok (.aastore, 1)) (h : am_J Γ M Q d k n (pc + 1) L st I Lg (up3 R v i j.toInt.toNat (some b2)) G) : am_J Γ M Q d k n pc L (vR t b2 :: vI j :: vR c i :: st) I Lg R G := by
  refine am_J.wr (fun ρ p e Rm s m args below meth c0 H locs cells slots Z ls C hW hoS hl kk => ?_) rfl (fun b => b.tl.tl.tl) h
  have hc : c < am_NC := am_ckNC (a := 4) hck (by decide)
  have hi := hoS.tl.tl.hd.lt hc
  have ht := am_chkT_ok c hc
  unfold am_chkT at ht
  rw [hck] at ht
  simp only [Bool.and_eq_true, beq_iff_eq] at ht
  obtain ⟨hv, rfl, rfl⟩ := ht
  have hb3 := hoS.hd.lt (show 1 < am_NC by decide)
  have eref : ∀ q, am_ref (up3 R v i j.toInt.toNat (some b2)) G c i q = if q = j.toInt.toNat then some (1, b2) else am_ref R G c i q := by
    intro q
    unfold am_ref; rw [hck]
    by_cases hq : q = j.toInt.toNat
    · simp [up3, hq]
    · have e8 : up3 R v i j.toInt.toNat (some b2) v i q = R v i q := by simp only [up3]; rw [if_neg]; exact fun z => hq z.2.2
      rw [if_neg hq]
      show (up3 R v i j.toInt.toNat (some b2) v i q).map _ = _
      rw [e8]
      rfl
  refine am_aast (a := 4) (t := 1) C hW hck (by decide) hi (by omega) hb3 h0 h1 hd fun H1 e1 z1 oq => kk H1 _ (hW.upd hc hi z1 oq (am_at_arr (a := 4) hck ?_) (fun _ _ _ => rfl) (fun _ _ _ => rfl) (am_up3_ne hv) (fun _ _ _ => rfl) rfl (fun k2 c2 i2 _ hk2 => ?_)) (am_kept (H := H) (H1 := H1) hl (hW.2.2.1 c i hc hi))
  · rw [e1]
    congr 2
    funext q
    unfold updV am_aV
    rw [hck]
    show _ = va_rf ((am_ref (up3 R v i j.toInt.toNat (some b2)) G c i q).map (fun p => ρ p.1 p.2))
    rw [eref q]
    by_cases hq : q = j.toInt.toNat
    · rw [if_pos hq, if_pos hq]; rfl
    · rw [if_neg hq, if_neg hq]; rfl
  · rw [eref k2] at hk2
    split at hk2
    · cases hk2
      exact ⟨by decide, hb3⟩
    · exact hW.2.2.2.2.2.2.2.1 c i k2 c2 i2 hc hi hk2
end AMR
end
section
/-! The walk: what is to be shown, out of the code. -/
def am_get (L : LL) (i : Nat) (K : AV → Prop) : Prop := match L, i with
  | [], _ => False
  | some v :: _, 0 => K v
  | none :: _, 0 => False
  | _ :: xs, i + 1 => am_get xs i K
def am_set : LL → Nat → Option AV → (LL → Prop) → Prop
  | [], _, _, _ => False
  | _ :: xs, 0, o, K => K (o :: xs)
  | x :: xs, 1, o, K => am_set xs 0 o (fun ys => match x with
    | some (.inr (.inl _)) => K (none :: ys)
    | some (.inl y) => K (some (.inl y) :: ys)
    | some (.inr (.inr y)) => K (some (.inr (.inr y)) :: ys)
    | none => K (none :: ys))
  | x :: xs, n + 2, o, K => am_set xs (n + 1) o (fun ys => K (x :: ys))
def am_set2 : LL → Nat → (LL → Prop) → Prop
  | [], _, _ => False
  | _ :: xs, 0, K => K (none :: xs)
  | x :: xs, n + 1, K => am_set2 xs n (fun ys => K (x :: ys))
def am_pop : Nat → List AV → List AV → (List AV → List AV → Prop) → Prop
  | 0, st, acc, K => K acc st
  | _ + 1, [], _, _ => False
  | n + 1, v :: st, acc, K => am_pop n st (v :: acc) K
def am_sidxK (b m i : Nat) (K : Nat → Prop) : Prop := match m with
  | 0 => K b
  | _ => K i
def am_aidxK (b j : Nat) (K : Nat → Prop) : Prop := match b with
  | 0 => K j
  | _ => K (b + j)
def am_sw : List Nat → Int → (Nat → Prop) → Prop
  | key :: t :: r, x, K => (x = (key : Int) → K t) ∧ am_sw r x K
  | _, _, _ => True
/-- a value, a state: named, where that is wanted -/
def am_nmV (nm : Bool) (x : Int32) (K : Int32 → Prop) : Prop := match nm with
  | true => ∀ x' : Int32, x' = x → K x'
  | false => K x
def am_nmI (nm : Bool) (I : II) (K : II → Prop) : Prop := match nm with
  | true => ∀ I' : II, I' = I → K I'
  | false => K I
abbrev GO : Type := Nat → Nat → Nat → LL → List AV → II → LJ → RR → GG → Prop
def am_hop (Γ : AMG) (M : MD) (Q : QQ) (nm : Bool) (d pc : Nat) (ce : CE) (go : GO) (k n : Nat) (L : LL) (st : List AV) (I : II) (Lg : LJ) (R : RR) (G : GG) : Prop := match ce with
  | (ins, nx, _, ann, M2) => match ins with
    | .iconst z => go k n nx L (vI (zI z) :: st) I Lg R G
    | .bipush z => go k n nx L (vI (zI z) :: st) I Lg R G
    | .sipush z => go k n nx L (vI (zI z) :: st) I Lg R G
    | .ldc _ => (match ann with
      | 0 :: z :: _ => go k n nx L (vI (zI z) :: st) I Lg R G
      | _ => am_J Γ M Q d k n pc L st I Lg R G)
    | .ldc2_w _ => (match ann with
      | z :: _ => go k n nx L (vL (zL z) :: st) I Lg R G
      | _ => False)
    | .lconst _ => (match ann with
      | z :: _ => go k n nx L (vL (zL z) :: st) I Lg R G
      | _ => False)
    | .iload_n j => am_get L j (fun v => match v with
      | .inl x => go k n nx L (vI x :: st) I Lg R G
      | _ => False)
    | .iload j => am_get L j (fun v => match v with
      | .inl x => go k n nx L (vI x :: st) I Lg R G
      | _ => False)
    | .lload_n j => am_get L j (fun v => match v with
      | .inr (.inl x) => go k n nx L (vL x :: st) I Lg R G
      | _ => False)
    | .lload j => am_get L j (fun v => match v with
      | .inr (.inl x) => go k n nx L (vL x :: st) I Lg R G
      | _ => False)
    | .aload_n j => am_get L j (fun v => match v with
      | .inr (.inr x) => go k n nx L (.inr (.inr x) :: st) I Lg R G
      | _ => False)
    | .aload j => am_get L j (fun v => match v with
      | .inr (.inr x) => go k n nx L (.inr (.inr x) :: st) I Lg R G
      | _ => False)
    | .istore_n j => (match st with
      | .inl x :: r => am_nmV nm x (fun x => am_set L j (some (vI x)) (fun L2 => go k n nx L2 r I Lg R G))
      | _ => False)
    | .istore j => (match st with
      | .inl x :: r => am_nmV nm x (fun x => am_set L j (some (vI x)) (fun L2 => go k n nx L2 r I Lg R G))
      | _ => False)
    | .astore_n j => (match st with
      | .inr (.inr x) :: r => am_set L j (some (.inr (.inr x))) (fun L2 => go k n nx L2 r I Lg R G)
      | _ => False)
    | .astore j => (match st with
      | .inr (.inr x) :: r => am_set L j (some (.inr (.inr x))) (fun L2 => go k n nx L2 r I Lg R G)
      | _ => False)
    | .lstore_n j => (match st with
      | .inr (.inl x) :: r => am_set L j (some (vL x)) (fun L2 => am_set2 L2 (j + 1) (fun L3 => go k n nx L3 r I Lg R G))
      | _ => False)
    | .lstore j => (match st with
      | .inr (.inl x) :: r => am_set L j (some (vL x)) (fun L2 => am_set2 L2 (j + 1) (fun L3 => go k n nx L3 r I Lg R G))
      | _ => False)
    | .iinc j z => am_get L j (fun v => match v with
      | .inl x => am_nmV nm (x + zI z) (fun x => am_set L j (some (vI x)) (fun L2 => go k n nx L2 st I Lg R G))
      | _ => False)
    | .iadd => (match st with
      | .inl y :: .inl x :: r => go k n nx L (vI (x + y) :: r) I Lg R G
      | _ => False)
    | .isub => (match st with
      | .inl y :: .inl x :: r => go k n nx L (vI (x - y) :: r) I Lg R G
      | _ => False)
    | .imul => (match st with
      | .inl y :: .inl x :: r => go k n nx L (vI (x * y) :: r) I Lg R G
      | _ => False)
    | .iand => (match st with
      | .inl y :: .inl x :: r => go k n nx L (vI (x &&& y) :: r) I Lg R G
      | _ => False)
    | .ior => (match st with
      | .inl y :: .inl x :: r => go k n nx L (vI (x ||| y) :: r) I Lg R G
      | _ => False)
    | .ixor => (match st with
      | .inl y :: .inl x :: r => go k n nx L (vI (x ^^^ y) :: r) I Lg R G
      | _ => False)
    | .ishl => (match st with
      | .inl y :: .inl x :: r => go k n nx L (vI (x <<< (y &&& 31)) :: r) I Lg R G
      | _ => False)
    | .ishr => (match st with
      | .inl y :: .inl x :: r => go k n nx L (vI (x >>> (y &&& 31)) :: r) I Lg R G
      | _ => False)
    | .iushr => (match st with
      | .inl y :: .inl x :: r => go k n nx L (vI (x.toUInt32 >>> (y.toUInt32 &&& Int32.toUInt32 31)).toInt32 :: r) I Lg R G
      | _ => False)
    | .idiv => (match st with
      | .inl y :: .inl x :: r => y.toInt ≠ 0 ∧ go k n nx L (vI (x / y) :: r) I Lg R G
      | _ => False)
    | .irem => (match st with
      | .inl y :: .inl x :: r => y.toInt ≠ 0 ∧ go k n nx L (vI (x - x / y * y) :: r) I Lg R G
      | _ => False)
    | .ineg => (match st with
      | .inl x :: r => go k n nx L (vI (-x) :: r) I Lg R G
      | _ => False)
    | .i2l => (match st with
      | .inl x :: r => go k n nx L (vL x.toInt64 :: r) I Lg R G
      | _ => False)
    | .ladd => (match st with
      | .inr (.inl y) :: .inr (.inl x) :: r => go k n nx L (vL (x + y) :: r) I Lg R G
      | _ => False)
    | .lsub => (match st with
      | .inr (.inl y) :: .inr (.inl x) :: r => go k n nx L (vL (x - y) :: r) I Lg R G
      | _ => False)
    | .lmul => (match st with
      | .inr (.inl y) :: .inr (.inl x) :: r => go k n nx L (vL (x * y) :: r) I Lg R G
      | _ => False)
    | .lcmp => (match st with
      | .inr (.inl y) :: .inr (.inl x) :: r => go k n nx L (vI (lg_cmp x y) :: r) I Lg R G
      | _ => False)
    | .ifCond c _ => (match st, ann with
      | .inl x :: r, a :: _ => (match c with
        | .eq => (x.toInt = 0 → go k n a L r I Lg R G) ∧ (x.toInt ≠ 0 → go k n nx L r I Lg R G)
        | .ne => (x.toInt ≠ 0 → go k n a L r I Lg R G) ∧ (x.toInt = 0 → go k n nx L r I Lg R G)
        | .lt => (x.toInt < 0 → go k n a L r I Lg R G) ∧ (0 ≤ x.toInt → go k n nx L r I Lg R G)
        | .ge => (0 ≤ x.toInt → go k n a L r I Lg R G) ∧ (x.toInt < 0 → go k n nx L r I Lg R G)
        | .gt => (0 < x.toInt → go k n a L r I Lg R G) ∧ (x.toInt ≤ 0 → go k n nx L r I Lg R G)
        | .le => (x.toInt ≤ 0 → go k n a L r I Lg R G) ∧ (0 < x.toInt → go k n nx L r I Lg R G))
      | _, _ => False)
    | .if_icmp c _ => (match st, ann with
      | .inl y :: .inl x :: r, a :: _ => (match c with
        | .eq => (x.toInt = y.toInt → go k n a L r I Lg R G) ∧ (x.toInt ≠ y.toInt → go k n nx L r I Lg R G)
        | .ne => (x.toInt ≠ y.toInt → go k n a L r I Lg R G) ∧ (x.toInt = y.toInt → go k n nx L r I Lg R G)
        | .lt => (x.toInt < y.toInt → go k n a L r I Lg R G) ∧ (y.toInt ≤ x.toInt → go k n nx L r I Lg R G)
        | .ge => (y.toInt ≤ x.toInt → go k n a L r I Lg R G) ∧ (x.toInt < y.toInt → go k n nx L r I Lg R G)
        | .gt => (y.toInt < x.toInt → go k n a L r I Lg R G) ∧ (x.toInt ≤ y.toInt → go k n nx L r I Lg R G)
        | .le => (x.toInt ≤ y.toInt → go k n a L r I Lg R G) ∧ (y.toInt < x.toInt → go k n nx L r I Lg R G))
      | _, _ => False)
    | .goto _ => (match ann with
      | a :: _ => go k n a L st I Lg R G
      | _ => False)
    | .aconst_null => go k n nx L (vN :: st) I Lg R G
    | .ifnull _ => (match st, ann with
      | .inr (.inr none) :: r, a :: _ => go k n a L r I Lg R G
      | .inr (.inr (some _)) :: r, _ => go k n nx L r I Lg R G
      | _, _ => False)
    | .ifnonnull _ => (match st, ann with
      | .inr (.inr none) :: r, _ => go k n nx L r I Lg R G
      | .inr (.inr (some _)) :: r, a :: _ => go k n a L r I Lg R G
      | _, _ => False)
    | .if_acmp c _ => (match st, ann with
      | .inr (.inr (some (c2, i2))) :: .inr (.inr (some (c1, i1))) :: r, a :: _ => cond (Nat.blt c1 am_NC && Nat.blt c2 am_NC) (match c with
        | .eq => (c1 = c2 ∧ i1 = i2 → go k n a L r I Lg R G) ∧ (¬ (c1 = c2 ∧ i1 = i2) → go k n nx L r I Lg R G)
        | .ne => (¬ (c1 = c2 ∧ i1 = i2) → go k n a L r I Lg R G) ∧ (c1 = c2 ∧ i1 = i2 → go k n nx L r I Lg R G)) False
      | _, _ => False)
    | .dup => (match st with
      | .inl x :: r => go k n nx L (.inl x :: .inl x :: r) I Lg R G
      | .inr (.inr x) :: r => go k n nx L (.inr (.inr x) :: .inr (.inr x) :: r) I Lg R G
      | _ => False)
    | .dup2 => (match st with
      | .inl x :: .inr (.inr y) :: r => go k n nx L (.inl x :: .inr (.inr y) :: .inl x :: .inr (.inr y) :: r) I Lg R G
      | _ => False)
    | .pop => (match st with
      | .inl _ :: r => go k n nx L r I Lg R G
      | .inr (.inr _) :: r => go k n nx L r I Lg R G
      | _ => False)
    | .getfield _ => (match st, ann with
      | .inr (.inr (some (c, i))) :: r, c' :: f :: _ => cond (Nat.beq c c') (match am_slot c' f with
        | (0, v, _) => go k n nx L (vI (I v i 0) :: r) I Lg R G
        | (1, v, _) => go k n nx L (vI (I v i 0) :: r) I Lg R G
        | (2, v, _) => go k n nx L (vL (Lg v i 0) :: r) I Lg R G
        | (3, t, b, m) => cond (G.1 c i f) (am_sidxK b m i (fun q => go k n nx L (vR t q :: r) I Lg R G)) False
        | (4, v, t, _) => (R v i 0 = none → go k n nx L (vN :: r) I Lg R G) ∧ ∀ b, R v i 0 = some b → go k n nx L (vR t b :: r) I Lg R G
        | _ => False) False
      | _, _ => False)
    | .putfield _ => (match st, ann with
      | v0 :: .inr (.inr (some (c, i))) :: r, c' :: f :: _ => cond (Nat.beq c c') (match am_slot c' f, v0 with
        | (0, v, _), .inl x => am_nmV nm x (fun x => am_nmI nm (up3 I v i 0 x) (fun I2 => go k n nx L r I2 Lg R G))
        | (1, v, _), .inl x => (x = zI 0 ∨ x = zI 1) ∧ am_nmV nm x (fun x => am_nmI nm (up3 I v i 0 x) (fun I2 => go k n nx L r I2 Lg R G))
        | (2, v, _), .inr (.inl x) => go k n nx L r I (up3 Lg v i 0 x) R G
        | (3, t, b, m), .inr (.inr (some (t2, b2))) => (t2 = t ∧ b2 = am_sidx b m i) ∧ go k n nx L r I Lg R (up3 G.1 c i f true, G.2)
        | (4, v, t, _), .inr (.inr (some (t2, b2))) => t2 = t ∧ go k n nx L r I Lg (up3 R v i 0 (some b2)) G
        | (4, v, _, _), .inr (.inr none) => go k n nx L r I Lg (up3 R v i 0 none) G
        | _, _ => False) False
      | _, _ => False)
    | .iaload => (match st with
      | .inl j :: .inr (.inr (some (c, i))) :: r => (match am_ck c with
        | (1, N, v, _) => (0 ≤ j.toInt ∧ j.toInt < N) ∧ go k n nx L (vI (I v i j.toInt.toNat) :: r) I Lg R G
        | _ => am_J Γ M Q d k n pc L st I Lg R G)
      | _ => False)
    | .baload => (match st with
      | .inl j :: .inr (.inr (some (c, i))) :: r => (match am_ck c with
        | (2, N, v, _) => (0 ≤ j.toInt ∧ j.toInt < N) ∧ go k n nx L (vI (I v i j.toInt.toNat) :: r) I Lg R G
        | _ => False)
      | _ => False)
    | .laload => (match st with
      | .inl j :: .inr (.inr (some (c, i))) :: r => (match am_ck c with
        | (3, N, v, _) => (0 ≤ j.toInt ∧ j.toInt < N) ∧ go k n nx L (vL (Lg v i j.toInt.toNat) :: r) I Lg R G
        | _ => False)
      | _ => False)
    | .iastore => (match st with
      | .inl x :: .inl j :: .inr (.inr (some (c, i))) :: r => (match am_ck c with
        | (1, N, v, _) => (0 ≤ j.toInt ∧ j.toInt < N) ∧ am_nmV nm x (fun x => am_nmI nm (up3 I v i j.toInt.toNat x) (fun I2 => go k n nx L r I2 Lg R G))
        | _ => False)
      | _ => False)
    | .bastore => (match st with
      | .inl x :: .inl j :: .inr (.inr (some (c, i))) :: r => (match am_ck c with
        | (2, N, v, _) => (0 ≤ j.toInt ∧ j.toInt < N) ∧ (x = zI 0 ∨ x = zI 1) ∧ am_nmV nm x (fun x => am_nmI nm (up3 I v i j.toInt.toNat x) (fun I2 => go k n nx L r I2 Lg R G))
        | _ => False)
      | _ => False)
    | .lastore => (match st with
      | .inr (.inl x) :: .inl j :: .inr (.inr (some (c, i))) :: r => (match am_ck c with
        | (3, N, v, _) => (0 ≤ j.toInt ∧ j.toInt < N) ∧ go k n nx L r I (up3 Lg v i j.toInt.toNat x) R G
        | _ => False)
      | _ => False)
    | .aaload => (match st with
      | .inl j :: .inr (.inr (some (c, i))) :: r => (match am_ck c with
        | (4, N, t, b, _) => (0 ≤ j.toInt ∧ j.toInt < N) ∧ cond (G.1 c i j.toInt.toNat) (am_aidxK b j.toInt.toNat (fun q => go k n nx L (vR t q :: r) I Lg R G)) False
        | (5, N, v, t, _) => (0 ≤ j.toInt ∧ j.toInt < N) ∧ (R v i j.toInt.toNat = none → go k n nx L (vN :: r) I Lg R G) ∧ ∀ b, R v i j.toInt.toNat = some b → go k n nx L (vR t b :: r) I Lg R G
        | _ => False)
      | _ => False)
    | .aastore => (match st with
      | .inr (.inr (some (t2, b2))) :: .inl j :: .inr (.inr (some (c, i))) :: r => (match am_ck c with
        | (4, N, t, b, y) => cond (Nat.blt y 7) ((0 ≤ j.toInt ∧ j.toInt < N) ∧ (t2 = t ∧ b2 = am_aidx b j.toInt.toNat) ∧ go k n nx L r I Lg R (up3 G.1 c i j.toInt.toNat true, G.2)) False
        | (5, N, v, t, _) => (0 ≤ j.toInt ∧ j.toInt < N) ∧ t2 = t ∧ go k n nx L r I Lg (up3 R v i j.toInt.toNat (some b2)) G
        | _ => False)
      | _ => False)
    | .arraylength => (match st with
      | .inr (.inr (some (c, _))) :: r => (match am_ck c with
        | (a9 + 1, N, _) => cond (Nat.blt a9 5) (go k n nx L (vI (zI N) :: r) I Lg R G) (am_J Γ M Q d k n pc L st I Lg R G)
        | _ => False)
      | _ => False)
    | .tableswitch _ lo hi _ => (match st, ann with
      | .inl x :: r, dfl :: ks => (x.toInt < lo ∨ hi < x.toInt → go k n dfl L r I Lg R G) ∧ am_sw ks x.toInt (fun t => go k n t L r I Lg R G)
      | _, _ => False)
    | .invokevirtual _ => (match d, ann with
      | d' + 1, np :: c' :: k2 :: n2 :: _ => cond (Nat.ble k2 k && Nat.ble n2 n) (am_pop np st [] (fun As rest => cond (Nat.ble (am_cats rest) 8) (match As with
        | .inr (.inr (some (c, _))) :: _ => cond (Nat.beq c c') (am_Sp Γ d' k2 n2 M2 As I Lg R G (fun r I' Lg' R' G' => match r with
          | some v => go (k - k2) (n - n2) nx L (v :: rest) I' Lg' R' G'
          | none => go (k - k2) (n - n2) nx L rest I' Lg' R' G')) False
        | _ => False) False)) False
      | _, _ => am_J Γ M Q d k n pc L st I Lg R G)
    | .invokestatic _ => (match d, ann with
      | d' + 1, 0 :: np :: k2 :: n2 :: _ => cond (Nat.ble k2 k && Nat.ble n2 n) (am_pop np st [] (fun As rest => cond (Nat.ble (am_cats rest) 8) (am_Sp Γ d' k2 n2 M2 As I Lg R G (fun r I' Lg' R' G' => match r with
          | some v => go (k - k2) (n - n2) nx L (v :: rest) I' Lg' R' G'
          | none => go (k - k2) (n - n2) nx L rest I' Lg' R' G')) False)) False
      | _ + 1, 1 :: _ => (match st with
        | .inl y :: .inl x :: r => cond (Nat.ble (am_cats r) 8) (go k n nx L (vI (am_max x y) :: r) I Lg R G) False
        | _ => False)
      | _ + 1, 2 :: _ => (match st with
        | .inl y :: .inl x :: r => cond (Nat.ble (am_cats r) 8) (go k n nx L (vI (am_min x y) :: r) I Lg R G) False
        | _ => False)
      | _ + 1, 3 :: _ => (match st with
        | .inl x :: r => cond (Nat.ble (am_cats r) 8) (go k n nx L (vI (am_abs x) :: r) I Lg R G) False
        | _ => False)
      | _, _ => am_J Γ M Q d k n pc L st I Lg R G)
    | .invokespecial _ => (match d, ann with
      | d' + 1, 0 :: np :: k2 :: n2 :: _ => cond (Nat.ble k2 k && Nat.ble n2 n) (am_pop np st [] (fun As rest => cond (Nat.ble (am_cats rest) 8) (match As with
        | .inr (.inr (some _)) :: _ => am_Sp Γ d' k2 n2 M2 As I Lg R G (fun r I' Lg' R' G' => match r with
          | some v => go (k - k2) (n - n2) nx L (v :: rest) I' Lg' R' G'
          | none => go (k - k2) (n - n2) nx L rest I' Lg' R' G')
        | _ => False) False)) False
      | _ + 1, 1 :: _ => (match st with
        | .inr (.inr (some _)) :: r => cond (Nat.ble (am_cats r) 8) (go k n nx L r I Lg R G) False
        | _ => False)
      | _, _ => am_J Γ M Q d k n pc L st I Lg R G)
    | .new _ => (match k, ann with
      | k' + 1, c :: N :: _ => cond (Nat.ble N n && !(G.1 1000 c 0)) (am_zero c (G.2 c) I Lg R G → go k' (n - N) nx L (vR c (G.2 c) :: st) I Lg R (am_newG G c)) False
      | _, _ => am_J Γ M Q d k n pc L st I Lg R G)
    | .newarray _ => (match k, st, ann with
      | k' + 1, .inl x :: r, c :: N :: _ => cond (Nat.ble N n && !(G.1 1000 c 0)) (x = zI N ∧ (am_zero c (G.2 c) I Lg R G → go k' (n - N) nx L (vR c (G.2 c) :: r) I Lg R (am_newG G c))) False
      | _, _, _ => False)
    | .return_ => (match st with
      | [] => Q none I Lg R G
      | _ => False)
    | .ireturn => (match st, ann with
      | [.inl x], 0 :: _ => Q (some (vI x)) I Lg R G
      | [.inl x], 1 :: _ => (x = zI 0 ∨ x = zI 1) ∧ Q (some (vI x)) I Lg R G
      | _, _ => False)
    | .lreturn => (match st with
      | [.inr (.inl x)] => Q (some (vL x)) I Lg R G
      | _ => False)
    | .areturn => (match st with
      | [.inr (.inr x)] => Q (some (.inr (.inr x))) I Lg R G
      | _ => False)
    | _ => am_J Γ M Q d k n pc L st I Lg R G
def am_noM : MD := ("", ⟨"", "", ""⟩, ⟨#[]⟩, 0, none, 0)
def am_ce0 : CE := (.nop, 0, false, [], am_noM)
def am_adv (Γ : AMG) (M : MD) (rows : List (List CE)) (Q : QQ) (nm : Bool) (d : Nat) : Nat → GO
  | 0 => am_J Γ M Q d
  | f + 1 => fun k n pc L st I Lg R G => am_hop Γ M Q nm d pc (am_lk am_ce0 rows pc) (fun k2 n2 pc2 L2 st2 I2 Lg2 R2 G2 => cond (am_lk am_ce0 rows pc2).2.2.1 (am_J Γ M Q d k2 n2 pc2 L2 st2 I2 Lg2 R2 G2) (am_adv Γ M rows Q nm d f k2 n2 pc2 L2 st2 I2 Lg2 R2 G2)) k n L st I Lg R G
end
section
/-! The check of a code table, and the soundness of the walk. -/
def am_tab : Nat → List Jvm.Cond
  | 0 => k2_sels lw_privs
  | 1 => tables_1_1
  | 2 => tables_1_2
  | 3 => tables_1_3
  | 4 => tables_1_4
  | 5 => tables_1_5
  | 6 => tables_1_6
  | 7 => tables_1_7
  | 8 => tables_1_8
  | _ => []
theorem am_tab_in {c : Jvm.Cond} : ∀ t, c ∈ am_tab t → c ∈ lw_tbl := by
  intro t h
  show c ∈ k2_sels lw_privs ++ (tables_1_1 ++ (tables_1_2 ++ (tables_1_3 ++ (tables_1_4 ++ (tables_1_5 ++ (tables_1_6 ++ (tables_1_7 ++ tables_1_8)))))))
  simp only [List.mem_append]
  match t, h with
  | 0, h => exact Or.inl h
  | 1, h => exact Or.inr (Or.inl h)
  | 2, h => exact Or.inr (Or.inr (Or.inl h))
  | 3, h => exact Or.inr (Or.inr (Or.inr (Or.inl h)))
  | 4, h => exact Or.inr (Or.inr (Or.inr (Or.inr (Or.inl h))))
  | 5, h => exact Or.inr (Or.inr (Or.inr (Or.inr (Or.inr (Or.inl h)))))
  | 6, h => exact Or.inr (Or.inr (Or.inr (Or.inr (Or.inr (Or.inr (Or.inl h))))))
  | 7, h => exact Or.inr (Or.inr (Or.inr (Or.inr (Or.inr (Or.inr (Or.inr (Or.inl h)))))))
  | 8, h => exact Or.inr (Or.inr (Or.inr (Or.inr (Or.inr (Or.inr (Or.inr (Or.inr h)))))))
  | _ + 9, h => exact absurd h List.not_mem_nil
/-- the word at that place of a table: w is 1000 times the table and the place -/
def am_at (w : Nat) (c : Jvm.Cond) : Bool := decide ((am_tab (w / 1000))[w % 1000]? = some c) && goodWord c
theorem am_at_in {w : Nat} {c : Jvm.Cond} (h : am_at w c = true) : c ∈ am_BIG := by
  unfold am_at at h
  rw [Bool.and_eq_true, decide_eq_true_eq] at h
  exact List.mem_filter.mpr ⟨am_tab_in _ (List.mem_of_getElem? h.1), h.2⟩
def am_dc (M : MD) (pc : Nat) (ins : Instr) (nx len : Nat) : Bool := decide (decode M.2.2.1 pc = .ok (ins, len)) && nx == pc + len
def am_fck (M : MD) (idx c f w : Nat) : Bool := match vwCl[c]? with
  | some r => Nat.blt f r.2.2 && am_at w (.fieldLink M.1 idx (r.2.1 f).1 (r.2.1 f).2.1 (r.2.1 f).2.2.1)
  | none => false
def am_pck (M : MD) (c f : Nat) : Bool := match vwCl[c]? with
  | some r => !(r.2.1 f).2.2.2 || (decide (M.2.1.name = "<init>") && decide ((r.2.1 f).1 = M.1))
  | none => false
def am_mck (M : MD) : Bool := goodWord (.code M.2.1 M.2.2.1 M.2.2.2.1 M.2.2.2.2.1) && (decide (M.2.1.cls = M.1) && (decide (M.2.1.cls ≠ "java/lang/invoke/MethodHandle") && (decide (M.2.1.cls ≠ "java/lang/invoke/VarHandle") && (decide ((parseMethodDescriptor M.2.1.desc).map (fun d => d.parameters.length) = some M.2.2.2.2.2) && Nat.ble M.2.2.2.1 29))))
def am_swk (pc : Nat) (lo : Int) : List Nat → List Int → Nat → Bool
  | [], [], _ => true
  | key :: t :: ks, off :: offs, i => decide ((key : Int) = lo + (i : Int)) && (decide ((pc : Int) + off = (t : Int)) && am_swk pc lo ks offs (i + 1))
  | _, _, _ => false
def am_chk (M : MD) (pc : Nat) (ce : CE) : Bool := match ce with
  | (ins, nx, _, ann, M2) => match ins with
    | .iconst z => am_dc M pc (.iconst z) nx 1
    | .bipush z => am_dc M pc (.bipush z) nx 2 && decide ((Int8.ofInt z).toInt32 = zI z)
    | .sipush z => am_dc M pc (.sipush z) nx 3 && decide ((Int16.ofInt z).toInt32 = zI z)
    | .ldc i => (match ann with
      | 0 :: z :: w :: _ => am_dc M pc (.ldc i) nx 2 && am_at w (.constant M.1 i (zI z))
      | 0 :: _ => false
      | _ => true)
    | .ldc2_w i => (match ann with
      | z :: w :: _ => am_dc M pc (.ldc2_w i) nx 3 && am_at w (.constantLong M.1 i (zL z))
      | _ => false)
    | .lconst j => (match ann with
      | z :: _ => am_dc M pc (.lconst j) nx 1 && decide (Int64.ofNat (j : Nat) = zL z)
      | _ => false)
    | .ifCond c off => (match ann with
      | t :: _ => am_dc M pc (.ifCond c off) nx 3 && decide ((pc : Int) + off = (t : Int))
      | _ => false)
    | .if_icmp c off => (match ann with
      | t :: _ => am_dc M pc (.if_icmp c off) nx 3 && decide ((pc : Int) + off = (t : Int))
      | _ => false)
    | .if_acmp c off => (match ann with
      | t :: _ => am_dc M pc (.if_acmp c off) nx 3 && decide ((pc : Int) + off = (t : Int))
      | _ => false)
    | .goto off => (match ann with
      | t :: _ => am_dc M pc (.goto off) nx 3 && decide ((pc : Int) + off = (t : Int))
      | _ => false)
    | .ifnull off => (match ann with
      | t :: _ => am_dc M pc (.ifnull off) nx 3 && decide ((pc : Int) + off = (t : Int))
      | _ => false)
    | .ifnonnull off => (match ann with
      | t :: _ => am_dc M pc (.ifnonnull off) nx 3 && decide ((pc : Int) + off = (t : Int))
      | _ => false)
    | .getfield idx => (match ann with
      | c :: f :: w :: _ => am_dc M pc (.getfield idx) nx 3 && am_fck M idx c f w
      | _ => false)
    | .putfield idx => (match ann with
      | c :: f :: w :: _ => am_dc M pc (.putfield idx) nx 3 && (am_fck M idx c f w && am_pck M c f)
      | _ => false)
    | .tableswitch dflt lo hi offs => (match ann with
      | dfl :: ks => decide (decode M.2.2.1 pc = .ok (.tableswitch dflt lo hi offs, nx - pc)) && (decide ((pc : Int) + dflt = (dfl : Int)) && (decide (hi - lo < offs.size) && am_swk pc lo ks offs.toList 0))
      | _ => false)
    | .invokevirtual idx => (match ann with
      | np :: c :: _ :: _ :: w1 :: w2 :: w3 :: w4 :: w5 :: _ => am_dc M pc (.invokevirtual idx) nx 3 && (np == M2.2.2.2.2.2 + 1 && ((match vwCl[c]? with
        | some r => decide (r.1 = M2.1)
        | none => false) && (am_mck M2 && (am_at w1 (.methodLink M.1 idx M2.2.1) && (am_at w2 (.instanceMethod M2.2.1) && (am_at w3 (.selects M2.1 M2.2.1 M2.2.1) && (am_at w4 (.initialized M2.1) && am_at w5 (.code M2.2.1 M2.2.2.1 M2.2.2.2.1 M2.2.2.2.2.1))))))))
      | [] => true
      | _ => false)
    | .invokestatic idx => (match ann with
      | 0 :: np :: _ :: _ :: w1 :: w2 :: w4 :: w5 :: _ => am_dc M pc (.invokestatic idx) nx 3 && (np == M2.2.2.2.2.2 && (am_mck M2 && (am_at w1 (.methodLink M.1 idx M2.2.1) && (am_at w2 (.static M2.2.1) && (am_at w4 (.initialized M2.1) && am_at w5 (.code M2.2.1 M2.2.2.1 M2.2.2.2.1 M2.2.2.2.2.1))))))
      | 1 :: w1 :: w2 :: w3 :: w4 :: _ => am_dc M pc (.invokestatic idx) nx 3 && (am_at w1 (.methodLink M.1 idx Lib.Math.max.name) && (am_at w2 (.static Lib.Math.max.name) && (am_at w3 (.initialized "java/lang/Math") && am_at w4 (.code Lib.Math.max.name Lib.Math.max.code 2 (some .int)))))
      | 2 :: w1 :: w2 :: w3 :: w4 :: _ => am_dc M pc (.invokestatic idx) nx 3 && (am_at w1 (.methodLink M.1 idx Lib.Math.min.name) && (am_at w2 (.static Lib.Math.min.name) && (am_at w3 (.initialized "java/lang/Math") && am_at w4 (.code Lib.Math.min.name Lib.Math.min.code 2 (some .int)))))
      | 3 :: w1 :: w2 :: w3 :: w4 :: _ => am_dc M pc (.invokestatic idx) nx 3 && (am_at w1 (.methodLink M.1 idx Lib.Math.abs.name) && (am_at w2 (.static Lib.Math.abs.name) && (am_at w3 (.initialized "java/lang/Math") && am_at w4 (.code Lib.Math.abs.name Lib.Math.abs.code 1 (some .int)))))
      | [] => true
      | 9 :: _ => true
      | _ => false)
    | .invokespecial idx => (match ann with
      | 0 :: np :: _ :: _ :: w1 :: w2 :: w4 :: w5 :: _ => am_dc M pc (.invokespecial idx) nx 3 && (np == M2.2.2.2.2.2 + 1 && (am_mck M2 && (decide (M2.2.1.name = "<init>") && (decide (M2.2.2.2.2.1 = none) && (am_at w1 (.methodLink M.1 idx M2.2.1) && (am_at w2 (.instanceMethod M2.2.1) && (am_at w4 (.initialized M2.1) && am_at w5 (.code M2.2.1 M2.2.2.1 M2.2.2.2.1 M2.2.2.2.2.1))))))))
      | 1 :: w1 :: w2 :: w4 :: _ => am_dc M pc (.invokespecial idx) nx 3 && (am_at w1 (.methodLink M.1 idx Lib.objectInit) && (am_at w2 (.instanceMethod Lib.objectInit) && am_at w4 (.code Lib.objectInit ⟨#[0xb1]⟩ 1 none)))
      | [] => true
      | 2 :: _ => true
      | _ => false)
    | .new idx => (match ann with
      | c :: N :: w1 :: w2 :: w3 :: _ => am_dc M pc (.new idx) nx 3 && (match vwCl[c]? with
        | some r => r.2.2 == N && (am_at w1 (.classLink M.1 idx r.1) && (am_at w2 (.instantiable r.1 r.2.2) && am_at w3 (.initialized r.1)))
        | none => false)
      | [] => true
      | _ => false)
    | .newarray ty => (match ann with
      | c :: N :: w :: _ => am_dc M pc (.newarray ty) nx 2 && (match am_ck c with
        | (a + 1, N2, _, _, _) => Nat.blt a 3 && (N2 == N && (Nat.ble N 1000000 && (decide (ty = am_atype a) && am_at w (.arrayClass (newarray.typeOf (am_atype a))))))
        | _ => false)
      | _ => false)
    | .ireturn => (match ann with
      | 0 :: _ => am_dc M pc .ireturn nx 1 && decide (M.2.2.2.2.1 = some .int)
      | 1 :: _ => am_dc M pc .ireturn nx 1 && decide (M.2.2.2.2.1 = some .boolean)
      | _ => false)
    | .return_ => am_dc M pc .return_ nx 1 && decide (M.2.2.2.2.1 = none)
    | .lreturn => am_dc M pc .lreturn nx 1 && decide (M.2.2.2.2.1 = some .long)
    | .areturn => am_dc M pc .areturn nx 1 && (match M.2.2.2.2.1 with
      | some (.object _) => true
      | _ => false)
    | .iadd => am_dc M pc .iadd nx 1
    | .isub => am_dc M pc .isub nx 1
    | .imul => am_dc M pc .imul nx 1
    | .iand => am_dc M pc .iand nx 1
    | .ior => am_dc M pc .ior nx 1
    | .ixor => am_dc M pc .ixor nx 1
    | .ishl => am_dc M pc .ishl nx 1
    | .ishr => am_dc M pc .ishr nx 1
    | .iushr => am_dc M pc .iushr nx 1
    | .idiv => am_dc M pc .idiv nx 1
    | .irem => am_dc M pc .irem nx 1
    | .ineg => am_dc M pc .ineg nx 1
    | .i2l => am_dc M pc .i2l nx 1
    | .ladd => am_dc M pc .ladd nx 1
    | .lsub => am_dc M pc .lsub nx 1
    | .lmul => am_dc M pc .lmul nx 1
    | .lcmp => am_dc M pc .lcmp nx 1
    | .aconst_null => am_dc M pc .aconst_null nx 1
    | .dup => am_dc M pc .dup nx 1
    | .dup2 => am_dc M pc .dup2 nx 1
    | .pop => am_dc M pc .pop nx 1
    | .iaload => am_dc M pc .iaload nx 1
    | .baload => am_dc M pc .baload nx 1
    | .laload => am_dc M pc .laload nx 1
    | .iastore => am_dc M pc .iastore nx 1
    | .bastore => am_dc M pc .bastore nx 1
    | .lastore => am_dc M pc .lastore nx 1
    | .aaload => am_dc M pc .aaload nx 1
    | .aastore => am_dc M pc .aastore nx 1
    | .arraylength => am_dc M pc .arraylength nx 1
    | .iload_n j => am_dc M pc (.iload_n j) nx 1
    | .lload_n j => am_dc M pc (.lload_n j) nx 1
    | .aload_n j => am_dc M pc (.aload_n j) nx 1
    | .istore_n j => am_dc M pc (.istore_n j) nx 1
    | .lstore_n j => am_dc M pc (.lstore_n j) nx 1
    | .astore_n j => am_dc M pc (.astore_n j) nx 1
    | .iload j => am_dc M pc (.iload j) nx 2
    | .lload j => am_dc M pc (.lload j) nx 2
    | .aload j => am_dc M pc (.aload j) nx 2
    | .istore j => am_dc M pc (.istore j) nx 2
    | .lstore j => am_dc M pc (.lstore j) nx 2
    | .astore j => am_dc M pc (.astore j) nx 2
    | .iinc j z => am_dc M pc (.iinc j z) nx 3
    | _ => true
theorem am_dc_ok {M : MD} {pc nx len : Nat} {ins : Instr} (h : am_dc M pc ins nx len = true) : decode M.2.2.1 pc = .ok (ins, len) ∧ nx = pc + len := by
  unfold am_dc at h
  rw [Bool.and_eq_true, decide_eq_true_eq, beq_iff_eq] at h
  exact h
theorem am_fck_ok {M : MD} {idx c f w : Nat} (h : am_fck M idx c f w = true) : ∃ r : vw_C, vwCl[c]? = some r ∧ f < r.2.2 ∧ Jvm.Cond.fieldLink M.1 idx (r.2.1 f).1 (r.2.1 f).2.1 (r.2.1 f).2.2.1 ∈ am_BIG := by
  unfold am_fck at h
  cases hr : vwCl[c]? with
  | none => rw [hr] at h; cases h
  | some r =>
    rw [hr] at h
    simp only [Bool.and_eq_true] at h
    exact ⟨r, rfl, Nat.blt_eq.mp h.1, am_at_in h.2⟩
theorem am_pck_ok {M : MD} {c f : Nat} {r : vw_C} (hr : vwCl[c]? = some r) (h : am_pck M c f = true) : (r.2.1 f).2.2.2 = false ∨ (r.2.1 f).2.2.2 = true ∧ M.2.1.name = "<init>" ∧ (r.2.1 f).1 = M.1 := by
  unfold am_pck at h
  rw [hr] at h
  simp only [Bool.or_eq_true, Bool.and_eq_true, decide_eq_true_eq, Bool.not_eq_true'] at h
  rcases h with h | h
  · exact Or.inl h
  · cases hb : (r.2.1 f).2.2.2 with
    | false => exact Or.inl rfl
    | true => exact Or.inr ⟨rfl, h⟩
theorem am_mck_ok {M : MD} {w : Nat} (h : am_mck M = true) (h5 : am_at w (.code M.2.1 M.2.2.1 M.2.2.2.1 M.2.2.2.2.1) = true) : am_Mok M := by
  unfold am_mck at h
  simp only [Bool.and_eq_true, decide_eq_true_eq] at h
  exact ⟨am_at_in h5, h.2.1, h.2.2.1, h.2.2.2.1, h.2.2.2.2.1, Nat.le_of_ble_eq_true h.2.2.2.2.2⟩
theorem am_get_ok : ∀ {L : LL} {i : Nat} {K : AV → Prop}, am_get L i K → ∃ v, L[i]? = some (some v) ∧ K v
  | [], _, _, h => h.elim
  | some v :: _, 0, _, h => ⟨v, rfl, h⟩
  | none :: _, 0, _, h => h.elim
  | some _ :: xs, i + 1, K, h => am_get_ok (L := xs) (i := i) (K := K) h
  | none :: xs, i + 1, K, h => am_get_ok (L := xs) (i := i) (K := K) h
theorem am_set_ok : ∀ {L : LL} {i : Nat} {o : Option AV} {K : LL → Prop}, am_set L i o K → i < L.length ∧ K (am_st L i o)
  | [], _, _, _, h => h.elim
  | _ :: xs, 0, o, K, h => ⟨by simp, h⟩
  | x :: xs, 1, o, K, h => by
    obtain ⟨h1, h2⟩ := am_set_ok (L := xs) (i := 0) (o := o) h
    refine ⟨by simpa using h1, ?_⟩
    match x, h2 with
    | some (.inr (.inl _)), h2 => exact h2
    | some (.inl _), h2 => exact h2
    | some (.inr (.inr _)), h2 => exact h2
    | none, h2 => exact h2
  | x :: xs, n + 2, o, K, h => by
    obtain ⟨h1, h2⟩ := am_set_ok (L := xs) (i := n + 1) (o := o) h
    exact ⟨by simp only [List.length_cons]; omega, h2⟩
theorem am_set2_ok : ∀ {L : LL} {i : Nat} {K : LL → Prop}, am_set2 L i K → i < L.length ∧ K (L.set i none)
  | [], _, _, h => h.elim
  | _ :: xs, 0, K, h => ⟨by simp, h⟩
  | x :: xs, n + 1, K, h => by
    obtain ⟨h1, h2⟩ := am_set2_ok (L := xs) (i := n) h
    exact ⟨by simpa using h1, h2⟩
theorem am_pop_ok : ∀ {n : Nat} {st acc : List AV} {K : List AV → List AV → Prop}, am_pop n st acc K → ∃ xs rest, st = xs ++ rest ∧ xs.length = n ∧ K (xs.reverse ++ acc) rest
  | 0, st, acc, K, h => ⟨[], st, rfl, rfl, h⟩
  | _ + 1, [], _, _, h => h.elim
  | n + 1, v :: st, acc, K, h => by
    obtain ⟨xs, rest, h1, h2, h3⟩ := am_pop_ok (n := n) (st := st) (acc := v :: acc) h
    exact ⟨v :: xs, rest, by rw [h1]; rfl, by simp [h2], by simpa using h3⟩
theorem am_sidxK_ok {b m i : Nat} {K : Nat → Prop} (h : am_sidxK b m i K) : K (am_sidx b m i) := by
  match m, h with
  | 0, h => exact h
  | _ + 1, h => exact h
theorem am_aidxK_ok {b j : Nat} {K : Nat → Prop} (h : am_aidxK b j K) : K (am_aidx b j) := by
  match b, h with
  | 0, h => exact h
  | _ + 1, h => exact h
theorem am_swk_ok {pc : Nat} {lo : Int} {x : Int} {K : Nat → Prop} : ∀ {ks : List Nat} {offs : List Int} {i : Nat}, am_swk pc lo ks offs i = true → am_sw ks x K → ∀ j, j < offs.length → x = lo + ((i + j : Nat) : Int) → ∃ off t, offs[j]? = some off ∧ (pc : Int) + off = ((t : Nat) : Int) ∧ K t
  | [], [], _, _, _, j, hj, _ => absurd hj (by simp)
  | key :: t :: ks, off :: offs, i, h, hs, j, hj, hx => by
    simp only [am_swk, Bool.and_eq_true, decide_eq_true_eq] at h
    obtain ⟨h1, h2, h3⟩ := h
    match j, hj, hx with
    | 0, _, hx => exact ⟨off, t, rfl, h2, hs.1 (by rw [hx, h1]; simp)⟩
    | j + 1, hj, hx =>
      obtain ⟨off2, t2, e1, e2, e3⟩ := am_swk_ok (ks := ks) (offs := offs) (i := i + 1) h3 hs.2 j (by simpa using hj) (by rw [hx]; congr 2; omega)
      exact ⟨off2, t2, by simpa using e1, e2, e3⟩
  | [], _ :: _, _, h, _, _, _, _ => by cases h
  | [_], [], _, h, _, _, _, _ => by cases h
  | [_], _ :: _, _, h, _, _, _, _ => by cases h
  | _ :: _ :: _, [], _, h, _, _, _, _ => by cases h
theorem am_nmV_ok {nm : Bool} {x : Int32} {K : Int32 → Prop} (h : am_nmV nm x K) : K x := by
  cases nm
  · exact h
  · exact h x rfl
theorem am_nmI_ok {nm : Bool} {I : II} {K : II → Prop} (h : am_nmI nm I K) : K I := by
  cases nm
  · exact h
  · exact h I rfl
theorem am_cond {b : Bool} {A : Prop} (h : cond b A False) : b = true ∧ A := by
  cases b with
  | false => exact h.elim
  | true => exact ⟨rfl, h⟩
set_option maxHeartbeats 4000000 in
theorem am_hop_ok {Γ : AMG} {M : MD} {Q : QQ} {d k n pc : Nat} {L : LL} {st : List AV} {I : II} {Lg : LJ} {R : RR} {G : GG} {ce : CE} {nm : Bool} {go : GO} (hv : am_chk M pc ce = true) (hgo : ∀ k n pc L st I Lg R G, go k n pc L st I Lg R G → am_J Γ M Q d k n pc L st I Lg R G)
    (h : am_hop Γ M Q nm d pc ce go k n L st I Lg R G) : am_J Γ M Q d k n pc L st I Lg R G := by
  obtain ⟨ins, nx, hdb, ann, M2⟩ := ce
  cases ins
  case iconst z =>
    obtain ⟨hd, rfl⟩ := am_dc_ok hv
    exact ar_iconst hd (hgo _ _ _ _ _ _ _ _ _ h)
  case bipush z =>
    have hv2 := Bool.and_eq_true_iff.mp hv
    obtain ⟨hd, rfl⟩ := am_dc_ok hv2.1
    exact ar_bipush (of_decide_eq_true hv2.2) hd (hgo _ _ _ _ _ _ _ _ _ h)
  case sipush z =>
    have hv2 := Bool.and_eq_true_iff.mp hv
    obtain ⟨hd, rfl⟩ := am_dc_ok hv2.1
    exact ar_sipush (of_decide_eq_true hv2.2) hd (hgo _ _ _ _ _ _ _ _ _ h)
  case ldc i =>
    match ann, hv, h with
    | 0 :: z :: w :: _, hv, h =>
      have hv2 := Bool.and_eq_true_iff.mp hv
      obtain ⟨hd, rfl⟩ := am_dc_ok hv2.1
      exact ar_ldc (am_at_in hv2.2) hd (hgo _ _ _ _ _ _ _ _ _ h)
    | [], _, h => exact h
    | [0], hv, _ => cases hv
    | [0, _], hv, _ => cases hv
    | (_ + 1) :: _, _, h => exact h
  case ldc2_w i =>
    match ann, hv, h with
    | z :: w :: _, hv, h =>
      have hv2 := Bool.and_eq_true_iff.mp hv
      obtain ⟨hd, rfl⟩ := am_dc_ok hv2.1
      exact ar_ldc2 (am_at_in hv2.2) hd (hgo _ _ _ _ _ _ _ _ _ h)
    | [], hv, _ => cases hv
    | [_], hv, _ => cases hv
  case lconst j =>
    match ann, hv, h with
    | z :: _, hv, h =>
      have hv2 := Bool.and_eq_true_iff.mp hv
      obtain ⟨hd, rfl⟩ := am_dc_ok hv2.1
      exact ar_lconst (of_decide_eq_true hv2.2) hd (hgo _ _ _ _ _ _ _ _ _ h)
    | [], hv, _ => cases hv
  case iload_n j =>
    obtain ⟨hd, rfl⟩ := am_dc_ok hv
    obtain ⟨v, hg, h⟩ := am_get_ok h
    match v, hg, h with
    | .inl x, hg, h => exact ar_iload_n hg hd (hgo _ _ _ _ _ _ _ _ _ h)
    | .inr _, _, h => exact h.elim
  case iload j =>
    obtain ⟨hd, rfl⟩ := am_dc_ok hv
    obtain ⟨v, hg, h⟩ := am_get_ok h
    match v, hg, h with
    | .inl x, hg, h => exact ar_iload hg hd (hgo _ _ _ _ _ _ _ _ _ h)
    | .inr _, _, h => exact h.elim
  case lload_n j =>
    obtain ⟨hd, rfl⟩ := am_dc_ok hv
    obtain ⟨v, hg, h⟩ := am_get_ok h
    match v, hg, h with
    | .inr (.inl x), hg, h => exact ar_lload_n hg hd (hgo _ _ _ _ _ _ _ _ _ h)
    | .inl _, _, h => exact h.elim
    | .inr (.inr _), _, h => exact h.elim
  case lload j =>
    obtain ⟨hd, rfl⟩ := am_dc_ok hv
    obtain ⟨v, hg, h⟩ := am_get_ok h
    match v, hg, h with
    | .inr (.inl x), hg, h => exact ar_lload hg hd (hgo _ _ _ _ _ _ _ _ _ h)
    | .inl _, _, h => exact h.elim
    | .inr (.inr _), _, h => exact h.elim
  case aload_n j =>
    obtain ⟨hd, rfl⟩ := am_dc_ok hv
    obtain ⟨v, hg, h⟩ := am_get_ok h
    match v, hg, h with
    | .inr (.inr x), hg, h => exact ar_aload_n hg hd (hgo _ _ _ _ _ _ _ _ _ h)
    | .inl _, _, h => exact h.elim
    | .inr (.inl _), _, h => exact h.elim
  case aload j =>
    obtain ⟨hd, rfl⟩ := am_dc_ok hv
    obtain ⟨v, hg, h⟩ := am_get_ok h
    match v, hg, h with
    | .inr (.inr x), hg, h => exact ar_aload hg hd (hgo _ _ _ _ _ _ _ _ _ h)
    | .inl _, _, h => exact h.elim
    | .inr (.inl _), _, h => exact h.elim
  case istore_n j =>
    obtain ⟨hd, rfl⟩ := am_dc_ok hv
    match st, h with
    | .inl x :: r, h =>
      obtain ⟨h1, h2⟩ := am_set_ok (am_nmV_ok h)
      exact ar_istore_n h1 hd (hgo _ _ _ _ _ _ _ _ _ h2)
    | [], h => exact h.elim
    | .inr _ :: _, h => exact h.elim
  case istore j =>
    obtain ⟨hd, rfl⟩ := am_dc_ok hv
    match st, h with
    | .inl x :: r, h =>
      obtain ⟨h1, h2⟩ := am_set_ok (am_nmV_ok h)
      exact ar_istore h1 hd (hgo _ _ _ _ _ _ _ _ _ h2)
    | [], h => exact h.elim
    | .inr _ :: _, h => exact h.elim
  case astore_n j =>
    obtain ⟨hd, rfl⟩ := am_dc_ok hv
    match st, h with
    | .inr (.inr x) :: r, h =>
      obtain ⟨h1, h2⟩ := am_set_ok h
      exact ar_astore_n h1 hd (hgo _ _ _ _ _ _ _ _ _ h2)
    | [], h => exact h.elim
    | .inl _ :: _, h => exact h.elim
    | .inr (.inl _) :: _, h => exact h.elim
  case astore j =>
    obtain ⟨hd, rfl⟩ := am_dc_ok hv
    match st, h with
    | .inr (.inr x) :: r, h =>
      obtain ⟨h1, h2⟩ := am_set_ok h
      exact ar_astore h1 hd (hgo _ _ _ _ _ _ _ _ _ h2)
    | [], h => exact h.elim
    | .inl _ :: _, h => exact h.elim
    | .inr (.inl _) :: _, h => exact h.elim
  case lstore_n j =>
    obtain ⟨hd, rfl⟩ := am_dc_ok hv
    match st, h with
    | .inr (.inl x) :: r, h =>
      obtain ⟨h1, h2⟩ := am_set_ok h
      obtain ⟨h3, h4⟩ := am_set2_ok h2
      rw [am_st_len] at h3
      exact ar_lstore_n h3 hd (hgo _ _ _ _ _ _ _ _ _ h4)
    | [], h => exact h.elim
    | .inl _ :: _, h => exact h.elim
    | .inr (.inr _) :: _, h => exact h.elim
  case lstore j =>
    obtain ⟨hd, rfl⟩ := am_dc_ok hv
    match st, h with
    | .inr (.inl x) :: r, h =>
      obtain ⟨h1, h2⟩ := am_set_ok h
      obtain ⟨h3, h4⟩ := am_set2_ok h2
      rw [am_st_len] at h3
      exact ar_lstore h3 hd (hgo _ _ _ _ _ _ _ _ _ h4)
    | [], h => exact h.elim
    | .inl _ :: _, h => exact h.elim
    | .inr (.inr _) :: _, h => exact h.elim
  case iinc j z =>
    obtain ⟨hd, rfl⟩ := am_dc_ok hv
    obtain ⟨v, hg, h⟩ := am_get_ok h
    match v, hg, h with
    | .inl x, hg, h =>
      obtain ⟨h1, h2⟩ := am_set_ok (am_nmV_ok h)
      exact ar_iinc hg hd (hgo _ _ _ _ _ _ _ _ _ h2)
    | .inr _, _, h => exact h.elim
  case iadd =>
    obtain ⟨hd, rfl⟩ := am_dc_ok hv
    match st, h with
    | .inl y :: .inl x :: r, h =>
      exact ar_iadd hd (hgo _ _ _ _ _ _ _ _ _ h)
    | [], h => exact h.elim
    | [.inl _], h => exact h.elim
    | .inr _ :: _, h => exact h.elim
    | .inl _ :: .inr _ :: _, h => exact h.elim
  case isub =>
    obtain ⟨hd, rfl⟩ := am_dc_ok hv
    match st, h with
    | .inl y :: .inl x :: r, h =>
      exact ar_isub hd (hgo _ _ _ _ _ _ _ _ _ h)
    | [], h => exact h.elim
    | [.inl _], h => exact h.elim
    | .inr _ :: _, h => exact h.elim
    | .inl _ :: .inr _ :: _, h => exact h.elim
  case imul =>
    obtain ⟨hd, rfl⟩ := am_dc_ok hv
    match st, h with
    | .inl y :: .inl x :: r, h =>
      exact ar_imul hd (hgo _ _ _ _ _ _ _ _ _ h)
    | [], h => exact h.elim
    | [.inl _], h => exact h.elim
    | .inr _ :: _, h => exact h.elim
    | .inl _ :: .inr _ :: _, h => exact h.elim
  case iand =>
    obtain ⟨hd, rfl⟩ := am_dc_ok hv
    match st, h with
    | .inl y :: .inl x :: r, h =>
      exact ar_iand hd (hgo _ _ _ _ _ _ _ _ _ h)
    | [], h => exact h.elim
    | [.inl _], h => exact h.elim
    | .inr _ :: _, h => exact h.elim
    | .inl _ :: .inr _ :: _, h => exact h.elim
  case ior =>
    obtain ⟨hd, rfl⟩ := am_dc_ok hv
    match st, h with
    | .inl y :: .inl x :: r, h =>
      exact ar_ior hd (hgo _ _ _ _ _ _ _ _ _ h)
    | [], h => exact h.elim
    | [.inl _], h => exact h.elim
    | .inr _ :: _, h => exact h.elim
    | .inl _ :: .inr _ :: _, h => exact h.elim
  case ixor =>
    obtain ⟨hd, rfl⟩ := am_dc_ok hv
    match st, h with
    | .inl y :: .inl x :: r, h =>
      exact ar_ixor hd (hgo _ _ _ _ _ _ _ _ _ h)
    | [], h => exact h.elim
    | [.inl _], h => exact h.elim
    | .inr _ :: _, h => exact h.elim
    | .inl _ :: .inr _ :: _, h => exact h.elim
  case ishl =>
    obtain ⟨hd, rfl⟩ := am_dc_ok hv
    match st, h with
    | .inl y :: .inl x :: r, h =>
      exact ar_ishl hd (hgo _ _ _ _ _ _ _ _ _ h)
    | [], h => exact h.elim
    | [.inl _], h => exact h.elim
    | .inr _ :: _, h => exact h.elim
    | .inl _ :: .inr _ :: _, h => exact h.elim
  case ishr =>
    obtain ⟨hd, rfl⟩ := am_dc_ok hv
    match st, h with
    | .inl y :: .inl x :: r, h =>
      exact ar_ishr hd (hgo _ _ _ _ _ _ _ _ _ h)
    | [], h => exact h.elim
    | [.inl _], h => exact h.elim
    | .inr _ :: _, h => exact h.elim
    | .inl _ :: .inr _ :: _, h => exact h.elim
  case iushr =>
    obtain ⟨hd, rfl⟩ := am_dc_ok hv
    match st, h with
    | .inl y :: .inl x :: r, h =>
      exact ar_iushr hd (hgo _ _ _ _ _ _ _ _ _ h)
    | [], h => exact h.elim
    | [.inl _], h => exact h.elim
    | .inr _ :: _, h => exact h.elim
    | .inl _ :: .inr _ :: _, h => exact h.elim
  case idiv =>
    obtain ⟨hd, rfl⟩ := am_dc_ok hv
    match st, h with
    | .inl y :: .inl x :: r, h =>
      exact ar_idiv h.1 hd (hgo _ _ _ _ _ _ _ _ _ h.2)
    | [], h => exact h.elim
    | [.inl _], h => exact h.elim
    | .inr _ :: _, h => exact h.elim
    | .inl _ :: .inr _ :: _, h => exact h.elim
  case irem =>
    obtain ⟨hd, rfl⟩ := am_dc_ok hv
    match st, h with
    | .inl y :: .inl x :: r, h =>
      exact ar_irem h.1 hd (hgo _ _ _ _ _ _ _ _ _ h.2)
    | [], h => exact h.elim
    | [.inl _], h => exact h.elim
    | .inr _ :: _, h => exact h.elim
    | .inl _ :: .inr _ :: _, h => exact h.elim
  case ineg =>
    obtain ⟨hd, rfl⟩ := am_dc_ok hv
    match st, h with
    | .inl x :: r, h =>
      exact ar_ineg hd (hgo _ _ _ _ _ _ _ _ _ h)
    | [], h => exact h.elim
    | .inr _ :: _, h => exact h.elim
  case i2l =>
    obtain ⟨hd, rfl⟩ := am_dc_ok hv
    match st, h with
    | .inl x :: r, h =>
      exact ar_i2l hd (hgo _ _ _ _ _ _ _ _ _ h)
    | [], h => exact h.elim
    | .inr _ :: _, h => exact h.elim
  case ladd =>
    obtain ⟨hd, rfl⟩ := am_dc_ok hv
    match st, h with
    | .inr (.inl y) :: .inr (.inl x) :: r, h =>
      exact ar_ladd hd (hgo _ _ _ _ _ _ _ _ _ h)
    | [], h => exact h.elim
    | .inl _ :: _, h => exact h.elim
    | .inr (.inr _) :: _, h => exact h.elim
    | [.inr (.inl _)], h => exact h.elim
    | .inr (.inl _) :: .inl _ :: _, h => exact h.elim
    | .inr (.inl _) :: .inr (.inr _) :: _, h => exact h.elim
  case lsub =>
    obtain ⟨hd, rfl⟩ := am_dc_ok hv
    match st, h with
    | .inr (.inl y) :: .inr (.inl x) :: r, h =>
      exact ar_lsub hd (hgo _ _ _ _ _ _ _ _ _ h)
    | [], h => exact h.elim
    | .inl _ :: _, h => exact h.elim
    | .inr (.inr _) :: _, h => exact h.elim
    | [.inr (.inl _)], h => exact h.elim
    | .inr (.inl _) :: .inl _ :: _, h => exact h.elim
    | .inr (.inl _) :: .inr (.inr _) :: _, h => exact h.elim
  case lmul =>
    obtain ⟨hd, rfl⟩ := am_dc_ok hv
    match st, h with
    | .inr (.inl y) :: .inr (.inl x) :: r, h =>
      exact ar_lmul hd (hgo _ _ _ _ _ _ _ _ _ h)
    | [], h => exact h.elim
    | .inl _ :: _, h => exact h.elim
    | .inr (.inr _) :: _, h => exact h.elim
    | [.inr (.inl _)], h => exact h.elim
    | .inr (.inl _) :: .inl _ :: _, h => exact h.elim
    | .inr (.inl _) :: .inr (.inr _) :: _, h => exact h.elim
  case lcmp =>
    obtain ⟨hd, rfl⟩ := am_dc_ok hv
    match st, h with
    | .inr (.inl y) :: .inr (.inl x) :: r, h =>
      exact ar_lcmp hd (hgo _ _ _ _ _ _ _ _ _ h)
    | [], h => exact h.elim
    | .inl _ :: _, h => exact h.elim
    | .inr (.inr _) :: _, h => exact h.elim
    | [.inr (.inl _)], h => exact h.elim
    | .inr (.inl _) :: .inl _ :: _, h => exact h.elim
    | .inr (.inl _) :: .inr (.inr _) :: _, h => exact h.elim
  case ifCond c off =>
    match ann, hv, h with
    | [], hv, _ => cases hv
    | t :: _, hv, h =>
      have hv2 := Bool.and_eq_true_iff.mp hv
      obtain ⟨hd, rfl⟩ := am_dc_ok hv2.1
      have ht := of_decide_eq_true hv2.2
      match st, h with
      | .inl x :: r, h =>
        cases c with
        | eq => exact ar_if_eq hd ht (fun q => hgo _ _ _ _ _ _ _ _ _ (h.1 q)) (fun q => hgo _ _ _ _ _ _ _ _ _ (h.2 q))
        | ne => exact ar_if_ne hd ht (fun q => hgo _ _ _ _ _ _ _ _ _ (h.1 q)) (fun q => hgo _ _ _ _ _ _ _ _ _ (h.2 q))
        | lt => exact ar_if_lt hd ht (fun q => hgo _ _ _ _ _ _ _ _ _ (h.1 q)) (fun q => hgo _ _ _ _ _ _ _ _ _ (h.2 q))
        | ge => exact ar_if_ge hd ht (fun q => hgo _ _ _ _ _ _ _ _ _ (h.1 q)) (fun q => hgo _ _ _ _ _ _ _ _ _ (h.2 q))
        | gt => exact ar_if_gt hd ht (fun q => hgo _ _ _ _ _ _ _ _ _ (h.1 q)) (fun q => hgo _ _ _ _ _ _ _ _ _ (h.2 q))
        | le => exact ar_if_le hd ht (fun q => hgo _ _ _ _ _ _ _ _ _ (h.1 q)) (fun q => hgo _ _ _ _ _ _ _ _ _ (h.2 q))
      | [], h => exact h.elim
      | .inr _ :: _, h => exact h.elim
  case if_icmp c off =>
    match ann, hv, h with
    | [], hv, _ => cases hv
    | t :: _, hv, h =>
      have hv2 := Bool.and_eq_true_iff.mp hv
      obtain ⟨hd, rfl⟩ := am_dc_ok hv2.1
      have ht := of_decide_eq_true hv2.2
      match st, h with
      | .inl y :: .inl x :: r, h =>
        cases c with
        | eq => exact ar_ic_eq hd ht (fun q => hgo _ _ _ _ _ _ _ _ _ (h.1 q)) (fun q => hgo _ _ _ _ _ _ _ _ _ (h.2 q))
        | ne => exact ar_ic_ne hd ht (fun q => hgo _ _ _ _ _ _ _ _ _ (h.1 q)) (fun q => hgo _ _ _ _ _ _ _ _ _ (h.2 q))
        | lt => exact ar_ic_lt hd ht (fun q => hgo _ _ _ _ _ _ _ _ _ (h.1 q)) (fun q => hgo _ _ _ _ _ _ _ _ _ (h.2 q))
        | ge => exact ar_ic_ge hd ht (fun q => hgo _ _ _ _ _ _ _ _ _ (h.1 q)) (fun q => hgo _ _ _ _ _ _ _ _ _ (h.2 q))
        | gt => exact ar_ic_gt hd ht (fun q => hgo _ _ _ _ _ _ _ _ _ (h.1 q)) (fun q => hgo _ _ _ _ _ _ _ _ _ (h.2 q))
        | le => exact ar_ic_le hd ht (fun q => hgo _ _ _ _ _ _ _ _ _ (h.1 q)) (fun q => hgo _ _ _ _ _ _ _ _ _ (h.2 q))
      | [], h => exact h.elim
      | [.inl _], h => exact h.elim
      | .inr _ :: _, h => exact h.elim
      | .inl _ :: .inr _ :: _, h => exact h.elim
  case goto off =>
    match ann, hv, h with
    | [], hv, _ => cases hv
    | t :: _, hv, h =>
      have hv2 := Bool.and_eq_true_iff.mp hv
      obtain ⟨hd, rfl⟩ := am_dc_ok hv2.1
      exact ar_goto hd (of_decide_eq_true hv2.2) (hgo _ _ _ _ _ _ _ _ _ h)
  case aconst_null =>
    obtain ⟨hd, rfl⟩ := am_dc_ok hv
    exact ar_null hd (hgo _ _ _ _ _ _ _ _ _ h)
  case ifnull off =>
    match ann, hv, h with
    | [], hv, _ => cases hv
    | t :: _, hv, h =>
      have hv2 := Bool.and_eq_true_iff.mp hv
      obtain ⟨hd, rfl⟩ := am_dc_ok hv2.1
      have ht := of_decide_eq_true hv2.2
      match st, h with
      | .inr (.inr none) :: r, h => exact ar_ifnullN hd ht (hgo _ _ _ _ _ _ _ _ _ h)
      | .inr (.inr (some (a, b))) :: r, h => exact ar_ifnull hd (hgo _ _ _ _ _ _ _ _ _ h)
      | [], h => exact h.elim
      | .inl _ :: _, h => exact h.elim
      | .inr (.inl _) :: _, h => exact h.elim
  case ifnonnull off =>
    match ann, hv, h with
    | [], hv, _ => cases hv
    | t :: _, hv, h =>
      have hv2 := Bool.and_eq_true_iff.mp hv
      obtain ⟨hd, rfl⟩ := am_dc_ok hv2.1
      have ht := of_decide_eq_true hv2.2
      match st, h with
      | .inr (.inr none) :: r, h => exact ar_ifnonnullN hd (hgo _ _ _ _ _ _ _ _ _ h)
      | .inr (.inr (some (a, b))) :: r, h => exact ar_ifnonnull hd ht (hgo _ _ _ _ _ _ _ _ _ h)
      | [], h => exact h.elim
      | .inl _ :: _, h => exact h.elim
      | .inr (.inl _) :: _, h => exact h.elim
  case if_acmp c off =>
    match ann, hv, h with
    | [], hv, _ => cases hv
    | t :: _, hv, h =>
      have hv2 := Bool.and_eq_true_iff.mp hv
      obtain ⟨hd, rfl⟩ := am_dc_ok hv2.1
      have ht := of_decide_eq_true hv2.2
      match st, h with
      | .inr (.inr (some (c2, i2))) :: .inr (.inr (some (c1, i1))) :: r, h =>
        obtain ⟨hb, h⟩ := am_cond h
        have hb2 := Bool.and_eq_true_iff.mp hb
        cases c with
        | eq => exact ar_aceq (Nat.blt_eq.mp hb2.1) (Nat.blt_eq.mp hb2.2) hd ht (fun q => hgo _ _ _ _ _ _ _ _ _ (h.1 q)) (fun q => hgo _ _ _ _ _ _ _ _ _ (h.2 q))
        | ne => exact ar_acne (Nat.blt_eq.mp hb2.1) (Nat.blt_eq.mp hb2.2) hd ht (fun q => hgo _ _ _ _ _ _ _ _ _ (h.1 q)) (fun q => hgo _ _ _ _ _ _ _ _ _ (h.2 q))
      | [], h => exact h.elim
      | .inl _ :: _, h => exact h.elim
      | .inr (.inl _) :: _, h => exact h.elim
      | .inr (.inr none) :: _, h => exact h.elim
      | [.inr (.inr (some _))], h => exact h.elim
      | .inr (.inr (some _)) :: .inl _ :: _, h => exact h.elim
      | .inr (.inr (some _)) :: .inr (.inl _) :: _, h => exact h.elim
      | .inr (.inr (some _)) :: .inr (.inr none) :: _, h => exact h.elim
  case dup =>
    obtain ⟨hd, rfl⟩ := am_dc_ok hv
    match st, h with
    | .inl x :: r, h => exact ar_dup (v := .inl x) (fun _ => rfl) hd (hgo _ _ _ _ _ _ _ _ _ h)
    | .inr (.inr x) :: r, h => exact ar_dup (v := .inr (.inr x)) (fun ρ => by obtain _ | ⟨a, b⟩ := x <;> rfl) hd (hgo _ _ _ _ _ _ _ _ _ h)
    | [], h => exact h.elim
    | .inr (.inl _) :: _, h => exact h.elim
  case dup2 =>
    obtain ⟨hd, rfl⟩ := am_dc_ok hv
    match st, h with
    | .inl x :: .inr (.inr y) :: r, h => exact ar_dup2 (v := .inl x) (w := .inr (.inr y)) (fun _ => rfl) (fun ρ => by obtain _ | ⟨a, b⟩ := y <;> rfl) hd (hgo _ _ _ _ _ _ _ _ _ h)
    | [], h => exact h.elim
    | .inr _ :: _, h => exact h.elim
    | [.inl _], h => exact h.elim
    | .inl _ :: .inl _ :: _, h => exact h.elim
    | .inl _ :: .inr (.inl _) :: _, h => exact h.elim
  case pop =>
    obtain ⟨hd, rfl⟩ := am_dc_ok hv
    match st, h with
    | .inl x :: r, h => exact ar_pop (v := .inl x) (fun _ => rfl) hd (hgo _ _ _ _ _ _ _ _ _ h)
    | .inr (.inr x) :: r, h => exact ar_pop (v := .inr (.inr x)) (fun ρ => by obtain _ | ⟨a, b⟩ := x <;> rfl) hd (hgo _ _ _ _ _ _ _ _ _ h)
    | [], h => exact h.elim
    | .inr (.inl _) :: _, h => exact h.elim
  case getfield idx =>
    match ann, hv, h with
    | [], hv, _ => cases hv
    | [_], hv, _ => cases hv
    | [_, _], hv, _ => cases hv
    | c' :: f :: w :: _, hv, h =>
      have hv2 := Bool.and_eq_true_iff.mp hv
      obtain ⟨hd, rfl⟩ := am_dc_ok hv2.1
      obtain ⟨r, hr, hf, hlk⟩ := am_fck_ok hv2.2
      match st, h with
      | .inr (.inr (some (c, i))) :: rest, h =>
        obtain ⟨hb, h⟩ := am_cond h
        have hb2 : c = c' := Nat.eq_of_beq_eq_true hb
        subst hb2
        rcases hs : am_slot c f with ⟨tg, v, t, b⟩
        rw [hs] at h
        match tg, h, hs with
        | 0, h, hs => exact ar_getI hr hf hlk hs hd (hgo _ _ _ _ _ _ _ _ _ h)
        | 1, h, hs => exact ar_getZ hr hf hlk hs hd (hgo _ _ _ _ _ _ _ _ _ h)
        | 2, h, hs => exact ar_getJ hr hf hlk hs hd (hgo _ _ _ _ _ _ _ _ _ h)
        | 3, h, hs =>
          obtain ⟨hin, h⟩ := am_cond h
          exact ar_getS hr hf hlk hs hin hd (hgo _ _ _ _ _ _ _ _ _ (am_sidxK_ok h))
        | 4, h, hs => exact ar_getD hr hf hlk hs hd (fun q => hgo _ _ _ _ _ _ _ _ _ (h.1 q)) (fun b q => hgo _ _ _ _ _ _ _ _ _ (h.2 b q))
        | _ + 5, h, _ => exact h.elim
      | [], h => exact h.elim
      | .inl _ :: _, h => exact h.elim
      | .inr (.inl _) :: _, h => exact h.elim
      | .inr (.inr none) :: _, h => exact h.elim
  case putfield idx =>
    match ann, hv, h with
    | [], hv, _ => cases hv
    | [_], hv, _ => cases hv
    | [_, _], hv, _ => cases hv
    | c' :: f :: w :: _, hv, h =>
      have hv2 := Bool.and_eq_true_iff.mp hv
      obtain ⟨hd, rfl⟩ := am_dc_ok hv2.1
      have hv3 := Bool.and_eq_true_iff.mp hv2.2
      obtain ⟨r, hr, hf, hlk⟩ := am_fck_ok hv3.1
      have hfin := am_pck_ok hr hv3.2
      match st, h with
      | v0 :: .inr (.inr (some (c, i))) :: rest, h =>
        obtain ⟨hb, h⟩ := am_cond h
        have hb2 : c = c' := Nat.eq_of_beq_eq_true hb
        subst hb2
        rcases hs : am_slot c f with ⟨tg, v, t, b⟩
        rw [hs] at h
        match tg, v0, h, hs with
        | 0, .inl x, h, hs => exact ar_putI hr hf hlk hfin hs hd (hgo _ _ _ _ _ _ _ _ _ (am_nmI_ok (am_nmV_ok h)))
        | 1, .inl x, h, hs => exact ar_putZ hr hf hlk hfin hs h.1 hd (hgo _ _ _ _ _ _ _ _ _ (am_nmI_ok (am_nmV_ok h.2)))
        | 2, .inr (.inl x), h, hs => exact ar_putJ hr hf hlk hfin hs hd (hgo _ _ _ _ _ _ _ _ _ h)
        | 3, .inr (.inr (some (t2, b2))), h, hs =>
          obtain ⟨⟨e1, e2⟩, h2⟩ := h
          subst e1
          exact ar_putS hr hf hlk hfin hs e2 hd (hgo _ _ _ _ _ _ _ _ _ h2)
        | 4, .inr (.inr (some (t2, b2))), h, hs =>
          obtain ⟨e1, h2⟩ := h
          subst e1
          exact ar_putD hr hf hlk hfin hs hd (hgo _ _ _ _ _ _ _ _ _ h2)
        | 4, .inr (.inr none), h, hs => exact ar_putN hr hf hlk hfin hs hd (hgo _ _ _ _ _ _ _ _ _ h)
        | 0, .inr _, h, _ => exact h.elim
        | 1, .inr _, h, _ => exact h.elim
        | 2, .inl _, h, _ => exact h.elim
        | 2, .inr (.inr _), h, _ => exact h.elim
        | 3, .inl _, h, _ => exact h.elim
        | 3, .inr (.inl _), h, _ => exact h.elim
        | 3, .inr (.inr none), h, _ => exact h.elim
        | 4, .inl _, h, _ => exact h.elim
        | 4, .inr (.inl _), h, _ => exact h.elim
        | _ + 5, _, h, _ => exact h.elim
      | [], h => exact h.elim
      | [_], h => exact h.elim
      | _ :: .inl _ :: _, h => exact h.elim
      | _ :: .inr (.inl _) :: _, h => exact h.elim
      | _ :: .inr (.inr none) :: _, h => exact h.elim
  case iaload =>
    obtain ⟨hd, rfl⟩ := am_dc_ok hv
    match st, h with
    | .inl j :: .inr (.inr (some (c, i))) :: r, h =>
      rcases hck : am_ck c with ⟨a9, N, v, t, y⟩
      dsimp only [am_hop] at h
      rw [hck] at h
      match a9, h, hck with
      | 0, h, _ => exact h
      | 1, h, hck => exact ar_iald hck h.1.1 h.1.2 hd (hgo _ _ _ _ _ _ _ _ _ h.2)
      | _ + 2, h, _ => exact h
    | [], h => exact h.elim
    | [.inl _], h => exact h.elim
    | .inr _ :: _, h => exact h.elim
    | .inl _ :: .inl _ :: _, h => exact h.elim
    | .inl _ :: .inr (.inl _) :: _, h => exact h.elim
    | .inl _ :: .inr (.inr none) :: _, h => exact h.elim
  case baload =>
    obtain ⟨hd, rfl⟩ := am_dc_ok hv
    match st, h with
    | .inl j :: .inr (.inr (some (c, i))) :: r, h =>
      rcases hck : am_ck c with ⟨a9, N, v, t, y⟩
      dsimp only [am_hop] at h
      rw [hck] at h
      match a9, h, hck with
      | 0, h, _ => exact h.elim
      | 1, h, _ => exact h.elim
      | 2, h, hck =>
        exact ar_zald hck h.1.1 h.1.2 hd (hgo _ _ _ _ _ _ _ _ _ h.2)
      | _ + 3, h, _ => exact h.elim
    | [], h => exact h.elim
    | [.inl _], h => exact h.elim
    | .inr _ :: _, h => exact h.elim
    | .inl _ :: .inl _ :: _, h => exact h.elim
    | .inl _ :: .inr (.inl _) :: _, h => exact h.elim
    | .inl _ :: .inr (.inr none) :: _, h => exact h.elim
  case laload =>
    obtain ⟨hd, rfl⟩ := am_dc_ok hv
    match st, h with
    | .inl j :: .inr (.inr (some (c, i))) :: r, h =>
      rcases hck : am_ck c with ⟨a9, N, v, t, y⟩
      dsimp only [am_hop] at h
      rw [hck] at h
      match a9, h, hck with
      | 0, h, _ => exact h.elim
      | 1, h, _ => exact h.elim
      | 2, h, _ => exact h.elim
      | 3, h, hck =>
        exact ar_lald hck h.1.1 h.1.2 hd (hgo _ _ _ _ _ _ _ _ _ h.2)
      | _ + 4, h, _ => exact h.elim
    | [], h => exact h.elim
    | [.inl _], h => exact h.elim
    | .inr _ :: _, h => exact h.elim
    | .inl _ :: .inl _ :: _, h => exact h.elim
    | .inl _ :: .inr (.inl _) :: _, h => exact h.elim
    | .inl _ :: .inr (.inr none) :: _, h => exact h.elim
  case aaload =>
    obtain ⟨hd, rfl⟩ := am_dc_ok hv
    match st, h with
    | .inl j :: .inr (.inr (some (c, i))) :: r, h =>
      rcases hck : am_ck c with ⟨a9, N, v, t, y⟩
      dsimp only [am_hop] at h
      rw [hck] at h
      match a9, h, hck with
      | 0, h, _ => exact h.elim
      | 1, h, _ => exact h.elim
      | 2, h, _ => exact h.elim
      | 3, h, _ => exact h.elim
      | 4, h, hck =>
        obtain ⟨⟨h0, h1⟩, h⟩ := h
        obtain ⟨hin, h⟩ := am_cond h
        exact ar_aaldS hck h0 h1 hin hd (hgo _ _ _ _ _ _ _ _ _ (am_aidxK_ok h))
      | 5, h, hck =>
        obtain ⟨⟨h0, h1⟩, h2, h3⟩ := h
        cases hR : R v i j.toInt.toNat with
        | none => exact ar_aaldN hck h0 h1 hR hd (hgo _ _ _ _ _ _ _ _ _ (h2 hR))
        | some b => exact ar_aaldD hck h0 h1 hR hd (hgo _ _ _ _ _ _ _ _ _ (h3 b hR))
      | _ + 6, h, _ => exact h.elim
    | [], h => exact h.elim
    | [.inl _], h => exact h.elim
    | .inr _ :: _, h => exact h.elim
    | .inl _ :: .inl _ :: _, h => exact h.elim
    | .inl _ :: .inr (.inl _) :: _, h => exact h.elim
    | .inl _ :: .inr (.inr none) :: _, h => exact h.elim
  case iastore =>
    obtain ⟨hd, rfl⟩ := am_dc_ok hv
    match st, h with
    | .inl x :: .inl j :: .inr (.inr (some (c, i))) :: r, h =>
      rcases hck : am_ck c with ⟨a9, N, v, t, y⟩
      dsimp only [am_hop] at h
      rw [hck] at h
      match a9, h, hck with
      | 0, h, _ => exact h.elim
      | 1, h, hck =>
        exact ar_iast hck h.1.1 h.1.2 hd (hgo _ _ _ _ _ _ _ _ _ (am_nmI_ok (am_nmV_ok h.2)))
      | _ + 2, h, _ => exact h.elim
    | [], h => exact h.elim
    | .inr _ :: _, h => exact h.elim
    | [.inl _], h => exact h.elim
    | .inl _ :: .inr _ :: _, h => exact h.elim
    | [.inl _, .inl _], h => exact h.elim
    | .inl _ :: .inl _ :: .inl _ :: _, h => exact h.elim
    | .inl _ :: .inl _ :: .inr (.inl _) :: _, h => exact h.elim
    | .inl _ :: .inl _ :: .inr (.inr none) :: _, h => exact h.elim
  case bastore =>
    obtain ⟨hd, rfl⟩ := am_dc_ok hv
    match st, h with
    | .inl x :: .inl j :: .inr (.inr (some (c, i))) :: r, h =>
      rcases hck : am_ck c with ⟨a9, N, v, t, y⟩
      dsimp only [am_hop] at h
      rw [hck] at h
      match a9, h, hck with
      | 0, h, _ => exact h.elim
      | 1, h, _ => exact h.elim
      | 2, h, hck =>
        exact ar_zast hck h.1.1 h.1.2 h.2.1 hd (hgo _ _ _ _ _ _ _ _ _ (am_nmI_ok (am_nmV_ok h.2.2)))
      | _ + 3, h, _ => exact h.elim
    | [], h => exact h.elim
    | .inr _ :: _, h => exact h.elim
    | [.inl _], h => exact h.elim
    | .inl _ :: .inr _ :: _, h => exact h.elim
    | [.inl _, .inl _], h => exact h.elim
    | .inl _ :: .inl _ :: .inl _ :: _, h => exact h.elim
    | .inl _ :: .inl _ :: .inr (.inl _) :: _, h => exact h.elim
    | .inl _ :: .inl _ :: .inr (.inr none) :: _, h => exact h.elim
  case lastore =>
    obtain ⟨hd, rfl⟩ := am_dc_ok hv
    match st, h with
    | .inr (.inl x) :: .inl j :: .inr (.inr (some (c, i))) :: r, h =>
      rcases hck : am_ck c with ⟨a9, N, v, t, y⟩
      dsimp only [am_hop] at h
      rw [hck] at h
      match a9, h, hck with
      | 0, h, _ => exact h.elim
      | 1, h, _ => exact h.elim
      | 2, h, _ => exact h.elim
      | 3, h, hck =>
        exact ar_last hck h.1.1 h.1.2 hd (hgo _ _ _ _ _ _ _ _ _ h.2)
      | _ + 4, h, _ => exact h.elim
    | [], h => exact h.elim
    | .inl _ :: _, h => exact h.elim
    | .inr (.inr _) :: _, h => exact h.elim
    | [.inr (.inl _)], h => exact h.elim
    | .inr (.inl _) :: .inr _ :: _, h => exact h.elim
    | [.inr (.inl _), .inl _], h => exact h.elim
    | .inr (.inl _) :: .inl _ :: .inl _ :: _, h => exact h.elim
    | .inr (.inl _) :: .inl _ :: .inr (.inl _) :: _, h => exact h.elim
    | .inr (.inl _) :: .inl _ :: .inr (.inr none) :: _, h => exact h.elim
  case aastore =>
    obtain ⟨hd, rfl⟩ := am_dc_ok hv
    match st, h with
    | .inr (.inr (some (t2, b2))) :: .inl j :: .inr (.inr (some (c, i))) :: r, h =>
      rcases hck : am_ck c with ⟨a9, N, v, t, y⟩
      dsimp only [am_hop] at h
      rw [hck] at h
      match a9, h, hck with
      | 0, h, _ => exact h.elim
      | 1, h, _ => exact h.elim
      | 2, h, _ => exact h.elim
      | 3, h, _ => exact h.elim
      | 4, h, hck =>
        obtain ⟨hy, h⟩ := am_cond h
        obtain ⟨⟨h0, h1⟩, ⟨e1, e2⟩, h2⟩ := h
        subst e1
        exact ar_aastS hck (Nat.blt_eq.mp hy) h0 h1 e2 hd (hgo _ _ _ _ _ _ _ _ _ h2)
      | 5, h, hck =>
        obtain ⟨⟨h0, h1⟩, e1, h2⟩ := h
        subst e1
        exact ar_aastD hck h0 h1 hd (hgo _ _ _ _ _ _ _ _ _ h2)
      | _ + 6, h, _ => exact h.elim
    | [], h => exact h.elim
    | .inl _ :: _, h => exact h.elim
    | .inr (.inl _) :: _, h => exact h.elim
    | .inr (.inr none) :: _, h => exact h.elim
    | [.inr (.inr (some _))], h => exact h.elim
    | .inr (.inr (some _)) :: .inr _ :: _, h => exact h.elim
    | [.inr (.inr (some _)), .inl _], h => exact h.elim
    | .inr (.inr (some _)) :: .inl _ :: .inl _ :: _, h => exact h.elim
    | .inr (.inr (some _)) :: .inl _ :: .inr (.inl _) :: _, h => exact h.elim
    | .inr (.inr (some _)) :: .inl _ :: .inr (.inr none) :: _, h => exact h.elim
  case arraylength =>
    obtain ⟨hd, rfl⟩ := am_dc_ok hv
    match st, h with
    | .inr (.inr (some (c, i))) :: r, h =>
      rcases hck : am_ck c with ⟨a9, N, v, t, y⟩
      dsimp only [am_hop] at h
      rw [hck] at h
      match a9, h, hck with
      | 0, h, _ => exact h.elim
      | a9 + 1, h, hck =>
        have h9 : cond (Nat.blt a9 5) (go k n (pc + 1) L (vI (zI N) :: r) I Lg R G) (am_J Γ M Q d k n pc L (vR c i :: r) I Lg R G) := h
        cases hb : Nat.blt a9 5 with
        | false => rw [hb] at h9; exact h9
        | true => rw [hb] at h9; exact ar_alen hck (Nat.blt_eq.mp hb) hd (hgo _ _ _ _ _ _ _ _ _ h9)
    | [], h => exact h.elim
    | .inl _ :: _, h => exact h.elim
    | .inr (.inl _) :: _, h => exact h.elim
    | .inr (.inr none) :: _, h => exact h.elim
  case tableswitch dflt lo hi offs =>
    match ann, hv, h with
    | [], hv, _ => cases hv
    | dfl :: ks, hv, h =>
      have hv2 := Bool.and_eq_true_iff.mp hv
      have hd := of_decide_eq_true hv2.1
      have hv3 := Bool.and_eq_true_iff.mp hv2.2
      have hdf := of_decide_eq_true hv3.1
      have hv4 := Bool.and_eq_true_iff.mp hv3.2
      have hsz := of_decide_eq_true hv4.1
      match st, h with
      | .inl x :: r, h =>
        by_cases hx : x.toInt < lo ∨ hi < x.toInt
        · exact ar_tsOut hd hx hdf (hgo _ _ _ _ _ _ _ _ _ (h.1 hx))
        · have hx1 : ¬ x.toInt < lo := fun q => hx (Or.inl q)
          have hx2 : ¬ hi < x.toInt := fun q => hx (Or.inr q)
          obtain ⟨off, t, e1, e2, e3⟩ := am_swk_ok hv4.2 h.2 (x.toInt - lo).toNat (by rw [Array.length_toList]; omega) (by omega)
          exact ar_tsIn hd hx1 hx2 (by rw [← Array.getElem?_toList]; exact e1) e2 (hgo _ _ _ _ _ _ _ _ _ e3)
      | [], h => exact h.elim
      | .inr _ :: _, h => exact h.elim
  case invokevirtual idx =>
    match d, ann, hv, h with
    | d9, [], hv, h => cases d9 <;> exact h
    | _, [_], hv, h => cases hv
    | _, [_, _], hv, h => cases hv
    | _, [_, _, _], hv, h => cases hv
    | _, [_, _, _, _], hv, h => cases hv
    | _, [_, _, _, _, _], hv, h => cases hv
    | _, [_, _, _, _, _, _], hv, h => cases hv
    | _, [_, _, _, _, _, _, _], hv, h => cases hv
    | _, [_, _, _, _, _, _, _, _], hv, h => cases hv
    | 0, _ :: _ :: _ :: _ :: _ :: _ :: _ :: _ :: _ :: _, hv, h => exact h
    | d + 1, np :: c' :: k2 :: n2 :: w1 :: w2 :: w3 :: w4 :: w5 :: _, hv, h =>
      have hv2 := Bool.and_eq_true_iff.mp hv
      obtain ⟨hd, rfl⟩ := am_dc_ok hv2.1
      have hv3 := Bool.and_eq_true_iff.mp hv2.2
      have hnp : np = M2.2.2.2.2.2 + 1 := beq_iff_eq.mp hv3.1
      have hv4 := Bool.and_eq_true_iff.mp hv3.2
      have hv5 := Bool.and_eq_true_iff.mp hv4.2
      have hv6 := Bool.and_eq_true_iff.mp hv5.2
      have hv7 := Bool.and_eq_true_iff.mp hv6.2
      have hv8 := Bool.and_eq_true_iff.mp hv7.2
      have hv9 := Bool.and_eq_true_iff.mp hv8.2
      obtain ⟨hkn, h⟩ := am_cond h
      have hkn2 := Bool.and_eq_true_iff.mp hkn
      have hk2 := Nat.le_of_ble_eq_true hkn2.1
      have hn2 := Nat.le_of_ble_eq_true hkn2.2
      obtain ⟨xs, rest, e1, e2, h⟩ := am_pop_ok h
      rw [List.append_nil] at h
      obtain ⟨hct, h⟩ := am_cond h
      generalize hAs : xs.reverse = As at h
      match As, hAs, h with
      | .inr (.inr (some (c, i))) :: As, hAs, h =>
        obtain ⟨hb, h3⟩ := am_cond h
        have hb2 : c = c' := Nat.eq_of_beq_eq_true hb
        subst hb2
        have hvc := hv4.1
        cases hr : vwCl[c]? with
        | none => rw [hr] at hvc; cases hvc
        | some r =>
          rw [hr] at hvc
          have hxs : xs = As.reverse ++ [vR c i] := by rw [← List.reverse_reverse xs, hAs, List.reverse_cons]
          have hln : As.length = M2.2.2.2.2.2 := by have : (xs.reverse).length = np := by rw [List.length_reverse]; exact e2
                                                    rw [hAs, hnp] at this; simpa using this
          have key : am_J Γ M Q (d + 1) (k2 + (k - k2)) (n2 + (n - n2)) pc L st I Lg R G := ar_invV (As := As) (rest := rest) (by rw [e1, hxs]; simp) hr (of_decide_eq_true hvc) (am_mck_ok hv5.1 hv9.2) (am_at_in hv6.1) (am_at_in hv7.1) (am_at_in hv8.1) (am_at_in hv9.1) hln (Nat.le_of_ble_eq_true hct) hd (am_Sp.mono h3 (fun r I' Lg' R' G' hq => by cases r <;> exact hgo _ _ _ _ _ _ _ _ _ hq))
          rw [show k2 + (k - k2) = k by omega, show n2 + (n - n2) = n by omega] at key
          exact key
      | [], _, h => exact h.elim
      | .inl _ :: _, _, h => exact h.elim
      | .inr (.inl _) :: _, _, h => exact h.elim
      | .inr (.inr none) :: _, _, h => exact h.elim
  case invokestatic idx =>
    match d, ann, hv, h with
    | d9, [], hv, h => cases d9 <;> exact h
    | 0, 0 :: _ :: _ :: _ :: _ :: _ :: _ :: _ :: _, hv, h => exact h
    | 0, 1 :: _ :: _ :: _ :: _ :: _, hv, h => exact h
    | 0, 2 :: _ :: _ :: _ :: _ :: _, hv, h => exact h
    | 0, 3 :: _ :: _ :: _ :: _ :: _, hv, h => exact h
    | d9, 9 :: _, hv, h => cases d9 <;> exact h
    | _, [0], hv, h => cases hv
    | _, [0, _], hv, h => cases hv
    | _, [0, _, _], hv, h => cases hv
    | _, [0, _, _, _], hv, h => cases hv
    | _, [0, _, _, _, _], hv, h => cases hv
    | _, [0, _, _, _, _, _], hv, h => cases hv
    | _, [0, _, _, _, _, _, _], hv, h => cases hv
    | _, [1], hv, h => cases hv
    | _, [1, _], hv, h => cases hv
    | _, [1, _, _], hv, h => cases hv
    | _, [1, _, _, _], hv, h => cases hv
    | _, [2], hv, h => cases hv
    | _, [2, _], hv, h => cases hv
    | _, [2, _, _], hv, h => cases hv
    | _, [2, _, _, _], hv, h => cases hv
    | _, [3], hv, h => cases hv
    | _, [3, _], hv, h => cases hv
    | _, [3, _, _], hv, h => cases hv
    | _, [3, _, _, _], hv, h => cases hv
    | _, 4 :: _, hv, h => cases hv
    | _, 5 :: _, hv, h => cases hv
    | _, 6 :: _, hv, h => cases hv
    | _, 7 :: _, hv, h => cases hv
    | _, 8 :: _, hv, h => cases hv
    | _, (_ + 10) :: _, hv, h => cases hv
    | d + 1, 0 :: np :: k2 :: n2 :: w1 :: w2 :: w4 :: w5 :: _, hv, h =>
      have hv2 := Bool.and_eq_true_iff.mp hv
      obtain ⟨hd, rfl⟩ := am_dc_ok hv2.1
      have hv3 := Bool.and_eq_true_iff.mp hv2.2
      have hnp : np = M2.2.2.2.2.2 := beq_iff_eq.mp hv3.1
      have hv5 := Bool.and_eq_true_iff.mp hv3.2
      have hv6 := Bool.and_eq_true_iff.mp hv5.2
      have hv7 := Bool.and_eq_true_iff.mp hv6.2
      have hv9 := Bool.and_eq_true_iff.mp hv7.2
      obtain ⟨hkn, h⟩ := am_cond h
      have hkn2 := Bool.and_eq_true_iff.mp hkn
      have hk2 := Nat.le_of_ble_eq_true hkn2.1
      have hn2 := Nat.le_of_ble_eq_true hkn2.2
      obtain ⟨xs, rest, e1, e2, h⟩ := am_pop_ok h
      rw [List.append_nil] at h
      obtain ⟨hct, h⟩ := am_cond h
      have key : am_J Γ M Q (d + 1) (k2 + (k - k2)) (n2 + (n - n2)) pc L st I Lg R G := ar_invS (As := xs.reverse) (rest := rest) (by rw [e1, List.reverse_reverse]) (am_mck_ok hv5.1 hv9.2) (am_at_in hv6.1) (am_at_in hv7.1) (am_at_in hv9.1) (by rw [List.length_reverse, e2, hnp]) (Nat.le_of_ble_eq_true hct) hd (am_Sp.mono h (fun r I' Lg' R' G' hq => by cases r <;> exact hgo _ _ _ _ _ _ _ _ _ hq))
      rw [show k2 + (k - k2) = k by omega, show n2 + (n - n2) = n by omega] at key
      exact key
    | d + 1, 1 :: w1 :: w2 :: w3 :: w4 :: _, hv, h =>
      have hv2 := Bool.and_eq_true_iff.mp hv
      obtain ⟨hd, rfl⟩ := am_dc_ok hv2.1
      have hv3 := Bool.and_eq_true_iff.mp hv2.2
      have hv4 := Bool.and_eq_true_iff.mp hv3.2
      have hv5 := Bool.and_eq_true_iff.mp hv4.2
      match st, h with
      | .inl y :: .inl x :: r, h =>
        obtain ⟨hct, h⟩ := am_cond h
        exact ar_mmax (am_at_in hv3.1) (am_at_in hv4.1) (am_at_in hv5.1) (am_at_in hv5.2) (Nat.le_of_ble_eq_true hct) hd (hgo _ _ _ _ _ _ _ _ _ h)
      | [], h => exact h.elim
      | [.inl _], h => exact h.elim
      | .inr _ :: _, h => exact h.elim
      | .inl _ :: .inr _ :: _, h => exact h.elim
    | d + 1, 2 :: w1 :: w2 :: w3 :: w4 :: _, hv, h =>
      have hv2 := Bool.and_eq_true_iff.mp hv
      obtain ⟨hd, rfl⟩ := am_dc_ok hv2.1
      have hv3 := Bool.and_eq_true_iff.mp hv2.2
      have hv4 := Bool.and_eq_true_iff.mp hv3.2
      have hv5 := Bool.and_eq_true_iff.mp hv4.2
      match st, h with
      | .inl y :: .inl x :: r, h =>
        obtain ⟨hct, h⟩ := am_cond h
        exact ar_mmin (am_at_in hv3.1) (am_at_in hv4.1) (am_at_in hv5.1) (am_at_in hv5.2) (Nat.le_of_ble_eq_true hct) hd (hgo _ _ _ _ _ _ _ _ _ h)
      | [], h => exact h.elim
      | [.inl _], h => exact h.elim
      | .inr _ :: _, h => exact h.elim
      | .inl _ :: .inr _ :: _, h => exact h.elim
    | d + 1, 3 :: w1 :: w2 :: w3 :: w4 :: _, hv, h =>
      have hv2 := Bool.and_eq_true_iff.mp hv
      obtain ⟨hd, rfl⟩ := am_dc_ok hv2.1
      have hv3 := Bool.and_eq_true_iff.mp hv2.2
      have hv4 := Bool.and_eq_true_iff.mp hv3.2
      have hv5 := Bool.and_eq_true_iff.mp hv4.2
      match st, h with
      | .inl x :: r, h =>
        obtain ⟨hct, h⟩ := am_cond h
        exact ar_mabs (am_at_in hv3.1) (am_at_in hv4.1) (am_at_in hv5.1) (am_at_in hv5.2) (Nat.le_of_ble_eq_true hct) hd (hgo _ _ _ _ _ _ _ _ _ h)
      | [], h => exact h.elim
      | .inr _ :: _, h => exact h.elim
  case invokespecial idx =>
    match d, ann, hv, h with
    | d9, [], hv, h => cases d9 <;> exact h
    | 0, 0 :: _ :: _ :: _ :: _ :: _ :: _ :: _ :: _, hv, h => exact h
    | 0, 1 :: _ :: _ :: _ :: _, hv, h => exact h
    | d9, 2 :: _, hv, h => cases d9 <;> exact h
    | _, [0], hv, h => cases hv
    | _, [0, _], hv, h => cases hv
    | _, [0, _, _], hv, h => cases hv
    | _, [0, _, _, _], hv, h => cases hv
    | _, [0, _, _, _, _], hv, h => cases hv
    | _, [0, _, _, _, _, _], hv, h => cases hv
    | _, [0, _, _, _, _, _, _], hv, h => cases hv
    | _, [1], hv, h => cases hv
    | _, [1, _], hv, h => cases hv
    | _, [1, _, _], hv, h => cases hv
    | _, (_ + 3) :: _, hv, h => cases hv
    | d + 1, 0 :: np :: k2 :: n2 :: w1 :: w2 :: w4 :: w5 :: _, hv, h =>
      have hv2 := Bool.and_eq_true_iff.mp hv
      obtain ⟨hd, rfl⟩ := am_dc_ok hv2.1
      have hv3 := Bool.and_eq_true_iff.mp hv2.2
      have hnp : np = M2.2.2.2.2.2 + 1 := beq_iff_eq.mp hv3.1
      have hv4 := Bool.and_eq_true_iff.mp hv3.2
      have hv5 := Bool.and_eq_true_iff.mp hv4.2
      have hv6 := Bool.and_eq_true_iff.mp hv5.2
      have hv7 := Bool.and_eq_true_iff.mp hv6.2
      have hv8 := Bool.and_eq_true_iff.mp hv7.2
      have hv9 := Bool.and_eq_true_iff.mp hv8.2
      obtain ⟨hkn, h⟩ := am_cond h
      have hkn2 := Bool.and_eq_true_iff.mp hkn
      have hk2 := Nat.le_of_ble_eq_true hkn2.1
      have hn2 := Nat.le_of_ble_eq_true hkn2.2
      obtain ⟨xs, rest, e1, e2, h⟩ := am_pop_ok h
      rw [List.append_nil] at h
      obtain ⟨hct, h⟩ := am_cond h
      generalize hAs : xs.reverse = As at h
      match As, hAs, h with
      | .inr (.inr (some (c, i))) :: As, hAs, h =>
        have hxs : xs = As.reverse ++ [vR c i] := by rw [← List.reverse_reverse xs, hAs, List.reverse_cons]
        have hln : As.length = M2.2.2.2.2.2 := by have : (xs.reverse).length = np := by rw [List.length_reverse]; exact e2
                                                  rw [hAs, hnp] at this; simpa using this
        have key : am_J Γ M Q (d + 1) (k2 + (k - k2)) (n2 + (n - n2)) pc L st I Lg R G := ar_invI (As := As) (rest := rest) (by rw [e1, hxs]; simp) (am_mck_ok hv4.1 hv9.2) (of_decide_eq_true hv5.1) (of_decide_eq_true hv6.1) (am_at_in hv7.1) (am_at_in hv8.1) (am_at_in hv9.1) hln (Nat.le_of_ble_eq_true hct) hd (am_Sp.mono h (fun r I' Lg' R' G' hq => by cases r <;> exact hgo _ _ _ _ _ _ _ _ _ hq))
        rw [show k2 + (k - k2) = k by omega, show n2 + (n - n2) = n by omega] at key
        exact key
      | [], _, h => exact h.elim
      | .inl _ :: _, _, h => exact h.elim
      | .inr (.inl _) :: _, _, h => exact h.elim
      | .inr (.inr none) :: _, _, h => exact h.elim
    | d + 1, 1 :: w1 :: w2 :: w4 :: _, hv, h =>
      have hv2 := Bool.and_eq_true_iff.mp hv
      obtain ⟨hd, rfl⟩ := am_dc_ok hv2.1
      have hv3 := Bool.and_eq_true_iff.mp hv2.2
      have hv4 := Bool.and_eq_true_iff.mp hv3.2
      match st, h with
      | .inr (.inr (some (a, b))) :: r, h =>
        obtain ⟨hct, h⟩ := am_cond h
        exact ar_obj (am_at_in hv3.1) (am_at_in hv4.1) (am_at_in hv4.2) (Nat.le_of_ble_eq_true hct) hd (hgo _ _ _ _ _ _ _ _ _ h)
      | [], h => exact h.elim
      | .inl _ :: _, h => exact h.elim
      | .inr (.inl _) :: _, h => exact h.elim
      | .inr (.inr none) :: _, h => exact h.elim
  case new idx =>
    match k, ann, hv, h with
    | k9, [], _, h => cases k9 <;> exact h
    | _, [_], hv, _ => cases hv
    | _, [_, _], hv, _ => cases hv
    | _, [_, _, _], hv, _ => cases hv
    | _, [_, _, _, _], hv, _ => cases hv
    | 0, _ :: _ :: _ :: _ :: _ :: _, hv, h => exact h
    | k + 1, c :: N :: w1 :: w2 :: w3 :: _, hv, h =>
      have hv2 := Bool.and_eq_true_iff.mp hv
      obtain ⟨hd, rfl⟩ := am_dc_ok hv2.1
      have hvc := hv2.2
      cases hr : vwCl[c]? with
      | none => rw [hr] at hvc; cases hvc
      | some r =>
        rw [hr] at hvc
        have hv3 := Bool.and_eq_true_iff.mp hvc
        have hv4 := Bool.and_eq_true_iff.mp hv3.2
        have hv5 := Bool.and_eq_true_iff.mp hv4.2
        obtain ⟨hN, h⟩ := am_cond h
        have hN1 := Bool.and_eq_true_iff.mp hN
        have hN2 := Nat.le_of_ble_eq_true hN1.1
        have hop : G.1 1000 c 0 = false := by have := hN1.2; simpa using this
        have key : am_J Γ M Q d (k + 1) (n - N + N) pc L st I Lg R G := ar_new hop hr (beq_iff_eq.mp hv3.1) (am_at_in hv4.1) (am_at_in hv5.1) (am_at_in hv5.2) hd (fun z => hgo _ _ _ _ _ _ _ _ _ (h z))
        rw [show n - N + N = n by omega] at key
        exact key
  case newarray ty =>
    match k, st, ann, hv, h with
    | _, _, [], hv, _ => cases hv
    | _, _, [_], hv, _ => cases hv
    | _, _, [_, _], hv, _ => cases hv
    | 0, [], _ :: _ :: _ :: _, hv, h => exact h.elim
    | 0, .inl _ :: _, _ :: _ :: _ :: _, hv, h => exact h.elim
    | 0, .inr _ :: _, _ :: _ :: _ :: _, hv, h => exact h.elim
    | k + 1, [], _ :: _ :: _ :: _, hv, h => exact h.elim
    | k + 1, .inr _ :: _, _ :: _ :: _ :: _, hv, h => exact h.elim
    | k + 1, .inl x :: r, c :: N :: w :: _, hv, h =>
      have hv2 := Bool.and_eq_true_iff.mp hv
      obtain ⟨hd, rfl⟩ := am_dc_ok hv2.1
      have hvc := hv2.2
      obtain ⟨hN, h1⟩ := am_cond h
      have hN1 := Bool.and_eq_true_iff.mp hN
      have hN2 := Nat.le_of_ble_eq_true hN1.1
      have hop : G.1 1000 c 0 = false := by have := hN1.2; simpa using this
      obtain ⟨ex, h2⟩ := h1
      subst ex
      rcases hck : am_ck c with ⟨a9, N9, v, t, y⟩
      rw [hck] at hvc
      match a9, hvc, hck with
      | 0, hvc, _ => cases hvc
      | a9 + 1, hvc, hck =>
        have hv3 := Bool.and_eq_true_iff.mp hvc
        have hv4 := Bool.and_eq_true_iff.mp hv3.2
        have hv5 := Bool.and_eq_true_iff.mp hv4.2
        have hv6 := Bool.and_eq_true_iff.mp hv5.2
        have e1 : N9 = N := beq_iff_eq.mp hv4.1
        subst e1
        have e2 : ty = am_atype a9 := of_decide_eq_true hv6.1
        subst e2
        have key : am_J Γ M Q d (k + 1) (n - N9 + N9) pc L (vI (zI N9) :: r) I Lg R G := ar_newa hop hck (Nat.blt_eq.mp hv3.1) (Nat.le_of_ble_eq_true hv5.1) (am_at_in hv6.2) hd (fun z => hgo _ _ _ _ _ _ _ _ _ (h2 z))
        rw [show n - N9 + N9 = n by omega] at key
        exact key
  case ireturn =>
    match ann, hv, h with
    | [], hv, _ => cases hv
    | (_ + 2) :: _, hv, _ => cases hv
    | 0 :: _, hv, h =>
      have hv2 := Bool.and_eq_true_iff.mp hv
      obtain ⟨hd, -⟩ := am_dc_ok hv2.1
      match st, h with
      | [.inl x], h => exact ar_iret hd (Or.inl (of_decide_eq_true hv2.2)) h
      | [], h => exact h.elim
      | .inr _ :: _, h => exact h.elim
      | .inl _ :: _ :: _, h => exact h.elim
    | 1 :: _, hv, h =>
      have hv2 := Bool.and_eq_true_iff.mp hv
      obtain ⟨hd, -⟩ := am_dc_ok hv2.1
      match st, h with
      | [.inl x], h => exact ar_iret hd (Or.inr ⟨of_decide_eq_true hv2.2, h.1⟩) h.2
      | [], h => exact h.elim
      | .inr _ :: _, h => exact h.elim
      | .inl _ :: _ :: _, h => exact h.elim
  case return_ =>
    have hv2 := Bool.and_eq_true_iff.mp hv
    obtain ⟨hd, -⟩ := am_dc_ok hv2.1
    match st, h with
    | [], h => exact ar_ret hd (of_decide_eq_true hv2.2) h
    | _ :: _, h => exact h.elim
  case lreturn =>
    have hv2 := Bool.and_eq_true_iff.mp hv
    obtain ⟨hd, -⟩ := am_dc_ok hv2.1
    match st, h with
    | [.inr (.inl x)], h => exact ar_lret hd (of_decide_eq_true hv2.2) h
    | [], h => exact h.elim
    | .inl _ :: _, h => exact h.elim
    | .inr (.inr _) :: _, h => exact h.elim
    | .inr (.inl _) :: _ :: _, h => exact h.elim
  case areturn =>
    have hv2 := Bool.and_eq_true_iff.mp hv
    obtain ⟨hd, -⟩ := am_dc_ok hv2.1
    have hv3 := hv2.2
    have hq : ∃ q, M.2.2.2.2.1 = some (.object q) := by
      generalize M.2.2.2.2.1 = rt at hv3
      match rt, hv3 with
      | some (.object q), _ => exact ⟨q, rfl⟩
      | none, hv3 => cases hv3
      | some (.array _), hv3 => cases hv3
      | some .int, hv3 => cases hv3
      | some .long, hv3 => cases hv3
      | some .boolean, hv3 => cases hv3
      | some .byte, hv3 => cases hv3
      | some .short, hv3 => cases hv3
      | some .char, hv3 => cases hv3
      | some .float, hv3 => cases hv3
      | some .double, hv3 => cases hv3
    match st, h with
    | [.inr (.inr x)], h => exact ar_aret hd hq h
    | [], h => exact h.elim
    | .inl _ :: _, h => exact h.elim
    | .inr (.inl _) :: _, h => exact h.elim
    | .inr (.inr _) :: _ :: _, h => exact h.elim
  all_goals exact h
/-- a code table that fits the method's code -/
def am_vld (M : MD) (rows : List (List CE)) (n : Nat) : Bool := am_rowsOk n rows && (List.range n).all (fun pc => am_chk M pc (am_lk am_ce0 rows pc))
theorem am_vld_ok {M : MD} {rows : List (List CE)} {n : Nat} (h : am_vld M rows n = true) (pc : Nat) : am_chk M pc (am_lk am_ce0 rows pc) = true := by
  unfold am_vld at h
  have h2 := Bool.and_eq_true_iff.mp h
  by_cases hp : pc < n
  · exact List.all_eq_true.mp h2.2 pc (List.mem_range.mpr hp)
  · rw [am_lk_out _ _ n pc h2.1 (Nat.not_lt.mp hp)]
    rfl
/-- THE WALK IS SOUND -/
theorem am_goA {Γ : AMG} {M : MD} {Q : QQ} {nm : Bool} {rows : List (List CE)} (hv : ∀ pc, am_chk M pc (am_lk am_ce0 rows pc) = true) : ∀ (f : Nat) {d k n pc : Nat} {L : LL} {st : List AV} {I : II} {Lg : LJ} {R : RR} {G : GG}, am_adv Γ M rows Q nm d f k n pc L st I Lg R G → am_J Γ M Q d k n pc L st I Lg R G
  | 0, _, _, _, _, _, _, _, _, _, _, h => h
  | f + 1, d, k, n, pc, L, st, I, Lg, R, G, h => by
    have h2 : am_hop Γ M Q nm d pc (am_lk am_ce0 rows pc) (fun k2 n2 pc2 L2 st2 I2 Lg2 R2 G2 => cond (am_lk am_ce0 rows pc2).2.2.1 (am_J Γ M Q d k2 n2 pc2 L2 st2 I2 Lg2 R2 G2) (am_adv Γ M rows Q nm d f k2 n2 pc2 L2 st2 I2 Lg2 R2 G2)) k n L st I Lg R G := h
    refine am_hop_ok (hv pc) (fun k2 n2 pc2 L2 st2 I2 Lg2 R2 G2 h3 => ?_) h2
    cases hb : (am_lk am_ce0 rows pc2).2.2.1 with
    | false => rw [hb] at h3; exact am_goA hv f h3
    | true => rw [hb] at h3; exact h3
theorem am_go {Γ : AMG} {M : MD} {Q : QQ} {rows : List (List CE)} (hv : ∀ pc, am_chk M pc (am_lk am_ce0 rows pc) = true) (f : Nat) {d k n pc : Nat} {L : LL} {st : List AV} {I : II} {Lg : LJ} {R : RR} {G : GG} (h : am_adv Γ M rows Q false d f k n pc L st I Lg R G) : am_J Γ M Q d k n pc L st I Lg R G := am_goA hv f h
/-- the walk that names what it stores -/
theorem am_goN {Γ : AMG} {M : MD} {Q : QQ} {rows : List (List CE)} (hv : ∀ pc, am_chk M pc (am_lk am_ce0 rows pc) = true) (f : Nat) {d k n pc : Nat} {L : LL} {st : List AV} {I : II} {Lg : LJ} {R : RR} {G : GG} (h : am_adv Γ M rows Q true d f k n pc L st I Lg R G) : am_J Γ M Q d k n pc L st I Lg R G := am_goA hv f h
/-- a contract, by the walk from the entry -/
theorem am_run {Γ : AMG} {M : MD} {Q : QQ} {rows : List (List CE)} {d k n : Nat} {args : List AV} {I : II} {Lg : LJ} {R : RR} {G : GG} (hv : ∀ pc, am_chk M pc (am_lk am_ce0 rows pc) = true) (f : Nat) (L : LL) (hL : am_pad M.2.2.2.1 (am_slots args) = L) (hpl : plainName M.2.1.cls = true) (hown : M.2.1.cls = M.1) (hlen : Nat.ble (am_slots args).length M.2.2.2.1 = true) (h : am_adv Γ M rows Q false d f k n 0 L [] I Lg R G) : am_Sp Γ d k n M args I Lg R G Q :=
  am_Sp.of hpl hown (Nat.le_of_ble_eq_true hlen) (by rw [hL]; exact am_goA hv f h)
theorem am_runN {Γ : AMG} {M : MD} {Q : QQ} {rows : List (List CE)} {d k n : Nat} {args : List AV} {I : II} {Lg : LJ} {R : RR} {G : GG} (hv : ∀ pc, am_chk M pc (am_lk am_ce0 rows pc) = true) (f : Nat) (L : LL) (hL : am_pad M.2.2.2.1 (am_slots args) = L) (hpl : plainName M.2.1.cls = true) (hown : M.2.1.cls = M.1) (hlen : Nat.ble (am_slots args).length M.2.2.2.1 = true) (h : am_adv Γ M rows Q true d f k n 0 L [] I Lg R G) : am_Sp Γ d k n M args I Lg R G Q :=
  am_Sp.of hpl hown (Nat.le_of_ble_eq_true hlen) (by rw [hL]; exact am_goA hv f h)
end
section
/-! The methods: records and code (printed by wip/whole/gen15.py). -/
def mX0_init : MD := (RX0, yX0_init, cX0_init, 1, none, 0)
def mX0_letGoOn : MD := (RX0, yX0_letGoOn, cX0_letGoOn, 2, none, 1)
def mX0_put : MD := (RX0, yX0_put, cX0_put, 4, none, 3)
def mX0_rollsOver : MD := (RX0, yX0_rollsOver, cX0_rollsOver, 3, (some .boolean), 1)
def mX0_fallsOff : MD := (RX0, yX0_fallsOff, cX0_fallsOff, 4, (some .int), 2)
def mX0_isAtRest : MD := (RX0, yX0_isAtRest, cX0_isAtRest, 1, (some .boolean), 0)
def mX0_overtook : MD := (RX0, yX0_overtook, cX0_overtook, 2, (some .boolean), 1)
def mX0_stayedWith : MD := (RX0, yX0_stayedWith, cX0_stayedWith, 2, (some .boolean), 1)
def mX1_init : MD := (RX1, yX1_init, cX1_init, 6, none, 5)
def mX2_init : MD := (RX2, yX2_init, cX2_init, 1, none, 0)
def mX2_laidAt : MD := (RX2, yX2_laidAt, cX2_laidAt, 2, (some .int), 1)
def mX2_layLikest : MD := (RX2, yX2_layLikest, cX2_layLikest, 5, (some .int), 4)
def mX2_explain : MD := (RX2, yX2_explain, cX2_explain, 3, (some .int), 2)
def mX2_begin : MD := (RX2, yX2_begin, cX2_begin, 1, none, 0)
def mX2_store : MD := (RX2, yX2_store, cX2_store, 3, none, 2)
def mX2_load : MD := (RX2, yX2_load, cX2_load, 2, none, 1)
def mX2_rollToEnd : MD := (RX2, yX2_rollToEnd, cX2_rollToEnd, 6, (some .int), 3)
def mX2_glideToEnd : MD := (RX2, yX2_glideToEnd, cX2_glideToEnd, 5, (some .int), 3)
def mX2_layOn : MD := (RX2, yX2_layOn, cX2_layOn, 6, none, 4)
def mX2_passes : MD := (RX2, yX2_passes, cX2_passes, 7, (some .boolean), 3)
def mX2_leastPossible : MD := (RX2, yX2_leastPossible, cX2_leastPossible, 4, (some .int), 2)
def mX2_judge : MD := (RX2, yX2_judge, cX2_judge, 6, none, 3)
def mX2_wearOn : MD := (RX2, yX2_wearOn, cX2_wearOn, 7, none, 4)
def mX2_leave : MD := (RX2, yX2_leave, cX2_leave, 8, none, 5)
def mX3_init : MD := (RX3, yX3_init, cX3_init, 1, none, 0)
def mX3_forget : MD := (RX3, yX3_forget, cX3_forget, 1, none, 0)
def mX3_add : MD := (RX3, yX3_add, cX3_add, 2, (some .int), 1)
def mX3_doerOf : MD := (RX3, yX3_doerOf, cX3_doerOf, 2, (some .int), 1)
def mX3_makeMost : MD := (RX3, yX3_makeMost, cX3_makeMost, 5, (some .int), 2)
def mX3_costOf : MD := (RX3, yX3_costOf, cX3_costOf, 10, (some .int), 4)
def mX3_assignAll : MD := (RX3, yX3_assignAll, cX3_assignAll, 2, none, 0)
def mX3_assignRow : MD := (RX3, yX3_assignRow, cX3_assignRow, 5, none, 1)
def mX3_relax : MD := (RX3, yX3_relax, cX3_relax, 5, none, 2)
def mX3_nearest : MD := (RX3, yX3_nearest, cX3_nearest, 3, (some .int), 0)
def mX3_lower : MD := (RX3, yX3_lower, cX3_lower, 5, none, 2)
def mX3_flip : MD := (RX3, yX3_flip, cX3_flip, 7, none, 2)
def mX3_chooseFirst : MD := (RX3, yX3_chooseFirst, cX3_chooseFirst, 3, none, 0)
def mX3_isFree : MD := (RX3, yX3_isFree, cX3_isFree, 3, (some .boolean), 2)
def mX3_canDoNext : MD := (RX3, yX3_canDoNext, cX3_canDoNext, 5, (some .boolean), 2)
def mX3_reaches : MD := (RX3, yX3_reaches, cX3_reaches, 8, (some .boolean), 2)
def mX4_init : MD := (RX4, yX4_init, cX4_init, 1, none, 0)
def mX4_follow : MD := (RX4, yX4_follow, cX4_follow, 5, none, 2)
def mX4_hear : MD := (RX4, yX4_hear, cX4_hear, 4, none, 3)
def mX4_answer : MD := (RX4, yX4_answer, cX4_answer, 2, (some .int), 1)
def mX4_knockAt : MD := (RX4, yX4_knockAt, cX4_knockAt, 3, (some .int), 2)
def mX5_init : MD := (RX5, yX5_init, cX5_init, 1, none, 0)
def mX5_add : MD := (RX5, yX5_add, cX5_add, 5, (some .int), 4)
def mX5_is : MD := (RX5, yX5_is, cX5_is, 2, (some .boolean), 1)
def mX5_kindOf : MD := (RX5, yX5_kindOf, cX5_kindOf, 2, (some .int), 1)
def mX5_placeOf : MD := (RX5, yX5_placeOf, cX5_placeOf, 2, (some .int), 1)
def mX5_firstOf : MD := (RX5, yX5_firstOf, cX5_firstOf, 2, (some .int), 1)
def mX5_secondOf : MD := (RX5, yX5_secondOf, cX5_secondOf, 2, (some .int), 1)
def mX5_leastNumber : MD := (RX5, yX5_leastNumber, cX5_leastNumber, 3, (some .int), 1)
def mX5_mostNumber : MD := (RX5, yX5_mostNumber, cX5_mostNumber, 2, (some .int), 1)
def mX5_takes : MD := (RX5, yX5_takes, cX5_takes, 3, (some .int), 2)
def mX5_strength : MD := (RX5, yX5_strength, cX5_strength, 4, (some .int), 2)
def mX5_ballsNeeded : MD := (RX5, yX5_ballsNeeded, cX5_ballsNeeded, 8, (some .int), 3)
def mX5_letsGo : MD := (RX5, yX5_letsGo, cX5_letsGo, 5, (some .boolean), 3)
def mX5_fillingsNeeded : MD := (RX5, yX5_fillingsNeeded, cX5_fillingsNeeded, 10, (some .int), 2)
def mX6_init : MD := (RX6, yX6_init, cX6_init, 2, none, 0)
def mX6_goThrough : MD := (RX6, yX6_goThrough, cX6_goThrough, 6, none, 3)
def mX6_rollAll : MD := (RX6, yX6_rollAll, cX6_rollAll, 4, none, 1)
def mX6_roll : MD := (RX6, yX6_roll, cX6_roll, 5, none, 2)
def mX6_bumpAll : MD := (RX6, yX6_bumpAll, cX6_bumpAll, 5, none, 0)
def mX6_allAreAlike : MD := (RX6, yX6_allAreAlike, cX6_allAreAlike, 5, (some .boolean), 0)
def mX6_use : MD := (RX6, yX6_use, cX6_use, 7, none, 3)
def mX6_hear : MD := (RX6, yX6_hear, cX6_hear, 3, none, 2)
def mX6_soundAt : MD := (RX6, yX6_soundAt, cX6_soundAt, 3, (some .int), 2)
def mX7_init : MD := (RX7, yX7_init, cX7_init, 1, none, 0)
def mX7_isTold : MD := (RX7, yX7_isTold, cX7_isTold, 4, (some .boolean), 2)
def mX7_leadsOn : MD := (RX7, yX7_leadsOn, cX7_leadsOn, 3, (some .boolean), 3)
def mX7_build : MD := (RX7, yX7_build, cX7_build, 5, none, 2)
def mX7_boardAt : MD := (RX7, yX7_boardAt, cX7_boardAt, 2, (some (.object "StormLoft$Board")), 1)
def mX7_leadsTo : MD := (RX7, yX7_leadsTo, cX7_leadsTo, 3, (some .int), 2)
def mX7_carryOn : MD := (RX7, yX7_carryOn, cX7_carryOn, 7, (some .int), 2)
def mX8_init : MD := (RX8, yX8_init, cX8_init, 1, none, 0)
def mX8_clear : MD := (RX8, yX8_clear, cX8_clear, 1, none, 0)
def mX8_is : MD := (RX8, yX8_is, cX8_is, 2, (some .boolean), 1)
def mX8_tickOf : MD := (RX8, yX8_tickOf, cX8_tickOf, 2, (some .int), 1)
def mX8_machineOf : MD := (RX8, yX8_machineOf, cX8_machineOf, 2, (some .int), 1)
def mX8_numberOf : MD := (RX8, yX8_numberOf, cX8_numberOf, 2, (some .int), 1)
def mX8_add : MD := (RX8, yX8_add, cX8_add, 4, none, 3)
def mX8_addAll : MD := (RX8, yX8_addAll, cX8_addAll, 4, none, 2)
def mX8_repeat : MD := (RX8, yX8_repeat, cX8_repeat, 7, none, 3)
def mX8_lastTick : MD := (RX8, yX8_lastTick, cX8_lastTick, 3, (some .int), 0)
def mX8_becomes : MD := (RX8, yX8_becomes, cX8_becomes, 3, none, 1)
def mX8_sink : MD := (RX8, yX8_sink, cX8_sink, 3, none, 1)
def mX8_swap : MD := (RX8, yX8_swap, cX8_swap, 3, none, 2)
def mX9_init : MD := (RX9, yX9_init, cX9_init, 2, none, 0)
def mX9_understands : MD := (RX9, yX9_understands, cX9_understands, 4, (some .boolean), 2)
def mX9_begin : MD := (RX9, yX9_begin, cX9_begin, 2, none, 1)
def mX9_fail : MD := (RX9, yX9_fail, cX9_fail, 3, none, 2)
def mX9_readUse : MD := (RX9, yX9_readUse, cX9_readUse, 6, none, 2)
def mX9_readTimes : MD := (RX9, yX9_readTimes, cX9_readTimes, 4, none, 1)
def mX9_readPlay : MD := (RX9, yX9_readPlay, cX9_readPlay, 5, none, 1)
def mX9_readStorm : MD := (RX9, yX9_readStorm, cX9_readStorm, 3, none, 1)
def mX9_close : MD := (RX9, yX9_close, cX9_close, 2, none, 1)
def mX9_stormAt : MD := (RX9, yX9_stormAt, cX9_stormAt, 2, (some (.object "StormLoft$Plan")), 1)
def mX9_findStorm : MD := (RX9, yX9_findStorm, cX9_findStorm, 3, (some .int), 1)
def mX9_isName : MD := (RX9, yX9_isName, cX9_isName, 2, (some .boolean), 1)
def mX9_readWord : MD := (RX9, yX9_readWord, cX9_readWord, 3, none, 2)
def mX9_readSemicolon : MD := (RX9, yX9_readSemicolon, cX9_readSemicolon, 2, none, 1)
def mX9_readNumber : MD := (RX9, yX9_readNumber, cX9_readNumber, 4, (some .int), 3)
def mX10_init : MD := (RX10, yX10_init, cX10_init, 1, none, 0)
def mX10_take : MD := (RX10, yX10_take, cX10_take, 6, (some .int), 5)
def mX10_put : MD := (RX10, yX10_put, cX10_put, 3, none, 1)
def mX10_cut : MD := (RX10, yX10_cut, cX10_cut, 2, (some .boolean), 1)
def mX10_clear : MD := (RX10, yX10_clear, cX10_clear, 1, none, 0)
def mX10_byteAt : MD := (RX10, yX10_byteAt, cX10_byteAt, 2, (some .int), 1)
def mX10_readTicks : MD := (RX10, yX10_readTicks, cX10_readTicks, 4, (some .boolean), 0)
def mX10_tickAt : MD := (RX10, yX10_tickAt, cX10_tickAt, 2, (some .int), 1)
def mX10_rewind : MD := (RX10, yX10_rewind, cX10_rewind, 1, none, 0)
def mX10_nextToken : MD := (RX10, yX10_nextToken, cX10_nextToken, 2, none, 0)
def mX10_readLettersAndDigits : MD := (RX10, yX10_readLettersAndDigits, cX10_readLettersAndDigits, 3, none, 0)
def mX10_isBlank : MD := (RX10, yX10_isBlank, cX10_isBlank, 1, (some .boolean), 1)
def mX10_isLetter : MD := (RX10, yX10_isLetter, cX10_isLetter, 1, (some .boolean), 1)
def mX10_isDigit : MD := (RX10, yX10_isDigit, cX10_isDigit, 1, (some .boolean), 1)
def mX10_isWord : MD := (RX10, yX10_isWord, cX10_isWord, 3, (some .boolean), 1)
def mX10_isWordAt : MD := (RX10, yX10_isWordAt, cX10_isWordAt, 4, (some .boolean), 2)
def mX11_init : MD := (RX11, yX11_init, cX11_init, 2, none, 0)
def mX11_feed : MD := (RX11, yX11_feed, cX11_feed, 6, (some .int), 5)
def mX11_end : MD := (RX11, yX11_end, cX11_end, 2, (some .boolean), 1)
def mX11_board : MD := (RX11, yX11_board, cX11_board, 7, (some .int), 5)
def mX11_run : MD := (RX11, yX11_run, cX11_run, 4, (some .int), 1)
def mX11_fall : MD := (RX11, yX11_fall, cX11_fall, 5, (some .int), 3)
def mX11_knock : MD := (RX11, yX11_knock, cX11_knock, 3, (some .int), 2)
def mX11_machine : MD := (RX11, yX11_machine, cX11_machine, 5, (some .int), 4)
def mX11_man : MD := (RX11, yX11_man, cX11_man, 2, (some .int), 1)
def mX11_score : MD := (RX11, yX11_score, cX11_score, 2, (some .int), 0)
def mX11_fault : MD := (RX11, yX11_fault, cX11_fault, 1, (some .int), 0)
def mX11_event : MD := (RX11, yX11_event, cX11_event, 5, (some .int), 2)
def mX11_night : MD := (RX11, yX11_night, cX11_night, 1, (some .int), 0)
def mX11_sound : MD := (RX11, yX11_sound, cX11_sound, 3, (some .int), 2)
def mX11_told : MD := (RX11, yX11_told, cX11_told, 2, (some .int), 1)
def mX11_made : MD := (RX11, yX11_made, cX11_made, 1, (some .int), 0)
def mX11_who : MD := (RX11, yX11_who, cX11_who, 2, (some .int), 1)
def mX11_balls : MD := (RX11, yX11_balls, cX11_balls, 4, (some .int), 2)
def mX11_fillings : MD := (RX11, yX11_fillings, cX11_fillings, 2, (some .int), 1)
def mX11_lay : MD := (RX11, yX11_lay, cX11_lay, 3, (some .int), 1)
def mX11_laid : MD := (RX11, yX11_laid, cX11_laid, 2, (some .int), 1)
def mX11_worn : MD := (RX11, yX11_worn, cX11_worn, 4, (some .int), 1)
def mX11_count : MD := (RX11, yX11_count, cX11_count, 2, (some .int), 1)
def mX11_within : MD := (RX11, yX11_within, cX11_within, 3, (some .boolean), 3)
def mX11_pathOf : MD := (RX11, yX11_pathOf, cX11_pathOf, 3, (some (.object "StormLoft$Path")), 1)
def mX11_runsThatAre : MD := (RX11, yX11_runsThatAre, cX11_runsThatAre, 3, (some .int), 0)
def mX11_canStand : MD := (RX11, yX11_canStand, cX11_canStand, 5, (some .boolean), 3)
def mX12_init : MD := (RX12, yX12_init, cX12_init, 1, none, 0)
def mX12_thrown : MD := (RX12, yX12_thrown, cX12_thrown, 1, (some .int), 0)
def mX12_refuse : MD := (RX12, yX12_refuse, cX12_refuse, 1, (some .int), 0)
def mX12_come : MD := (RX12, yX12_come, cX12_come, 3, none, 1)
def mX12_feed : MD := (RX12, yX12_feed, cX12_feed, 6, (some .int), 5)
def mX12_end : MD := (RX12, yX12_end, cX12_end, 2, (some .boolean), 1)
def mX12_isIn : MD := (RX12, yX12_isIn, cX12_isIn, 3, (some .boolean), 3)
def mX12_board : MD := (RX12, yX12_board, cX12_board, 6, (some .int), 5)
def mX12_isSlot : MD := (RX12, yX12_isSlot, cX12_isSlot, 1, (some .boolean), 1)
def mX12_isRun : MD := (RX12, yX12_isRun, cX12_isRun, 2, (some .boolean), 1)
def mX12_run : MD := (RX12, yX12_run, cX12_run, 7, (some .int), 1)
def mX12_lengthAt : MD := (RX12, yX12_lengthAt, cX12_lengthAt, 3, (some .int), 2)
def mX12_nextOf : MD := (RX12, yX12_nextOf, cX12_nextOf, 4, (some .int), 3)
def mX12_step : MD := (RX12, yX12_step, cX12_step, 5, none, 2)
def mX12_follow : MD := (RX12, yX12_follow, cX12_follow, 5, none, 2)
def mX12_fall : MD := (RX12, yX12_fall, cX12_fall, 5, (some .int), 3)
def mX12_knock : MD := (RX12, yX12_knock, cX12_knock, 3, (some .int), 2)
def mX12_machine : MD := (RX12, yX12_machine, cX12_machine, 5, (some .int), 4)
def mX12_man : MD := (RX12, yX12_man, cX12_man, 2, (some .int), 1)
def mX12_byteAt : MD := (RX12, yX12_byteAt, cX12_byteAt, 2, (some .int), 1)
def mX12_isDigit : MD := (RX12, yX12_isDigit, cX12_isDigit, 1, (some .boolean), 1)
def mX12_isLetter : MD := (RX12, yX12_isLetter, cX12_isLetter, 1, (some .boolean), 1)
def mX12_go : MD := (RX12, yX12_go, cX12_go, 5, none, 0)
def mX12_spelt : MD := (RX12, yX12_spelt, cX12_spelt, 7, (some .long), 5)
def mX12_isKey : MD := (RX12, yX12_isKey, cX12_isKey, 3, (some .boolean), 1)
def mX12_isAt : MD := (RX12, yX12_isAt, cX12_isAt, 1, (some .boolean), 0)
def mX12_isUse : MD := (RX12, yX12_isUse, cX12_isUse, 1, (some .boolean), 0)
def mX12_isWith : MD := (RX12, yX12_isWith, cX12_isWith, 1, (some .boolean), 0)
def mX12_isEnd : MD := (RX12, yX12_isEnd, cX12_isEnd, 1, (some .boolean), 0)
def mX12_isStorm : MD := (RX12, yX12_isStorm, cX12_isStorm, 1, (some .boolean), 0)
def mX12_isTimes : MD := (RX12, yX12_isTimes, cX12_isTimes, 1, (some .boolean), 0)
def mX12_isEvery : MD := (RX12, yX12_isEvery, cX12_isEvery, 1, (some .boolean), 0)
def mX12_isPlay : MD := (RX12, yX12_isPlay, cX12_isPlay, 1, (some .boolean), 0)
def mX12_isName : MD := (RX12, yX12_isName, cX12_isName, 1, (some .boolean), 0)
def mX12_bad : MD := (RX12, yX12_bad, cX12_bad, 2, (some .boolean), 1)
def mX12_readNumber : MD := (RX12, yX12_readNumber, cX12_readNumber, 3, (some .boolean), 2)
def mX12_readEnd : MD := (RX12, yX12_readEnd, cX12_readEnd, 1, (some .boolean), 0)
def mX12_clear : MD := (RX12, yX12_clear, cX12_clear, 2, none, 1)
def mX12_put : MD := (RX12, yX12_put, cX12_put, 6, none, 4)
def mX12_pour : MD := (RX12, yX12_pour, cX12_pour, 5, none, 3)
def mX12_readUse : MD := (RX12, yX12_readUse, cX12_readUse, 5, (some .boolean), 1)
def mX12_stormOf : MD := (RX12, yX12_stormOf, cX12_stormOf, 4, (some .int), 1)
def mX12_readPlay : MD := (RX12, yX12_readPlay, cX12_readPlay, 3, (some .boolean), 0)
def mX12_readTimes : MD := (RX12, yX12_readTimes, cX12_readTimes, 2, (some .boolean), 0)
def mX12_endTimes : MD := (RX12, yX12_endTimes, cX12_endTimes, 3, none, 0)
def mX12_readStorm : MD := (RX12, yX12_readStorm, cX12_readStorm, 1, (some .boolean), 0)
def mX12_readPiece : MD := (RX12, yX12_readPiece, cX12_readPiece, 2, (some .boolean), 0)
def mX12_score : MD := (RX12, yX12_score, cX12_score, 4, (some .int), 0)
def mX12_fault : MD := (RX12, yX12_fault, cX12_fault, 1, (some .int), 0)
def mX12_takes : MD := (RX12, yX12_takes, cX12_takes, 3, (some .int), 1)
def mX12_worth : MD := (RX12, yX12_worth, cX12_worth, 3, (some .int), 1)
def mX12_event : MD := (RX12, yX12_event, cX12_event, 3, (some .int), 2)
def mX12_hear : MD := (RX12, yX12_hear, cX12_hear, 4, none, 3)
def mX12_rollAll : MD := (RX12, yX12_rollAll, cX12_rollAll, 5, none, 1)
def mX12_use : MD := (RX12, yX12_use, cX12_use, 3, none, 1)
def mX12_night : MD := (RX12, yX12_night, cX12_night, 3, (some .int), 0)
def mX12_sound : MD := (RX12, yX12_sound, cX12_sound, 3, (some .int), 2)
def mX12_told : MD := (RX12, yX12_told, cX12_told, 2, (some .int), 1)
def mX12_choose : MD := (RX12, yX12_choose, cX12_choose, 3, (some .int), 2)
def mX12_prepare : MD := (RX12, yX12_prepare, cX12_prepare, 3, none, 0)
def mX12_bitsOf : MD := (RX12, yX12_bitsOf, cX12_bitsOf, 3, (some .int), 1)
def mX12_far : MD := (RX12, yX12_far, cX12_far, 2, (some .int), 2)
def mX12_standOf : MD := (RX12, yX12_standOf, cX12_standOf, 2, (some .int), 1)
def mX12_mayFollow : MD := (RX12, yX12_mayFollow, cX12_mayFollow, 3, (some .boolean), 2)
def mX12_mayBegin : MD := (RX12, yX12_mayBegin, cX12_mayBegin, 3, (some .boolean), 2)
def mX12_cellOf : MD := (RX12, yX12_cellOf, cX12_cellOf, 9, (some .int), 5)
def mX12_workOut : MD := (RX12, yX12_workOut, cX12_workOut, 7, none, 3)
def mX12_goesOn : MD := (RX12, yX12_goesOn, cX12_goesOn, 5, (some .boolean), 2)
def mX12_fillTable : MD := (RX12, yX12_fillTable, cX12_fillTable, 5, none, 0)
def mX12_cellByMen : MD := (RX12, yX12_cellByMen, cX12_cellByMen, 6, (some .int), 1)
def mX12_made : MD := (RX12, yX12_made, cX12_made, 6, (some .int), 0)
def mX12_who : MD := (RX12, yX12_who, cX12_who, 2, (some .int), 1)
def mX12_balls : MD := (RX12, yX12_balls, cX12_balls, 7, (some .int), 2)
def mX12_isLetGo : MD := (RX12, yX12_isLetGo, cX12_isLetGo, 3, (some .boolean), 2)
def mX12_fillings : MD := (RX12, yX12_fillings, cX12_fillings, 8, (some .int), 1)
def mX12_takeTicks : MD := (RX12, yX12_takeTicks, cX12_takeTicks, 3, (some .boolean), 0)
def mX12_err : MD := (RX12, yX12_err, cX12_err, 3, (some .int), 0)
def mX12_lay : MD := (RX12, yX12_lay, cX12_lay, 9, (some .int), 1)
def mX12_laid : MD := (RX12, yX12_laid, cX12_laid, 2, (some .int), 1)
def mX12_explains : MD := (RX12, yX12_explains, cX12_explains, 4, (some .boolean), 0)
def mX12_worn : MD := (RX12, yX12_worn, cX12_worn, 6, (some .int), 1)
def mX12_count : MD := (RX12, yX12_count, cX12_count, 4, (some .int), 1)
def mL_knock : MD := (RL, yL_knock, cL_knock, 5, (some .int), 4)
def mL_event : MD := (RL, yL_event, cL_event, 5, (some .int), 4)
def mL_sound : MD := (RL, yL_sound, cL_sound, 5, (some .int), 4)
def mL_law : MD := (RL, yL_law, cL_law, 7, (some .boolean), 1)
def m_fill : MD := ("java/util/Arrays", ⟨"java/util/Arrays", "fill", "([II)V"⟩, prog_27_method_103_code, 4, none, 2)
def kX0_init : List (List CE) := [[(.aload_n 0, 1, false, [], am_noM), (.invokespecial 3, 4, false, [1, 2016, 1030, 1031], am_noM), am_ce0, am_ce0, (.aload_n 0, 5, false, [], am_noM), (.iconst 0, 6, false, [], am_noM), (.putfield 9, 9, false, [0, 0, 2017], am_noM), am_ce0, am_ce0, (.aload_n 0, 10, false, [], am_noM), (.iconst 0, 11, false, [], am_noM), (.putfield 15, 14, false, [0, 1, 2019], am_noM), am_ce0, am_ce0, (.aload_n 0, 15, false, [], am_noM), (.iconst 0, 16, false, [], am_noM)],
  [(.putfield 18, 19, false, [0, 2, 2024], am_noM), am_ce0, am_ce0, (.aload_n 0, 20, false, [], am_noM), (.iconst 0, 21, false, [], am_noM), (.putfield 21, 24, false, [0, 3, 2027], am_noM), am_ce0, am_ce0, (.aload_n 0, 25, false, [], am_noM), (.iconst 0, 26, false, [], am_noM), (.putfield 24, 29, false, [0, 4, 2031], am_noM), am_ce0, am_ce0, (.aload_n 0, 30, false, [], am_noM), (.iconst 0, 31, false, [], am_noM), (.putfield 27, 34, false, [0, 5, 2032], am_noM)],
  [am_ce0, am_ce0, (.return_, 35, false, [], am_noM)]]
def kX0_letGoOn : List (List CE) := [[(.aload_n 0, 1, false, [], am_noM), (.iload_n 1, 2, false, [], am_noM), (.putfield 9, 5, false, [0, 0, 2017], am_noM), am_ce0, am_ce0, (.aload_n 0, 6, false, [], am_noM), (.iconst 0, 7, false, [], am_noM), (.iconst 0, 8, false, [], am_noM), (.iconst 0, 9, false, [], am_noM), (.invokevirtual 30, 12, false, [4, 0, 0, 0, 3095, 3096, 3097, 1009, 3098], mX0_put), am_ce0, am_ce0, (.return_, 13, false, [], am_noM)]]
def kX0_put : List (List CE) := [[(.aload_n 0, 1, false, [], am_noM), (.iload_n 1, 2, false, [], am_noM), (.putfield 15, 5, false, [0, 1, 2019], am_noM), am_ce0, am_ce0, (.aload_n 0, 6, false, [], am_noM), (.iload_n 2, 7, false, [], am_noM), (.putfield 18, 10, false, [0, 2, 2024], am_noM), am_ce0, am_ce0, (.aload_n 0, 11, false, [], am_noM), (.iload_n 3, 12, false, [], am_noM), (.putfield 21, 15, false, [0, 3, 2027], am_noM), am_ce0, am_ce0, (.aload_n 0, 16, false, [], am_noM)],
  [(.iload_n 1, 17, false, [], am_noM), (.putfield 24, 20, false, [0, 4, 2031], am_noM), am_ce0, am_ce0, (.aload_n 0, 21, false, [], am_noM), (.iload_n 2, 22, false, [], am_noM), (.putfield 27, 25, false, [0, 5, 2032], am_noM), am_ce0, am_ce0, (.return_, 26, false, [], am_noM)]]
def kX0_rollsOver : List (List CE) := [[(.aload_n 0, 1, false, [], am_noM), (.aload_n 0, 2, false, [], am_noM), (.getfield 15, 5, false, [0, 1, 2019], am_noM), am_ce0, am_ce0, (.putfield 24, 8, false, [0, 4, 2031], am_noM), am_ce0, am_ce0, (.aload_n 0, 9, false, [], am_noM), (.aload_n 0, 10, false, [], am_noM), (.getfield 18, 13, false, [0, 2, 2024], am_noM), am_ce0, am_ce0, (.putfield 27, 16, false, [0, 5, 2032], am_noM), am_ce0, am_ce0],
  [(.aload_n 0, 17, false, [], am_noM), (.getfield 21, 20, false, [0, 3, 2027], am_noM), am_ce0, am_ce0, (.aload_n 1, 21, false, [], am_noM), (.getfield 34, 24, false, [1, 1, 3034], am_noM), am_ce0, am_ce0, (.iadd, 25, false, [], am_noM), (.istore_n 2, 26, false, [], am_noM), (.iload_n 2, 27, false, [], am_noM), (.iload_n 2, 28, false, [], am_noM), (.aload_n 1, 29, false, [], am_noM), (.getfield 39, 32, false, [1, 2, 3036], am_noM), am_ce0, am_ce0],
  [(.imul, 33, false, [], am_noM), (.bipush 64, 35, false, [], am_noM), am_ce0, (.idiv, 36, false, [], am_noM), (.isub, 37, false, [], am_noM), (.istore_n 2, 38, false, [], am_noM), (.aload_n 0, 39, false, [], am_noM), (.iconst 0, 40, false, [], am_noM), (.iload_n 2, 41, false, [], am_noM), (.sipush 1023, 44, false, [], am_noM), am_ce0, am_ce0, (.invokestatic 42, 47, false, [2, 3107, 3073, 1015, 3074], am_noM), am_ce0, am_ce0, (.invokestatic 48, 50, false, [1, 3108, 3109, 1015, 3110], am_noM)],
  [am_ce0, am_ce0, (.putfield 21, 53, false, [0, 3, 2027], am_noM), am_ce0, am_ce0, (.aload_n 0, 54, false, [], am_noM), (.dup, 55, false, [], am_noM), (.getfield 18, 58, false, [0, 2, 2024], am_noM), am_ce0, am_ce0, (.aload_n 0, 59, false, [], am_noM), (.getfield 21, 62, false, [0, 3, 2027], am_noM), am_ce0, am_ce0, (.iadd, 63, false, [], am_noM), (.putfield 18, 66, false, [0, 2, 2024], am_noM)],
  [am_ce0, am_ce0, (.aload_n 0, 67, false, [], am_noM), (.getfield 18, 70, false, [0, 2, 2024], am_noM), am_ce0, am_ce0, (.aload_n 1, 71, false, [], am_noM), (.getfield 51, 74, false, [1, 0, 3030], am_noM), am_ce0, am_ce0, (.if_icmp .lt 7, 77, false, [81], am_noM), am_ce0, am_ce0, (.iconst 1, 78, false, [], am_noM), (.goto 4, 81, false, [82], am_noM), am_ce0],
  [am_ce0, (.iconst 0, 82, false, [], am_noM), (.ireturn, 83, false, [1], am_noM)]]
def kX0_fallsOff : List (List CE) := [[(.iload_n 2, 1, false, [], am_noM), (.aload_n 0, 2, false, [], am_noM), (.getfield 21, 5, false, [0, 3, 2027], am_noM), am_ce0, am_ce0, (.imul, 6, false, [], am_noM), (.bipush 64, 8, false, [], am_noM), am_ce0, (.idiv, 9, false, [], am_noM), (.istore_n 3, 10, false, [], am_noM), (.aload_n 0, 11, false, [], am_noM), (.dup, 12, false, [], am_noM), (.getfield 21, 15, false, [0, 3, 2027], am_noM), am_ce0, am_ce0, (.aload_n 0, 16, false, [], am_noM)],
  [(.getfield 21, 19, false, [0, 3, 2027], am_noM), am_ce0, am_ce0, (.aload_n 1, 20, false, [], am_noM), (.getfield 54, 23, false, [1, 4, 3042], am_noM), am_ce0, am_ce0, (.imul, 24, false, [], am_noM), (.bipush 16, 26, false, [], am_noM), am_ce0, (.idiv, 27, false, [], am_noM), (.isub, 28, false, [], am_noM), (.putfield 21, 31, false, [0, 3, 2027], am_noM), am_ce0, am_ce0, (.aload_n 0, 32, false, [], am_noM)],
  [(.dup, 33, false, [], am_noM), (.getfield 18, 36, false, [0, 2, 2024], am_noM), am_ce0, am_ce0, (.iload_n 2, 37, false, [], am_noM), (.aload_n 0, 38, false, [], am_noM), (.getfield 21, 41, false, [0, 3, 2027], am_noM), am_ce0, am_ce0, (.imul, 42, false, [], am_noM), (.bipush 8, 44, false, [], am_noM), am_ce0, (.idiv, 45, false, [], am_noM), (.aload_n 1, 46, false, [], am_noM), (.getfield 51, 49, false, [1, 0, 3030], am_noM), am_ce0],
  [am_ce0, (.isub, 50, false, [], am_noM), (.iadd, 51, false, [], am_noM), (.putfield 18, 54, false, [0, 2, 2024], am_noM), am_ce0, am_ce0, (.iload_n 3, 55, false, [], am_noM), (.ireturn, 56, false, [0], am_noM)]]
def kX0_isAtRest : List (List CE) := [[(.aload_n 0, 1, false, [], am_noM), (.getfield 21, 4, false, [0, 3, 2027], am_noM), am_ce0, am_ce0, (.ifCond .ne 7, 7, false, [11], am_noM), am_ce0, am_ce0, (.iconst 1, 8, false, [], am_noM), (.goto 4, 11, false, [12], am_noM), am_ce0, am_ce0, (.iconst 0, 12, false, [], am_noM), (.ireturn, 13, false, [1], am_noM)]]
def kX0_overtook : List (List CE) := [[(.aload_n 0, 1, false, [], am_noM), (.getfield 27, 4, false, [0, 5, 2032], am_noM), am_ce0, am_ce0, (.aload_n 1, 5, false, [], am_noM), (.getfield 27, 8, false, [0, 5, 2032], am_noM), am_ce0, am_ce0, (.if_icmp .ge 18, 11, false, [26], am_noM), am_ce0, am_ce0, (.aload_n 0, 12, false, [], am_noM), (.getfield 18, 15, false, [0, 2, 2024], am_noM), am_ce0, am_ce0, (.aload_n 1, 16, false, [], am_noM)],
  [(.getfield 18, 19, false, [0, 2, 2024], am_noM), am_ce0, am_ce0, (.if_icmp .le 7, 22, false, [26], am_noM), am_ce0, am_ce0, (.iconst 1, 23, false, [], am_noM), (.goto 4, 26, false, [27], am_noM), am_ce0, am_ce0, (.iconst 0, 27, false, [], am_noM), (.ireturn, 28, false, [1], am_noM)]]
def kX0_stayedWith : List (List CE) := [[(.aload_n 0, 1, false, [], am_noM), (.getfield 15, 4, false, [0, 1, 2019], am_noM), am_ce0, am_ce0, (.sipush 255, 7, false, [], am_noM), am_ce0, am_ce0, (.if_icmp .eq 51, 10, false, [58], am_noM), am_ce0, am_ce0, (.aload_n 0, 11, false, [], am_noM), (.getfield 9, 14, false, [0, 0, 2017], am_noM), am_ce0, am_ce0, (.aload_n 1, 15, false, [], am_noM), (.getfield 9, 18, false, [0, 0, 2017], am_noM)],
  [am_ce0, am_ce0, (.if_icmp .ne 40, 21, false, [58], am_noM), am_ce0, am_ce0, (.aload_n 0, 22, false, [], am_noM), (.getfield 15, 25, false, [0, 1, 2019], am_noM), am_ce0, am_ce0, (.aload_n 1, 26, false, [], am_noM), (.getfield 15, 29, false, [0, 1, 2019], am_noM), am_ce0, am_ce0, (.if_icmp .ne 29, 32, false, [58], am_noM), am_ce0, am_ce0],
  [(.aload_n 0, 33, false, [], am_noM), (.getfield 24, 36, false, [0, 4, 2031], am_noM), am_ce0, am_ce0, (.aload_n 0, 37, false, [], am_noM), (.getfield 15, 40, false, [0, 1, 2019], am_noM), am_ce0, am_ce0, (.if_icmp .ne 18, 43, false, [58], am_noM), am_ce0, am_ce0, (.aload_n 1, 44, false, [], am_noM), (.getfield 24, 47, false, [0, 4, 2031], am_noM), am_ce0, am_ce0, (.aload_n 0, 48, false, [], am_noM)],
  [(.getfield 15, 51, false, [0, 1, 2019], am_noM), am_ce0, am_ce0, (.if_icmp .ne 7, 54, false, [58], am_noM), am_ce0, am_ce0, (.iconst 1, 55, false, [], am_noM), (.goto 4, 58, false, [59], am_noM), am_ce0, am_ce0, (.iconst 0, 59, false, [], am_noM), (.ireturn, 60, false, [1], am_noM)]]
def kX1_init : List (List CE) := [[(.aload_n 0, 1, false, [], am_noM), (.invokespecial 1, 4, false, [1, 3028, 1030, 1031], am_noM), am_ce0, am_ce0, (.aload_n 0, 5, false, [], am_noM), (.bipush 64, 7, false, [], am_noM), am_ce0, (.iload_n 1, 8, false, [], am_noM), (.imul, 9, false, [], am_noM), (.putfield 7, 12, false, [1, 0, 3029], am_noM), am_ce0, am_ce0, (.aload_n 0, 13, false, [], am_noM), (.iload_n 2, 14, false, [], am_noM), (.putfield 13, 17, false, [1, 1, 3033], am_noM), am_ce0],
  [am_ce0, (.aload_n 0, 18, false, [], am_noM), (.iload_n 3, 19, false, [], am_noM), (.putfield 16, 22, false, [1, 2, 3035], am_noM), am_ce0, am_ce0, (.aload_n 0, 23, false, [], am_noM), (.iload 4, 25, false, [], am_noM), am_ce0, (.putfield 19, 28, false, [1, 3, 3037], am_noM), am_ce0, am_ce0, (.aload_n 0, 29, false, [], am_noM), (.iload 5, 31, false, [], am_noM), am_ce0, (.putfield 22, 34, false, [1, 4, 3041], am_noM)],
  [am_ce0, am_ce0, (.return_, 35, false, [], am_noM)]]
def kX2_init : List (List CE) := [[(.aload_n 0, 1, false, [], am_noM), (.invokespecial 3, 4, false, [1, 2133, 1030, 1031], am_noM), am_ce0, am_ce0, (.aload_n 0, 5, false, [], am_noM), (.bipush 13, 7, false, [], am_noM), am_ce0, (.newarray .int, 9, false, [13, 13, 1074], am_noM), am_ce0, (.putfield 11, 12, false, [2, 0, 2137], am_noM), am_ce0, am_ce0, (.aload_n 0, 13, false, [], am_noM), (.bipush 13, 15, false, [], am_noM), am_ce0, (.newarray .int, 17, false, [14, 13, 1074], am_noM)],
  [am_ce0, (.putfield 15, 20, false, [2, 1, 2138], am_noM), am_ce0, am_ce0, (.aload_n 0, 21, false, [], am_noM), (.bipush 13, 23, false, [], am_noM), am_ce0, (.newarray .int, 25, false, [15, 13, 1074], am_noM), am_ce0, (.putfield 18, 28, false, [2, 2, 2139], am_noM), am_ce0, am_ce0, (.aload_n 0, 29, false, [], am_noM), (.bipush 13, 31, false, [], am_noM), am_ce0, (.newarray .int, 33, false, [16, 13, 1074], am_noM)],
  [am_ce0, (.putfield 21, 36, false, [2, 3, 2140], am_noM), am_ce0, am_ce0, (.aload_n 0, 37, false, [], am_noM), (.bipush 13, 39, false, [], am_noM), am_ce0, (.newarray .int, 41, false, [17, 13, 1074], am_noM), am_ce0, (.putfield 24, 44, false, [2, 4, 2141], am_noM), am_ce0, am_ce0, (.aload_n 0, 45, false, [], am_noM), (.bipush 13, 47, false, [], am_noM), am_ce0, (.newarray .int, 49, false, [18, 13, 1074], am_noM)],
  [am_ce0, (.putfield 27, 52, false, [2, 5, 2142], am_noM), am_ce0, am_ce0, (.aload_n 0, 53, false, [], am_noM), (.bipush 13, 55, false, [], am_noM), am_ce0, (.newarray .int, 57, false, [19, 13, 1074], am_noM), am_ce0, (.putfield 30, 60, false, [2, 6, 2143], am_noM), am_ce0, am_ce0, (.aload_n 0, 61, false, [], am_noM), (.new 33, 64, false, [0, 6, 2134, 2012, 1009], am_noM), am_ce0, am_ce0],
  [(.dup, 65, false, [], am_noM), (.invokespecial 35, 68, false, [2, 1, 0, 0, 355, 110], mX0_init), am_ce0, am_ce0, (.putfield 36, 71, false, [2, 7, 2144], am_noM), am_ce0, am_ce0, (.aload_n 0, 72, false, [], am_noM), (.iconst 4, 73, false, [], am_noM), (.newarray .int, 75, false, [20, 4, 1074], am_noM), am_ce0, (.putfield 40, 78, false, [2, 8, 2145], am_noM), am_ce0, am_ce0, (.aload_n 0, 79, false, [], am_noM), (.iconst 0, 80, false, [], am_noM)],
  [(.putfield 43, 83, false, [2, 9, 2146], am_noM), am_ce0, am_ce0, (.aload_n 0, 84, false, [], am_noM), (.iconst 0, 85, false, [], am_noM), (.putfield 47, 88, false, [2, 10, 2147], am_noM), am_ce0, am_ce0, (.aload_n 0, 89, false, [], am_noM), (.iconst 0, 90, false, [], am_noM), (.putfield 50, 93, false, [2, 11, 2148], am_noM), am_ce0, am_ce0, (.aload_n 0, 94, false, [], am_noM), (.iconst 0, 95, false, [], am_noM), (.putfield 53, 98, false, [2, 12, 2149], am_noM)],
  [am_ce0, am_ce0, (.aload_n 0, 99, false, [], am_noM), (.ldc 56, 101, false, [0, 1000000, 2136], am_noM), am_ce0, (.putfield 57, 104, false, [2, 13, 2150], am_noM), am_ce0, am_ce0, (.return_, 105, false, [], am_noM)]]
def kX2_laidAt : List (List CE) := [[(.iload_n 1, 1, false, [], am_noM), (.ifCond .lt 25, 4, false, [26], am_noM), am_ce0, am_ce0, (.iload_n 1, 5, false, [], am_noM), (.aload_n 0, 6, false, [], am_noM), (.getfield 43, 9, false, [2, 9, 2146], am_noM), am_ce0, am_ce0, (.if_icmp .ge 17, 12, false, [26], am_noM), am_ce0, am_ce0, (.iload_n 1, 13, false, [], am_noM), (.iconst 4, 14, false, [], am_noM), (.if_icmp .ge 12, 17, false, [26], am_noM), am_ce0],
  [am_ce0, (.aload_n 0, 18, false, [], am_noM), (.getfield 40, 21, false, [2, 8, 2145], am_noM), am_ce0, am_ce0, (.iload_n 1, 22, false, [], am_noM), (.iaload, 23, false, [], am_noM), (.goto 4, 26, false, [27], am_noM), am_ce0, am_ce0, (.iconst (-1), 27, false, [], am_noM), (.ireturn, 28, false, [0], am_noM)]]
def kX2_layLikest : List (List CE) := [[(.aload_n 0, 1, false, [], am_noM), (.invokevirtual 60, 4, false, [1, 2, 0, 0, 5084, 5086, 39, 1011, 5087], mX2_begin), am_ce0, am_ce0, (.aload_n 0, 5, false, [], am_noM), (.iload_n 3, 6, false, [], am_noM), (.iconst 4, 7, false, [], am_noM), (.invokestatic 63, 10, false, [2, 5092, 3073, 1015, 3074], am_noM), am_ce0, am_ce0, (.putfield 50, 13, false, [2, 11, 2148], am_noM), am_ce0, am_ce0, (.aload_n 0, 14, false, [], am_noM), (.iload_n 2, 15, false, [], am_noM), (.bipush 8, 17, false, [], am_noM)],
  [am_ce0, (.invokestatic 63, 20, false, [2, 5092, 3073, 1015, 3074], am_noM), am_ce0, am_ce0, (.aload_n 1, 21, false, [], am_noM), (.arraylength, 22, false, [], am_noM), (.invokestatic 63, 25, false, [2, 5092, 3073, 1015, 3074], am_noM), am_ce0, am_ce0, (.putfield 53, 28, false, [2, 12, 2149], am_noM), am_ce0, am_ce0, (.aload_n 0, 29, false, [], am_noM), (.aload_n 1, 30, false, [], am_noM), (.aload 4, 32, false, [], am_noM), am_ce0],
  [(.iconst 0, 33, false, [], am_noM), (.invokestatic 69, 36, false, [0, 4, 0, 0, 5093, 5094, 1011, 5095], mX2_layOn), am_ce0, am_ce0, (.aload_n 0, 37, false, [], am_noM), (.aload_n 0, 38, false, [], am_noM), (.getfield 50, 41, false, [2, 11, 2148], am_noM), am_ce0, am_ce0, (.putfield 43, 44, false, [2, 9, 2146], am_noM), am_ce0, am_ce0, (.aload_n 0, 45, false, [], am_noM), (.getfield 57, 48, false, [2, 13, 2150], am_noM), am_ce0, am_ce0],
  [(.ireturn, 49, false, [0], am_noM)]]
def kX2_explain : List (List CE) := [[(.aload_n 0, 1, false, [], am_noM), (.invokevirtual 60, 4, false, [1, 2, 0, 0, 5084, 5086, 39, 1011, 5087], mX2_begin), am_ce0, am_ce0, (.aload_n 0, 5, false, [], am_noM), (.aload_n 1, 6, false, [], am_noM), (.aload_n 2, 7, false, [], am_noM), (.iconst 0, 8, false, [], am_noM), (.invokestatic 73, 11, false, [0, 4, 0, 0, 5145, 5146, 1011, 5147], mX2_wearOn), am_ce0, am_ce0, (.aload_n 0, 12, false, [], am_noM), (.getfield 57, 15, false, [2, 13, 2150], am_noM), am_ce0, am_ce0, (.ldc 56, 17, false, [0, 1000000, 2136], am_noM)],
  [am_ce0, (.if_icmp .ne 8, 20, false, [25], am_noM), am_ce0, am_ce0, (.bipush (-2), 22, false, [], am_noM), am_ce0, (.goto 7, 25, false, [29], am_noM), am_ce0, am_ce0, (.aload_n 0, 26, false, [], am_noM), (.getfield 47, 29, false, [2, 10, 2147], am_noM), am_ce0, am_ce0, (.ireturn, 30, false, [0], am_noM)]]
def kX2_begin : List (List CE) := [[(.aload_n 0, 1, false, [], am_noM), (.ldc 56, 3, false, [0, 1000000, 2136], am_noM), am_ce0, (.putfield 57, 6, false, [2, 13, 2150], am_noM), am_ce0, am_ce0, (.aload_n 0, 7, false, [], am_noM), (.iconst 0, 8, false, [], am_noM), (.putfield 47, 11, false, [2, 10, 2147], am_noM), am_ce0, am_ce0, (.aload_n 0, 12, false, [], am_noM), (.iconst 0, 13, false, [], am_noM), (.iconst 0, 14, false, [], am_noM), (.invokevirtual 77, 17, false, [3, 2, 0, 0, 5088, 5090, 40, 1011, 5091], mX2_store), am_ce0],
  [am_ce0, (.aload_n 0, 18, false, [], am_noM), (.getfield 15, 21, false, [2, 1, 2138], am_noM), am_ce0, am_ce0, (.iconst 0, 22, false, [], am_noM), (.iconst 0, 23, false, [], am_noM), (.iastore, 24, false, [], am_noM), (.aload_n 0, 25, false, [], am_noM), (.getfield 18, 28, false, [2, 2, 2139], am_noM), am_ce0, am_ce0, (.iconst 0, 29, false, [], am_noM), (.iconst 0, 30, false, [], am_noM), (.iastore, 31, false, [], am_noM), (.aload_n 0, 32, false, [], am_noM)],
  [(.getfield 21, 35, false, [2, 3, 2140], am_noM), am_ce0, am_ce0, (.iconst 0, 36, false, [], am_noM), (.iconst 0, 37, false, [], am_noM), (.iastore, 38, false, [], am_noM), (.aload_n 0, 39, false, [], am_noM), (.getfield 24, 42, false, [2, 4, 2141], am_noM), am_ce0, am_ce0, (.iconst 0, 43, false, [], am_noM), (.iconst 0, 44, false, [], am_noM), (.iastore, 45, false, [], am_noM), (.aload_n 0, 46, false, [], am_noM), (.getfield 27, 49, false, [2, 5, 2142], am_noM), am_ce0],
  [am_ce0, (.iconst 0, 50, false, [], am_noM), (.iconst 0, 51, false, [], am_noM), (.iastore, 52, false, [], am_noM), (.aload_n 0, 53, false, [], am_noM), (.getfield 30, 56, false, [2, 6, 2143], am_noM), am_ce0, am_ce0, (.iconst 0, 57, false, [], am_noM), (.iconst 0, 58, false, [], am_noM), (.iastore, 59, false, [], am_noM), (.return_, 60, false, [], am_noM)]]
def kX2_store : List (List CE) := [[(.iload_n 1, 1, false, [], am_noM), (.ifCond .lt 55, 4, false, [56], am_noM), am_ce0, am_ce0, (.iload_n 1, 5, false, [], am_noM), (.bipush 13, 7, false, [], am_noM), am_ce0, (.if_icmp .ge 49, 10, false, [56], am_noM), am_ce0, am_ce0, (.aload_n 0, 11, false, [], am_noM), (.getfield 11, 14, false, [2, 0, 2137], am_noM), am_ce0, am_ce0, (.iload_n 1, 15, false, [], am_noM), (.iload_n 2, 16, false, [], am_noM)],
  [(.iastore, 17, false, [], am_noM), (.aload_n 0, 18, false, [], am_noM), (.getfield 15, 21, false, [2, 1, 2138], am_noM), am_ce0, am_ce0, (.iload_n 1, 22, false, [], am_noM), (.aload_n 0, 23, false, [], am_noM), (.getfield 36, 26, false, [2, 7, 2144], am_noM), am_ce0, am_ce0, (.getfield 81, 29, false, [0, 1, 2022], am_noM), am_ce0, am_ce0, (.iastore, 30, false, [], am_noM), (.aload_n 0, 31, false, [], am_noM), (.getfield 18, 34, false, [2, 2, 2139], am_noM)],
  [am_ce0, am_ce0, (.iload_n 1, 35, false, [], am_noM), (.aload_n 0, 36, false, [], am_noM), (.getfield 36, 39, false, [2, 7, 2144], am_noM), am_ce0, am_ce0, (.getfield 83, 42, false, [0, 2, 2025], am_noM), am_ce0, am_ce0, (.iastore, 43, false, [], am_noM), (.aload_n 0, 44, false, [], am_noM), (.getfield 21, 47, false, [2, 3, 2140], am_noM), am_ce0, am_ce0, (.iload_n 1, 48, false, [], am_noM)],
  [(.aload_n 0, 49, false, [], am_noM), (.getfield 36, 52, false, [2, 7, 2144], am_noM), am_ce0, am_ce0, (.getfield 85, 55, false, [0, 3, 2030], am_noM), am_ce0, am_ce0, (.iastore, 56, false, [], am_noM), (.return_, 57, false, [], am_noM)]]
def kX2_load : List (List CE) := [[(.iload_n 1, 1, false, [], am_noM), (.ifCond .lt 34, 4, false, [35], am_noM), am_ce0, am_ce0, (.iload_n 1, 5, false, [], am_noM), (.bipush 13, 7, false, [], am_noM), am_ce0, (.if_icmp .ge 28, 10, false, [35], am_noM), am_ce0, am_ce0, (.aload_n 0, 11, false, [], am_noM), (.getfield 36, 14, false, [2, 7, 2144], am_noM), am_ce0, am_ce0, (.aload_n 0, 15, false, [], am_noM), (.getfield 15, 18, false, [2, 1, 2138], am_noM)],
  [am_ce0, am_ce0, (.iload_n 1, 19, false, [], am_noM), (.iaload, 20, false, [], am_noM), (.aload_n 0, 21, false, [], am_noM), (.getfield 18, 24, false, [2, 2, 2139], am_noM), am_ce0, am_ce0, (.iload_n 1, 25, false, [], am_noM), (.iaload, 26, false, [], am_noM), (.aload_n 0, 27, false, [], am_noM), (.getfield 21, 30, false, [2, 3, 2140], am_noM), am_ce0, am_ce0, (.iload_n 1, 31, false, [], am_noM), (.iaload, 32, false, [], am_noM)],
  [(.invokevirtual 87, 35, false, [4, 0, 0, 0, 5104, 3096, 3097, 1009, 3098], mX0_put), am_ce0, am_ce0, (.return_, 36, false, [], am_noM)]]
def kX2_rollToEnd : List (List CE) := [[(.iload_n 2, 1, false, [], am_noM), (.iconst 1, 2, false, [], am_noM), (.iadd, 3, false, [], am_noM), (.istore 4, 5, false, [], am_noM), am_ce0, (.iload 4, 7, true, [], am_noM), am_ce0, (.iload_n 3, 8, false, [], am_noM), (.if_icmp .gt 53, 11, false, [61], am_noM), am_ce0, am_ce0, (.aload_n 0, 12, false, [], am_noM), (.getfield 36, 15, false, [2, 7, 2144], am_noM), am_ce0, am_ce0, (.getfield 85, 18, false, [0, 3, 2030], am_noM)],
  [am_ce0, am_ce0, (.istore 5, 20, false, [], am_noM), am_ce0, (.aload_n 0, 21, false, [], am_noM), (.getfield 36, 24, false, [2, 7, 2144], am_noM), am_ce0, am_ce0, (.aload_n 1, 25, false, [], am_noM), (.invokevirtual 91, 28, false, [2, 0, 0, 0, 5109, 3104, 3105, 1009, 3106], mX0_rollsOver), am_ce0, am_ce0, (.ifCond .eq 6, 31, false, [34], am_noM), am_ce0, am_ce0, (.iload 4, 33, false, [], am_noM)],
  [am_ce0, (.ireturn, 34, false, [0], am_noM), (.aload_n 0, 35, false, [], am_noM), (.getfield 36, 38, false, [2, 7, 2144], am_noM), am_ce0, am_ce0, (.getfield 85, 41, false, [0, 3, 2030], am_noM), am_ce0, am_ce0, (.iload 5, 43, false, [], am_noM), am_ce0, (.if_icmp .ne 12, 46, false, [55], am_noM), am_ce0, am_ce0, (.aload_n 0, 47, false, [], am_noM), (.aload_n 1, 48, false, [], am_noM)],
  [(.iload 4, 50, false, [], am_noM), am_ce0, (.iload_n 3, 51, false, [], am_noM), (.invokevirtual 95, 54, false, [4, 2, 0, 0, 5110, 5112, 44, 1011, 5113], mX2_glideToEnd), am_ce0, am_ce0, (.ireturn, 55, false, [0], am_noM), (.iinc 4 1, 58, false, [], am_noM), am_ce0, am_ce0, (.goto (-53), 61, false, [5], am_noM), am_ce0, am_ce0, (.iconst (-1), 62, false, [], am_noM), (.ireturn, 63, false, [0], am_noM)]]
def kX2_glideToEnd : List (List CE) := [[(.aload_n 0, 1, false, [], am_noM), (.getfield 36, 4, false, [2, 7, 2144], am_noM), am_ce0, am_ce0, (.getfield 85, 7, false, [0, 3, 2030], am_noM), am_ce0, am_ce0, (.ifCond .gt 5, 10, false, [12], am_noM), am_ce0, am_ce0, (.iconst (-1), 11, false, [], am_noM), (.ireturn, 12, false, [0], am_noM), (.aload_n 1, 13, false, [], am_noM), (.getfield 99, 16, false, [1, 0, 3032], am_noM), am_ce0, am_ce0],
  [(.aload_n 0, 17, false, [], am_noM), (.getfield 36, 20, false, [2, 7, 2144], am_noM), am_ce0, am_ce0, (.getfield 83, 23, false, [0, 2, 2025], am_noM), am_ce0, am_ce0, (.isub, 24, false, [], am_noM), (.aload_n 0, 25, false, [], am_noM), (.getfield 36, 28, false, [2, 7, 2144], am_noM), am_ce0, am_ce0, (.getfield 85, 31, false, [0, 3, 2030], am_noM), am_ce0, am_ce0, (.iadd, 32, false, [], am_noM)],
  [(.iconst 1, 33, false, [], am_noM), (.isub, 34, false, [], am_noM), (.aload_n 0, 35, false, [], am_noM), (.getfield 36, 38, false, [2, 7, 2144], am_noM), am_ce0, am_ce0, (.getfield 85, 41, false, [0, 3, 2030], am_noM), am_ce0, am_ce0, (.idiv, 42, false, [], am_noM), (.istore 4, 44, false, [], am_noM), am_ce0, (.aload_n 0, 45, false, [], am_noM), (.getfield 36, 48, false, [2, 7, 2144], am_noM), am_ce0, am_ce0],
  [(.dup, 49, false, [], am_noM), (.getfield 83, 52, false, [0, 2, 2025], am_noM), am_ce0, am_ce0, (.iload 4, 54, false, [], am_noM), am_ce0, (.aload_n 0, 55, false, [], am_noM), (.getfield 36, 58, false, [2, 7, 2144], am_noM), am_ce0, am_ce0, (.getfield 85, 61, false, [0, 3, 2030], am_noM), am_ce0, am_ce0, (.imul, 62, false, [], am_noM), (.iadd, 63, false, [], am_noM), (.putfield 83, 66, false, [0, 2, 2025], am_noM)],
  [am_ce0, am_ce0, (.iload_n 2, 67, false, [], am_noM), (.iload 4, 69, false, [], am_noM), am_ce0, (.iadd, 70, false, [], am_noM), (.iload_n 3, 71, false, [], am_noM), (.if_icmp .gt 10, 74, false, [81], am_noM), am_ce0, am_ce0, (.iload_n 2, 75, false, [], am_noM), (.iload 4, 77, false, [], am_noM), am_ce0, (.iadd, 78, false, [], am_noM), (.goto 4, 81, false, [82], am_noM), am_ce0],
  [am_ce0, (.iconst (-1), 82, false, [], am_noM), (.ireturn, 83, false, [0], am_noM)]]
def kX2_layOn : List (List CE) := [[(.iload_n 3, 1, false, [], am_noM), (.ifCond .lt 16, 4, false, [17], am_noM), am_ce0, am_ce0, (.iload_n 3, 5, false, [], am_noM), (.aload_n 0, 6, false, [], am_noM), (.getfield 50, 9, false, [2, 11, 2148], am_noM), am_ce0, am_ce0, (.if_icmp .ge 8, 12, false, [17], am_noM), am_ce0, am_ce0, (.iload_n 3, 13, false, [], am_noM), (.iconst 4, 14, false, [], am_noM), (.if_icmp .lt 4, 17, false, [18], am_noM), am_ce0],
  [am_ce0, (.return_, 18, false, [], am_noM), (.iconst 0, 19, false, [], am_noM), (.istore 4, 21, false, [], am_noM), am_ce0, (.iload 4, 23, true, [], am_noM), am_ce0, (.aload_n 0, 24, false, [], am_noM), (.getfield 53, 27, false, [2, 12, 2149], am_noM), am_ce0, am_ce0, (.if_icmp .ge 111, 30, false, [138], am_noM), am_ce0, am_ce0, (.iload 4, 32, false, [], am_noM), am_ce0],
  [(.aload_n 1, 33, false, [], am_noM), (.arraylength, 34, false, [], am_noM), (.if_icmp .ge 104, 37, false, [138], am_noM), am_ce0, am_ce0, (.aload_n 0, 38, false, [], am_noM), (.getfield 30, 41, false, [2, 6, 2143], am_noM), am_ce0, am_ce0, (.iload_n 3, 42, false, [], am_noM), (.iload 4, 44, false, [], am_noM), am_ce0, (.iastore, 45, false, [], am_noM), (.aload_n 1, 46, false, [], am_noM), (.iload 4, 48, false, [], am_noM), am_ce0],
  [(.aaload, 49, false, [], am_noM), (.ifnull 20, 52, false, [69], am_noM), am_ce0, am_ce0, (.aload_n 0, 53, false, [], am_noM), (.aload_n 1, 54, false, [], am_noM), (.iload 4, 56, false, [], am_noM), am_ce0, (.aaload, 57, false, [], am_noM), (.aload_n 2, 58, false, [], am_noM), (.iload_n 3, 59, false, [], am_noM), (.invokevirtual 104, 62, false, [4, 2, 0, 0, 5096, 5098, 41, 1011, 5099], mX2_passes), am_ce0, am_ce0, (.ifCond .eq 7, 65, false, [69], am_noM), am_ce0],
  [am_ce0, (.iconst 1, 66, false, [], am_noM), (.goto 4, 69, false, [70], am_noM), am_ce0, am_ce0, (.iconst 0, 70, false, [], am_noM), (.istore 5, 72, false, [], am_noM), am_ce0, (.iload 5, 74, false, [], am_noM), am_ce0, (.ifCond .eq 13, 77, false, [87], am_noM), am_ce0, am_ce0, (.iload_n 3, 78, false, [], am_noM), (.iconst 1, 79, false, [], am_noM), (.iadd, 80, false, [], am_noM)],
  [(.aload_n 0, 81, false, [], am_noM), (.getfield 50, 84, false, [2, 11, 2148], am_noM), am_ce0, am_ce0, (.if_icmp .lt 24, 87, false, [108], am_noM), am_ce0, am_ce0, (.aload_n 0, 88, false, [], am_noM), (.aload_n 2, 89, false, [], am_noM), (.iload_n 3, 90, false, [], am_noM), (.iload 5, 92, false, [], am_noM), am_ce0, (.ifCond .eq 9, 95, false, [101], am_noM), am_ce0, am_ce0, (.iload_n 3, 96, false, [], am_noM)],
  [(.iconst 1, 97, false, [], am_noM), (.iadd, 98, false, [], am_noM), (.goto 4, 101, false, [102], am_noM), am_ce0, am_ce0, (.iload_n 3, 102, false, [], am_noM), (.invokevirtual 108, 105, false, [4, 2, 0, 0, 5120, 5122, 45, 1011, 5123], mX2_judge), am_ce0, am_ce0, (.goto 27, 108, false, [132], am_noM), am_ce0, am_ce0, (.aload_n 0, 109, false, [], am_noM), (.aload_n 2, 110, false, [], am_noM), (.iload_n 3, 111, false, [], am_noM), (.iconst 1, 112, false, [], am_noM)],
  [(.iadd, 113, false, [], am_noM), (.invokevirtual 112, 116, false, [3, 2, 0, 0, 5125, 5127, 46, 1011, 5128], mX2_leastPossible), am_ce0, am_ce0, (.aload_n 0, 117, false, [], am_noM), (.getfield 57, 120, false, [2, 13, 2150], am_noM), am_ce0, am_ce0, (.if_icmp .ge 12, 123, false, [132], am_noM), am_ce0, am_ce0, (.aload_n 0, 124, false, [], am_noM), (.aload_n 1, 125, false, [], am_noM), (.aload_n 2, 126, false, [], am_noM), (.iload_n 3, 127, false, [], am_noM), (.iconst 1, 128, false, [], am_noM)],
  [(.iadd, 129, false, [], am_noM), (.invokestatic 69, 132, false, [0, 4, 0, 0, 5093, 5094, 1011, 5095], mX2_layOn), am_ce0, am_ce0, (.iinc 4 1, 135, false, [], am_noM), am_ce0, am_ce0, (.goto (-114), 138, false, [21], am_noM), am_ce0, am_ce0, (.return_, 139, false, [], am_noM)]]
def kX2_passes : List (List CE) := [[(.iload_n 3, 1, false, [], am_noM), (.iconst 1, 2, false, [], am_noM), (.iadd, 3, false, [], am_noM), (.istore 4, 5, false, [], am_noM), am_ce0, (.iload_n 3, 6, false, [], am_noM), (.ifCond .lt 10, 9, false, [16], am_noM), am_ce0, am_ce0, (.iload 4, 11, false, [], am_noM), am_ce0, (.bipush 13, 13, false, [], am_noM), am_ce0, (.if_icmp .lt 5, 16, false, [18], am_noM), am_ce0, am_ce0],
  [(.iconst 0, 17, false, [], am_noM), (.ireturn, 18, false, [1], am_noM), (.aload_n 0, 19, false, [], am_noM), (.iload_n 3, 20, false, [], am_noM), (.invokevirtual 116, 23, false, [2, 2, 0, 0, 5100, 5102, 42, 1011, 5103], mX2_load), am_ce0, am_ce0, (.aload_n 0, 24, false, [], am_noM), (.getfield 24, 27, false, [2, 4, 2141], am_noM), am_ce0, am_ce0, (.iload 4, 29, false, [], am_noM), am_ce0, (.aload_n 0, 30, false, [], am_noM), (.getfield 24, 33, false, [2, 4, 2141], am_noM), am_ce0],
  [am_ce0, (.iload_n 3, 34, false, [], am_noM), (.iaload, 35, false, [], am_noM), (.iastore, 36, false, [], am_noM), (.aload_n 0, 37, false, [], am_noM), (.getfield 27, 40, false, [2, 5, 2142], am_noM), am_ce0, am_ce0, (.iload 4, 42, false, [], am_noM), am_ce0, (.aload_n 0, 43, false, [], am_noM), (.getfield 27, 46, false, [2, 5, 2142], am_noM), am_ce0, am_ce0, (.iload_n 3, 47, false, [], am_noM), (.iaload, 48, false, [], am_noM)],
  [(.iastore, 49, false, [], am_noM), (.aload_n 0, 50, false, [], am_noM), (.getfield 36, 53, false, [2, 7, 2144], am_noM), am_ce0, am_ce0, (.getfield 83, 56, false, [0, 2, 2025], am_noM), am_ce0, am_ce0, (.aload_n 1, 57, false, [], am_noM), (.getfield 99, 60, false, [1, 0, 3032], am_noM), am_ce0, am_ce0, (.if_icmp .lt 33, 63, false, [93], am_noM), am_ce0, am_ce0, (.aload_n 0, 64, false, [], am_noM)],
  [(.getfield 36, 67, false, [2, 7, 2144], am_noM), am_ce0, am_ce0, (.dup, 68, false, [], am_noM), (.getfield 83, 71, false, [0, 2, 2025], am_noM), am_ce0, am_ce0, (.aload_n 1, 72, false, [], am_noM), (.getfield 99, 75, false, [1, 0, 3032], am_noM), am_ce0, am_ce0, (.isub, 76, false, [], am_noM), (.putfield 83, 79, false, [0, 2, 2025], am_noM), am_ce0, am_ce0, (.aload_n 0, 80, false, [], am_noM)],
  [(.iload 4, 82, false, [], am_noM), am_ce0, (.aload_n 0, 83, false, [], am_noM), (.getfield 11, 86, false, [2, 0, 2137], am_noM), am_ce0, am_ce0, (.iload_n 3, 87, false, [], am_noM), (.iaload, 88, false, [], am_noM), (.invokevirtual 77, 91, false, [3, 2, 0, 0, 5088, 5090, 40, 1011, 5091], mX2_store), am_ce0, am_ce0, (.iconst 1, 92, false, [], am_noM), (.ireturn, 93, false, [1], am_noM), (.aload_n 0, 94, false, [], am_noM), (.aload_n 1, 95, false, [], am_noM), (.aload_n 0, 96, false, [], am_noM)],
  [(.getfield 11, 99, false, [2, 0, 2137], am_noM), am_ce0, am_ce0, (.iload_n 3, 100, false, [], am_noM), (.iaload, 101, false, [], am_noM), (.sipush 2000, 104, false, [], am_noM), am_ce0, am_ce0, (.invokevirtual 120, 107, false, [4, 2, 0, 0, 5105, 5107, 43, 1011, 5108], mX2_rollToEnd), am_ce0, am_ce0, (.istore 5, 109, false, [], am_noM), am_ce0, (.iload 5, 111, false, [], am_noM), am_ce0, (.iconst (-1), 112, false, [], am_noM)],
  [(.if_icmp .ne 5, 115, false, [117], am_noM), am_ce0, am_ce0, (.iconst 0, 116, false, [], am_noM), (.ireturn, 117, false, [1], am_noM), (.aload_n 0, 118, false, [], am_noM), (.getfield 36, 121, false, [2, 7, 2144], am_noM), am_ce0, am_ce0, (.aload_n 1, 122, false, [], am_noM), (.aload_n 1, 123, false, [], am_noM), (.getfield 123, 126, false, [1, 3, 3040], am_noM), am_ce0, am_ce0, (.invokevirtual 126, 129, false, [3, 0, 0, 0, 5114, 3112, 3113, 1009, 3114], mX0_fallsOff), am_ce0],
  [am_ce0, (.ifCond .le 70, 132, false, [199], am_noM), am_ce0, am_ce0, (.aload_n 0, 133, false, [], am_noM), (.getfield 24, 136, false, [2, 4, 2141], am_noM), am_ce0, am_ce0, (.iload_n 3, 137, false, [], am_noM), (.iaload, 138, false, [], am_noM), (.aload_n 2, 139, false, [], am_noM), (.getfield 130, 142, false, [10, 3, 1045], am_noM), am_ce0, am_ce0, (.if_icmp .ge 7, 145, false, [149], am_noM), am_ce0],
  [am_ce0, (.iconst 1, 146, false, [], am_noM), (.goto 4, 149, false, [150], am_noM), am_ce0, am_ce0, (.iconst 0, 150, false, [], am_noM), (.istore 6, 152, false, [], am_noM), am_ce0, (.aload_n 0, 153, false, [], am_noM), (.getfield 27, 156, false, [2, 5, 2142], am_noM), am_ce0, am_ce0, (.iload 4, 158, false, [], am_noM), am_ce0, (.dup2, 159, false, [], am_noM), (.iaload, 160, false, [], am_noM)],
  [(.iload 6, 162, false, [], am_noM), am_ce0, (.ifCond .eq 22, 165, false, [184], am_noM), am_ce0, am_ce0, (.iload 5, 167, false, [], am_noM), am_ce0, (.aload_n 2, 168, false, [], am_noM), (.aload_n 0, 169, false, [], am_noM), (.getfield 24, 172, false, [2, 4, 2141], am_noM), am_ce0, am_ce0, (.iload_n 3, 173, false, [], am_noM), (.iaload, 174, false, [], am_noM), (.invokevirtual 135, 177, false, [2, 10, 0, 0, 5115, 5116, 5117, 1002, 5118], mX10_tickAt), am_ce0],
  [am_ce0, (.isub, 178, false, [], am_noM), (.invokestatic 139, 181, false, [3, 5119, 4181, 1015, 4182], am_noM), am_ce0, am_ce0, (.goto 5, 184, false, [186], am_noM), am_ce0, am_ce0, (.bipush 100, 186, false, [], am_noM), am_ce0, (.iadd, 187, false, [], am_noM), (.iastore, 188, false, [], am_noM), (.aload_n 0, 189, false, [], am_noM), (.getfield 24, 192, false, [2, 4, 2141], am_noM), am_ce0, am_ce0],
  [(.iload 4, 194, false, [], am_noM), am_ce0, (.dup2, 195, false, [], am_noM), (.iaload, 196, false, [], am_noM), (.iconst 1, 197, false, [], am_noM), (.iadd, 198, false, [], am_noM), (.iastore, 199, false, [], am_noM), (.aload_n 0, 200, false, [], am_noM), (.iload 4, 202, false, [], am_noM), am_ce0, (.iload 5, 204, false, [], am_noM), am_ce0, (.invokevirtual 77, 207, false, [3, 2, 0, 0, 5088, 5090, 40, 1011, 5091], mX2_store), am_ce0, am_ce0, (.iconst 1, 208, false, [], am_noM)],
  [(.ireturn, 209, false, [1], am_noM)]]
def kX2_leastPossible : List (List CE) := [[(.iload_n 2, 1, false, [], am_noM), (.ifCond .lt 9, 4, false, [10], am_noM), am_ce0, am_ce0, (.iload_n 2, 5, false, [], am_noM), (.bipush 13, 7, false, [], am_noM), am_ce0, (.if_icmp .lt 6, 10, false, [13], am_noM), am_ce0, am_ce0, (.ldc 56, 12, false, [0, 1000000, 2136], am_noM), am_ce0, (.ireturn, 13, false, [0], am_noM), (.aload_n 1, 14, false, [], am_noM), (.getfield 130, 17, false, [10, 3, 1045], am_noM), am_ce0],
  [am_ce0, (.aload_n 0, 18, false, [], am_noM), (.getfield 24, 21, false, [2, 4, 2141], am_noM), am_ce0, am_ce0, (.iload_n 2, 22, false, [], am_noM), (.iaload, 23, false, [], am_noM), (.isub, 24, false, [], am_noM), (.aload_n 0, 25, false, [], am_noM), (.getfield 50, 28, false, [2, 11, 2148], am_noM), am_ce0, am_ce0, (.iload_n 2, 29, false, [], am_noM), (.isub, 30, false, [], am_noM), (.isub, 31, false, [], am_noM), (.istore_n 3, 32, false, [], am_noM)],
  [(.aload_n 0, 33, false, [], am_noM), (.getfield 27, 36, false, [2, 5, 2142], am_noM), am_ce0, am_ce0, (.iload_n 2, 37, false, [], am_noM), (.iaload, 38, false, [], am_noM), (.bipush 100, 40, false, [], am_noM), am_ce0, (.iconst 0, 41, false, [], am_noM), (.iload_n 3, 42, false, [], am_noM), (.invokestatic 142, 45, false, [1, 5124, 3109, 1015, 3110], am_noM), am_ce0, am_ce0, (.imul, 46, false, [], am_noM), (.iadd, 47, false, [], am_noM), (.ireturn, 48, false, [0], am_noM)]]
def kX2_judge : List (List CE) := [[(.iload_n 3, 1, false, [], am_noM), (.ifCond .lt 9, 4, false, [10], am_noM), am_ce0, am_ce0, (.iload_n 3, 5, false, [], am_noM), (.bipush 13, 7, false, [], am_noM), am_ce0, (.if_icmp .lt 4, 10, false, [11], am_noM), am_ce0, am_ce0, (.return_, 11, false, [], am_noM), (.aload_n 0, 12, false, [], am_noM), (.getfield 27, 15, false, [2, 5, 2142], am_noM), am_ce0, am_ce0, (.iload_n 3, 16, false, [], am_noM)],
  [(.iaload, 17, false, [], am_noM), (.bipush 100, 19, false, [], am_noM), am_ce0, (.iconst 0, 20, false, [], am_noM), (.aload_n 1, 21, false, [], am_noM), (.getfield 130, 24, false, [10, 3, 1045], am_noM), am_ce0, am_ce0, (.aload_n 0, 25, false, [], am_noM), (.getfield 24, 28, false, [2, 4, 2141], am_noM), am_ce0, am_ce0, (.iload_n 3, 29, false, [], am_noM), (.iaload, 30, false, [], am_noM), (.isub, 31, false, [], am_noM), (.invokestatic 142, 34, false, [1, 5124, 3109, 1015, 3110], am_noM)],
  [am_ce0, am_ce0, (.imul, 35, false, [], am_noM), (.iadd, 36, false, [], am_noM), (.istore 4, 38, false, [], am_noM), am_ce0, (.iload 4, 40, false, [], am_noM), am_ce0, (.aload_n 0, 41, false, [], am_noM), (.getfield 57, 44, false, [2, 13, 2150], am_noM), am_ce0, am_ce0, (.if_icmp .ge 48, 47, false, [92], am_noM), am_ce0, am_ce0, (.aload_n 0, 48, false, [], am_noM)],
  [(.iload 4, 50, false, [], am_noM), am_ce0, (.putfield 57, 53, false, [2, 13, 2150], am_noM), am_ce0, am_ce0, (.iconst 0, 54, false, [], am_noM), (.istore 5, 56, false, [], am_noM), am_ce0, (.iload 5, 58, true, [], am_noM), am_ce0, (.iconst 4, 59, false, [], am_noM), (.if_icmp .ge 33, 62, false, [92], am_noM), am_ce0, am_ce0, (.aload_n 0, 63, false, [], am_noM), (.getfield 40, 66, false, [2, 8, 2145], am_noM)],
  [am_ce0, am_ce0, (.iload 5, 68, false, [], am_noM), am_ce0, (.iload 5, 70, false, [], am_noM), am_ce0, (.iload_n 2, 71, false, [], am_noM), (.if_icmp .gt 13, 74, false, [84], am_noM), am_ce0, am_ce0, (.aload_n 0, 75, false, [], am_noM), (.getfield 30, 78, false, [2, 6, 2143], am_noM), am_ce0, am_ce0, (.iload 5, 80, false, [], am_noM), am_ce0],
  [(.iaload, 81, false, [], am_noM), (.goto 4, 84, false, [85], am_noM), am_ce0, am_ce0, (.iconst 0, 85, false, [], am_noM), (.iastore, 86, false, [], am_noM), (.iinc 5 1, 89, false, [], am_noM), am_ce0, am_ce0, (.goto (-33), 92, false, [56], am_noM), am_ce0, am_ce0, (.return_, 93, false, [], am_noM)]]
def kX2_wearOn : List (List CE) := [[(.iload_n 3, 1, false, [], am_noM), (.ifCond .lt 9, 4, false, [10], am_noM), am_ce0, am_ce0, (.iload_n 3, 5, false, [], am_noM), (.bipush 13, 7, false, [], am_noM), am_ce0, (.if_icmp .lt 4, 10, false, [11], am_noM), am_ce0, am_ce0, (.return_, 11, false, [], am_noM), (.aload_n 0, 12, false, [], am_noM), (.getfield 24, 15, false, [2, 4, 2141], am_noM), am_ce0, am_ce0, (.iload_n 3, 16, false, [], am_noM)],
  [(.iaload, 17, false, [], am_noM), (.aload_n 2, 18, false, [], am_noM), (.getfield 130, 21, false, [10, 3, 1045], am_noM), am_ce0, am_ce0, (.if_icmp .lt 24, 24, false, [45], am_noM), am_ce0, am_ce0, (.aload_n 0, 25, false, [], am_noM), (.aload_n 0, 26, false, [], am_noM), (.getfield 27, 29, false, [2, 5, 2142], am_noM), am_ce0, am_ce0, (.iload_n 3, 30, false, [], am_noM), (.iaload, 31, false, [], am_noM), (.putfield 57, 34, false, [2, 13, 2150], am_noM)],
  [am_ce0, am_ce0, (.aload_n 0, 35, false, [], am_noM), (.aload_n 0, 36, false, [], am_noM), (.getfield 30, 39, false, [2, 6, 2143], am_noM), am_ce0, am_ce0, (.iload_n 3, 40, false, [], am_noM), (.iaload, 41, false, [], am_noM), (.putfield 47, 44, false, [2, 10, 2147], am_noM), am_ce0, am_ce0, (.return_, 45, false, [], am_noM), (.aload_n 1, 46, false, [], am_noM), (.aload_n 0, 47, false, [], am_noM), (.getfield 15, 50, false, [2, 1, 2138], am_noM)],
  [am_ce0, am_ce0, (.iload_n 3, 51, false, [], am_noM), (.iaload, 52, false, [], am_noM), (.invokevirtual 145, 55, false, [2, 7, 0, 0, 5148, 3100, 3101, 1012, 3102], mX7_boardAt), am_ce0, am_ce0, (.astore 4, 57, false, [], am_noM), am_ce0, (.aload 4, 59, false, [], am_noM), am_ce0, (.ifnull 11, 62, false, [70], am_noM), am_ce0, am_ce0, (.iload_n 3, 63, false, [], am_noM), (.iconst 1, 64, false, [], am_noM)],
  [(.iadd, 65, false, [], am_noM), (.bipush 13, 67, false, [], am_noM), am_ce0, (.if_icmp .lt 4, 70, false, [71], am_noM), am_ce0, am_ce0, (.return_, 71, false, [], am_noM), (.aload_n 0, 72, false, [], am_noM), (.iload_n 3, 73, false, [], am_noM), (.invokevirtual 116, 76, false, [2, 2, 0, 0, 5100, 5102, 42, 1011, 5103], mX2_load), am_ce0, am_ce0, (.sipush 2000, 79, false, [], am_noM), am_ce0, am_ce0, (.aload_n 2, 80, false, [], am_noM)],
  [(.aload_n 0, 81, false, [], am_noM), (.getfield 24, 84, false, [2, 4, 2141], am_noM), am_ce0, am_ce0, (.iload_n 3, 85, false, [], am_noM), (.iaload, 86, false, [], am_noM), (.invokevirtual 135, 89, false, [2, 10, 0, 0, 5115, 5116, 5117, 1002, 5118], mX10_tickAt), am_ce0, am_ce0, (.invokestatic 63, 92, false, [2, 5092, 3073, 1015, 3074], am_noM), am_ce0, am_ce0, (.istore 5, 94, false, [], am_noM), am_ce0, (.aload_n 0, 95, false, [], am_noM), (.aload 4, 97, false, [], am_noM)],
  [am_ce0, (.aload_n 0, 98, false, [], am_noM), (.getfield 11, 101, false, [2, 0, 2137], am_noM), am_ce0, am_ce0, (.iload_n 3, 102, false, [], am_noM), (.iaload, 103, false, [], am_noM), (.iload 5, 105, false, [], am_noM), am_ce0, (.invokevirtual 120, 108, false, [4, 2, 0, 0, 5105, 5107, 43, 1011, 5108], mX2_rollToEnd), am_ce0, am_ce0, (.istore 6, 110, false, [], am_noM), am_ce0, (.iload 6, 112, false, [], am_noM), am_ce0],
  [(.iconst (-1), 113, false, [], am_noM), (.if_icmp .ne 4, 116, false, [117], am_noM), am_ce0, am_ce0, (.return_, 117, false, [], am_noM), (.aload_n 0, 118, false, [], am_noM), (.iload_n 3, 119, false, [], am_noM), (.iload 6, 121, false, [], am_noM), am_ce0, (.invokevirtual 77, 124, false, [3, 2, 0, 0, 5088, 5090, 40, 1011, 5091], mX2_store), am_ce0, am_ce0, (.aload 4, 126, false, [], am_noM), am_ce0, (.getfield 123, 129, false, [1, 3, 3040], am_noM), am_ce0],
  [am_ce0, (.ifCond .le 37, 132, false, [166], am_noM), am_ce0, am_ce0, (.aload_n 0, 133, false, [], am_noM), (.getfield 27, 136, false, [2, 5, 2142], am_noM), am_ce0, am_ce0, (.iload_n 3, 137, false, [], am_noM), (.iaload, 138, false, [], am_noM), (.iconst 1, 139, false, [], am_noM), (.iadd, 140, false, [], am_noM), (.aload_n 0, 141, false, [], am_noM), (.getfield 57, 144, false, [2, 13, 2150], am_noM), am_ce0, am_ce0],
  [(.if_icmp .ge 22, 147, false, [166], am_noM), am_ce0, am_ce0, (.aload_n 0, 148, false, [], am_noM), (.aload_n 1, 149, false, [], am_noM), (.aload 4, 151, false, [], am_noM), am_ce0, (.aload_n 2, 152, false, [], am_noM), (.iload_n 3, 153, false, [], am_noM), (.iconst 1, 154, false, [], am_noM), (.invokevirtual 151, 157, false, [6, 2, 0, 0, 5149, 5151, 47, 1011, 5152], mX2_leave), am_ce0, am_ce0, (.aload_n 0, 158, false, [], am_noM), (.aload_n 1, 159, false, [], am_noM), (.aload_n 2, 160, false, [], am_noM)],
  [(.iload_n 3, 161, false, [], am_noM), (.iconst 1, 162, false, [], am_noM), (.iadd, 163, false, [], am_noM), (.invokestatic 73, 166, false, [0, 4, 0, 0, 5145, 5146, 1011, 5147], mX2_wearOn), am_ce0, am_ce0, (.aload_n 0, 167, false, [], am_noM), (.getfield 27, 170, false, [2, 5, 2142], am_noM), am_ce0, am_ce0, (.iload_n 3, 171, false, [], am_noM), (.iaload, 172, false, [], am_noM), (.aload_n 0, 173, false, [], am_noM), (.getfield 57, 176, false, [2, 13, 2150], am_noM), am_ce0, am_ce0],
  [(.if_icmp .ge 22, 179, false, [198], am_noM), am_ce0, am_ce0, (.aload_n 0, 180, false, [], am_noM), (.aload_n 1, 181, false, [], am_noM), (.aload 4, 183, false, [], am_noM), am_ce0, (.aload_n 2, 184, false, [], am_noM), (.iload_n 3, 185, false, [], am_noM), (.iconst 0, 186, false, [], am_noM), (.invokevirtual 151, 189, false, [6, 2, 0, 0, 5149, 5151, 47, 1011, 5152], mX2_leave), am_ce0, am_ce0, (.aload_n 0, 190, false, [], am_noM), (.aload_n 1, 191, false, [], am_noM), (.aload_n 2, 192, false, [], am_noM)],
  [(.iload_n 3, 193, false, [], am_noM), (.iconst 1, 194, false, [], am_noM), (.iadd, 195, false, [], am_noM), (.invokestatic 73, 198, false, [0, 4, 0, 0, 5145, 5146, 1011, 5147], mX2_wearOn), am_ce0, am_ce0, (.return_, 199, false, [], am_noM)]]
def kX2_leave : List (List CE) := [[(.iload 4, 2, false, [], am_noM), am_ce0, (.iconst 1, 3, false, [], am_noM), (.iadd, 4, false, [], am_noM), (.istore 6, 6, false, [], am_noM), am_ce0, (.iload 4, 8, false, [], am_noM), am_ce0, (.ifCond .lt 10, 11, false, [18], am_noM), am_ce0, am_ce0, (.iload 6, 13, false, [], am_noM), am_ce0, (.bipush 13, 15, false, [], am_noM), am_ce0, (.if_icmp .lt 4, 18, false, [19], am_noM)],
  [am_ce0, am_ce0, (.return_, 19, false, [], am_noM), (.aload_n 0, 20, false, [], am_noM), (.iload 4, 22, false, [], am_noM), am_ce0, (.invokevirtual 116, 25, false, [2, 2, 0, 0, 5100, 5102, 42, 1011, 5103], mX2_load), am_ce0, am_ce0, (.aload_n 0, 26, false, [], am_noM), (.getfield 24, 29, false, [2, 4, 2141], am_noM), am_ce0, am_ce0, (.iload 6, 31, false, [], am_noM), am_ce0, (.aload_n 0, 32, false, [], am_noM)],
  [(.getfield 24, 35, false, [2, 4, 2141], am_noM), am_ce0, am_ce0, (.iload 4, 37, false, [], am_noM), am_ce0, (.iaload, 38, false, [], am_noM), (.iastore, 39, false, [], am_noM), (.aload_n 0, 40, false, [], am_noM), (.getfield 27, 43, false, [2, 5, 2142], am_noM), am_ce0, am_ce0, (.iload 6, 45, false, [], am_noM), am_ce0, (.aload_n 0, 46, false, [], am_noM), (.getfield 27, 49, false, [2, 5, 2142], am_noM), am_ce0],
  [am_ce0, (.iload 4, 51, false, [], am_noM), am_ce0, (.iaload, 52, false, [], am_noM), (.iload 5, 54, false, [], am_noM), am_ce0, (.iadd, 55, false, [], am_noM), (.iastore, 56, false, [], am_noM), (.aload_n 0, 57, false, [], am_noM), (.getfield 30, 60, false, [2, 6, 2143], am_noM), am_ce0, am_ce0, (.iload 6, 62, false, [], am_noM), am_ce0, (.aload_n 0, 63, false, [], am_noM), (.getfield 30, 66, false, [2, 6, 2143], am_noM)],
  [am_ce0, am_ce0, (.iload 4, 68, false, [], am_noM), am_ce0, (.iaload, 69, false, [], am_noM), (.iload 5, 71, false, [], am_noM), am_ce0, (.aload_n 0, 72, false, [], am_noM), (.getfield 15, 75, false, [2, 1, 2138], am_noM), am_ce0, am_ce0, (.iload 4, 77, false, [], am_noM), am_ce0, (.iaload, 78, false, [], am_noM), (.ishl, 79, false, [], am_noM), (.ior, 80, false, [], am_noM)],
  [(.iastore, 81, false, [], am_noM), (.aload_n 0, 82, false, [], am_noM), (.getfield 36, 85, false, [2, 7, 2144], am_noM), am_ce0, am_ce0, (.aload_n 2, 86, false, [], am_noM), (.aload_n 2, 87, false, [], am_noM), (.getfield 123, 90, false, [1, 3, 3040], am_noM), am_ce0, am_ce0, (.iload 5, 92, false, [], am_noM), am_ce0, (.isub, 93, false, [], am_noM), (.invokevirtual 126, 96, false, [3, 0, 0, 0, 5114, 3112, 3113, 1009, 3114], mX0_fallsOff), am_ce0, am_ce0],
  [(.ifCond .le 7, 99, false, [103], am_noM), am_ce0, am_ce0, (.iconst 1, 100, false, [], am_noM), (.goto 4, 103, false, [104], am_noM), am_ce0, am_ce0, (.iconst 0, 104, false, [], am_noM), (.istore 7, 106, false, [], am_noM), am_ce0, (.iload 7, 108, false, [], am_noM), am_ce0, (.ifCond .eq 35, 111, false, [143], am_noM), am_ce0, am_ce0, (.aload_n 0, 112, false, [], am_noM)],
  [(.getfield 11, 115, false, [2, 0, 2137], am_noM), am_ce0, am_ce0, (.iload 4, 117, false, [], am_noM), am_ce0, (.iaload, 118, false, [], am_noM), (.aload_n 3, 119, false, [], am_noM), (.aload_n 0, 120, false, [], am_noM), (.getfield 24, 123, false, [2, 4, 2141], am_noM), am_ce0, am_ce0, (.iload 4, 125, false, [], am_noM), am_ce0, (.iaload, 126, false, [], am_noM), (.invokevirtual 135, 129, false, [2, 10, 0, 0, 5115, 5116, 5117, 1002, 5118], mX10_tickAt), am_ce0],
  [am_ce0, (.if_icmp .ne 14, 132, false, [143], am_noM), am_ce0, am_ce0, (.aload_n 0, 133, false, [], am_noM), (.getfield 24, 136, false, [2, 4, 2141], am_noM), am_ce0, am_ce0, (.iload 6, 138, false, [], am_noM), am_ce0, (.dup2, 139, false, [], am_noM), (.iaload, 140, false, [], am_noM), (.iconst 1, 141, false, [], am_noM), (.iadd, 142, false, [], am_noM), (.iastore, 143, false, [], am_noM), (.aload_n 1, 144, false, [], am_noM)],
  [(.aload_n 0, 145, false, [], am_noM), (.getfield 36, 148, false, [2, 7, 2144], am_noM), am_ce0, am_ce0, (.iconst 0, 149, false, [], am_noM), (.invokevirtual 155, 152, false, [3, 7, 0, 0, 5153, 3120, 3121, 1012, 3122], mX7_carryOn), am_ce0, am_ce0, (.pop, 153, false, [], am_noM), (.aload_n 0, 154, false, [], am_noM), (.iload 6, 156, false, [], am_noM), am_ce0, (.aload_n 0, 157, false, [], am_noM), (.getfield 11, 160, false, [2, 0, 2137], am_noM), am_ce0, am_ce0],
  [(.iload 4, 162, false, [], am_noM), am_ce0, (.iaload, 163, false, [], am_noM), (.invokevirtual 77, 166, false, [3, 2, 0, 0, 5088, 5090, 40, 1011, 5091], mX2_store), am_ce0, am_ce0, (.return_, 167, false, [], am_noM)]]
def kX3_init : List (List CE) := [[(.aload_n 0, 1, false, [], am_noM), (.invokespecial 3, 4, false, [1, 1108, 1030, 1031], am_noM), am_ce0, am_ce0, (.aload_n 0, 5, false, [], am_noM), (.iconst 4, 6, false, [], am_noM), (.newarray .int, 8, false, [21, 4, 1074], am_noM), am_ce0, (.putfield 9, 11, false, [3, 0, 1118], am_noM), am_ce0, am_ce0, (.aload_n 0, 12, false, [], am_noM), (.iconst 0, 13, false, [], am_noM), (.putfield 15, 16, false, [3, 1, 1119], am_noM), am_ce0, am_ce0],
  [(.aload_n 0, 17, false, [], am_noM), (.bipush 24, 19, false, [], am_noM), am_ce0, (.newarray .int, 21, false, [22, 24, 1074], am_noM), am_ce0, (.putfield 19, 24, false, [3, 2, 1121], am_noM), am_ce0, am_ce0, (.aload_n 0, 25, false, [], am_noM), (.bipush 28, 27, false, [], am_noM), am_ce0, (.bipush 28, 29, false, [], am_noM), am_ce0, (.multianewarray 22 2, 33, false, [], am_noM), am_ce0, am_ce0],
  [am_ce0, (.putfield 24, 36, false, [3, 3, 1122], am_noM), am_ce0, am_ce0, (.aload_n 0, 37, false, [], am_noM), (.bipush 28, 39, false, [], am_noM), am_ce0, (.newarray .int, 41, false, [24, 28, 1074], am_noM), am_ce0, (.putfield 27, 44, false, [3, 4, 1123], am_noM), am_ce0, am_ce0, (.aload_n 0, 45, false, [], am_noM), (.bipush 28, 47, false, [], am_noM), am_ce0, (.newarray .int, 49, false, [25, 28, 1074], am_noM)],
  [am_ce0, (.putfield 30, 52, false, [3, 5, 1124], am_noM), am_ce0, am_ce0, (.aload_n 0, 53, false, [], am_noM), (.bipush 28, 55, false, [], am_noM), am_ce0, (.newarray .int, 57, false, [26, 28, 1074], am_noM), am_ce0, (.putfield 33, 60, false, [3, 6, 1125], am_noM), am_ce0, am_ce0, (.aload_n 0, 61, false, [], am_noM), (.bipush 28, 63, false, [], am_noM), am_ce0, (.newarray .int, 65, false, [27, 28, 1074], am_noM)],
  [am_ce0, (.putfield 36, 68, false, [3, 7, 1126], am_noM), am_ce0, am_ce0, (.aload_n 0, 69, false, [], am_noM), (.bipush 28, 71, false, [], am_noM), am_ce0, (.newarray .int, 73, false, [28, 28, 1074], am_noM), am_ce0, (.putfield 39, 76, false, [3, 8, 1127], am_noM), am_ce0, am_ce0, (.aload_n 0, 77, false, [], am_noM), (.bipush 28, 79, false, [], am_noM), am_ce0, (.newarray .int, 81, false, [29, 28, 1074], am_noM)],
  [am_ce0, (.putfield 42, 84, false, [3, 9, 1128], am_noM), am_ce0, am_ce0, (.aload_n 0, 85, false, [], am_noM), (.bipush 28, 87, false, [], am_noM), am_ce0, (.newarray .int, 89, false, [30, 28, 1074], am_noM), am_ce0, (.putfield 45, 92, false, [3, 10, 1129], am_noM), am_ce0, am_ce0, (.aload_n 0, 93, false, [], am_noM), (.bipush 28, 95, false, [], am_noM), am_ce0, (.newarray .int, 97, false, [31, 28, 1074], am_noM)],
  [am_ce0, (.putfield 48, 100, false, [3, 11, 1130], am_noM), am_ce0, am_ce0, (.aload_n 0, 101, false, [], am_noM), (.bipush 28, 103, false, [], am_noM), am_ce0, (.newarray .int, 105, false, [32, 28, 1074], am_noM), am_ce0, (.putfield 51, 108, false, [3, 12, 1131], am_noM), am_ce0, am_ce0, (.aload_n 0, 109, false, [], am_noM), (.iconst 4, 110, false, [], am_noM), (.newarray .int, 112, false, [33, 4, 1074], am_noM), am_ce0],
  [(.putfield 54, 115, false, [3, 13, 1132], am_noM), am_ce0, am_ce0, (.aload_n 0, 116, false, [], am_noM), (.iconst 0, 117, false, [], am_noM), (.putfield 57, 120, false, [3, 14, 1133], am_noM), am_ce0, am_ce0, (.aload_n 0, 121, false, [], am_noM), (.iconst 0, 122, false, [], am_noM), (.putfield 60, 125, false, [3, 15, 1134], am_noM), am_ce0, am_ce0, (.aload_n 0, 126, false, [], am_noM), (.invokevirtual 63, 129, false, [1, 3, 0, 0, 1111, 1112, 1113, 1004, 1114], mX3_forget), am_ce0],
  [am_ce0, (.return_, 130, false, [], am_noM)]]
def kX3_forget : List (List CE) := [[(.aload_n 0, 1, false, [], am_noM), (.getfield 19, 4, false, [3, 2, 1121], am_noM), am_ce0, am_ce0, (.iconst (-1), 5, false, [], am_noM), (.invokestatic 66, 8, false, [0, 2, 0, 0, 1115, 1116, 1005, 1117], m_fill), am_ce0, am_ce0, (.return_, 9, false, [], am_noM)]]
def kX3_add : List (List CE) := [[(.aload_n 0, 1, false, [], am_noM), (.getfield 15, 4, false, [3, 1, 1119], am_noM), am_ce0, am_ce0, (.ifCond .lt 11, 7, false, [15], am_noM), am_ce0, am_ce0, (.aload_n 0, 8, false, [], am_noM), (.getfield 15, 11, false, [3, 1, 1119], am_noM), am_ce0, am_ce0, (.iconst 4, 12, false, [], am_noM), (.if_icmp .lt 5, 15, false, [17], am_noM), am_ce0, am_ce0, (.iconst (-1), 16, false, [], am_noM)],
  [(.ireturn, 17, false, [0], am_noM), (.aload_n 0, 18, false, [], am_noM), (.getfield 9, 21, false, [3, 0, 1118], am_noM), am_ce0, am_ce0, (.aload_n 0, 22, false, [], am_noM), (.getfield 15, 25, false, [3, 1, 1119], am_noM), am_ce0, am_ce0, (.iload_n 1, 26, false, [], am_noM), (.iastore, 27, false, [], am_noM), (.aload_n 0, 28, false, [], am_noM), (.dup, 29, false, [], am_noM), (.getfield 15, 32, false, [3, 1, 1119], am_noM), am_ce0, am_ce0],
  [(.iconst 1, 33, false, [], am_noM), (.iadd, 34, false, [], am_noM), (.putfield 15, 37, false, [3, 1, 1119], am_noM), am_ce0, am_ce0, (.aload_n 0, 38, false, [], am_noM), (.getfield 15, 41, false, [3, 1, 1119], am_noM), am_ce0, am_ce0, (.iconst 1, 42, false, [], am_noM), (.isub, 43, false, [], am_noM), (.ireturn, 44, false, [0], am_noM)]]
def kX3_doerOf : List (List CE) := [[(.iload_n 1, 1, false, [], am_noM), (.ifCond .lt 18, 4, false, [19], am_noM), am_ce0, am_ce0, (.iload_n 1, 5, false, [], am_noM), (.bipush 24, 7, false, [], am_noM), am_ce0, (.if_icmp .ge 12, 10, false, [19], am_noM), am_ce0, am_ce0, (.aload_n 0, 11, false, [], am_noM), (.getfield 19, 14, false, [3, 2, 1121], am_noM), am_ce0, am_ce0, (.iload_n 1, 15, false, [], am_noM), (.iaload, 16, false, [], am_noM)],
  [(.goto 4, 19, false, [20], am_noM), am_ce0, am_ce0, (.iconst (-1), 20, false, [], am_noM), (.ireturn, 21, false, [0], am_noM)]]
def kX3_makeMost : List (List CE) := [[(.aload_n 0, 1, false, [], am_noM), (.aload_n 1, 2, false, [], am_noM), (.getfield 72, 5, false, [8, 3, 1185], am_noM), am_ce0, am_ce0, (.bipush 24, 7, false, [], am_noM), am_ce0, (.invokestatic 75, 10, false, [2, 4216, 3073, 1015, 3074], am_noM), am_ce0, am_ce0, (.putfield 57, 13, false, [3, 14, 1133], am_noM), am_ce0, am_ce0, (.aload_n 0, 14, false, [], am_noM), (.aload_n 0, 15, false, [], am_noM), (.getfield 15, 18, false, [3, 1, 1119], am_noM)],
  [am_ce0, am_ce0, (.aload_n 0, 19, false, [], am_noM), (.getfield 57, 22, false, [3, 14, 1133], am_noM), am_ce0, am_ce0, (.iadd, 23, false, [], am_noM), (.bipush 28, 25, false, [], am_noM), am_ce0, (.invokestatic 75, 28, false, [2, 4216, 3073, 1015, 3074], am_noM), am_ce0, am_ce0, (.putfield 60, 31, false, [3, 15, 1134], am_noM), am_ce0, am_ce0, (.iconst 0, 32, false, [], am_noM)],
  [(.istore_n 3, 33, false, [], am_noM), (.iload_n 3, 34, true, [], am_noM), (.aload_n 0, 35, false, [], am_noM), (.getfield 60, 38, false, [3, 15, 1134], am_noM), am_ce0, am_ce0, (.if_icmp .ge 45, 41, false, [83], am_noM), am_ce0, am_ce0, (.iconst 0, 42, false, [], am_noM), (.istore 4, 44, false, [], am_noM), am_ce0, (.iload 4, 46, true, [], am_noM), am_ce0, (.aload_n 0, 47, false, [], am_noM), (.getfield 60, 50, false, [3, 15, 1134], am_noM)],
  [am_ce0, am_ce0, (.if_icmp .ge 27, 53, false, [77], am_noM), am_ce0, am_ce0, (.aload_n 0, 54, false, [], am_noM), (.getfield 24, 57, false, [3, 3, 1122], am_noM), am_ce0, am_ce0, (.iload_n 3, 58, false, [], am_noM), (.aaload, 59, false, [], am_noM), (.iload 4, 61, false, [], am_noM), am_ce0, (.aload_n 0, 62, false, [], am_noM), (.iload_n 3, 63, false, [], am_noM), (.iload 4, 65, false, [], am_noM)],
  [am_ce0, (.aload_n 1, 66, false, [], am_noM), (.aload_n 2, 67, false, [], am_noM), (.invokevirtual 81, 70, false, [5, 3, 0, 0, 4217, 4219, 27, 1004, 4220], mX3_costOf), am_ce0, am_ce0, (.iastore, 71, false, [], am_noM), (.iinc 4 1, 74, false, [], am_noM), am_ce0, am_ce0, (.goto (-30), 77, false, [44], am_noM), am_ce0, am_ce0, (.iinc 3 1, 80, false, [], am_noM), am_ce0, am_ce0],
  [(.goto (-47), 83, false, [33], am_noM), am_ce0, am_ce0, (.aload_n 0, 84, false, [], am_noM), (.invokevirtual 85, 87, false, [1, 3, 0, 0, 4235, 4237, 28, 1004, 4238], mX3_assignAll), am_ce0, am_ce0, (.aload_n 0, 88, false, [], am_noM), (.invokevirtual 88, 91, false, [1, 3, 0, 0, 5020, 5022, 34, 1004, 5023], mX3_chooseFirst), am_ce0, am_ce0, (.iconst 0, 92, false, [], am_noM), (.istore_n 3, 93, false, [], am_noM), (.iconst 0, 94, false, [], am_noM), (.istore 4, 96, false, [], am_noM), am_ce0],
  [(.iload 4, 98, true, [], am_noM), am_ce0, (.aload_n 0, 99, false, [], am_noM), (.getfield 57, 102, false, [3, 14, 1133], am_noM), am_ce0, am_ce0, (.if_icmp .ge 39, 105, false, [141], am_noM), am_ce0, am_ce0, (.aload_n 0, 106, false, [], am_noM), (.getfield 19, 109, false, [3, 2, 1121], am_noM), am_ce0, am_ce0, (.iload 4, 111, false, [], am_noM), am_ce0, (.iaload, 112, false, [], am_noM)],
  [(.iconst (-1), 113, false, [], am_noM), (.if_icmp .eq 22, 116, false, [135], am_noM), am_ce0, am_ce0, (.iload_n 3, 117, false, [], am_noM), (.aload_n 2, 118, false, [], am_noM), (.aload_n 1, 119, false, [], am_noM), (.iload 4, 121, false, [], am_noM), am_ce0, (.invokevirtual 91, 124, false, [2, 8, 0, 0, 4221, 4092, 4093, 1007, 4094], mX8_machineOf), am_ce0, am_ce0, (.aload_n 1, 125, false, [], am_noM), (.iload 4, 127, false, [], am_noM), am_ce0, (.invokevirtual 95, 130, false, [2, 8, 0, 0, 4229, 4096, 4097, 1007, 4098], mX8_numberOf)],
  [am_ce0, am_ce0, (.invokevirtual 98, 133, false, [3, 5, 0, 0, 4234, 4196, 4197, 1003, 4198], mX5_strength), am_ce0, am_ce0, (.iadd, 134, false, [], am_noM), (.istore_n 3, 135, false, [], am_noM), (.iinc 4 1, 138, false, [], am_noM), am_ce0, am_ce0, (.goto (-42), 141, false, [96], am_noM), am_ce0, am_ce0, (.iload_n 3, 142, false, [], am_noM), (.ireturn, 143, false, [0], am_noM)]]
def kX3_costOf : List (List CE) := [[(.iload_n 1, 1, false, [], am_noM), (.aload_n 0, 2, false, [], am_noM), (.getfield 15, 5, false, [3, 1, 1119], am_noM), am_ce0, am_ce0, (.isub, 6, false, [], am_noM), (.istore 5, 8, false, [], am_noM), am_ce0, (.iload_n 2, 9, false, [], am_noM), (.aload_n 0, 10, false, [], am_noM), (.getfield 57, 13, false, [3, 14, 1133], am_noM), am_ce0, am_ce0, (.if_icmp .ge 9, 16, false, [22], am_noM), am_ce0, am_ce0],
  [(.iload_n 2, 17, false, [], am_noM), (.iload 5, 19, false, [], am_noM), am_ce0, (.if_icmp .ne 5, 22, false, [24], am_noM), am_ce0, am_ce0, (.iconst 0, 23, false, [], am_noM), (.ireturn, 24, false, [0], am_noM), (.aload_n 3, 25, false, [], am_noM), (.iload_n 2, 26, false, [], am_noM), (.invokevirtual 91, 29, false, [2, 8, 0, 0, 4221, 4092, 4093, 1007, 4094], mX8_machineOf), am_ce0, am_ce0, (.istore 6, 31, false, [], am_noM), am_ce0, (.aload 4, 33, false, [], am_noM)],
  [am_ce0, (.iload 6, 35, false, [], am_noM), am_ce0, (.invokevirtual 103, 38, false, [2, 5, 0, 0, 4222, 4223, 4224, 1003, 4225], mX5_placeOf), am_ce0, am_ce0, (.istore 7, 40, false, [], am_noM), am_ce0, (.iload_n 1, 41, false, [], am_noM), (.aload_n 0, 42, false, [], am_noM), (.getfield 15, 45, false, [3, 1, 1119], am_noM), am_ce0, am_ce0, (.if_icmp .ge 30, 48, false, [75], am_noM), am_ce0, am_ce0],
  [(.iload_n 1, 49, false, [], am_noM), (.iconst 4, 50, false, [], am_noM), (.if_icmp .ge 18, 53, false, [68], am_noM), am_ce0, am_ce0, (.aload_n 0, 54, false, [], am_noM), (.getfield 9, 57, false, [3, 0, 1118], am_noM), am_ce0, am_ce0, (.iload_n 1, 58, false, [], am_noM), (.iaload, 59, false, [], am_noM), (.iload 7, 61, false, [], am_noM), am_ce0, (.isub, 62, false, [], am_noM), (.invokestatic 106, 65, false, [3, 4226, 4181, 1015, 4182], am_noM), am_ce0],
  [am_ce0, (.goto 5, 68, false, [70], am_noM), am_ce0, am_ce0, (.ldc 109, 70, false, [0, 1000000, 4227], am_noM), am_ce0, (.istore 8, 72, false, [], am_noM), am_ce0, (.goto 47, 75, false, [119], am_noM), am_ce0, am_ce0, (.aload_n 3, 76, false, [], am_noM), (.iload 5, 78, false, [], am_noM), am_ce0, (.invokevirtual 91, 81, false, [2, 8, 0, 0, 4221, 4092, 4093, 1007, 4094], mX8_machineOf), am_ce0],
  [am_ce0, (.istore 9, 83, false, [], am_noM), am_ce0, (.aload_n 3, 84, false, [], am_noM), (.iload 5, 86, false, [], am_noM), am_ce0, (.invokevirtual 110, 89, false, [2, 8, 0, 0, 4228, 4084, 4085, 1007, 4086], mX8_tickOf), am_ce0, am_ce0, (.aload 4, 91, false, [], am_noM), am_ce0, (.iload 9, 93, false, [], am_noM), am_ce0, (.aload_n 3, 94, false, [], am_noM), (.iload 5, 96, false, [], am_noM), am_ce0],
  [(.invokevirtual 95, 99, false, [2, 8, 0, 0, 4229, 4096, 4097, 1007, 4098], mX8_numberOf), am_ce0, am_ce0, (.invokevirtual 113, 102, false, [3, 5, 0, 0, 4230, 4231, 4232, 1003, 4233], mX5_takes), am_ce0, am_ce0, (.iadd, 103, false, [], am_noM), (.aload 4, 105, false, [], am_noM), am_ce0, (.iload 9, 107, false, [], am_noM), am_ce0, (.invokevirtual 103, 110, false, [2, 5, 0, 0, 4222, 4223, 4224, 1003, 4225], mX5_placeOf), am_ce0, am_ce0, (.iload 7, 112, false, [], am_noM), am_ce0],
  [(.isub, 113, false, [], am_noM), (.invokestatic 106, 116, false, [3, 4226, 4181, 1015, 4182], am_noM), am_ce0, am_ce0, (.iadd, 117, false, [], am_noM), (.istore 8, 119, false, [], am_noM), am_ce0, (.iload 8, 121, false, [], am_noM), am_ce0, (.aload_n 3, 122, false, [], am_noM), (.iload_n 2, 123, false, [], am_noM), (.invokevirtual 110, 126, false, [2, 8, 0, 0, 4228, 4084, 4085, 1007, 4086], mX8_tickOf), am_ce0, am_ce0, (.if_icmp .gt 19, 129, false, [145], am_noM), am_ce0],
  [am_ce0, (.aload 4, 131, false, [], am_noM), am_ce0, (.iload 6, 133, false, [], am_noM), am_ce0, (.aload_n 3, 134, false, [], am_noM), (.iload_n 2, 135, false, [], am_noM), (.invokevirtual 95, 138, false, [2, 8, 0, 0, 4229, 4096, 4097, 1007, 4098], mX8_numberOf), am_ce0, am_ce0, (.invokevirtual 98, 141, false, [3, 5, 0, 0, 4234, 4196, 4197, 1003, 4198], mX5_strength), am_ce0, am_ce0, (.ineg, 142, false, [], am_noM), (.goto 5, 145, false, [147], am_noM), am_ce0],
  [am_ce0, (.ldc 109, 147, false, [0, 1000000, 4227], am_noM), am_ce0, (.ireturn, 148, false, [0], am_noM)]]
def kX3_assignAll : List (List CE) := [[(.aload_n 0, 1, false, [], am_noM), (.getfield 27, 4, false, [3, 4, 1123], am_noM), am_ce0, am_ce0, (.iconst 0, 5, false, [], am_noM), (.invokestatic 66, 8, false, [0, 2, 0, 0, 1115, 1116, 1005, 1117], m_fill), am_ce0, am_ce0, (.aload_n 0, 9, false, [], am_noM), (.getfield 30, 12, false, [3, 5, 1124], am_noM), am_ce0, am_ce0, (.iconst 0, 13, false, [], am_noM), (.invokestatic 66, 16, false, [0, 2, 0, 0, 1115, 1116, 1005, 1117], m_fill), am_ce0, am_ce0],
  [(.aload_n 0, 17, false, [], am_noM), (.getfield 33, 20, false, [3, 6, 1125], am_noM), am_ce0, am_ce0, (.iconst (-1), 21, false, [], am_noM), (.invokestatic 66, 24, false, [0, 2, 0, 0, 1115, 1116, 1005, 1117], m_fill), am_ce0, am_ce0, (.aload_n 0, 25, false, [], am_noM), (.getfield 36, 28, false, [3, 7, 1126], am_noM), am_ce0, am_ce0, (.iconst (-1), 29, false, [], am_noM), (.invokestatic 66, 32, false, [0, 2, 0, 0, 1115, 1116, 1005, 1117], m_fill), am_ce0, am_ce0],
  [(.iconst 0, 33, false, [], am_noM), (.istore_n 1, 34, false, [], am_noM), (.iload_n 1, 35, true, [], am_noM), (.aload_n 0, 36, false, [], am_noM), (.getfield 60, 39, false, [3, 15, 1134], am_noM), am_ce0, am_ce0, (.if_icmp .ge 14, 42, false, [53], am_noM), am_ce0, am_ce0, (.aload_n 0, 43, false, [], am_noM), (.iload_n 1, 44, false, [], am_noM), (.invokevirtual 116, 47, false, [2, 3, 0, 0, 4239, 5001, 29, 1004, 5002], mX3_assignRow), am_ce0, am_ce0, (.iinc 1 1, 50, false, [], am_noM)],
  [am_ce0, am_ce0, (.goto (-16), 53, false, [34], am_noM), am_ce0, am_ce0, (.return_, 54, false, [], am_noM)]]
def kX3_assignRow : List (List CE) := [[(.aload_n 0, 1, false, [], am_noM), (.getfield 39, 4, false, [3, 8, 1127], am_noM), am_ce0, am_ce0, (.ldc 120, 6, false, [0, 100000000, 5003], am_noM), am_ce0, (.invokestatic 66, 9, false, [0, 2, 0, 0, 1115, 1116, 1005, 1117], m_fill), am_ce0, am_ce0, (.aload_n 0, 10, false, [], am_noM), (.getfield 45, 13, false, [3, 10, 1129], am_noM), am_ce0, am_ce0, (.iconst 0, 14, false, [], am_noM), (.invokestatic 66, 17, false, [0, 2, 0, 0, 1115, 1116, 1005, 1117], m_fill), am_ce0],
  [am_ce0, (.iload_n 1, 18, false, [], am_noM), (.istore_n 2, 19, false, [], am_noM), (.iconst (-1), 20, false, [], am_noM), (.istore_n 3, 21, false, [], am_noM), (.iconst 0, 22, false, [], am_noM), (.istore 4, 24, false, [], am_noM), am_ce0, (.iload 4, 26, true, [], am_noM), am_ce0, (.aload_n 0, 27, false, [], am_noM), (.getfield 60, 30, false, [3, 15, 1134], am_noM), am_ce0, am_ce0, (.if_icmp .gt 68, 33, false, [98], am_noM), am_ce0],
  [am_ce0, (.iload_n 2, 34, false, [], am_noM), (.ifCond .lt 64, 37, false, [98], am_noM), am_ce0, am_ce0, (.iload_n 2, 38, false, [], am_noM), (.aload_n 0, 39, false, [], am_noM), (.getfield 60, 42, false, [3, 15, 1134], am_noM), am_ce0, am_ce0, (.if_icmp .ge 56, 45, false, [98], am_noM), am_ce0, am_ce0, (.aload_n 0, 46, false, [], am_noM), (.iload_n 2, 47, false, [], am_noM), (.iload_n 3, 48, false, [], am_noM)],
  [(.invokevirtual 121, 51, false, [3, 3, 0, 0, 5004, 5006, 30, 1004, 5007], mX3_relax), am_ce0, am_ce0, (.aload_n 0, 52, false, [], am_noM), (.invokevirtual 125, 55, false, [1, 3, 0, 0, 5008, 5010, 31, 1004, 5011], mX3_nearest), am_ce0, am_ce0, (.istore_n 3, 56, false, [], am_noM), (.iload_n 3, 57, false, [], am_noM), (.ifCond .lt 9, 60, false, [66], am_noM), am_ce0, am_ce0, (.iload_n 3, 61, false, [], am_noM), (.bipush 28, 63, false, [], am_noM), am_ce0, (.if_icmp .lt 4, 66, false, [67], am_noM)],
  [am_ce0, am_ce0, (.return_, 67, false, [], am_noM), (.aload_n 0, 68, false, [], am_noM), (.iload_n 1, 69, false, [], am_noM), (.aload_n 0, 70, false, [], am_noM), (.getfield 39, 73, false, [3, 8, 1127], am_noM), am_ce0, am_ce0, (.iload_n 3, 74, false, [], am_noM), (.iaload, 75, false, [], am_noM), (.invokevirtual 129, 78, false, [3, 3, 0, 0, 5012, 5014, 32, 1004, 5015], mX3_lower), am_ce0, am_ce0, (.aload_n 0, 79, false, [], am_noM), (.getfield 45, 82, false, [3, 10, 1129], am_noM)],
  [am_ce0, am_ce0, (.iload_n 3, 83, false, [], am_noM), (.iconst 1, 84, false, [], am_noM), (.iastore, 85, false, [], am_noM), (.aload_n 0, 86, false, [], am_noM), (.getfield 36, 89, false, [3, 7, 1126], am_noM), am_ce0, am_ce0, (.iload_n 3, 90, false, [], am_noM), (.iaload, 91, false, [], am_noM), (.istore_n 2, 92, false, [], am_noM), (.iinc 4 1, 95, false, [], am_noM), am_ce0, am_ce0, (.goto (-71), 98, false, [24], am_noM)],
  [am_ce0, am_ce0, (.aload_n 0, 99, false, [], am_noM), (.iload_n 1, 100, false, [], am_noM), (.iload_n 3, 101, false, [], am_noM), (.invokevirtual 132, 104, false, [3, 3, 0, 0, 5016, 5018, 33, 1004, 5019], mX3_flip), am_ce0, am_ce0, (.return_, 105, false, [], am_noM)]]
def kX3_relax : List (List CE) := [[(.iconst 0, 1, false, [], am_noM), (.istore_n 3, 2, false, [], am_noM), (.iload_n 3, 3, true, [], am_noM), (.aload_n 0, 4, false, [], am_noM), (.getfield 60, 7, false, [3, 15, 1134], am_noM), am_ce0, am_ce0, (.if_icmp .ge 68, 10, false, [75], am_noM), am_ce0, am_ce0, (.aload_n 0, 11, false, [], am_noM), (.getfield 24, 14, false, [3, 3, 1122], am_noM), am_ce0, am_ce0, (.iload_n 1, 15, false, [], am_noM), (.aaload, 16, false, [], am_noM)],
  [(.iload_n 3, 17, false, [], am_noM), (.iaload, 18, false, [], am_noM), (.aload_n 0, 19, false, [], am_noM), (.getfield 27, 22, false, [3, 4, 1123], am_noM), am_ce0, am_ce0, (.iload_n 1, 23, false, [], am_noM), (.iaload, 24, false, [], am_noM), (.isub, 25, false, [], am_noM), (.aload_n 0, 26, false, [], am_noM), (.getfield 30, 29, false, [3, 5, 1124], am_noM), am_ce0, am_ce0, (.iload_n 3, 30, false, [], am_noM), (.iaload, 31, false, [], am_noM), (.isub, 32, false, [], am_noM)],
  [(.istore 4, 34, false, [], am_noM), am_ce0, (.aload_n 0, 35, false, [], am_noM), (.getfield 45, 38, false, [3, 10, 1129], am_noM), am_ce0, am_ce0, (.iload_n 3, 39, false, [], am_noM), (.iaload, 40, false, [], am_noM), (.ifCond .ne 29, 43, false, [69], am_noM), am_ce0, am_ce0, (.iload 4, 45, false, [], am_noM), am_ce0, (.aload_n 0, 46, false, [], am_noM), (.getfield 39, 49, false, [3, 8, 1127], am_noM), am_ce0],
  [am_ce0, (.iload_n 3, 50, false, [], am_noM), (.iaload, 51, false, [], am_noM), (.if_icmp .ge 18, 54, false, [69], am_noM), am_ce0, am_ce0, (.aload_n 0, 55, false, [], am_noM), (.getfield 39, 58, false, [3, 8, 1127], am_noM), am_ce0, am_ce0, (.iload_n 3, 59, false, [], am_noM), (.iload 4, 61, false, [], am_noM), am_ce0, (.iastore, 62, false, [], am_noM), (.aload_n 0, 63, false, [], am_noM), (.getfield 42, 66, false, [3, 9, 1128], am_noM)],
  [am_ce0, am_ce0, (.iload_n 3, 67, false, [], am_noM), (.iload_n 2, 68, false, [], am_noM), (.iastore, 69, false, [], am_noM), (.iinc 3 1, 72, false, [], am_noM), am_ce0, am_ce0, (.goto (-70), 75, false, [2], am_noM), am_ce0, am_ce0, (.return_, 76, false, [], am_noM)]]
def kX3_nearest : List (List CE) := [[(.iconst (-1), 1, false, [], am_noM), (.istore_n 1, 2, false, [], am_noM), (.iconst 0, 3, false, [], am_noM), (.istore_n 2, 4, false, [], am_noM), (.iload_n 2, 5, true, [], am_noM), (.aload_n 0, 6, false, [], am_noM), (.getfield 60, 9, false, [3, 15, 1134], am_noM), am_ce0, am_ce0, (.if_icmp .ge 40, 12, false, [49], am_noM), am_ce0, am_ce0, (.aload_n 0, 13, false, [], am_noM), (.getfield 45, 16, false, [3, 10, 1129], am_noM), am_ce0, am_ce0],
  [(.iload_n 2, 17, false, [], am_noM), (.iaload, 18, false, [], am_noM), (.ifCond .ne 25, 21, false, [43], am_noM), am_ce0, am_ce0, (.iload_n 1, 22, false, [], am_noM), (.iconst (-1), 23, false, [], am_noM), (.if_icmp .eq 18, 26, false, [41], am_noM), am_ce0, am_ce0, (.aload_n 0, 27, false, [], am_noM), (.getfield 39, 30, false, [3, 8, 1127], am_noM), am_ce0, am_ce0, (.iload_n 2, 31, false, [], am_noM), (.iaload, 32, false, [], am_noM)],
  [(.aload_n 0, 33, false, [], am_noM), (.getfield 39, 36, false, [3, 8, 1127], am_noM), am_ce0, am_ce0, (.iload_n 1, 37, false, [], am_noM), (.iaload, 38, false, [], am_noM), (.if_icmp .ge 5, 41, false, [43], am_noM), am_ce0, am_ce0, (.iload_n 2, 42, false, [], am_noM), (.istore_n 1, 43, false, [], am_noM), (.iinc 2 1, 46, false, [], am_noM), am_ce0, am_ce0, (.goto (-42), 49, false, [4], am_noM), am_ce0],
  [am_ce0, (.iload_n 1, 50, false, [], am_noM), (.ireturn, 51, false, [0], am_noM)]]
def kX3_lower : List (List CE) := [[(.aload_n 0, 1, false, [], am_noM), (.getfield 27, 4, false, [3, 4, 1123], am_noM), am_ce0, am_ce0, (.iload_n 1, 5, false, [], am_noM), (.dup2, 6, false, [], am_noM), (.iaload, 7, false, [], am_noM), (.iload_n 2, 8, false, [], am_noM), (.iadd, 9, false, [], am_noM), (.iastore, 10, false, [], am_noM), (.iconst 0, 11, false, [], am_noM), (.istore_n 3, 12, false, [], am_noM), (.iload_n 3, 13, true, [], am_noM), (.aload_n 0, 14, false, [], am_noM), (.getfield 60, 17, false, [3, 15, 1134], am_noM), am_ce0],
  [am_ce0, (.if_icmp .ge 72, 20, false, [89], am_noM), am_ce0, am_ce0, (.aload_n 0, 21, false, [], am_noM), (.getfield 45, 24, false, [3, 10, 1129], am_noM), am_ce0, am_ce0, (.iload_n 3, 25, false, [], am_noM), (.iaload, 26, false, [], am_noM), (.ifCond .eq 47, 29, false, [73], am_noM), am_ce0, am_ce0, (.aload_n 0, 30, false, [], am_noM), (.getfield 36, 33, false, [3, 7, 1126], am_noM), am_ce0],
  [am_ce0, (.iload_n 3, 34, false, [], am_noM), (.iaload, 35, false, [], am_noM), (.istore 4, 37, false, [], am_noM), am_ce0, (.iload 4, 39, false, [], am_noM), am_ce0, (.ifCond .lt 21, 42, false, [60], am_noM), am_ce0, am_ce0, (.iload 4, 44, false, [], am_noM), am_ce0, (.bipush 28, 46, false, [], am_noM), am_ce0, (.if_icmp .ge 14, 49, false, [60], am_noM), am_ce0],
  [am_ce0, (.aload_n 0, 50, false, [], am_noM), (.getfield 27, 53, false, [3, 4, 1123], am_noM), am_ce0, am_ce0, (.iload 4, 55, false, [], am_noM), am_ce0, (.dup2, 56, false, [], am_noM), (.iaload, 57, false, [], am_noM), (.iload_n 2, 58, false, [], am_noM), (.iadd, 59, false, [], am_noM), (.iastore, 60, false, [], am_noM), (.aload_n 0, 61, false, [], am_noM), (.getfield 30, 64, false, [3, 5, 1124], am_noM), am_ce0, am_ce0],
  [(.iload_n 3, 65, false, [], am_noM), (.dup2, 66, false, [], am_noM), (.iaload, 67, false, [], am_noM), (.iload_n 2, 68, false, [], am_noM), (.isub, 69, false, [], am_noM), (.iastore, 70, false, [], am_noM), (.goto 13, 73, false, [83], am_noM), am_ce0, am_ce0, (.aload_n 0, 74, false, [], am_noM), (.getfield 39, 77, false, [3, 8, 1127], am_noM), am_ce0, am_ce0, (.iload_n 3, 78, false, [], am_noM), (.dup2, 79, false, [], am_noM), (.iaload, 80, false, [], am_noM)],
  [(.iload_n 2, 81, false, [], am_noM), (.isub, 82, false, [], am_noM), (.iastore, 83, false, [], am_noM), (.iinc 3 1, 86, false, [], am_noM), am_ce0, am_ce0, (.goto (-74), 89, false, [12], am_noM), am_ce0, am_ce0, (.return_, 90, false, [], am_noM)]]
def kX3_flip : List (List CE) := [[(.iload_n 2, 1, false, [], am_noM), (.istore_n 3, 2, false, [], am_noM), (.iconst 0, 3, false, [], am_noM), (.istore 4, 5, false, [], am_noM), am_ce0, (.iload 4, 7, true, [], am_noM), am_ce0, (.aload_n 0, 8, false, [], am_noM), (.getfield 60, 11, false, [3, 15, 1134], am_noM), am_ce0, am_ce0, (.if_icmp .gt 83, 14, false, [94], am_noM), am_ce0, am_ce0, (.iload_n 3, 15, false, [], am_noM), (.ifCond .lt 79, 18, false, [94], am_noM)],
  [am_ce0, am_ce0, (.iload_n 3, 19, false, [], am_noM), (.bipush 28, 21, false, [], am_noM), am_ce0, (.if_icmp .ge 73, 24, false, [94], am_noM), am_ce0, am_ce0, (.aload_n 0, 25, false, [], am_noM), (.getfield 42, 28, false, [3, 9, 1128], am_noM), am_ce0, am_ce0, (.iload_n 3, 29, false, [], am_noM), (.iaload, 30, false, [], am_noM), (.istore 5, 32, false, [], am_noM), am_ce0],
  [(.iload 5, 34, false, [], am_noM), am_ce0, (.ifCond .lt 20, 37, false, [54], am_noM), am_ce0, am_ce0, (.iload 5, 39, false, [], am_noM), am_ce0, (.bipush 28, 41, false, [], am_noM), am_ce0, (.if_icmp .ge 13, 44, false, [54], am_noM), am_ce0, am_ce0, (.aload_n 0, 45, false, [], am_noM), (.getfield 36, 48, false, [3, 7, 1126], am_noM), am_ce0, am_ce0],
  [(.iload 5, 50, false, [], am_noM), am_ce0, (.iaload, 51, false, [], am_noM), (.goto 4, 54, false, [55], am_noM), am_ce0, am_ce0, (.iload_n 1, 55, false, [], am_noM), (.istore 6, 57, false, [], am_noM), am_ce0, (.iload 6, 59, false, [], am_noM), am_ce0, (.ifCond .lt 26, 62, false, [85], am_noM), am_ce0, am_ce0, (.iload 6, 64, false, [], am_noM), am_ce0],
  [(.bipush 28, 66, false, [], am_noM), am_ce0, (.if_icmp .ge 19, 69, false, [85], am_noM), am_ce0, am_ce0, (.aload_n 0, 70, false, [], am_noM), (.getfield 36, 73, false, [3, 7, 1126], am_noM), am_ce0, am_ce0, (.iload_n 3, 74, false, [], am_noM), (.iload 6, 76, false, [], am_noM), am_ce0, (.iastore, 77, false, [], am_noM), (.aload_n 0, 78, false, [], am_noM), (.getfield 33, 81, false, [3, 6, 1125], am_noM), am_ce0],
  [am_ce0, (.iload 6, 83, false, [], am_noM), am_ce0, (.iload_n 3, 84, false, [], am_noM), (.iastore, 85, false, [], am_noM), (.iload 5, 87, false, [], am_noM), am_ce0, (.istore_n 3, 88, false, [], am_noM), (.iinc 4 1, 91, false, [], am_noM), am_ce0, am_ce0, (.goto (-86), 94, false, [5], am_noM), am_ce0, am_ce0, (.return_, 95, false, [], am_noM)]]
def kX3_chooseFirst : List (List CE) := [[(.aload_n 0, 1, false, [], am_noM), (.getfield 48, 4, false, [3, 11, 1130], am_noM), am_ce0, am_ce0, (.iconst 0, 5, false, [], am_noM), (.invokestatic 66, 8, false, [0, 2, 0, 0, 1115, 1116, 1005, 1117], m_fill), am_ce0, am_ce0, (.iconst 0, 9, false, [], am_noM), (.istore_n 1, 10, false, [], am_noM), (.iload_n 1, 11, true, [], am_noM), (.iconst 4, 12, false, [], am_noM), (.if_icmp .ge 16, 15, false, [28], am_noM), am_ce0, am_ce0, (.aload_n 0, 16, false, [], am_noM)],
  [(.getfield 54, 19, false, [3, 13, 1132], am_noM), am_ce0, am_ce0, (.iload_n 1, 20, false, [], am_noM), (.iload_n 1, 21, false, [], am_noM), (.iastore, 22, false, [], am_noM), (.iinc 1 1, 25, false, [], am_noM), am_ce0, am_ce0, (.goto (-15), 28, false, [10], am_noM), am_ce0, am_ce0, (.iconst 0, 29, false, [], am_noM), (.istore_n 1, 30, false, [], am_noM), (.iload_n 1, 31, true, [], am_noM), (.aload_n 0, 32, false, [], am_noM)],
  [(.getfield 57, 35, false, [3, 14, 1133], am_noM), am_ce0, am_ce0, (.if_icmp .ge 87, 38, false, [122], am_noM), am_ce0, am_ce0, (.aload_n 0, 39, false, [], am_noM), (.getfield 19, 42, false, [3, 2, 1121], am_noM), am_ce0, am_ce0, (.iload_n 1, 43, false, [], am_noM), (.iconst (-1), 44, false, [], am_noM), (.iastore, 45, false, [], am_noM), (.iconst 0, 46, false, [], am_noM), (.istore_n 2, 47, false, [], am_noM), (.iload_n 2, 48, true, [], am_noM)],
  [(.aload_n 0, 49, false, [], am_noM), (.getfield 15, 52, false, [3, 1, 1119], am_noM), am_ce0, am_ce0, (.if_icmp .ge 57, 55, false, [109], am_noM), am_ce0, am_ce0, (.iload_n 2, 56, false, [], am_noM), (.iconst 4, 57, false, [], am_noM), (.if_icmp .ge 52, 60, false, [109], am_noM), am_ce0, am_ce0, (.aload_n 0, 61, false, [], am_noM), (.getfield 19, 64, false, [3, 2, 1121], am_noM), am_ce0, am_ce0],
  [(.iload_n 1, 65, false, [], am_noM), (.iaload, 66, false, [], am_noM), (.iconst (-1), 67, false, [], am_noM), (.if_icmp .ne 42, 70, false, [109], am_noM), am_ce0, am_ce0, (.aload_n 0, 71, false, [], am_noM), (.aload_n 0, 72, false, [], am_noM), (.getfield 54, 75, false, [3, 13, 1132], am_noM), am_ce0, am_ce0, (.iload_n 2, 76, false, [], am_noM), (.iaload, 77, false, [], am_noM), (.iload_n 1, 78, false, [], am_noM), (.invokevirtual 135, 81, false, [3, 3, 0, 0, 5024, 5026, 35, 1004, 5027], mX3_canDoNext), am_ce0],
  [am_ce0, (.ifCond .eq 22, 84, false, [103], am_noM), am_ce0, am_ce0, (.aload_n 0, 85, false, [], am_noM), (.getfield 19, 88, false, [3, 2, 1121], am_noM), am_ce0, am_ce0, (.iload_n 1, 89, false, [], am_noM), (.iload_n 2, 90, false, [], am_noM), (.iastore, 91, false, [], am_noM), (.aload_n 0, 92, false, [], am_noM), (.getfield 54, 95, false, [3, 13, 1132], am_noM), am_ce0, am_ce0, (.iload_n 2, 96, false, [], am_noM)],
  [(.aload_n 0, 97, false, [], am_noM), (.getfield 15, 100, false, [3, 1, 1119], am_noM), am_ce0, am_ce0, (.iload_n 1, 101, false, [], am_noM), (.iadd, 102, false, [], am_noM), (.iastore, 103, false, [], am_noM), (.iinc 2 1, 106, false, [], am_noM), am_ce0, am_ce0, (.goto (-59), 109, false, [47], am_noM), am_ce0, am_ce0, (.aload_n 0, 110, false, [], am_noM), (.getfield 48, 113, false, [3, 11, 1130], am_noM), am_ce0],
  [am_ce0, (.iload_n 1, 114, false, [], am_noM), (.iconst 1, 115, false, [], am_noM), (.iastore, 116, false, [], am_noM), (.iinc 1 1, 119, false, [], am_noM), am_ce0, am_ce0, (.goto (-89), 122, false, [30], am_noM), am_ce0, am_ce0, (.return_, 123, false, [], am_noM)]]
def kX3_isFree : List (List CE) := [[(.aload_n 0, 1, false, [], am_noM), (.getfield 24, 4, false, [3, 3, 1122], am_noM), am_ce0, am_ce0, (.iload_n 1, 5, false, [], am_noM), (.aaload, 6, false, [], am_noM), (.iload_n 2, 7, false, [], am_noM), (.iaload, 8, false, [], am_noM), (.aload_n 0, 9, false, [], am_noM), (.getfield 27, 12, false, [3, 4, 1123], am_noM), am_ce0, am_ce0, (.iload_n 1, 13, false, [], am_noM), (.iaload, 14, false, [], am_noM), (.isub, 15, false, [], am_noM), (.aload_n 0, 16, false, [], am_noM)],
  [(.getfield 30, 19, false, [3, 5, 1124], am_noM), am_ce0, am_ce0, (.iload_n 2, 20, false, [], am_noM), (.iaload, 21, false, [], am_noM), (.isub, 22, false, [], am_noM), (.ifCond .ne 7, 25, false, [29], am_noM), am_ce0, am_ce0, (.iconst 1, 26, false, [], am_noM), (.goto 4, 29, false, [30], am_noM), am_ce0, am_ce0, (.iconst 0, 30, false, [], am_noM), (.ireturn, 31, false, [1], am_noM)]]
def kX3_canDoNext : List (List CE) := [[(.iload_n 1, 1, false, [], am_noM), (.ifCond .lt 32, 4, false, [33], am_noM), am_ce0, am_ce0, (.iload_n 1, 5, false, [], am_noM), (.aload_n 0, 6, false, [], am_noM), (.getfield 60, 9, false, [3, 15, 1134], am_noM), am_ce0, am_ce0, (.if_icmp .ge 24, 12, false, [33], am_noM), am_ce0, am_ce0, (.iload_n 2, 13, false, [], am_noM), (.ifCond .lt 20, 16, false, [33], am_noM), am_ce0, am_ce0],
  [(.iload_n 2, 17, false, [], am_noM), (.aload_n 0, 18, false, [], am_noM), (.getfield 60, 21, false, [3, 15, 1134], am_noM), am_ce0, am_ce0, (.if_icmp .ge 12, 24, false, [33], am_noM), am_ce0, am_ce0, (.aload_n 0, 25, false, [], am_noM), (.iload_n 1, 26, false, [], am_noM), (.iload_n 2, 27, false, [], am_noM), (.invokevirtual 139, 30, false, [3, 3, 0, 0, 5028, 5030, 36, 1004, 5031], mX3_isFree), am_ce0, am_ce0, (.ifCond .ne 5, 33, false, [35], am_noM), am_ce0],
  [am_ce0, (.iconst 0, 34, false, [], am_noM), (.ireturn, 35, false, [1], am_noM), (.aload_n 0, 36, false, [], am_noM), (.getfield 33, 39, false, [3, 6, 1125], am_noM), am_ce0, am_ce0, (.iload_n 1, 40, false, [], am_noM), (.iaload, 41, false, [], am_noM), (.istore_n 3, 42, false, [], am_noM), (.aload_n 0, 43, false, [], am_noM), (.getfield 36, 46, false, [3, 7, 1126], am_noM), am_ce0, am_ce0, (.iload_n 2, 47, false, [], am_noM), (.iaload, 48, false, [], am_noM)],
  [(.istore 4, 50, false, [], am_noM), am_ce0, (.iload_n 3, 51, false, [], am_noM), (.iload_n 2, 52, false, [], am_noM), (.if_icmp .ne 5, 55, false, [57], am_noM), am_ce0, am_ce0, (.iconst 1, 56, false, [], am_noM), (.ireturn, 57, false, [1], am_noM), (.iload_n 3, 58, false, [], am_noM), (.ifCond .lt 25, 61, false, [83], am_noM), am_ce0, am_ce0, (.iload_n 3, 62, false, [], am_noM), (.aload_n 0, 63, false, [], am_noM), (.getfield 60, 66, false, [3, 15, 1134], am_noM)],
  [am_ce0, am_ce0, (.if_icmp .ge 17, 69, false, [83], am_noM), am_ce0, am_ce0, (.iload 4, 71, false, [], am_noM), am_ce0, (.ifCond .lt 12, 74, false, [83], am_noM), am_ce0, am_ce0, (.iload 4, 76, false, [], am_noM), am_ce0, (.aload_n 0, 77, false, [], am_noM), (.getfield 60, 80, false, [3, 15, 1134], am_noM), am_ce0, am_ce0],
  [(.if_icmp .lt 5, 83, false, [85], am_noM), am_ce0, am_ce0, (.iconst 0, 84, false, [], am_noM), (.ireturn, 85, false, [1], am_noM), (.aload_n 0, 86, false, [], am_noM), (.getfield 48, 89, false, [3, 11, 1130], am_noM), am_ce0, am_ce0, (.iload_n 2, 90, false, [], am_noM), (.iconst 1, 91, false, [], am_noM), (.iastore, 92, false, [], am_noM), (.aload_n 0, 93, false, [], am_noM), (.iload 4, 95, false, [], am_noM), am_ce0, (.iload_n 3, 96, false, [], am_noM)],
  [(.invokevirtual 142, 99, false, [3, 3, 0, 0, 5032, 5034, 37, 1004, 5035], mX3_reaches), am_ce0, am_ce0, (.ifCond .ne 12, 102, false, [111], am_noM), am_ce0, am_ce0, (.aload_n 0, 103, false, [], am_noM), (.getfield 48, 106, false, [3, 11, 1130], am_noM), am_ce0, am_ce0, (.iload_n 2, 107, false, [], am_noM), (.iconst 0, 108, false, [], am_noM), (.iastore, 109, false, [], am_noM), (.iconst 0, 110, false, [], am_noM), (.ireturn, 111, false, [1], am_noM), (.aload_n 0, 112, false, [], am_noM)],
  [(.iload 4, 114, false, [], am_noM), am_ce0, (.iload_n 3, 115, false, [], am_noM), (.invokevirtual 132, 118, false, [3, 3, 0, 0, 5016, 5018, 33, 1004, 5019], mX3_flip), am_ce0, am_ce0, (.aload_n 0, 119, false, [], am_noM), (.getfield 36, 122, false, [3, 7, 1126], am_noM), am_ce0, am_ce0, (.iload_n 2, 123, false, [], am_noM), (.iload_n 1, 124, false, [], am_noM), (.iastore, 125, false, [], am_noM), (.aload_n 0, 126, false, [], am_noM), (.getfield 33, 129, false, [3, 6, 1125], am_noM), am_ce0],
  [am_ce0, (.iload_n 1, 130, false, [], am_noM), (.iload_n 2, 131, false, [], am_noM), (.iastore, 132, false, [], am_noM), (.iconst 1, 133, false, [], am_noM), (.ireturn, 134, false, [1], am_noM)]]
def kX3_reaches : List (List CE) := [[(.aload_n 0, 1, false, [], am_noM), (.getfield 45, 4, false, [3, 10, 1129], am_noM), am_ce0, am_ce0, (.iconst 0, 5, false, [], am_noM), (.invokestatic 66, 8, false, [0, 2, 0, 0, 1115, 1116, 1005, 1117], m_fill), am_ce0, am_ce0, (.iconst 0, 9, false, [], am_noM), (.istore_n 3, 10, false, [], am_noM), (.iload_n 1, 11, false, [], am_noM), (.istore 4, 13, false, [], am_noM), am_ce0, (.iconst (-1), 14, false, [], am_noM), (.istore 5, 16, false, [], am_noM), am_ce0],
  [(.iconst 0, 17, false, [], am_noM), (.istore 6, 19, false, [], am_noM), am_ce0, (.iload 6, 21, true, [], am_noM), am_ce0, (.aload_n 0, 22, false, [], am_noM), (.getfield 60, 25, false, [3, 15, 1134], am_noM), am_ce0, am_ce0, (.if_icmp .gt 149, 28, false, [174], am_noM), am_ce0, am_ce0, (.aload_n 0, 29, false, [], am_noM), (.getfield 45, 32, false, [3, 10, 1129], am_noM), am_ce0, am_ce0],
  [(.iload_n 2, 33, false, [], am_noM), (.iaload, 34, false, [], am_noM), (.ifCond .ne 140, 37, false, [174], am_noM), am_ce0, am_ce0, (.iload 4, 39, false, [], am_noM), am_ce0, (.ifCond .lt 135, 42, false, [174], am_noM), am_ce0, am_ce0, (.iload 4, 44, false, [], am_noM), am_ce0, (.aload_n 0, 45, false, [], am_noM), (.getfield 60, 48, false, [3, 15, 1134], am_noM), am_ce0, am_ce0],
  [(.if_icmp .ge 126, 51, false, [174], am_noM), am_ce0, am_ce0, (.iconst 0, 52, false, [], am_noM), (.istore 7, 54, false, [], am_noM), am_ce0, (.iload 7, 56, true, [], am_noM), am_ce0, (.aload_n 0, 57, false, [], am_noM), (.getfield 60, 60, false, [3, 15, 1134], am_noM), am_ce0, am_ce0, (.if_icmp .ge 74, 63, false, [134], am_noM), am_ce0, am_ce0, (.aload_n 0, 64, false, [], am_noM)],
  [(.getfield 45, 67, false, [3, 10, 1129], am_noM), am_ce0, am_ce0, (.iload 7, 69, false, [], am_noM), am_ce0, (.iaload, 70, false, [], am_noM), (.ifCond .ne 58, 73, false, [128], am_noM), am_ce0, am_ce0, (.aload_n 0, 74, false, [], am_noM), (.getfield 48, 77, false, [3, 11, 1130], am_noM), am_ce0, am_ce0, (.iload 7, 79, false, [], am_noM), am_ce0, (.iaload, 80, false, [], am_noM)],
  [(.ifCond .ne 48, 83, false, [128], am_noM), am_ce0, am_ce0, (.aload_n 0, 84, false, [], am_noM), (.iload 4, 86, false, [], am_noM), am_ce0, (.iload 7, 88, false, [], am_noM), am_ce0, (.invokevirtual 139, 91, false, [3, 3, 0, 0, 5028, 5030, 36, 1004, 5031], mX3_isFree), am_ce0, am_ce0, (.ifCond .eq 37, 94, false, [128], am_noM), am_ce0, am_ce0, (.iload_n 3, 95, false, [], am_noM), (.bipush 28, 97, false, [], am_noM)],
  [am_ce0, (.if_icmp .ge 31, 100, false, [128], am_noM), am_ce0, am_ce0, (.aload_n 0, 101, false, [], am_noM), (.getfield 45, 104, false, [3, 10, 1129], am_noM), am_ce0, am_ce0, (.iload 7, 106, false, [], am_noM), am_ce0, (.iconst 1, 107, false, [], am_noM), (.iastore, 108, false, [], am_noM), (.aload_n 0, 109, false, [], am_noM), (.getfield 42, 112, false, [3, 9, 1128], am_noM), am_ce0, am_ce0],
  [(.iload 7, 114, false, [], am_noM), am_ce0, (.iload 5, 116, false, [], am_noM), am_ce0, (.iastore, 117, false, [], am_noM), (.aload_n 0, 118, false, [], am_noM), (.getfield 51, 121, false, [3, 12, 1131], am_noM), am_ce0, am_ce0, (.iload_n 3, 122, false, [], am_noM), (.iload 7, 124, false, [], am_noM), am_ce0, (.iastore, 125, false, [], am_noM), (.iinc 3 1, 128, false, [], am_noM), am_ce0, am_ce0],
  [(.iinc 7 1, 131, false, [], am_noM), am_ce0, am_ce0, (.goto (-77), 134, false, [54], am_noM), am_ce0, am_ce0, (.iload 6, 136, false, [], am_noM), am_ce0, (.iload_n 3, 137, false, [], am_noM), (.if_icmp .ge 37, 140, false, [174], am_noM), am_ce0, am_ce0, (.iload 6, 142, false, [], am_noM), am_ce0, (.bipush 28, 144, false, [], am_noM), am_ce0],
  [(.if_icmp .lt 6, 147, false, [150], am_noM), am_ce0, am_ce0, (.goto 27, 150, false, [174], am_noM), am_ce0, am_ce0, (.aload_n 0, 151, false, [], am_noM), (.getfield 51, 154, false, [3, 12, 1131], am_noM), am_ce0, am_ce0, (.iload 6, 156, false, [], am_noM), am_ce0, (.iaload, 157, false, [], am_noM), (.istore 5, 159, false, [], am_noM), am_ce0, (.aload_n 0, 160, false, [], am_noM)],
  [(.getfield 36, 163, false, [3, 7, 1126], am_noM), am_ce0, am_ce0, (.iload 5, 165, false, [], am_noM), am_ce0, (.iaload, 166, false, [], am_noM), (.istore 4, 168, false, [], am_noM), am_ce0, (.iinc 6 1, 171, false, [], am_noM), am_ce0, am_ce0, (.goto (-152), 174, false, [19], am_noM), am_ce0, am_ce0, (.aload_n 0, 175, false, [], am_noM), (.getfield 45, 178, false, [3, 10, 1129], am_noM)],
  [am_ce0, am_ce0, (.iload_n 2, 179, false, [], am_noM), (.iaload, 180, false, [], am_noM), (.ifCond .eq 7, 183, false, [187], am_noM), am_ce0, am_ce0, (.iconst 1, 184, false, [], am_noM), (.goto 4, 187, false, [188], am_noM), am_ce0, am_ce0, (.iconst 0, 188, false, [], am_noM), (.ireturn, 189, false, [1], am_noM)]]
def kX4_init : List (List CE) := [[(.aload_n 0, 1, false, [], am_noM), (.invokespecial 3, 4, false, [1, 2010, 1030, 1031], am_noM), am_ce0, am_ce0, (.aload_n 0, 5, false, [], am_noM), (.bipush 12, 7, false, [], am_noM), am_ce0, (.newarray .int, 9, false, [34, 12, 1074], am_noM), am_ce0, (.putfield 9, 12, false, [4, 0, 2046], am_noM), am_ce0, am_ce0, (.aload_n 0, 13, false, [], am_noM), (.bipush 12, 15, false, [], am_noM), am_ce0, (.newarray .int, 17, false, [35, 12, 1074], am_noM)],
  [am_ce0, (.putfield 15, 20, false, [4, 1, 2047], am_noM), am_ce0, am_ce0, (.aload_n 0, 21, false, [], am_noM), (.bipush 12, 23, false, [], am_noM), am_ce0, (.newarray .int, 25, false, [36, 12, 1074], am_noM), am_ce0, (.putfield 18, 28, false, [4, 2, 2048], am_noM), am_ce0, am_ce0, (.aload_n 0, 29, false, [], am_noM), (.new 21, 32, false, [0, 6, 2011, 2012, 1009], am_noM), am_ce0, am_ce0],
  [(.dup, 33, false, [], am_noM), (.invokespecial 23, 36, false, [2, 1, 0, 0, 355, 110], mX0_init), am_ce0, am_ce0, (.putfield 24, 39, false, [4, 3, 2049], am_noM), am_ce0, am_ce0, (.aload_n 0, 40, false, [], am_noM), (.iconst 0, 41, false, [], am_noM), (.putfield 28, 44, false, [4, 4, 2050], am_noM), am_ce0, am_ce0, (.aload_n 0, 45, false, [], am_noM), (.iconst (-1), 46, false, [], am_noM), (.putfield 32, 49, false, [4, 5, 2052], am_noM), am_ce0],
  [am_ce0, (.aload_n 0, 50, false, [], am_noM), (.iconst 0, 51, false, [], am_noM), (.putfield 35, 54, false, [4, 6, 2054], am_noM), am_ce0, am_ce0, (.aload_n 0, 55, false, [], am_noM), (.iconst 0, 56, false, [], am_noM), (.putfield 38, 59, false, [4, 7, 2055], am_noM), am_ce0, am_ce0, (.return_, 60, false, [], am_noM)]]
def kX4_follow : List (List CE) := [[(.aload_n 0, 1, false, [], am_noM), (.iconst 0, 2, false, [], am_noM), (.putfield 28, 5, false, [4, 4, 2050], am_noM), am_ce0, am_ce0, (.aload_n 0, 6, false, [], am_noM), (.iconst (-1), 7, false, [], am_noM), (.putfield 32, 10, false, [4, 5, 2052], am_noM), am_ce0, am_ce0, (.aload_n 0, 11, false, [], am_noM), (.iconst 0, 12, false, [], am_noM), (.putfield 35, 15, false, [4, 6, 2054], am_noM), am_ce0, am_ce0, (.aload_n 0, 16, false, [], am_noM)],
  [(.iconst 0, 17, false, [], am_noM), (.putfield 38, 20, false, [4, 7, 2055], am_noM), am_ce0, am_ce0, (.aload_n 0, 21, false, [], am_noM), (.getfield 24, 24, false, [4, 3, 2049], am_noM), am_ce0, am_ce0, (.iconst 0, 25, false, [], am_noM), (.invokevirtual 41, 28, false, [2, 0, 0, 0, 3091, 3092, 3093, 1009, 3094], mX0_letGoOn), am_ce0, am_ce0, (.iconst 1, 29, false, [], am_noM), (.istore_n 3, 30, false, [], am_noM), (.iload_n 3, 31, true, [], am_noM), (.sipush 2000, 34, false, [], am_noM)],
  [am_ce0, am_ce0, (.if_icmp .gt 132, 37, false, [166], am_noM), am_ce0, am_ce0, (.aload_n 1, 38, false, [], am_noM), (.aload_n 0, 39, false, [], am_noM), (.getfield 24, 42, false, [4, 3, 2049], am_noM), am_ce0, am_ce0, (.getfield 45, 45, false, [0, 1, 2020], am_noM), am_ce0, am_ce0, (.invokevirtual 47, 48, false, [2, 7, 0, 0, 3099, 3100, 3101, 1012, 3102], mX7_boardAt), am_ce0, am_ce0],
  [(.astore 4, 50, false, [], am_noM), am_ce0, (.aload 4, 52, false, [], am_noM), am_ce0, (.ifnonnull 4, 55, false, [56], am_noM), am_ce0, am_ce0, (.return_, 56, false, [], am_noM), (.aload_n 0, 57, false, [], am_noM), (.getfield 24, 60, false, [4, 3, 2049], am_noM), am_ce0, am_ce0, (.aload 4, 62, false, [], am_noM), am_ce0, (.invokevirtual 53, 65, false, [2, 0, 0, 0, 3103, 3104, 3105, 1009, 3106], mX0_rollsOver), am_ce0],
  [am_ce0, (.ifCond .eq 47, 68, false, [112], am_noM), am_ce0, am_ce0, (.aload_n 0, 69, false, [], am_noM), (.iload_n 3, 70, false, [], am_noM), (.aload_n 0, 71, false, [], am_noM), (.getfield 24, 74, false, [4, 3, 2049], am_noM), am_ce0, am_ce0, (.getfield 45, 77, false, [0, 1, 2020], am_noM), am_ce0, am_ce0, (.aload_n 0, 78, false, [], am_noM), (.getfield 24, 81, false, [4, 3, 2049], am_noM), am_ce0],
  [am_ce0, (.aload 4, 83, false, [], am_noM), am_ce0, (.aload 4, 85, false, [], am_noM), am_ce0, (.getfield 57, 88, false, [1, 3, 3038], am_noM), am_ce0, am_ce0, (.invokevirtual 62, 91, false, [3, 0, 0, 0, 3111, 3112, 3113, 1009, 3114], mX0_fallsOff), am_ce0, am_ce0, (.invokevirtual 66, 94, false, [4, 4, 0, 0, 3115, 3117, 2, 1008, 3118], mX4_hear), am_ce0, am_ce0, (.aload_n 0, 95, false, [], am_noM), (.dup, 96, false, [], am_noM)],
  [(.getfield 35, 99, false, [4, 6, 2054], am_noM), am_ce0, am_ce0, (.aload_n 1, 100, false, [], am_noM), (.aload_n 0, 101, false, [], am_noM), (.getfield 24, 104, false, [4, 3, 2049], am_noM), am_ce0, am_ce0, (.iload_n 2, 105, false, [], am_noM), (.invokevirtual 70, 108, false, [3, 7, 0, 0, 3119, 3120, 3121, 1012, 3122], mX7_carryOn), am_ce0, am_ce0, (.iadd, 109, false, [], am_noM), (.putfield 35, 112, false, [4, 6, 2054], am_noM), am_ce0, am_ce0],
  [(.aload_n 0, 113, false, [], am_noM), (.aload_n 0, 114, false, [], am_noM), (.getfield 38, 117, false, [4, 7, 2055], am_noM), am_ce0, am_ce0, (.aload_n 0, 118, false, [], am_noM), (.getfield 24, 121, false, [4, 3, 2049], am_noM), am_ce0, am_ce0, (.getfield 74, 124, false, [0, 3, 2028], am_noM), am_ce0, am_ce0, (.invokestatic 77, 127, false, [1, 3128, 3109, 1015, 3110], am_noM), am_ce0, am_ce0, (.putfield 38, 130, false, [4, 7, 2055], am_noM)],
  [am_ce0, am_ce0, (.aload_n 0, 131, false, [], am_noM), (.getfield 24, 134, false, [4, 3, 2049], am_noM), am_ce0, am_ce0, (.getfield 45, 137, false, [0, 1, 2020], am_noM), am_ce0, am_ce0, (.sipush 255, 140, false, [], am_noM), am_ce0, am_ce0, (.if_icmp .ne 9, 143, false, [149], am_noM), am_ce0, am_ce0, (.aload_n 0, 144, false, [], am_noM)],
  [(.iload_n 3, 145, false, [], am_noM), (.putfield 32, 148, false, [4, 5, 2052], am_noM), am_ce0, am_ce0, (.return_, 149, false, [], am_noM), (.aload_n 0, 150, false, [], am_noM), (.getfield 24, 153, false, [4, 3, 2049], am_noM), am_ce0, am_ce0, (.invokevirtual 83, 156, false, [1, 0, 0, 0, 3129, 3130, 3131, 1009, 3132], mX0_isAtRest), am_ce0, am_ce0, (.ifCond .eq 4, 159, false, [160], am_noM), am_ce0, am_ce0, (.return_, 160, false, [], am_noM)],
  [(.iinc 3 1, 163, false, [], am_noM), am_ce0, am_ce0, (.goto (-133), 166, false, [30], am_noM), am_ce0, am_ce0, (.return_, 167, false, [], am_noM)]]
def kX4_hear : List (List CE) := [[(.iload_n 3, 1, false, [], am_noM), (.ifCond .le 59, 4, false, [60], am_noM), am_ce0, am_ce0, (.aload_n 0, 5, false, [], am_noM), (.getfield 28, 8, false, [4, 4, 2050], am_noM), am_ce0, am_ce0, (.ifCond .lt 52, 11, false, [60], am_noM), am_ce0, am_ce0, (.aload_n 0, 12, false, [], am_noM), (.getfield 28, 15, false, [4, 4, 2050], am_noM), am_ce0, am_ce0, (.bipush 12, 17, false, [], am_noM)],
  [am_ce0, (.if_icmp .ge 43, 20, false, [60], am_noM), am_ce0, am_ce0, (.aload_n 0, 21, false, [], am_noM), (.getfield 9, 24, false, [4, 0, 2046], am_noM), am_ce0, am_ce0, (.aload_n 0, 25, false, [], am_noM), (.getfield 28, 28, false, [4, 4, 2050], am_noM), am_ce0, am_ce0, (.iload_n 1, 29, false, [], am_noM), (.iastore, 30, false, [], am_noM), (.aload_n 0, 31, false, [], am_noM), (.getfield 15, 34, false, [4, 1, 2047], am_noM)],
  [am_ce0, am_ce0, (.aload_n 0, 35, false, [], am_noM), (.getfield 28, 38, false, [4, 4, 2050], am_noM), am_ce0, am_ce0, (.iload_n 2, 39, false, [], am_noM), (.iastore, 40, false, [], am_noM), (.aload_n 0, 41, false, [], am_noM), (.getfield 18, 44, false, [4, 2, 2048], am_noM), am_ce0, am_ce0, (.aload_n 0, 45, false, [], am_noM), (.getfield 28, 48, false, [4, 4, 2050], am_noM), am_ce0, am_ce0],
  [(.iload_n 3, 49, false, [], am_noM), (.iastore, 50, false, [], am_noM), (.aload_n 0, 51, false, [], am_noM), (.dup, 52, false, [], am_noM), (.getfield 28, 55, false, [4, 4, 2050], am_noM), am_ce0, am_ce0, (.iconst 1, 56, false, [], am_noM), (.iadd, 57, false, [], am_noM), (.putfield 28, 60, false, [4, 4, 2050], am_noM), am_ce0, am_ce0, (.return_, 61, false, [], am_noM)]]
def kX4_answer : List (List CE) := [[(.iload_n 1, 1, false, [], am_noM), (.tableswitch 42 0 2 #[27, 32, 37], 28, false, [43, 0, 28, 1, 33, 2, 38], am_noM), am_ce0, am_ce0, am_ce0, am_ce0, am_ce0, am_ce0, am_ce0, am_ce0, am_ce0, am_ce0, am_ce0, am_ce0, am_ce0, am_ce0],
  [am_ce0, am_ce0, am_ce0, am_ce0, am_ce0, am_ce0, am_ce0, am_ce0, am_ce0, am_ce0, am_ce0, am_ce0, (.aload_n 0, 29, false, [], am_noM), (.getfield 32, 32, false, [4, 5, 2052], am_noM), am_ce0, am_ce0],
  [(.ireturn, 33, false, [0], am_noM), (.aload_n 0, 34, false, [], am_noM), (.getfield 28, 37, false, [4, 4, 2050], am_noM), am_ce0, am_ce0, (.ireturn, 38, false, [0], am_noM), (.aload_n 0, 39, false, [], am_noM), (.getfield 35, 42, false, [4, 6, 2054], am_noM), am_ce0, am_ce0, (.ireturn, 43, false, [0], am_noM), (.aload_n 0, 44, false, [], am_noM), (.getfield 38, 47, false, [4, 7, 2055], am_noM), am_ce0, am_ce0, (.ireturn, 48, false, [0], am_noM)]]
def kX4_knockAt : List (List CE) := [[(.iload_n 1, 1, false, [], am_noM), (.ifCond .lt 9, 4, false, [10], am_noM), am_ce0, am_ce0, (.iload_n 1, 5, false, [], am_noM), (.bipush 12, 7, false, [], am_noM), am_ce0, (.if_icmp .lt 5, 10, false, [12], am_noM), am_ce0, am_ce0, (.iconst (-1), 11, false, [], am_noM), (.ireturn, 12, false, [0], am_noM), (.iload_n 2, 13, false, [], am_noM), (.ifCond .ne 12, 16, false, [25], am_noM), am_ce0, am_ce0],
  [(.aload_n 0, 17, false, [], am_noM), (.getfield 9, 20, false, [4, 0, 2046], am_noM), am_ce0, am_ce0, (.iload_n 1, 21, false, [], am_noM), (.iaload, 22, false, [], am_noM), (.goto 23, 25, false, [45], am_noM), am_ce0, am_ce0, (.iload_n 2, 26, false, [], am_noM), (.iconst 1, 27, false, [], am_noM), (.if_icmp .ne 12, 30, false, [39], am_noM), am_ce0, am_ce0, (.aload_n 0, 31, false, [], am_noM), (.getfield 15, 34, false, [4, 1, 2047], am_noM)],
  [am_ce0, am_ce0, (.iload_n 1, 35, false, [], am_noM), (.iaload, 36, false, [], am_noM), (.goto 9, 39, false, [45], am_noM), am_ce0, am_ce0, (.aload_n 0, 40, false, [], am_noM), (.getfield 18, 43, false, [4, 2, 2048], am_noM), am_ce0, am_ce0, (.iload_n 1, 44, false, [], am_noM), (.iaload, 45, false, [], am_noM), (.ireturn, 46, false, [0], am_noM)]]
def kX5_init : List (List CE) := [[(.aload_n 0, 1, false, [], am_noM), (.invokespecial 3, 4, false, [1, 1084, 1030, 1031], am_noM), am_ce0, am_ce0, (.aload_n 0, 5, false, [], am_noM), (.bipush 12, 7, false, [], am_noM), am_ce0, (.newarray .int, 9, false, [37, 12, 1074], am_noM), am_ce0, (.putfield 9, 12, false, [5, 0, 1085], am_noM), am_ce0, am_ce0, (.aload_n 0, 13, false, [], am_noM), (.bipush 12, 15, false, [], am_noM), am_ce0, (.newarray .int, 17, false, [38, 12, 1074], am_noM)],
  [am_ce0, (.putfield 15, 20, false, [5, 1, 1086], am_noM), am_ce0, am_ce0, (.aload_n 0, 21, false, [], am_noM), (.bipush 12, 23, false, [], am_noM), am_ce0, (.newarray .int, 25, false, [39, 12, 1074], am_noM), am_ce0, (.putfield 18, 28, false, [5, 2, 1087], am_noM), am_ce0, am_ce0, (.aload_n 0, 29, false, [], am_noM), (.bipush 12, 31, false, [], am_noM), am_ce0, (.newarray .int, 33, false, [40, 12, 1074], am_noM)],
  [am_ce0, (.putfield 21, 36, false, [5, 3, 1088], am_noM), am_ce0, am_ce0, (.aload_n 0, 37, false, [], am_noM), (.iconst 0, 38, false, [], am_noM), (.putfield 24, 41, false, [5, 4, 1089], am_noM), am_ce0, am_ce0, (.return_, 42, false, [], am_noM)]]
def kX5_add : List (List CE) := [[(.aload_n 0, 1, false, [], am_noM), (.getfield 24, 4, false, [5, 4, 1089], am_noM), am_ce0, am_ce0, (.ifCond .lt 12, 7, false, [16], am_noM), am_ce0, am_ce0, (.aload_n 0, 8, false, [], am_noM), (.getfield 24, 11, false, [5, 4, 1089], am_noM), am_ce0, am_ce0, (.bipush 12, 13, false, [], am_noM), am_ce0, (.if_icmp .lt 5, 16, false, [18], am_noM), am_ce0, am_ce0],
  [(.iconst (-1), 17, false, [], am_noM), (.ireturn, 18, false, [0], am_noM), (.aload_n 0, 19, false, [], am_noM), (.getfield 9, 22, false, [5, 0, 1085], am_noM), am_ce0, am_ce0, (.aload_n 0, 23, false, [], am_noM), (.getfield 24, 26, false, [5, 4, 1089], am_noM), am_ce0, am_ce0, (.iload_n 1, 27, false, [], am_noM), (.iastore, 28, false, [], am_noM), (.aload_n 0, 29, false, [], am_noM), (.getfield 15, 32, false, [5, 1, 1086], am_noM), am_ce0, am_ce0],
  [(.aload_n 0, 33, false, [], am_noM), (.getfield 24, 36, false, [5, 4, 1089], am_noM), am_ce0, am_ce0, (.iload_n 2, 37, false, [], am_noM), (.iastore, 38, false, [], am_noM), (.aload_n 0, 39, false, [], am_noM), (.getfield 18, 42, false, [5, 2, 1087], am_noM), am_ce0, am_ce0, (.aload_n 0, 43, false, [], am_noM), (.getfield 24, 46, false, [5, 4, 1089], am_noM), am_ce0, am_ce0, (.iload_n 3, 47, false, [], am_noM), (.iastore, 48, false, [], am_noM)],
  [(.aload_n 0, 49, false, [], am_noM), (.getfield 21, 52, false, [5, 3, 1088], am_noM), am_ce0, am_ce0, (.aload_n 0, 53, false, [], am_noM), (.getfield 24, 56, false, [5, 4, 1089], am_noM), am_ce0, am_ce0, (.iload 4, 58, false, [], am_noM), am_ce0, (.iastore, 59, false, [], am_noM), (.aload_n 0, 60, false, [], am_noM), (.dup, 61, false, [], am_noM), (.getfield 24, 64, false, [5, 4, 1089], am_noM), am_ce0, am_ce0],
  [(.iconst 1, 65, false, [], am_noM), (.iadd, 66, false, [], am_noM), (.putfield 24, 69, false, [5, 4, 1089], am_noM), am_ce0, am_ce0, (.aload_n 0, 70, false, [], am_noM), (.getfield 24, 73, false, [5, 4, 1089], am_noM), am_ce0, am_ce0, (.iconst 1, 74, false, [], am_noM), (.isub, 75, false, [], am_noM), (.ireturn, 76, false, [0], am_noM)]]
def kX5_is : List (List CE) := [[(.iload_n 1, 1, false, [], am_noM), (.ifCond .lt 21, 4, false, [22], am_noM), am_ce0, am_ce0, (.iload_n 1, 5, false, [], am_noM), (.aload_n 0, 6, false, [], am_noM), (.getfield 24, 9, false, [5, 4, 1089], am_noM), am_ce0, am_ce0, (.if_icmp .ge 13, 12, false, [22], am_noM), am_ce0, am_ce0, (.iload_n 1, 13, false, [], am_noM), (.bipush 12, 15, false, [], am_noM), am_ce0, (.if_icmp .ge 7, 18, false, [22], am_noM)],
  [am_ce0, am_ce0, (.iconst 1, 19, false, [], am_noM), (.goto 4, 22, false, [23], am_noM), am_ce0, am_ce0, (.iconst 0, 23, false, [], am_noM), (.ireturn, 24, false, [1], am_noM)]]
def kX5_kindOf : List (List CE) := [[(.aload_n 0, 1, false, [], am_noM), (.iload_n 1, 2, false, [], am_noM), (.invokevirtual 28, 5, false, [2, 5, 0, 0, 4035, 4037, 11, 1003, 4038], mX5_is), am_ce0, am_ce0, (.ifCond .eq 12, 8, false, [17], am_noM), am_ce0, am_ce0, (.aload_n 0, 9, false, [], am_noM), (.getfield 9, 12, false, [5, 0, 1085], am_noM), am_ce0, am_ce0, (.iload_n 1, 13, false, [], am_noM), (.iaload, 14, false, [], am_noM), (.goto 4, 17, false, [18], am_noM), am_ce0],
  [am_ce0, (.iconst (-1), 18, false, [], am_noM), (.ireturn, 19, false, [0], am_noM)]]
def kX5_placeOf : List (List CE) := [[(.aload_n 0, 1, false, [], am_noM), (.iload_n 1, 2, false, [], am_noM), (.invokevirtual 28, 5, false, [2, 5, 0, 0, 4035, 4037, 11, 1003, 4038], mX5_is), am_ce0, am_ce0, (.ifCond .eq 12, 8, false, [17], am_noM), am_ce0, am_ce0, (.aload_n 0, 9, false, [], am_noM), (.getfield 15, 12, false, [5, 1, 1086], am_noM), am_ce0, am_ce0, (.iload_n 1, 13, false, [], am_noM), (.iaload, 14, false, [], am_noM), (.goto 4, 17, false, [18], am_noM), am_ce0],
  [am_ce0, (.iconst 0, 18, false, [], am_noM), (.ireturn, 19, false, [0], am_noM)]]
def kX5_firstOf : List (List CE) := [[(.aload_n 0, 1, false, [], am_noM), (.iload_n 1, 2, false, [], am_noM), (.invokevirtual 28, 5, false, [2, 5, 0, 0, 4035, 4037, 11, 1003, 4038], mX5_is), am_ce0, am_ce0, (.ifCond .eq 12, 8, false, [17], am_noM), am_ce0, am_ce0, (.aload_n 0, 9, false, [], am_noM), (.getfield 18, 12, false, [5, 2, 1087], am_noM), am_ce0, am_ce0, (.iload_n 1, 13, false, [], am_noM), (.iaload, 14, false, [], am_noM), (.goto 4, 17, false, [18], am_noM), am_ce0],
  [am_ce0, (.iconst (-1), 18, false, [], am_noM), (.ireturn, 19, false, [0], am_noM)]]
def kX5_secondOf : List (List CE) := [[(.aload_n 0, 1, false, [], am_noM), (.iload_n 1, 2, false, [], am_noM), (.invokevirtual 28, 5, false, [2, 5, 0, 0, 4035, 4037, 11, 1003, 4038], mX5_is), am_ce0, am_ce0, (.ifCond .eq 12, 8, false, [17], am_noM), am_ce0, am_ce0, (.aload_n 0, 9, false, [], am_noM), (.getfield 21, 12, false, [5, 3, 1088], am_noM), am_ce0, am_ce0, (.iload_n 1, 13, false, [], am_noM), (.iaload, 14, false, [], am_noM), (.goto 4, 17, false, [18], am_noM), am_ce0],
  [am_ce0, (.iconst (-1), 18, false, [], am_noM), (.ireturn, 19, false, [0], am_noM)]]
def kX5_leastNumber : List (List CE) := [[(.aload_n 0, 1, false, [], am_noM), (.iload_n 1, 2, false, [], am_noM), (.invokevirtual 32, 5, false, [2, 5, 0, 0, 4031, 4032, 4033, 1003, 4034], mX5_kindOf), am_ce0, am_ce0, (.istore_n 2, 6, false, [], am_noM), (.iload_n 2, 7, false, [], am_noM), (.ifCond .eq 8, 10, false, [15], am_noM), am_ce0, am_ce0, (.iload_n 2, 11, false, [], am_noM), (.iconst 4, 12, false, [], am_noM), (.if_icmp .ne 7, 15, false, [19], am_noM), am_ce0, am_ce0, (.iconst 0, 16, false, [], am_noM)],
  [(.goto 4, 19, false, [20], am_noM), am_ce0, am_ce0, (.iconst 1, 20, false, [], am_noM), (.ireturn, 21, false, [0], am_noM)]]
def kX5_mostNumber : List (List CE) := [[(.aload_n 0, 1, false, [], am_noM), (.iload_n 1, 2, false, [], am_noM), (.invokevirtual 32, 5, false, [2, 5, 0, 0, 4031, 4032, 4033, 1003, 4034], mX5_kindOf), am_ce0, am_ce0, (.tableswitch 42 0 3 #[31, 35, 38, 35], 36, false, [47, 0, 36, 1, 40, 2, 43, 3, 40], am_noM), am_ce0, am_ce0, am_ce0, am_ce0, am_ce0, am_ce0, am_ce0, am_ce0, am_ce0, am_ce0],
  [am_ce0, am_ce0, am_ce0, am_ce0, am_ce0, am_ce0, am_ce0, am_ce0, am_ce0, am_ce0, am_ce0, am_ce0, am_ce0, am_ce0, am_ce0, am_ce0],
  [am_ce0, am_ce0, am_ce0, am_ce0, (.sipush 9999, 39, false, [], am_noM), am_ce0, am_ce0, (.ireturn, 40, false, [0], am_noM), (.bipush 99, 42, false, [], am_noM), am_ce0, (.ireturn, 43, false, [0], am_noM), (.sipush 500, 46, false, [], am_noM), am_ce0, am_ce0, (.ireturn, 47, false, [0], am_noM), (.iconst 1, 48, false, [], am_noM)],
  [(.ireturn, 49, false, [0], am_noM)]]
def kX5_takes : List (List CE) := [[(.aload_n 0, 1, false, [], am_noM), (.iload_n 1, 2, false, [], am_noM), (.invokevirtual 32, 5, false, [2, 5, 0, 0, 4031, 4032, 4033, 1003, 4034], mX5_kindOf), am_ce0, am_ce0, (.lookupswitch 33 #[(1, 27), (2, 31)], 32, false, [], am_noM), am_ce0, am_ce0, am_ce0, am_ce0, am_ce0, am_ce0, am_ce0, am_ce0, am_ce0, am_ce0],
  [am_ce0, am_ce0, am_ce0, am_ce0, am_ce0, am_ce0, am_ce0, am_ce0, am_ce0, am_ce0, am_ce0, am_ce0, am_ce0, am_ce0, am_ce0, am_ce0],
  [(.iconst 4, 33, false, [], am_noM), (.iload_n 2, 34, false, [], am_noM), (.imul, 35, false, [], am_noM), (.ireturn, 36, false, [0], am_noM), (.iload_n 2, 37, false, [], am_noM), (.ireturn, 38, false, [0], am_noM), (.iconst 1, 39, false, [], am_noM), (.ireturn, 40, false, [0], am_noM)]]
def kX5_strength : List (List CE) := [[(.aload_n 0, 1, false, [], am_noM), (.iload_n 1, 2, false, [], am_noM), (.invokevirtual 32, 5, false, [2, 5, 0, 0, 4031, 4032, 4033, 1003, 4034], mX5_kindOf), am_ce0, am_ce0, (.istore_n 3, 6, false, [], am_noM), (.iload_n 3, 7, false, [], am_noM), (.ifCond .eq 8, 10, false, [15], am_noM), am_ce0, am_ce0, (.iload_n 3, 11, false, [], am_noM), (.iconst 4, 12, false, [], am_noM), (.if_icmp .ne 7, 15, false, [19], am_noM), am_ce0, am_ce0, (.iconst 1, 16, false, [], am_noM)],
  [(.goto 4, 19, false, [20], am_noM), am_ce0, am_ce0, (.iload_n 2, 20, false, [], am_noM), (.ireturn, 21, false, [0], am_noM)]]
def kX5_ballsNeeded : List (List CE) := [[(.iconst 0, 1, false, [], am_noM), (.istore 4, 3, false, [], am_noM), am_ce0, (.iconst 0, 4, false, [], am_noM), (.istore 5, 6, false, [], am_noM), am_ce0, (.iload 5, 8, true, [], am_noM), am_ce0, (.aload_n 1, 9, false, [], am_noM), (.getfield 36, 12, false, [8, 3, 1188], am_noM), am_ce0, am_ce0, (.if_icmp .ge 79, 15, false, [91], am_noM), am_ce0, am_ce0, (.iconst 0, 16, false, [], am_noM)],
  [(.istore 6, 18, false, [], am_noM), am_ce0, (.iconst 0, 19, false, [], am_noM), (.istore 7, 21, false, [], am_noM), am_ce0, (.iload 7, 23, true, [], am_noM), am_ce0, (.iload 5, 25, false, [], am_noM), am_ce0, (.if_icmp .gt 51, 28, false, [76], am_noM), am_ce0, am_ce0, (.aload_n 0, 29, false, [], am_noM), (.aload_n 1, 30, false, [], am_noM), (.iload 5, 32, false, [], am_noM), am_ce0],
  [(.iload_n 2, 33, false, [], am_noM), (.invokevirtual 39, 36, false, [4, 5, 0, 0, 5052, 5054, 38, 1003, 5055], mX5_letsGo), am_ce0, am_ce0, (.ifCond .eq 40, 39, false, [76], am_noM), am_ce0, am_ce0, (.aload_n 0, 40, false, [], am_noM), (.aload_n 1, 41, false, [], am_noM), (.iload 7, 43, false, [], am_noM), am_ce0, (.iload_n 2, 44, false, [], am_noM), (.invokevirtual 39, 47, false, [4, 5, 0, 0, 5052, 5054, 38, 1003, 5055], mX5_letsGo), am_ce0, am_ce0, (.ifCond .eq 23, 50, false, [70], am_noM)],
  [am_ce0, am_ce0, (.aload_n 1, 51, false, [], am_noM), (.iload 7, 53, false, [], am_noM), am_ce0, (.invokevirtual 43, 56, false, [2, 8, 0, 0, 5058, 4084, 4085, 1007, 4086], mX8_tickOf), am_ce0, am_ce0, (.iload_n 3, 57, false, [], am_noM), (.iadd, 58, false, [], am_noM), (.aload_n 1, 59, false, [], am_noM), (.iload 5, 61, false, [], am_noM), am_ce0, (.invokevirtual 43, 64, false, [2, 8, 0, 0, 5058, 4084, 4085, 1007, 4086], mX8_tickOf), am_ce0, am_ce0],
  [(.if_icmp .le 6, 67, false, [70], am_noM), am_ce0, am_ce0, (.iinc 6 1, 70, false, [], am_noM), am_ce0, am_ce0, (.iinc 7 1, 73, false, [], am_noM), am_ce0, am_ce0, (.goto (-52), 76, false, [21], am_noM), am_ce0, am_ce0, (.iload 4, 78, false, [], am_noM), am_ce0, (.iload 6, 80, false, [], am_noM), am_ce0],
  [(.invokestatic 46, 83, false, [1, 5059, 3109, 1015, 3110], am_noM), am_ce0, am_ce0, (.istore 4, 85, false, [], am_noM), am_ce0, (.iinc 5 1, 88, false, [], am_noM), am_ce0, am_ce0, (.goto (-82), 91, false, [6], am_noM), am_ce0, am_ce0, (.iload 4, 93, false, [], am_noM), am_ce0, (.ireturn, 94, false, [0], am_noM)]]
def kX5_letsGo : List (List CE) := [[(.aload_n 1, 1, false, [], am_noM), (.iload_n 2, 2, false, [], am_noM), (.invokevirtual 52, 5, false, [2, 8, 0, 0, 5056, 4092, 4093, 1007, 4094], mX8_machineOf), am_ce0, am_ce0, (.istore 4, 7, false, [], am_noM), am_ce0, (.aload_n 0, 8, false, [], am_noM), (.iload 4, 10, false, [], am_noM), am_ce0, (.invokevirtual 32, 13, false, [2, 5, 0, 0, 4031, 4032, 4033, 1003, 4034], mX5_kindOf), am_ce0, am_ce0, (.ifCond .ne 17, 16, false, [30], am_noM), am_ce0, am_ce0],
  [(.aload_n 0, 17, false, [], am_noM), (.iload 4, 19, false, [], am_noM), am_ce0, (.invokevirtual 55, 22, false, [2, 5, 0, 0, 5057, 4191, 4192, 1003, 4193], mX5_firstOf), am_ce0, am_ce0, (.iload_n 3, 23, false, [], am_noM), (.if_icmp .ne 7, 26, false, [30], am_noM), am_ce0, am_ce0, (.iconst 1, 27, false, [], am_noM), (.goto 4, 30, false, [31], am_noM), am_ce0, am_ce0, (.iconst 0, 31, false, [], am_noM), (.ireturn, 32, false, [1], am_noM)]]
def kX5_fillingsNeeded : List (List CE) := [[(.aload_n 0, 1, false, [], am_noM), (.iload_n 2, 2, false, [], am_noM), (.invokevirtual 55, 5, false, [2, 5, 0, 0, 5057, 4191, 4192, 1003, 4193], mX5_firstOf), am_ce0, am_ce0, (.istore_n 3, 6, false, [], am_noM), (.iload_n 3, 7, false, [], am_noM), (.istore 4, 9, false, [], am_noM), am_ce0, (.iconst (-1), 10, false, [], am_noM), (.istore 5, 12, false, [], am_noM), am_ce0, (.iconst 0, 13, false, [], am_noM), (.istore 6, 15, false, [], am_noM), am_ce0, (.iconst 0, 16, false, [], am_noM)],
  [(.istore 7, 18, false, [], am_noM), am_ce0, (.iconst 0, 19, false, [], am_noM), (.istore 8, 21, false, [], am_noM), am_ce0, (.iload 8, 23, true, [], am_noM), am_ce0, (.aload_n 1, 24, false, [], am_noM), (.getfield 36, 27, false, [8, 3, 1188], am_noM), am_ce0, am_ce0, (.if_icmp .ge 128, 30, false, [155], am_noM), am_ce0, am_ce0, (.aload_n 1, 31, false, [], am_noM), (.iload 8, 33, false, [], am_noM)],
  [am_ce0, (.invokevirtual 52, 36, false, [2, 8, 0, 0, 5056, 4092, 4093, 1007, 4094], mX8_machineOf), am_ce0, am_ce0, (.iload_n 2, 37, false, [], am_noM), (.if_icmp .eq 6, 40, false, [43], am_noM), am_ce0, am_ce0, (.goto 109, 43, false, [149], am_noM), am_ce0, am_ce0, (.aload_n 1, 44, false, [], am_noM), (.iload 8, 46, false, [], am_noM), am_ce0, (.invokevirtual 58, 49, false, [2, 8, 0, 0, 5069, 4096, 4097, 1007, 4098], mX8_numberOf), am_ce0],
  [am_ce0, (.istore 9, 51, false, [], am_noM), am_ce0, (.aload_n 1, 52, false, [], am_noM), (.iload 8, 54, false, [], am_noM), am_ce0, (.invokevirtual 43, 57, false, [2, 8, 0, 0, 5058, 4084, 4085, 1007, 4086], mX8_tickOf), am_ce0, am_ce0, (.iload 6, 59, false, [], am_noM), am_ce0, (.isub, 60, false, [], am_noM), (.aload_n 0, 61, false, [], am_noM), (.iload_n 2, 62, false, [], am_noM), (.invokevirtual 61, 65, false, [2, 5, 0, 0, 5070, 4201, 4202, 1003, 4203], mX5_secondOf), am_ce0],
  [am_ce0, (.if_icmp .lt 6, 68, false, [71], am_noM), am_ce0, am_ce0, (.iconst 0, 69, false, [], am_noM), (.istore 5, 71, false, [], am_noM), am_ce0, (.iload 4, 73, false, [], am_noM), am_ce0, (.iload 9, 75, false, [], am_noM), am_ce0, (.if_icmp .ge 33, 78, false, [108], am_noM), am_ce0, am_ce0, (.iload 5, 80, false, [], am_noM), am_ce0],
  [(.iconst (-1), 81, false, [], am_noM), (.if_icmp .eq 12, 84, false, [93], am_noM), am_ce0, am_ce0, (.iload_n 3, 85, false, [], am_noM), (.iload 5, 87, false, [], am_noM), am_ce0, (.isub, 88, false, [], am_noM), (.iload 9, 90, false, [], am_noM), am_ce0, (.if_icmp .ge 6, 93, false, [96], am_noM), am_ce0, am_ce0, (.bipush (-2), 95, false, [], am_noM), am_ce0, (.ireturn, 96, false, [0], am_noM)],
  [(.iinc 7 1, 99, false, [], am_noM), am_ce0, am_ce0, (.iload_n 3, 100, false, [], am_noM), (.iload 5, 102, false, [], am_noM), am_ce0, (.isub, 103, false, [], am_noM), (.istore 4, 105, false, [], am_noM), am_ce0, (.iconst (-1), 106, false, [], am_noM), (.istore 5, 108, false, [], am_noM), am_ce0, (.iload 4, 110, false, [], am_noM), am_ce0, (.iload 9, 112, false, [], am_noM), am_ce0],
  [(.isub, 113, false, [], am_noM), (.istore 4, 115, false, [], am_noM), am_ce0, (.iload 5, 117, false, [], am_noM), am_ce0, (.iconst (-1), 118, false, [], am_noM), (.if_icmp .eq 10, 121, false, [128], am_noM), am_ce0, am_ce0, (.iload 5, 123, false, [], am_noM), am_ce0, (.iload 9, 125, false, [], am_noM), am_ce0, (.iadd, 126, false, [], am_noM), (.istore 5, 128, false, [], am_noM), am_ce0],
  [(.iload 6, 130, false, [], am_noM), am_ce0, (.aload_n 1, 131, false, [], am_noM), (.iload 8, 133, false, [], am_noM), am_ce0, (.invokevirtual 43, 136, false, [2, 8, 0, 0, 5058, 4084, 4085, 1007, 4086], mX8_tickOf), am_ce0, am_ce0, (.aload_n 0, 137, false, [], am_noM), (.iload_n 2, 138, false, [], am_noM), (.iload 9, 140, false, [], am_noM), am_ce0, (.invokevirtual 64, 143, false, [3, 5, 0, 0, 5071, 4231, 4232, 1003, 4233], mX5_takes), am_ce0, am_ce0, (.iadd, 144, false, [], am_noM)],
  [(.invokestatic 46, 147, false, [1, 5059, 3109, 1015, 3110], am_noM), am_ce0, am_ce0, (.istore 6, 149, false, [], am_noM), am_ce0, (.iinc 8 1, 152, false, [], am_noM), am_ce0, am_ce0, (.goto (-131), 155, false, [21], am_noM), am_ce0, am_ce0, (.iload 7, 157, false, [], am_noM), am_ce0, (.ireturn, 158, false, [0], am_noM)]]
def kX6_init : List (List CE) := [[(.aload_n 0, 1, false, [], am_noM), (.invokespecial 3, 4, false, [1, 2078, 1030, 1031], am_noM), am_ce0, am_ce0, (.aload_n 0, 5, false, [], am_noM), (.sipush 300, 8, false, [], am_noM), am_ce0, am_ce0, (.newarray .int, 10, false, [41, 300, 1074], am_noM), am_ce0, (.putfield 11, 13, false, [6, 0, 2082], am_noM), am_ce0, am_ce0, (.aload_n 0, 14, false, [], am_noM), (.sipush 300, 17, false, [], am_noM), am_ce0],
  [am_ce0, (.newarray .int, 19, false, [42, 300, 1074], am_noM), am_ce0, (.putfield 15, 22, false, [6, 1, 2083], am_noM), am_ce0, am_ce0, (.aload_n 0, 23, false, [], am_noM), (.sipush 300, 26, false, [], am_noM), am_ce0, am_ce0, (.newarray .int, 28, false, [43, 300, 1074], am_noM), am_ce0, (.putfield 18, 31, false, [6, 2, 2084], am_noM), am_ce0, am_ce0, (.aload_n 0, 32, false, [], am_noM)],
  [(.iconst 0, 33, false, [], am_noM), (.putfield 21, 36, false, [6, 3, 2085], am_noM), am_ce0, am_ce0, (.aload_n 0, 37, false, [], am_noM), (.iconst 0, 38, false, [], am_noM), (.putfield 25, 41, false, [6, 4, 2087], am_noM), am_ce0, am_ce0, (.aload_n 0, 42, false, [], am_noM), (.iconst 0, 43, false, [], am_noM), (.putfield 28, 46, false, [6, 5, 2089], am_noM), am_ce0, am_ce0, (.aload_n 0, 47, false, [], am_noM), (.bipush 24, 49, false, [], am_noM)],
  [am_ce0, (.anewarray 31, 52, false, [], am_noM), am_ce0, am_ce0, (.putfield 33, 55, false, [6, 6, 2091], am_noM), am_ce0, am_ce0, (.aload_n 0, 56, false, [], am_noM), (.iconst 0, 57, false, [], am_noM), (.putfield 37, 60, false, [6, 7, 2092], am_noM), am_ce0, am_ce0, (.aload_n 0, 61, false, [], am_noM), (.iconst 0, 62, false, [], am_noM), (.putfield 40, 65, false, [6, 8, 2094], am_noM), am_ce0],
  [am_ce0, (.aload_n 0, 66, false, [], am_noM), (.iconst 0, 67, false, [], am_noM), (.putfield 43, 70, false, [6, 9, 2096], am_noM), am_ce0, am_ce0, (.aload_n 0, 71, false, [], am_noM), (.iconst 4, 72, false, [], am_noM), (.newarray .int, 74, false, [45, 4, 1074], am_noM), am_ce0, (.putfield 46, 77, false, [6, 10, 2098], am_noM), am_ce0, am_ce0, (.aload_n 0, 78, false, [], am_noM), (.iconst 0, 79, false, [], am_noM), (.putfield 49, 82, false, [6, 11, 2099], am_noM)],
  [am_ce0, am_ce0, (.aload_n 0, 83, false, [], am_noM), (.iconst 1, 84, false, [], am_noM), (.putfield 52, 87, false, [6, 12, 2100], am_noM), am_ce0, am_ce0, (.iconst 0, 88, false, [], am_noM), (.istore_n 1, 89, false, [], am_noM), (.iload_n 1, 90, true, [], am_noM), (.bipush 24, 92, false, [], am_noM), am_ce0, (.if_icmp .ge 22, 95, false, [114], am_noM), am_ce0, am_ce0, (.aload_n 0, 96, false, [], am_noM)],
  [(.getfield 33, 99, false, [6, 6, 2091], am_noM), am_ce0, am_ce0, (.iload_n 1, 100, false, [], am_noM), (.new 31, 103, false, [0, 6, 2079, 2012, 1009], am_noM), am_ce0, am_ce0, (.dup, 104, false, [], am_noM), (.invokespecial 56, 107, false, [2, 1, 0, 0, 355, 110], mX0_init), am_ce0, am_ce0, (.aastore, 108, false, [], am_noM), (.iinc 1 1, 111, false, [], am_noM), am_ce0, am_ce0, (.goto (-22), 114, false, [89], am_noM)],
  [am_ce0, am_ce0, (.return_, 115, false, [], am_noM)]]
def kX6_goThrough : List (List CE) := [[(.aload_n 0, 1, false, [], am_noM), (.iconst 0, 2, false, [], am_noM), (.putfield 21, 5, false, [6, 3, 2085], am_noM), am_ce0, am_ce0, (.aload_n 0, 6, false, [], am_noM), (.iconst 0, 7, false, [], am_noM), (.putfield 25, 10, false, [6, 4, 2087], am_noM), am_ce0, am_ce0, (.aload_n 0, 11, false, [], am_noM), (.iconst 0, 12, false, [], am_noM), (.putfield 28, 15, false, [6, 5, 2089], am_noM), am_ce0, am_ce0, (.aload_n 0, 16, false, [], am_noM)],
  [(.iconst 0, 17, false, [], am_noM), (.putfield 37, 20, false, [6, 7, 2092], am_noM), am_ce0, am_ce0, (.aload_n 0, 21, false, [], am_noM), (.iconst 0, 22, false, [], am_noM), (.putfield 40, 25, false, [6, 8, 2094], am_noM), am_ce0, am_ce0, (.aload_n 0, 26, false, [], am_noM), (.iconst 0, 27, false, [], am_noM), (.putfield 43, 30, false, [6, 9, 2096], am_noM), am_ce0, am_ce0, (.aload_n 0, 31, false, [], am_noM), (.iconst 1, 32, false, [], am_noM)],
  [(.putfield 52, 35, false, [6, 12, 2100], am_noM), am_ce0, am_ce0, (.aload_n 0, 36, false, [], am_noM), (.getfield 46, 39, false, [6, 10, 2098], am_noM), am_ce0, am_ce0, (.iconst 0, 40, false, [], am_noM), (.invokestatic 57, 43, false, [0, 2, 0, 0, 4144, 1116, 1005, 1117], m_fill), am_ce0, am_ce0, (.iconst 0, 44, false, [], am_noM), (.istore 4, 46, false, [], am_noM), am_ce0, (.iconst 0, 47, false, [], am_noM), (.istore 5, 49, false, [], am_noM)],
  [am_ce0, (.iload 5, 51, true, [], am_noM), am_ce0, (.sipush 4400, 54, false, [], am_noM), am_ce0, am_ce0, (.if_icmp .gt 74, 57, false, [128], am_noM), am_ce0, am_ce0, (.aload_n 0, 58, false, [], am_noM), (.iload 5, 60, false, [], am_noM), am_ce0, (.putfield 49, 63, false, [6, 11, 2099], am_noM), am_ce0, am_ce0, (.aload_n 0, 64, false, [], am_noM)],
  [(.getfield 52, 67, false, [6, 12, 2100], am_noM), am_ce0, am_ce0, (.ifCond .ne 12, 70, false, [79], am_noM), am_ce0, am_ce0, (.aload_n 0, 71, false, [], am_noM), (.aload_n 3, 72, false, [], am_noM), (.invokevirtual 63, 75, false, [2, 6, 0, 0, 4145, 4147, 21, 1010, 4148], mX6_rollAll), am_ce0, am_ce0, (.aload_n 0, 76, false, [], am_noM), (.invokevirtual 67, 79, false, [1, 6, 0, 0, 4162, 4164, 24, 1010, 4165], mX6_bumpAll), am_ce0, am_ce0, (.iload 4, 81, true, [], am_noM)],
  [am_ce0, (.aload_n 1, 82, false, [], am_noM), (.getfield 70, 85, false, [8, 3, 1184], am_noM), am_ce0, am_ce0, (.if_icmp .ge 37, 88, false, [122], am_noM), am_ce0, am_ce0, (.aload_n 1, 89, false, [], am_noM), (.iload 4, 91, false, [], am_noM), am_ce0, (.invokevirtual 75, 94, false, [2, 8, 0, 0, 4183, 4084, 4085, 1007, 4086], mX8_tickOf), am_ce0, am_ce0, (.iload 5, 96, false, [], am_noM), am_ce0],
  [(.if_icmp .gt 26, 99, false, [122], am_noM), am_ce0, am_ce0, (.aload_n 0, 100, false, [], am_noM), (.aload_n 1, 101, false, [], am_noM), (.iload 4, 103, false, [], am_noM), am_ce0, (.invokevirtual 79, 106, false, [2, 8, 0, 0, 4184, 4092, 4093, 1007, 4094], mX8_machineOf), am_ce0, am_ce0, (.aload_n 1, 107, false, [], am_noM), (.iload 4, 109, false, [], am_noM), am_ce0, (.invokevirtual 82, 112, false, [2, 8, 0, 0, 4185, 4096, 4097, 1007, 4098], mX8_numberOf), am_ce0, am_ce0],
  [(.aload_n 2, 113, false, [], am_noM), (.invokevirtual 85, 116, false, [4, 6, 0, 0, 4186, 4188, 26, 1010, 4189], mX6_use), am_ce0, am_ce0, (.iinc 4 1, 119, false, [], am_noM), am_ce0, am_ce0, (.goto (-40), 122, false, [79], am_noM), am_ce0, am_ce0, (.iinc 5 1, 125, false, [], am_noM), am_ce0, am_ce0, (.goto (-76), 128, false, [49], am_noM), am_ce0, am_ce0],
  [(.return_, 129, false, [], am_noM)]]
def kX6_rollAll : List (List CE) := [[(.aload_n 0, 1, false, [], am_noM), (.iconst 1, 2, false, [], am_noM), (.putfield 52, 5, false, [6, 12, 2100], am_noM), am_ce0, am_ce0, (.iconst 0, 6, false, [], am_noM), (.istore_n 2, 7, false, [], am_noM), (.iload_n 2, 8, true, [], am_noM), (.aload_n 0, 9, false, [], am_noM), (.getfield 37, 12, false, [6, 7, 2092], am_noM), am_ce0, am_ce0, (.if_icmp .ge 63, 15, false, [75], am_noM), am_ce0, am_ce0, (.iload_n 2, 16, false, [], am_noM)],
  [(.bipush 24, 18, false, [], am_noM), am_ce0, (.if_icmp .ge 57, 21, false, [75], am_noM), am_ce0, am_ce0, (.aload_n 0, 22, false, [], am_noM), (.getfield 33, 25, false, [6, 6, 2091], am_noM), am_ce0, am_ce0, (.iload_n 2, 26, false, [], am_noM), (.aaload, 27, false, [], am_noM), (.astore_n 3, 28, false, [], am_noM), (.aload_n 3, 29, false, [], am_noM), (.ifnull 40, 32, false, [69], am_noM), am_ce0, am_ce0],
  [(.aload_n 3, 33, false, [], am_noM), (.getfield 89, 36, false, [0, 1, 2021], am_noM), am_ce0, am_ce0, (.sipush 255, 39, false, [], am_noM), am_ce0, am_ce0, (.if_icmp .eq 30, 42, false, [69], am_noM), am_ce0, am_ce0, (.aload_n 3, 43, false, [], am_noM), (.getfield 92, 46, false, [0, 0, 2018], am_noM), am_ce0, am_ce0, (.ifCond .lt 23, 49, false, [69], am_noM), am_ce0],
  [am_ce0, (.aload_n 3, 50, false, [], am_noM), (.getfield 92, 53, false, [0, 0, 2018], am_noM), am_ce0, am_ce0, (.aload_n 1, 54, false, [], am_noM), (.arraylength, 55, false, [], am_noM), (.if_icmp .ge 14, 58, false, [69], am_noM), am_ce0, am_ce0, (.aload_n 0, 59, false, [], am_noM), (.aload_n 3, 60, false, [], am_noM), (.aload_n 1, 61, false, [], am_noM), (.aload_n 3, 62, false, [], am_noM), (.getfield 92, 65, false, [0, 0, 2018], am_noM), am_ce0],
  [am_ce0, (.aaload, 66, false, [], am_noM), (.invokevirtual 95, 69, false, [3, 6, 0, 0, 4149, 4151, 22, 1010, 4152], mX6_roll), am_ce0, am_ce0, (.iinc 2 1, 72, false, [], am_noM), am_ce0, am_ce0, (.goto (-65), 75, false, [7], am_noM), am_ce0, am_ce0, (.return_, 76, false, [], am_noM)]]
def kX6_roll : List (List CE) := [[(.aload_n 2, 1, false, [], am_noM), (.ifnonnull 7, 4, false, [8], am_noM), am_ce0, am_ce0, (.aconst_null, 5, false, [], am_noM), (.goto 11, 8, false, [16], am_noM), am_ce0, am_ce0, (.aload_n 2, 9, false, [], am_noM), (.aload_n 1, 10, false, [], am_noM), (.getfield 89, 13, false, [0, 1, 2021], am_noM), am_ce0, am_ce0, (.invokevirtual 99, 16, false, [2, 7, 0, 0, 4153, 3100, 3101, 1012, 3102], mX7_boardAt), am_ce0, am_ce0],
  [(.astore_n 3, 17, false, [], am_noM), (.aload_n 3, 18, false, [], am_noM), (.ifnonnull 4, 21, false, [22], am_noM), am_ce0, am_ce0, (.return_, 22, false, [], am_noM), (.aload_n 1, 23, false, [], am_noM), (.aload_n 3, 24, false, [], am_noM), (.invokevirtual 105, 27, false, [2, 0, 0, 0, 4154, 3104, 3105, 1009, 3106], mX0_rollsOver), am_ce0, am_ce0, (.ifCond .eq 62, 30, false, [89], am_noM), am_ce0, am_ce0, (.bipush 100, 32, false, [], am_noM), am_ce0],
  [(.aload_n 1, 33, false, [], am_noM), (.getfield 92, 36, false, [0, 0, 2018], am_noM), am_ce0, am_ce0, (.imul, 37, false, [], am_noM), (.aload_n 1, 38, false, [], am_noM), (.getfield 89, 41, false, [0, 1, 2021], am_noM), am_ce0, am_ce0, (.iadd, 42, false, [], am_noM), (.bipush 100, 44, false, [], am_noM), am_ce0, (.iadd, 45, false, [], am_noM), (.istore 4, 47, false, [], am_noM), am_ce0, (.aload_n 0, 48, false, [], am_noM)],
  [(.iload 4, 50, false, [], am_noM), am_ce0, (.aload_n 1, 51, false, [], am_noM), (.aload_n 3, 52, false, [], am_noM), (.aload_n 3, 53, false, [], am_noM), (.getfield 109, 56, false, [1, 3, 3039], am_noM), am_ce0, am_ce0, (.invokevirtual 114, 59, false, [3, 0, 0, 0, 4155, 3112, 3113, 1009, 3114], mX0_fallsOff), am_ce0, am_ce0, (.invokevirtual 118, 62, false, [3, 6, 0, 0, 4156, 4158, 23, 1010, 4159], mX6_hear), am_ce0, am_ce0, (.aload_n 2, 63, false, [], am_noM), (.aload_n 1, 64, false, [], am_noM)],
  [(.aload_n 1, 65, false, [], am_noM), (.getfield 92, 68, false, [0, 0, 2018], am_noM), am_ce0, am_ce0, (.iconst 4, 69, false, [], am_noM), (.if_icmp .ge 15, 72, false, [84], am_noM), am_ce0, am_ce0, (.aload_n 0, 73, false, [], am_noM), (.getfield 46, 76, false, [6, 10, 2098], am_noM), am_ce0, am_ce0, (.aload_n 1, 77, false, [], am_noM), (.getfield 92, 80, false, [0, 0, 2018], am_noM), am_ce0, am_ce0],
  [(.iaload, 81, false, [], am_noM), (.goto 4, 84, false, [85], am_noM), am_ce0, am_ce0, (.iconst 0, 85, false, [], am_noM), (.invokevirtual 122, 88, false, [3, 7, 0, 0, 4160, 3120, 3121, 1012, 3122], mX7_carryOn), am_ce0, am_ce0, (.pop, 89, false, [], am_noM), (.aload_n 1, 90, false, [], am_noM), (.getfield 89, 93, false, [0, 1, 2021], am_noM), am_ce0, am_ce0, (.sipush 255, 96, false, [], am_noM), am_ce0, am_ce0],
  [(.if_icmp .ne 16, 99, false, [112], am_noM), am_ce0, am_ce0, (.aload_n 0, 100, false, [], am_noM), (.dup, 101, false, [], am_noM), (.getfield 40, 104, false, [6, 8, 2094], am_noM), am_ce0, am_ce0, (.iconst 1, 105, false, [], am_noM), (.iadd, 106, false, [], am_noM), (.putfield 40, 109, false, [6, 8, 2094], am_noM), am_ce0, am_ce0, (.goto 15, 112, false, [124], am_noM), am_ce0, am_ce0],
  [(.aload_n 1, 113, false, [], am_noM), (.invokevirtual 126, 116, false, [1, 0, 0, 0, 4161, 3130, 3131, 1009, 3132], mX0_isAtRest), am_ce0, am_ce0, (.ifCond .ne 8, 119, false, [124], am_noM), am_ce0, am_ce0, (.aload_n 0, 120, false, [], am_noM), (.iconst 0, 121, false, [], am_noM), (.putfield 52, 124, false, [6, 12, 2100], am_noM), am_ce0, am_ce0, (.return_, 125, false, [], am_noM)]]
def kX6_bumpAll : List (List CE) := [[(.aload_n 0, 1, false, [], am_noM), (.invokevirtual 130, 4, false, [1, 6, 0, 0, 4166, 4168, 25, 1010, 4169], mX6_allAreAlike), am_ce0, am_ce0, (.ifCond .eq 4, 7, false, [8], am_noM), am_ce0, am_ce0, (.return_, 8, false, [], am_noM), (.iconst 0, 9, false, [], am_noM), (.istore_n 1, 10, false, [], am_noM), (.iload_n 1, 11, true, [], am_noM), (.aload_n 0, 12, false, [], am_noM), (.getfield 37, 15, false, [6, 7, 2092], am_noM), am_ce0, am_ce0, (.if_icmp .ge 128, 18, false, [143], am_noM)],
  [am_ce0, am_ce0, (.iload_n 1, 19, false, [], am_noM), (.bipush 24, 21, false, [], am_noM), am_ce0, (.if_icmp .ge 122, 24, false, [143], am_noM), am_ce0, am_ce0, (.iload_n 1, 25, false, [], am_noM), (.iconst 1, 26, false, [], am_noM), (.iadd, 27, false, [], am_noM), (.istore_n 2, 28, false, [], am_noM), (.iload_n 2, 29, true, [], am_noM), (.aload_n 0, 30, false, [], am_noM), (.getfield 37, 33, false, [6, 7, 2092], am_noM), am_ce0],
  [am_ce0, (.if_icmp .ge 104, 36, false, [137], am_noM), am_ce0, am_ce0, (.iload_n 2, 37, false, [], am_noM), (.bipush 24, 39, false, [], am_noM), am_ce0, (.if_icmp .ge 98, 42, false, [137], am_noM), am_ce0, am_ce0, (.aload_n 0, 43, false, [], am_noM), (.getfield 33, 46, false, [6, 6, 2091], am_noM), am_ce0, am_ce0, (.iload_n 1, 47, false, [], am_noM), (.aaload, 48, false, [], am_noM)],
  [(.astore_n 3, 49, false, [], am_noM), (.aload_n 0, 50, false, [], am_noM), (.getfield 33, 53, false, [6, 6, 2091], am_noM), am_ce0, am_ce0, (.iload_n 2, 54, false, [], am_noM), (.aaload, 55, false, [], am_noM), (.astore 4, 57, false, [], am_noM), am_ce0, (.aload_n 3, 58, false, [], am_noM), (.ifnull 73, 61, false, [131], am_noM), am_ce0, am_ce0, (.aload 4, 63, false, [], am_noM), am_ce0, (.ifnull 68, 66, false, [131], am_noM)],
  [am_ce0, am_ce0, (.aload_n 3, 67, false, [], am_noM), (.aload 4, 69, false, [], am_noM), am_ce0, (.invokevirtual 133, 72, false, [2, 0, 0, 0, 4172, 4173, 4174, 1009, 4175], mX0_stayedWith), am_ce0, am_ce0, (.ifCond .eq 59, 75, false, [131], am_noM), am_ce0, am_ce0, (.aload_n 3, 76, false, [], am_noM), (.aload 4, 78, false, [], am_noM), am_ce0, (.invokevirtual 137, 81, false, [2, 0, 0, 0, 4176, 4177, 4178, 1009, 4179], mX0_overtook), am_ce0],
  [am_ce0, (.ifCond .ne 12, 84, false, [93], am_noM), am_ce0, am_ce0, (.aload 4, 86, false, [], am_noM), am_ce0, (.aload_n 3, 87, false, [], am_noM), (.invokevirtual 137, 90, false, [2, 0, 0, 0, 4176, 4177, 4178, 1009, 4179], mX0_overtook), am_ce0, am_ce0, (.ifCond .eq 41, 93, false, [131], am_noM), am_ce0, am_ce0, (.aload_n 0, 94, false, [], am_noM), (.dup, 95, false, [], am_noM), (.getfield 43, 98, false, [6, 9, 2096], am_noM)],
  [am_ce0, am_ce0, (.iconst 1, 99, false, [], am_noM), (.iadd, 100, false, [], am_noM), (.putfield 43, 103, false, [6, 9, 2096], am_noM), am_ce0, am_ce0, (.aload_n 0, 104, false, [], am_noM), (.sipush 900, 107, false, [], am_noM), am_ce0, am_ce0, (.aload_n 3, 108, false, [], am_noM), (.getfield 92, 111, false, [0, 0, 2018], am_noM), am_ce0, am_ce0, (.iadd, 112, false, [], am_noM)],
  [(.aload_n 3, 113, false, [], am_noM), (.getfield 140, 116, false, [0, 3, 2029], am_noM), am_ce0, am_ce0, (.aload 4, 118, false, [], am_noM), am_ce0, (.getfield 140, 121, false, [0, 3, 2029], am_noM), am_ce0, am_ce0, (.isub, 122, false, [], am_noM), (.invokestatic 143, 125, false, [3, 4180, 4181, 1015, 4182], am_noM), am_ce0, am_ce0, (.bipush 16, 127, false, [], am_noM), am_ce0, (.idiv, 128, false, [], am_noM)],
  [(.invokevirtual 118, 131, false, [3, 6, 0, 0, 4156, 4158, 23, 1010, 4159], mX6_hear), am_ce0, am_ce0, (.iinc 2 1, 134, false, [], am_noM), am_ce0, am_ce0, (.goto (-106), 137, false, [28], am_noM), am_ce0, am_ce0, (.iinc 1 1, 140, false, [], am_noM), am_ce0, am_ce0, (.goto (-130), 143, false, [10], am_noM), am_ce0, am_ce0, (.return_, 144, false, [], am_noM)]]
def kX6_allAreAlike : List (List CE) := [[(.sipush 1023, 3, false, [], am_noM), am_ce0, am_ce0, (.istore_n 1, 4, false, [], am_noM), (.iconst 0, 5, false, [], am_noM), (.istore_n 2, 6, false, [], am_noM), (.iconst 0, 7, false, [], am_noM), (.istore_n 3, 8, false, [], am_noM), (.iload_n 3, 9, true, [], am_noM), (.aload_n 0, 10, false, [], am_noM), (.getfield 37, 13, false, [6, 7, 2092], am_noM), am_ce0, am_ce0, (.if_icmp .ge 59, 16, false, [72], am_noM), am_ce0, am_ce0],
  [(.iload_n 3, 17, false, [], am_noM), (.bipush 24, 19, false, [], am_noM), am_ce0, (.if_icmp .ge 53, 22, false, [72], am_noM), am_ce0, am_ce0, (.aload_n 0, 23, false, [], am_noM), (.getfield 33, 26, false, [6, 6, 2091], am_noM), am_ce0, am_ce0, (.iload_n 3, 27, false, [], am_noM), (.aaload, 28, false, [], am_noM), (.astore 4, 30, false, [], am_noM), am_ce0, (.aload 4, 32, false, [], am_noM), am_ce0],
  [(.ifnull 34, 35, false, [66], am_noM), am_ce0, am_ce0, (.aload 4, 37, false, [], am_noM), am_ce0, (.getfield 89, 40, false, [0, 1, 2021], am_noM), am_ce0, am_ce0, (.sipush 255, 43, false, [], am_noM), am_ce0, am_ce0, (.if_icmp .eq 23, 46, false, [66], am_noM), am_ce0, am_ce0, (.iload_n 1, 47, false, [], am_noM), (.aload 4, 49, false, [], am_noM)],
  [am_ce0, (.getfield 140, 52, false, [0, 3, 2029], am_noM), am_ce0, am_ce0, (.invokestatic 148, 55, false, [2, 4170, 3073, 1015, 3074], am_noM), am_ce0, am_ce0, (.istore_n 1, 56, false, [], am_noM), (.iload_n 2, 57, false, [], am_noM), (.aload 4, 59, false, [], am_noM), am_ce0, (.getfield 140, 62, false, [0, 3, 2029], am_noM), am_ce0, am_ce0, (.invokestatic 152, 65, false, [1, 4171, 3109, 1015, 3110], am_noM), am_ce0],
  [am_ce0, (.istore_n 2, 66, false, [], am_noM), (.iinc 3 1, 69, false, [], am_noM), am_ce0, am_ce0, (.goto (-61), 72, false, [8], am_noM), am_ce0, am_ce0, (.iload_n 1, 73, false, [], am_noM), (.iload_n 2, 74, false, [], am_noM), (.if_icmp .lt 7, 77, false, [81], am_noM), am_ce0, am_ce0, (.iconst 1, 78, false, [], am_noM), (.goto 4, 81, false, [82], am_noM), am_ce0],
  [am_ce0, (.iconst 0, 82, false, [], am_noM), (.ireturn, 83, false, [1], am_noM)]]
def kX6_use : List (List CE) := [[(.aload_n 3, 1, false, [], am_noM), (.iload_n 1, 2, false, [], am_noM), (.invokevirtual 155, 5, false, [2, 5, 0, 0, 4190, 4191, 4192, 1003, 4193], mX5_firstOf), am_ce0, am_ce0, (.istore 4, 7, false, [], am_noM), am_ce0, (.aload_n 3, 8, false, [], am_noM), (.iload_n 1, 9, false, [], am_noM), (.invokevirtual 160, 12, false, [2, 5, 0, 0, 4194, 4032, 4033, 1003, 4034], mX5_kindOf), am_ce0, am_ce0, (.istore 5, 14, false, [], am_noM), am_ce0, (.aload_n 0, 15, false, [], am_noM), (.iload_n 1, 16, false, [], am_noM)],
  [(.aload_n 3, 17, false, [], am_noM), (.iload_n 1, 18, false, [], am_noM), (.iload_n 2, 19, false, [], am_noM), (.invokevirtual 163, 22, false, [3, 5, 0, 0, 4195, 4196, 4197, 1003, 4198], mX5_strength), am_ce0, am_ce0, (.invokevirtual 118, 25, false, [3, 6, 0, 0, 4156, 4158, 23, 1010, 4159], mX6_hear), am_ce0, am_ce0, (.iload 5, 27, false, [], am_noM), am_ce0, (.ifCond .ne 53, 30, false, [80], am_noM), am_ce0, am_ce0, (.aload_n 0, 31, false, [], am_noM), (.getfield 37, 34, false, [6, 7, 2092], am_noM)],
  [am_ce0, am_ce0, (.bipush 24, 36, false, [], am_noM), am_ce0, (.if_icmp .ge 44, 39, false, [80], am_noM), am_ce0, am_ce0, (.aload_n 0, 40, false, [], am_noM), (.getfield 33, 43, false, [6, 6, 2091], am_noM), am_ce0, am_ce0, (.aload_n 0, 44, false, [], am_noM), (.getfield 37, 47, false, [6, 7, 2092], am_noM), am_ce0, am_ce0, (.aaload, 48, false, [], am_noM)],
  [(.astore 6, 50, false, [], am_noM), am_ce0, (.aload 6, 52, false, [], am_noM), am_ce0, (.ifnull 25, 55, false, [77], am_noM), am_ce0, am_ce0, (.aload 6, 57, false, [], am_noM), am_ce0, (.iload 4, 59, false, [], am_noM), am_ce0, (.invokevirtual 166, 62, false, [2, 0, 0, 0, 4199, 3092, 3093, 1009, 3094], mX0_letGoOn), am_ce0, am_ce0, (.aload_n 0, 63, false, [], am_noM), (.dup, 64, false, [], am_noM)],
  [(.getfield 37, 67, false, [6, 7, 2092], am_noM), am_ce0, am_ce0, (.iconst 1, 68, false, [], am_noM), (.iadd, 69, false, [], am_noM), (.putfield 37, 72, false, [6, 7, 2092], am_noM), am_ce0, am_ce0, (.aload_n 0, 73, false, [], am_noM), (.iconst 0, 74, false, [], am_noM), (.putfield 52, 77, false, [6, 12, 2100], am_noM), am_ce0, am_ce0, (.goto 65, 80, false, [142], am_noM), am_ce0, am_ce0],
  [(.iload 5, 82, false, [], am_noM), am_ce0, (.iconst 4, 83, false, [], am_noM), (.if_icmp .ne 59, 86, false, [142], am_noM), am_ce0, am_ce0, (.iload 4, 88, false, [], am_noM), am_ce0, (.ifCond .lt 54, 91, false, [142], am_noM), am_ce0, am_ce0, (.iload 4, 93, false, [], am_noM), am_ce0, (.iconst 4, 94, false, [], am_noM), (.if_icmp .ge 48, 97, false, [142], am_noM), am_ce0],
  [am_ce0, (.iconst 1, 98, false, [], am_noM), (.aload_n 3, 99, false, [], am_noM), (.iload_n 1, 100, false, [], am_noM), (.invokevirtual 170, 103, false, [2, 5, 0, 0, 4200, 4201, 4202, 1003, 4203], mX5_secondOf), am_ce0, am_ce0, (.ishl, 104, false, [], am_noM), (.istore 6, 106, false, [], am_noM), am_ce0, (.aload_n 0, 107, false, [], am_noM), (.getfield 46, 110, false, [6, 10, 2098], am_noM), am_ce0, am_ce0, (.iload 4, 112, false, [], am_noM), am_ce0],
  [(.iload_n 2, 113, false, [], am_noM), (.ifCond .ne 18, 116, false, [131], am_noM), am_ce0, am_ce0, (.aload_n 0, 117, false, [], am_noM), (.getfield 46, 120, false, [6, 10, 2098], am_noM), am_ce0, am_ce0, (.iload 4, 122, false, [], am_noM), am_ce0, (.iaload, 123, false, [], am_noM), (.iload 6, 125, false, [], am_noM), am_ce0, (.iconst (-1), 126, false, [], am_noM), (.ixor, 127, false, [], am_noM), (.iand, 128, false, [], am_noM)],
  [(.goto 13, 131, false, [141], am_noM), am_ce0, am_ce0, (.aload_n 0, 132, false, [], am_noM), (.getfield 46, 135, false, [6, 10, 2098], am_noM), am_ce0, am_ce0, (.iload 4, 137, false, [], am_noM), am_ce0, (.iaload, 138, false, [], am_noM), (.iload 6, 140, false, [], am_noM), am_ce0, (.ior, 141, false, [], am_noM), (.iastore, 142, false, [], am_noM), (.return_, 143, false, [], am_noM)]]
def kX6_hear : List (List CE) := [[(.iload_n 2, 1, false, [], am_noM), (.ifCond .gt 4, 4, false, [5], am_noM), am_ce0, am_ce0, (.return_, 5, false, [], am_noM), (.aload_n 0, 6, false, [], am_noM), (.dup, 7, false, [], am_noM), (.getfield 25, 10, false, [6, 4, 2087], am_noM), am_ce0, am_ce0, (.iconst 1, 11, false, [], am_noM), (.iadd, 12, false, [], am_noM), (.putfield 25, 15, false, [6, 4, 2087], am_noM), am_ce0, am_ce0, (.aload_n 0, 16, false, [], am_noM)],
  [(.dup, 17, false, [], am_noM), (.getfield 28, 20, false, [6, 5, 2089], am_noM), am_ce0, am_ce0, (.iload_n 2, 21, false, [], am_noM), (.iadd, 22, false, [], am_noM), (.putfield 28, 25, false, [6, 5, 2089], am_noM), am_ce0, am_ce0, (.aload_n 0, 26, false, [], am_noM), (.getfield 21, 29, false, [6, 3, 2085], am_noM), am_ce0, am_ce0, (.ifCond .lt 56, 32, false, [85], am_noM), am_ce0, am_ce0],
  [(.aload_n 0, 33, false, [], am_noM), (.getfield 21, 36, false, [6, 3, 2085], am_noM), am_ce0, am_ce0, (.sipush 300, 39, false, [], am_noM), am_ce0, am_ce0, (.if_icmp .ge 46, 42, false, [85], am_noM), am_ce0, am_ce0, (.aload_n 0, 43, false, [], am_noM), (.getfield 11, 46, false, [6, 0, 2082], am_noM), am_ce0, am_ce0, (.aload_n 0, 47, false, [], am_noM), (.getfield 21, 50, false, [6, 3, 2085], am_noM)],
  [am_ce0, am_ce0, (.aload_n 0, 51, false, [], am_noM), (.getfield 49, 54, false, [6, 11, 2099], am_noM), am_ce0, am_ce0, (.iastore, 55, false, [], am_noM), (.aload_n 0, 56, false, [], am_noM), (.getfield 15, 59, false, [6, 1, 2083], am_noM), am_ce0, am_ce0, (.aload_n 0, 60, false, [], am_noM), (.getfield 21, 63, false, [6, 3, 2085], am_noM), am_ce0, am_ce0, (.iload_n 1, 64, false, [], am_noM)],
  [(.iastore, 65, false, [], am_noM), (.aload_n 0, 66, false, [], am_noM), (.getfield 18, 69, false, [6, 2, 2084], am_noM), am_ce0, am_ce0, (.aload_n 0, 70, false, [], am_noM), (.getfield 21, 73, false, [6, 3, 2085], am_noM), am_ce0, am_ce0, (.iload_n 2, 74, false, [], am_noM), (.iastore, 75, false, [], am_noM), (.aload_n 0, 76, false, [], am_noM), (.dup, 77, false, [], am_noM), (.getfield 21, 80, false, [6, 3, 2085], am_noM), am_ce0, am_ce0],
  [(.iconst 1, 81, false, [], am_noM), (.iadd, 82, false, [], am_noM), (.putfield 21, 85, false, [6, 3, 2085], am_noM), am_ce0, am_ce0, (.return_, 86, false, [], am_noM)]]
def kX6_soundAt : List (List CE) := [[(.iload_n 1, 1, false, [], am_noM), (.ifCond .lt 10, 4, false, [11], am_noM), am_ce0, am_ce0, (.iload_n 1, 5, false, [], am_noM), (.sipush 300, 8, false, [], am_noM), am_ce0, am_ce0, (.if_icmp .lt 5, 11, false, [13], am_noM), am_ce0, am_ce0, (.iconst (-1), 12, false, [], am_noM), (.ireturn, 13, false, [0], am_noM), (.iload_n 2, 14, false, [], am_noM), (.ifCond .ne 12, 17, false, [26], am_noM), am_ce0],
  [am_ce0, (.aload_n 0, 18, false, [], am_noM), (.getfield 11, 21, false, [6, 0, 2082], am_noM), am_ce0, am_ce0, (.iload_n 1, 22, false, [], am_noM), (.iaload, 23, false, [], am_noM), (.goto 23, 26, false, [46], am_noM), am_ce0, am_ce0, (.iload_n 2, 27, false, [], am_noM), (.iconst 1, 28, false, [], am_noM), (.if_icmp .ne 12, 31, false, [40], am_noM), am_ce0, am_ce0, (.aload_n 0, 32, false, [], am_noM)],
  [(.getfield 15, 35, false, [6, 1, 2083], am_noM), am_ce0, am_ce0, (.iload_n 1, 36, false, [], am_noM), (.iaload, 37, false, [], am_noM), (.goto 9, 40, false, [46], am_noM), am_ce0, am_ce0, (.aload_n 0, 41, false, [], am_noM), (.getfield 18, 44, false, [6, 2, 2084], am_noM), am_ce0, am_ce0, (.iload_n 1, 45, false, [], am_noM), (.iaload, 46, false, [], am_noM), (.ireturn, 47, false, [0], am_noM)]]
def kX7_init : List (List CE) := [[(.aload_n 0, 1, false, [], am_noM), (.invokespecial 3, 4, false, [1, 2184, 1030, 1031], am_noM), am_ce0, am_ce0, (.aload_n 0, 5, false, [], am_noM), (.bipush 12, 7, false, [], am_noM), am_ce0, (.anewarray 9, 10, false, [], am_noM), am_ce0, am_ce0, (.putfield 11, 13, false, [7, 0, 2186], am_noM), am_ce0, am_ce0, (.aload_n 0, 14, false, [], am_noM), (.bipush 12, 16, false, [], am_noM), am_ce0],
  [(.newarray .int, 18, false, [47, 12, 1074], am_noM), am_ce0, (.putfield 17, 21, false, [7, 1, 2187], am_noM), am_ce0, am_ce0, (.aload_n 0, 22, false, [], am_noM), (.bipush 12, 24, false, [], am_noM), am_ce0, (.newarray .int, 26, false, [48, 12, 1074], am_noM), am_ce0, (.putfield 21, 29, false, [7, 2, 2188], am_noM), am_ce0, am_ce0, (.aload_n 0, 30, false, [], am_noM), (.iconst 0, 31, false, [], am_noM), (.putfield 24, 34, false, [7, 3, 2189], am_noM)],
  [am_ce0, am_ce0, (.return_, 35, false, [], am_noM)]]
def kX7_isTold : List (List CE) := [[(.aload_n 0, 1, false, [], am_noM), (.getfield 28, 4, false, [10, 1, 1040], am_noM), am_ce0, am_ce0, (.iconst 3, 5, false, [], am_noM), (.idiv, 6, false, [], am_noM), (.istore_n 2, 7, false, [], am_noM), (.aload_n 0, 8, false, [], am_noM), (.getfield 28, 11, false, [10, 1, 1040], am_noM), am_ce0, am_ce0, (.iconst 3, 12, false, [], am_noM), (.irem, 13, false, [], am_noM), (.ifCond .ne 14, 16, false, [27], am_noM), am_ce0, am_ce0],
  [(.iload_n 2, 17, false, [], am_noM), (.iconst 1, 18, false, [], am_noM), (.if_icmp .lt 9, 21, false, [27], am_noM), am_ce0, am_ce0, (.iload_n 2, 22, false, [], am_noM), (.bipush 12, 24, false, [], am_noM), am_ce0, (.if_icmp .le 5, 27, false, [29], am_noM), am_ce0, am_ce0, (.iconst 0, 28, false, [], am_noM), (.ireturn, 29, false, [1], am_noM), (.iconst 0, 30, false, [], am_noM), (.istore_n 3, 31, false, [], am_noM), (.iload_n 3, 32, true, [], am_noM)],
  [(.iload_n 2, 33, false, [], am_noM), (.if_icmp .ge 56, 36, false, [89], am_noM), am_ce0, am_ce0, (.aload_n 0, 37, false, [], am_noM), (.iconst 3, 38, false, [], am_noM), (.iload_n 3, 39, false, [], am_noM), (.imul, 40, false, [], am_noM), (.invokevirtual 31, 43, false, [2, 10, 0, 0, 3061, 3062, 3063, 1002, 3064], mX10_byteAt), am_ce0, am_ce0, (.iload_n 1, 44, false, [], am_noM), (.if_icmp .ge 37, 47, false, [81], am_noM), am_ce0, am_ce0, (.aload_n 0, 48, false, [], am_noM)],
  [(.iconst 3, 49, false, [], am_noM), (.iload_n 3, 50, false, [], am_noM), (.imul, 51, false, [], am_noM), (.iconst 1, 52, false, [], am_noM), (.iadd, 53, false, [], am_noM), (.invokevirtual 31, 56, false, [2, 10, 0, 0, 3061, 3062, 3063, 1002, 3064], mX10_byteAt), am_ce0, am_ce0, (.iload_n 3, 57, false, [], am_noM), (.iload_n 2, 58, false, [], am_noM), (.invokestatic 35, 61, false, [0, 3, 0, 0, 3065, 3066, 1012, 3067], mX7_leadsOn), am_ce0, am_ce0, (.ifCond .eq 20, 64, false, [81], am_noM), am_ce0, am_ce0],
  [(.aload_n 0, 65, false, [], am_noM), (.iconst 3, 66, false, [], am_noM), (.iload_n 3, 67, false, [], am_noM), (.imul, 68, false, [], am_noM), (.iconst 2, 69, false, [], am_noM), (.iadd, 70, false, [], am_noM), (.invokevirtual 31, 73, false, [2, 10, 0, 0, 3061, 3062, 3063, 1002, 3064], mX10_byteAt), am_ce0, am_ce0, (.iload_n 3, 74, false, [], am_noM), (.iload_n 2, 75, false, [], am_noM), (.invokestatic 35, 78, false, [0, 3, 0, 0, 3065, 3066, 1012, 3067], mX7_leadsOn), am_ce0, am_ce0, (.ifCond .ne 5, 81, false, [83], am_noM), am_ce0],
  [am_ce0, (.iconst 0, 82, false, [], am_noM), (.ireturn, 83, false, [1], am_noM), (.iinc 3 1, 86, false, [], am_noM), am_ce0, am_ce0, (.goto (-55), 89, false, [31], am_noM), am_ce0, am_ce0, (.iconst 1, 90, false, [], am_noM), (.ireturn, 91, false, [1], am_noM)]]
def kX7_leadsOn : List (List CE) := [[(.iload_n 0, 1, false, [], am_noM), (.sipush 255, 4, false, [], am_noM), am_ce0, am_ce0, (.if_icmp .eq 13, 7, false, [17], am_noM), am_ce0, am_ce0, (.iload_n 0, 8, false, [], am_noM), (.iload_n 1, 9, false, [], am_noM), (.if_icmp .le 12, 12, false, [21], am_noM), am_ce0, am_ce0, (.iload_n 0, 13, false, [], am_noM), (.iload_n 2, 14, false, [], am_noM), (.if_icmp .ge 7, 17, false, [21], am_noM), am_ce0],
  [am_ce0, (.iconst 1, 18, false, [], am_noM), (.goto 4, 21, false, [22], am_noM), am_ce0, am_ce0, (.iconst 0, 22, false, [], am_noM), (.ireturn, 23, false, [1], am_noM)]]
def kX7_build : List (List CE) := [[(.aload_n 0, 1, false, [], am_noM), (.aload_n 1, 2, false, [], am_noM), (.getfield 28, 5, false, [10, 1, 1040], am_noM), am_ce0, am_ce0, (.iconst 3, 6, false, [], am_noM), (.idiv, 7, false, [], am_noM), (.bipush 12, 9, false, [], am_noM), am_ce0, (.invokestatic 39, 12, false, [2, 3072, 3073, 1015, 3074], am_noM), am_ce0, am_ce0, (.putfield 24, 15, false, [7, 3, 2189], am_noM), am_ce0, am_ce0, (.iconst 0, 16, false, [], am_noM)],
  [(.istore_n 3, 17, false, [], am_noM), (.iload_n 3, 18, true, [], am_noM), (.aload_n 0, 19, false, [], am_noM), (.getfield 24, 22, false, [7, 3, 2189], am_noM), am_ce0, am_ce0, (.if_icmp .ge 69, 25, false, [91], am_noM), am_ce0, am_ce0, (.aload_n 1, 26, false, [], am_noM), (.iconst 3, 27, false, [], am_noM), (.iload_n 3, 28, false, [], am_noM), (.imul, 29, false, [], am_noM), (.invokevirtual 31, 32, false, [2, 10, 0, 0, 3061, 3062, 3063, 1002, 3064], mX10_byteAt), am_ce0, am_ce0],
  [(.istore 4, 34, false, [], am_noM), am_ce0, (.aload_n 0, 35, false, [], am_noM), (.getfield 11, 38, false, [7, 0, 2186], am_noM), am_ce0, am_ce0, (.iload_n 3, 39, false, [], am_noM), (.iload 4, 41, false, [], am_noM), am_ce0, (.aload_n 2, 42, false, [], am_noM), (.arraylength, 43, false, [], am_noM), (.if_icmp .ge 10, 46, false, [53], am_noM), am_ce0, am_ce0, (.aload_n 2, 47, false, [], am_noM), (.iload 4, 49, false, [], am_noM)],
  [am_ce0, (.aaload, 50, false, [], am_noM), (.goto 4, 53, false, [54], am_noM), am_ce0, am_ce0, (.aconst_null, 54, false, [], am_noM), (.aastore, 55, false, [], am_noM), (.aload_n 0, 56, false, [], am_noM), (.getfield 17, 59, false, [7, 1, 2187], am_noM), am_ce0, am_ce0, (.iload_n 3, 60, false, [], am_noM), (.aload_n 1, 61, false, [], am_noM), (.iconst 3, 62, false, [], am_noM), (.iload_n 3, 63, false, [], am_noM), (.imul, 64, false, [], am_noM)],
  [(.iconst 1, 65, false, [], am_noM), (.iadd, 66, false, [], am_noM), (.invokevirtual 31, 69, false, [2, 10, 0, 0, 3061, 3062, 3063, 1002, 3064], mX10_byteAt), am_ce0, am_ce0, (.iastore, 70, false, [], am_noM), (.aload_n 0, 71, false, [], am_noM), (.getfield 21, 74, false, [7, 2, 2188], am_noM), am_ce0, am_ce0, (.iload_n 3, 75, false, [], am_noM), (.aload_n 1, 76, false, [], am_noM), (.iconst 3, 77, false, [], am_noM), (.iload_n 3, 78, false, [], am_noM), (.imul, 79, false, [], am_noM), (.iconst 2, 80, false, [], am_noM)],
  [(.iadd, 81, false, [], am_noM), (.invokevirtual 31, 84, false, [2, 10, 0, 0, 3061, 3062, 3063, 1002, 3064], mX10_byteAt), am_ce0, am_ce0, (.iastore, 85, false, [], am_noM), (.iinc 3 1, 88, false, [], am_noM), am_ce0, am_ce0, (.goto (-71), 91, false, [17], am_noM), am_ce0, am_ce0, (.return_, 92, false, [], am_noM)]]
def kX7_boardAt : List (List CE) := [[(.iload_n 1, 1, false, [], am_noM), (.ifCond .lt 26, 4, false, [27], am_noM), am_ce0, am_ce0, (.iload_n 1, 5, false, [], am_noM), (.aload_n 0, 6, false, [], am_noM), (.getfield 24, 9, false, [7, 3, 2189], am_noM), am_ce0, am_ce0, (.if_icmp .ge 18, 12, false, [27], am_noM), am_ce0, am_ce0, (.iload_n 1, 13, false, [], am_noM), (.bipush 12, 15, false, [], am_noM), am_ce0, (.if_icmp .ge 12, 18, false, [27], am_noM)],
  [am_ce0, am_ce0, (.aload_n 0, 19, false, [], am_noM), (.getfield 11, 22, false, [7, 0, 2186], am_noM), am_ce0, am_ce0, (.iload_n 1, 23, false, [], am_noM), (.aaload, 24, false, [], am_noM), (.goto 4, 27, false, [28], am_noM), am_ce0, am_ce0, (.aconst_null, 28, false, [], am_noM), (.areturn, 29, false, [], am_noM)]]
def kX7_leadsTo : List (List CE) := [[(.iload_n 1, 1, false, [], am_noM), (.ifCond .lt 17, 4, false, [18], am_noM), am_ce0, am_ce0, (.iload_n 1, 5, false, [], am_noM), (.aload_n 0, 6, false, [], am_noM), (.getfield 24, 9, false, [7, 3, 2189], am_noM), am_ce0, am_ce0, (.if_icmp .ge 9, 12, false, [18], am_noM), am_ce0, am_ce0, (.iload_n 1, 13, false, [], am_noM), (.bipush 12, 15, false, [], am_noM), am_ce0, (.if_icmp .lt 7, 18, false, [22], am_noM)],
  [am_ce0, am_ce0, (.sipush 255, 21, false, [], am_noM), am_ce0, am_ce0, (.ireturn, 22, false, [0], am_noM), (.iload_n 2, 23, false, [], am_noM), (.iload_n 1, 24, false, [], am_noM), (.iushr, 25, false, [], am_noM), (.iconst 1, 26, false, [], am_noM), (.iand, 27, false, [], am_noM), (.ifCond .ne 12, 30, false, [39], am_noM), am_ce0, am_ce0, (.aload_n 0, 31, false, [], am_noM), (.getfield 17, 34, false, [7, 1, 2187], am_noM)],
  [am_ce0, am_ce0, (.iload_n 1, 35, false, [], am_noM), (.iaload, 36, false, [], am_noM), (.goto 9, 39, false, [45], am_noM), am_ce0, am_ce0, (.aload_n 0, 40, false, [], am_noM), (.getfield 21, 43, false, [7, 2, 2188], am_noM), am_ce0, am_ce0, (.iload_n 1, 44, false, [], am_noM), (.iaload, 45, false, [], am_noM), (.ireturn, 46, false, [0], am_noM)]]
def kX7_carryOn : List (List CE) := [[(.iconst 0, 1, false, [], am_noM), (.istore_n 3, 2, false, [], am_noM), (.aload_n 0, 3, false, [], am_noM), (.aload_n 1, 4, false, [], am_noM), (.getfield 45, 7, false, [0, 1, 2023], am_noM), am_ce0, am_ce0, (.iload_n 2, 8, false, [], am_noM), (.invokevirtual 50, 11, false, [3, 7, 0, 0, 3123, 3125, 3, 1012, 3126], mX7_leadsTo), am_ce0, am_ce0, (.istore 4, 13, false, [], am_noM), am_ce0, (.iconst 0, 14, false, [], am_noM), (.istore 5, 16, false, [], am_noM), am_ce0],
  [(.iload 5, 18, true, [], am_noM), am_ce0, (.bipush 12, 20, false, [], am_noM), am_ce0, (.if_icmp .ge 63, 23, false, [83], am_noM), am_ce0, am_ce0, (.aload_n 0, 24, false, [], am_noM), (.iload 4, 26, false, [], am_noM), am_ce0, (.invokevirtual 53, 29, false, [2, 7, 0, 0, 3127, 3100, 3101, 1012, 3102], mX7_boardAt), am_ce0, am_ce0, (.astore 6, 31, false, [], am_noM), am_ce0, (.aload 6, 33, false, [], am_noM)],
  [am_ce0, (.ifnull 50, 36, false, [83], am_noM), am_ce0, am_ce0, (.aload_n 1, 37, false, [], am_noM), (.getfield 57, 40, false, [0, 2, 2026], am_noM), am_ce0, am_ce0, (.aload 6, 42, false, [], am_noM), am_ce0, (.getfield 60, 45, false, [1, 0, 3031], am_noM), am_ce0, am_ce0, (.if_icmp .ge 6, 48, false, [51], am_noM), am_ce0, am_ce0],
  [(.goto 35, 51, false, [83], am_noM), am_ce0, am_ce0, (.aload_n 1, 52, false, [], am_noM), (.dup, 53, false, [], am_noM), (.getfield 57, 56, false, [0, 2, 2026], am_noM), am_ce0, am_ce0, (.aload 6, 58, false, [], am_noM), am_ce0, (.getfield 60, 61, false, [1, 0, 3031], am_noM), am_ce0, am_ce0, (.isub, 62, false, [], am_noM), (.putfield 57, 65, false, [0, 2, 2026], am_noM), am_ce0],
  [am_ce0, (.iinc 3 1, 68, false, [], am_noM), am_ce0, am_ce0, (.aload_n 0, 69, false, [], am_noM), (.iload 4, 71, false, [], am_noM), am_ce0, (.iload_n 2, 72, false, [], am_noM), (.invokevirtual 50, 75, false, [3, 7, 0, 0, 3123, 3125, 3, 1012, 3126], mX7_leadsTo), am_ce0, am_ce0, (.istore 4, 77, false, [], am_noM), am_ce0, (.iinc 5 1, 80, false, [], am_noM), am_ce0, am_ce0],
  [(.goto (-64), 83, false, [16], am_noM), am_ce0, am_ce0, (.aload_n 1, 84, false, [], am_noM), (.iload 4, 86, false, [], am_noM), am_ce0, (.putfield 45, 89, false, [0, 1, 2023], am_noM), am_ce0, am_ce0, (.iload_n 3, 90, false, [], am_noM), (.ireturn, 91, false, [0], am_noM)]]
def kX8_init : List (List CE) := [[(.aload_n 0, 1, false, [], am_noM), (.invokespecial 3, 4, false, [1, 1179, 1030, 1031], am_noM), am_ce0, am_ce0, (.aload_n 0, 5, false, [], am_noM), (.bipush 24, 7, false, [], am_noM), am_ce0, (.newarray .int, 9, false, [49, 24, 1074], am_noM), am_ce0, (.putfield 9, 12, false, [8, 0, 1180], am_noM), am_ce0, am_ce0, (.aload_n 0, 13, false, [], am_noM), (.bipush 24, 15, false, [], am_noM), am_ce0, (.newarray .int, 17, false, [50, 24, 1074], am_noM)],
  [am_ce0, (.putfield 15, 20, false, [8, 1, 1181], am_noM), am_ce0, am_ce0, (.aload_n 0, 21, false, [], am_noM), (.bipush 24, 23, false, [], am_noM), am_ce0, (.newarray .int, 25, false, [51, 24, 1074], am_noM), am_ce0, (.putfield 18, 28, false, [8, 2, 1182], am_noM), am_ce0, am_ce0, (.aload_n 0, 29, false, [], am_noM), (.iconst 0, 30, false, [], am_noM), (.putfield 21, 33, false, [8, 3, 1183], am_noM), am_ce0],
  [am_ce0, (.aload_n 0, 34, false, [], am_noM), (.iconst 0, 35, false, [], am_noM), (.putfield 25, 38, false, [8, 4, 1189], am_noM), am_ce0, am_ce0, (.return_, 39, false, [], am_noM)]]
def kX8_clear : List (List CE) := [[(.aload_n 0, 1, false, [], am_noM), (.iconst 0, 2, false, [], am_noM), (.putfield 21, 5, false, [8, 3, 1183], am_noM), am_ce0, am_ce0, (.aload_n 0, 6, false, [], am_noM), (.iconst 0, 7, false, [], am_noM), (.putfield 25, 10, false, [8, 4, 1189], am_noM), am_ce0, am_ce0, (.return_, 11, false, [], am_noM)]]
def kX8_is : List (List CE) := [[(.iload_n 1, 1, false, [], am_noM), (.ifCond .lt 21, 4, false, [22], am_noM), am_ce0, am_ce0, (.iload_n 1, 5, false, [], am_noM), (.aload_n 0, 6, false, [], am_noM), (.getfield 21, 9, false, [8, 3, 1183], am_noM), am_ce0, am_ce0, (.if_icmp .ge 13, 12, false, [22], am_noM), am_ce0, am_ce0, (.iload_n 1, 13, false, [], am_noM), (.bipush 24, 15, false, [], am_noM), am_ce0, (.if_icmp .ge 7, 18, false, [22], am_noM)],
  [am_ce0, am_ce0, (.iconst 1, 19, false, [], am_noM), (.goto 4, 22, false, [23], am_noM), am_ce0, am_ce0, (.iconst 0, 23, false, [], am_noM), (.ireturn, 24, false, [1], am_noM)]]
def kX8_tickOf : List (List CE) := [[(.aload_n 0, 1, false, [], am_noM), (.iload_n 1, 2, false, [], am_noM), (.invokevirtual 29, 5, false, [2, 8, 0, 0, 4087, 4089, 17, 1007, 4090], mX8_is), am_ce0, am_ce0, (.ifCond .eq 12, 8, false, [17], am_noM), am_ce0, am_ce0, (.aload_n 0, 9, false, [], am_noM), (.getfield 9, 12, false, [8, 0, 1180], am_noM), am_ce0, am_ce0, (.iload_n 1, 13, false, [], am_noM), (.iaload, 14, false, [], am_noM), (.goto 4, 17, false, [18], am_noM), am_ce0],
  [am_ce0, (.iconst (-1), 18, false, [], am_noM), (.ireturn, 19, false, [0], am_noM)]]
def kX8_machineOf : List (List CE) := [[(.aload_n 0, 1, false, [], am_noM), (.iload_n 1, 2, false, [], am_noM), (.invokevirtual 29, 5, false, [2, 8, 0, 0, 4087, 4089, 17, 1007, 4090], mX8_is), am_ce0, am_ce0, (.ifCond .eq 12, 8, false, [17], am_noM), am_ce0, am_ce0, (.aload_n 0, 9, false, [], am_noM), (.getfield 15, 12, false, [8, 1, 1181], am_noM), am_ce0, am_ce0, (.iload_n 1, 13, false, [], am_noM), (.iaload, 14, false, [], am_noM), (.goto 4, 17, false, [18], am_noM), am_ce0],
  [am_ce0, (.iconst (-1), 18, false, [], am_noM), (.ireturn, 19, false, [0], am_noM)]]
def kX8_numberOf : List (List CE) := [[(.aload_n 0, 1, false, [], am_noM), (.iload_n 1, 2, false, [], am_noM), (.invokevirtual 29, 5, false, [2, 8, 0, 0, 4087, 4089, 17, 1007, 4090], mX8_is), am_ce0, am_ce0, (.ifCond .eq 12, 8, false, [17], am_noM), am_ce0, am_ce0, (.aload_n 0, 9, false, [], am_noM), (.getfield 18, 12, false, [8, 2, 1182], am_noM), am_ce0, am_ce0, (.iload_n 1, 13, false, [], am_noM), (.iaload, 14, false, [], am_noM), (.goto 4, 17, false, [18], am_noM), am_ce0],
  [am_ce0, (.iconst (-1), 18, false, [], am_noM), (.ireturn, 19, false, [0], am_noM)]]
def kX8_add : List (List CE) := [[(.aload_n 0, 1, false, [], am_noM), (.getfield 21, 4, false, [8, 3, 1183], am_noM), am_ce0, am_ce0, (.ifCond .lt 12, 7, false, [16], am_noM), am_ce0, am_ce0, (.aload_n 0, 8, false, [], am_noM), (.getfield 21, 11, false, [8, 3, 1183], am_noM), am_ce0, am_ce0, (.bipush 24, 13, false, [], am_noM), am_ce0, (.if_icmp .lt 9, 16, false, [22], am_noM), am_ce0, am_ce0],
  [(.aload_n 0, 17, false, [], am_noM), (.iconst 1, 18, false, [], am_noM), (.putfield 25, 21, false, [8, 4, 1189], am_noM), am_ce0, am_ce0, (.return_, 22, false, [], am_noM), (.aload_n 0, 23, false, [], am_noM), (.getfield 9, 26, false, [8, 0, 1180], am_noM), am_ce0, am_ce0, (.aload_n 0, 27, false, [], am_noM), (.getfield 21, 30, false, [8, 3, 1183], am_noM), am_ce0, am_ce0, (.iload_n 1, 31, false, [], am_noM), (.iastore, 32, false, [], am_noM)],
  [(.aload_n 0, 33, false, [], am_noM), (.getfield 15, 36, false, [8, 1, 1181], am_noM), am_ce0, am_ce0, (.aload_n 0, 37, false, [], am_noM), (.getfield 21, 40, false, [8, 3, 1183], am_noM), am_ce0, am_ce0, (.iload_n 2, 41, false, [], am_noM), (.iastore, 42, false, [], am_noM), (.aload_n 0, 43, false, [], am_noM), (.getfield 18, 46, false, [8, 2, 1182], am_noM), am_ce0, am_ce0, (.aload_n 0, 47, false, [], am_noM), (.getfield 21, 50, false, [8, 3, 1183], am_noM)],
  [am_ce0, am_ce0, (.iload_n 3, 51, false, [], am_noM), (.iastore, 52, false, [], am_noM), (.aload_n 0, 53, false, [], am_noM), (.dup, 54, false, [], am_noM), (.getfield 21, 57, false, [8, 3, 1183], am_noM), am_ce0, am_ce0, (.iconst 1, 58, false, [], am_noM), (.iadd, 59, false, [], am_noM), (.putfield 21, 62, false, [8, 3, 1183], am_noM), am_ce0, am_ce0, (.return_, 63, false, [], am_noM)]]
def kX8_addAll : List (List CE) := [[(.aload_n 0, 1, false, [], am_noM), (.aload_n 0, 2, false, [], am_noM), (.getfield 25, 5, false, [8, 4, 1189], am_noM), am_ce0, am_ce0, (.ifCond .ne 10, 8, false, [15], am_noM), am_ce0, am_ce0, (.aload_n 1, 9, false, [], am_noM), (.getfield 25, 12, false, [8, 4, 1189], am_noM), am_ce0, am_ce0, (.ifCond .eq 7, 15, false, [19], am_noM), am_ce0, am_ce0, (.iconst 1, 16, false, [], am_noM)],
  [(.goto 4, 19, false, [20], am_noM), am_ce0, am_ce0, (.iconst 0, 20, false, [], am_noM), (.putfield 25, 23, false, [8, 4, 1189], am_noM), am_ce0, am_ce0, (.iconst 0, 24, false, [], am_noM), (.istore_n 3, 25, false, [], am_noM), (.iload_n 3, 26, true, [], am_noM), (.aload_n 1, 27, false, [], am_noM), (.getfield 21, 30, false, [8, 3, 1183], am_noM), am_ce0, am_ce0, (.if_icmp .ge 30, 33, false, [60], am_noM), am_ce0],
  [am_ce0, (.aload_n 0, 34, false, [], am_noM), (.aload_n 1, 35, false, [], am_noM), (.iload_n 3, 36, false, [], am_noM), (.invokevirtual 33, 39, false, [2, 8, 0, 0, 4083, 4084, 4085, 1007, 4086], mX8_tickOf), am_ce0, am_ce0, (.iload_n 2, 40, false, [], am_noM), (.iadd, 41, false, [], am_noM), (.aload_n 1, 42, false, [], am_noM), (.iload_n 3, 43, false, [], am_noM), (.invokevirtual 37, 46, false, [2, 8, 0, 0, 4091, 4092, 4093, 1007, 4094], mX8_machineOf), am_ce0, am_ce0, (.aload_n 1, 47, false, [], am_noM), (.iload_n 3, 48, false, [], am_noM)],
  [(.invokevirtual 40, 51, false, [2, 8, 0, 0, 4095, 4096, 4097, 1007, 4098], mX8_numberOf), am_ce0, am_ce0, (.invokevirtual 43, 54, false, [4, 8, 0, 0, 4099, 4048, 4049, 1007, 4050], mX8_add), am_ce0, am_ce0, (.iinc 3 1, 57, false, [], am_noM), am_ce0, am_ce0, (.goto (-32), 60, false, [25], am_noM), am_ce0, am_ce0, (.return_, 61, false, [], am_noM)]]
def kX8_repeat : List (List CE) := [[(.aload_n 0, 1, false, [], am_noM), (.getfield 21, 4, false, [8, 3, 1183], am_noM), am_ce0, am_ce0, (.istore 4, 6, false, [], am_noM), am_ce0, (.iconst 1, 7, false, [], am_noM), (.istore 5, 9, false, [], am_noM), am_ce0, (.iload 5, 11, true, [], am_noM), am_ce0, (.iload_n 2, 12, false, [], am_noM), (.if_icmp .ge 52, 15, false, [64], am_noM), am_ce0, am_ce0, (.iload_n 1, 16, false, [], am_noM)],
  [(.istore 6, 18, false, [], am_noM), am_ce0, (.iload 6, 20, true, [], am_noM), am_ce0, (.iload 4, 22, false, [], am_noM), am_ce0, (.if_icmp .ge 36, 25, false, [58], am_noM), am_ce0, am_ce0, (.aload_n 0, 26, false, [], am_noM), (.aload_n 0, 27, false, [], am_noM), (.iload 6, 29, false, [], am_noM), am_ce0, (.invokevirtual 33, 32, false, [2, 8, 0, 0, 4083, 4084, 4085, 1007, 4086], mX8_tickOf), am_ce0, am_ce0],
  [(.iload 5, 34, false, [], am_noM), am_ce0, (.iload_n 3, 35, false, [], am_noM), (.imul, 36, false, [], am_noM), (.iadd, 37, false, [], am_noM), (.aload_n 0, 38, false, [], am_noM), (.iload 6, 40, false, [], am_noM), am_ce0, (.invokevirtual 37, 43, false, [2, 8, 0, 0, 4091, 4092, 4093, 1007, 4094], mX8_machineOf), am_ce0, am_ce0, (.aload_n 0, 44, false, [], am_noM), (.iload 6, 46, false, [], am_noM), am_ce0, (.invokevirtual 40, 49, false, [2, 8, 0, 0, 4095, 4096, 4097, 1007, 4098], mX8_numberOf), am_ce0],
  [am_ce0, (.invokevirtual 43, 52, false, [4, 8, 0, 0, 4099, 4048, 4049, 1007, 4050], mX8_add), am_ce0, am_ce0, (.iinc 6 1, 55, false, [], am_noM), am_ce0, am_ce0, (.goto (-37), 58, false, [18], am_noM), am_ce0, am_ce0, (.iinc 5 1, 61, false, [], am_noM), am_ce0, am_ce0, (.goto (-52), 64, false, [9], am_noM), am_ce0, am_ce0],
  [(.return_, 65, false, [], am_noM)]]
def kX8_lastTick : List (List CE) := [[(.iconst 0, 1, false, [], am_noM), (.istore_n 1, 2, false, [], am_noM), (.iconst 0, 3, false, [], am_noM), (.istore_n 2, 4, false, [], am_noM), (.iload_n 2, 5, true, [], am_noM), (.aload_n 0, 6, false, [], am_noM), (.getfield 21, 9, false, [8, 3, 1183], am_noM), am_ce0, am_ce0, (.if_icmp .ge 19, 12, false, [28], am_noM), am_ce0, am_ce0, (.iload_n 1, 13, false, [], am_noM), (.aload_n 0, 14, false, [], am_noM), (.iload_n 2, 15, false, [], am_noM), (.invokevirtual 33, 18, false, [2, 8, 0, 0, 4083, 4084, 4085, 1007, 4086], mX8_tickOf)],
  [am_ce0, am_ce0, (.invokestatic 47, 21, false, [1, 4116, 3109, 1015, 3110], am_noM), am_ce0, am_ce0, (.istore_n 1, 22, false, [], am_noM), (.iinc 2 1, 25, false, [], am_noM), am_ce0, am_ce0, (.goto (-21), 28, false, [4], am_noM), am_ce0, am_ce0, (.iload_n 1, 29, false, [], am_noM), (.ireturn, 30, false, [0], am_noM)]]
def kX8_becomes : List (List CE) := [[(.aload_n 0, 1, false, [], am_noM), (.invokevirtual 53, 4, false, [1, 8, 0, 0, 4121, 3174, 3175, 1007, 3176], mX8_clear), am_ce0, am_ce0, (.aload_n 0, 5, false, [], am_noM), (.aload_n 1, 6, false, [], am_noM), (.iconst 0, 7, false, [], am_noM), (.invokevirtual 56, 10, false, [3, 8, 0, 0, 4122, 4080, 4081, 1007, 4082], mX8_addAll), am_ce0, am_ce0, (.iconst 1, 11, false, [], am_noM), (.istore_n 2, 12, false, [], am_noM), (.iload_n 2, 13, true, [], am_noM), (.aload_n 0, 14, false, [], am_noM), (.getfield 21, 17, false, [8, 3, 1183], am_noM), am_ce0],
  [am_ce0, (.if_icmp .ge 14, 20, false, [31], am_noM), am_ce0, am_ce0, (.aload_n 0, 21, false, [], am_noM), (.iload_n 2, 22, false, [], am_noM), (.invokevirtual 60, 25, false, [2, 8, 0, 0, 4123, 4125, 20, 1007, 4126], mX8_sink), am_ce0, am_ce0, (.iinc 2 1, 28, false, [], am_noM), am_ce0, am_ce0, (.goto (-16), 31, false, [12], am_noM), am_ce0, am_ce0, (.return_, 32, false, [], am_noM)]]
def kX8_sink : List (List CE) := [[(.iload_n 1, 1, false, [], am_noM), (.istore_n 2, 2, false, [], am_noM), (.iload_n 2, 3, true, [], am_noM), (.ifCond .le 48, 6, false, [51], am_noM), am_ce0, am_ce0, (.aload_n 0, 7, false, [], am_noM), (.iload_n 2, 8, false, [], am_noM), (.iconst 1, 9, false, [], am_noM), (.isub, 10, false, [], am_noM), (.invokevirtual 33, 13, false, [2, 8, 0, 0, 4083, 4084, 4085, 1007, 4086], mX8_tickOf), am_ce0, am_ce0, (.aload_n 0, 14, false, [], am_noM), (.iload_n 2, 15, false, [], am_noM), (.invokevirtual 33, 18, false, [2, 8, 0, 0, 4083, 4084, 4085, 1007, 4086], mX8_tickOf)],
  [am_ce0, am_ce0, (.if_icmp .le 33, 21, false, [51], am_noM), am_ce0, am_ce0, (.aload_n 0, 22, false, [], am_noM), (.getfield 9, 25, false, [8, 0, 1180], am_noM), am_ce0, am_ce0, (.iload_n 2, 26, false, [], am_noM), (.invokestatic 64, 29, false, [0, 2, 0, 0, 4127, 4128, 1007, 4129], mX8_swap), am_ce0, am_ce0, (.aload_n 0, 30, false, [], am_noM), (.getfield 15, 33, false, [8, 1, 1181], am_noM), am_ce0],
  [am_ce0, (.iload_n 2, 34, false, [], am_noM), (.invokestatic 64, 37, false, [0, 2, 0, 0, 4127, 4128, 1007, 4129], mX8_swap), am_ce0, am_ce0, (.aload_n 0, 38, false, [], am_noM), (.getfield 18, 41, false, [8, 2, 1182], am_noM), am_ce0, am_ce0, (.iload_n 2, 42, false, [], am_noM), (.invokestatic 64, 45, false, [0, 2, 0, 0, 4127, 4128, 1007, 4129], mX8_swap), am_ce0, am_ce0, (.iinc 2 (-1), 48, false, [], am_noM), am_ce0, am_ce0],
  [(.goto (-46), 51, false, [2], am_noM), am_ce0, am_ce0, (.return_, 52, false, [], am_noM)]]
def kX8_swap : List (List CE) := [[(.iload_n 1, 1, false, [], am_noM), (.ifCond .le 27, 4, false, [28], am_noM), am_ce0, am_ce0, (.iload_n 1, 5, false, [], am_noM), (.aload_n 0, 6, false, [], am_noM), (.arraylength, 7, false, [], am_noM), (.if_icmp .ge 21, 10, false, [28], am_noM), am_ce0, am_ce0, (.aload_n 0, 11, false, [], am_noM), (.iload_n 1, 12, false, [], am_noM), (.iconst 1, 13, false, [], am_noM), (.isub, 14, false, [], am_noM), (.iaload, 15, false, [], am_noM), (.istore_n 2, 16, false, [], am_noM)],
  [(.aload_n 0, 17, false, [], am_noM), (.iload_n 1, 18, false, [], am_noM), (.iconst 1, 19, false, [], am_noM), (.isub, 20, false, [], am_noM), (.aload_n 0, 21, false, [], am_noM), (.iload_n 1, 22, false, [], am_noM), (.iaload, 23, false, [], am_noM), (.iastore, 24, false, [], am_noM), (.aload_n 0, 25, false, [], am_noM), (.iload_n 1, 26, false, [], am_noM), (.iload_n 2, 27, false, [], am_noM), (.iastore, 28, false, [], am_noM), (.return_, 29, false, [], am_noM)]]
def kX9_init : List (List CE) := [[(.aload_n 0, 1, false, [], am_noM), (.invokespecial 3, 4, false, [1, 1173, 1030, 1031], am_noM), am_ce0, am_ce0, (.aload_n 0, 5, false, [], am_noM), (.new 9, 8, false, [8, 5, 1174, 1175, 1007], am_noM), am_ce0, am_ce0, (.dup, 9, false, [], am_noM), (.invokespecial 11, 12, false, [2, 1, 3, 72, 278, 108], mX8_init), am_ce0, am_ce0, (.putfield 12, 15, false, [9, 0, 1203], am_noM), am_ce0, am_ce0, (.aload_n 0, 16, false, [], am_noM)],
  [(.bipush 8, 18, false, [], am_noM), am_ce0, (.anewarray 9, 21, false, [], am_noM), am_ce0, am_ce0, (.putfield 18, 24, false, [9, 1, 1205], am_noM), am_ce0, am_ce0, (.aload_n 0, 25, false, [], am_noM), (.bipush 8, 27, false, [], am_noM), am_ce0, (.newarray .int, 29, false, [53, 8, 1074], am_noM), am_ce0, (.putfield 22, 32, false, [9, 2, 1206], am_noM), am_ce0, am_ce0],
  [(.aload_n 0, 33, false, [], am_noM), (.bipush 8, 35, false, [], am_noM), am_ce0, (.newarray .int, 37, false, [54, 8, 1074], am_noM), am_ce0, (.putfield 26, 40, false, [9, 3, 1207], am_noM), am_ce0, am_ce0, (.aload_n 0, 41, false, [], am_noM), (.iconst 0, 42, false, [], am_noM), (.putfield 29, 45, false, [9, 4, 1208], am_noM), am_ce0, am_ce0, (.aload_n 0, 46, false, [], am_noM), (.aload_n 0, 47, false, [], am_noM), (.getfield 12, 50, false, [9, 0, 1203], am_noM)],
  [am_ce0, am_ce0, (.putfield 33, 53, false, [9, 5, 1209], am_noM), am_ce0, am_ce0, (.aload_n 0, 54, false, [], am_noM), (.iconst 4, 55, false, [], am_noM), (.newarray .int, 57, false, [55, 4, 1074], am_noM), am_ce0, (.putfield 36, 60, false, [9, 6, 1210], am_noM), am_ce0, am_ce0, (.aload_n 0, 61, false, [], am_noM), (.iconst 4, 62, false, [], am_noM), (.newarray .int, 64, false, [56, 4, 1074], am_noM), am_ce0],
  [(.putfield 39, 67, false, [9, 7, 1211], am_noM), am_ce0, am_ce0, (.aload_n 0, 68, false, [], am_noM), (.iconst 4, 69, false, [], am_noM), (.newarray .int, 71, false, [57, 4, 1074], am_noM), am_ce0, (.putfield 42, 74, false, [9, 8, 1212], am_noM), am_ce0, am_ce0, (.aload_n 0, 75, false, [], am_noM), (.iconst 0, 76, false, [], am_noM), (.putfield 45, 79, false, [9, 9, 1213], am_noM), am_ce0, am_ce0, (.aload_n 0, 80, false, [], am_noM)],
  [(.iconst 0, 81, false, [], am_noM), (.putfield 48, 84, false, [9, 10, 1214], am_noM), am_ce0, am_ce0, (.aload_n 0, 85, false, [], am_noM), (.iconst 0, 86, false, [], am_noM), (.putfield 51, 89, false, [9, 11, 1216], am_noM), am_ce0, am_ce0, (.iconst 0, 90, false, [], am_noM), (.istore_n 1, 91, false, [], am_noM), (.iload_n 1, 92, true, [], am_noM), (.bipush 8, 94, false, [], am_noM), am_ce0, (.if_icmp .ge 22, 97, false, [116], am_noM), am_ce0],
  [am_ce0, (.aload_n 0, 98, false, [], am_noM), (.getfield 18, 101, false, [9, 1, 1205], am_noM), am_ce0, am_ce0, (.iload_n 1, 102, false, [], am_noM), (.new 9, 105, false, [8, 5, 1174, 1175, 1007], am_noM), am_ce0, am_ce0, (.dup, 106, false, [], am_noM), (.invokespecial 11, 109, false, [2, 1, 3, 72, 278, 108], mX8_init), am_ce0, am_ce0, (.aastore, 110, false, [], am_noM), (.iinc 1 1, 113, false, [], am_noM), am_ce0],
  [am_ce0, (.goto (-22), 116, false, [91], am_noM), am_ce0, am_ce0, (.return_, 117, false, [], am_noM)]]
def kX9_understands : List (List CE) := [[(.aload_n 0, 1, false, [], am_noM), (.aload_n 1, 2, false, [], am_noM), (.invokevirtual 54, 5, false, [2, 9, 0, 0, 3165, 3167, 5, 1006, 3168], mX9_begin), am_ce0, am_ce0, (.iconst 0, 6, false, [], am_noM), (.istore_n 3, 7, false, [], am_noM), (.iload_n 3, 8, true, [], am_noM), (.sipush 640, 11, false, [], am_noM), am_ce0, am_ce0, (.if_icmp .gt 143, 14, false, [154], am_noM), am_ce0, am_ce0, (.aload_n 0, 15, false, [], am_noM), (.getfield 48, 18, false, [9, 10, 1214], am_noM)],
  [am_ce0, am_ce0, (.ifCond .ne 136, 21, false, [154], am_noM), am_ce0, am_ce0, (.aload_n 1, 22, false, [], am_noM), (.invokevirtual 60, 25, false, [1, 10, 0, 0, 3177, 3178, 3179, 1002, 3180], mX10_nextToken), am_ce0, am_ce0, (.aload_n 1, 26, false, [], am_noM), (.ldc 63, 28, false, [1, 0, 777], am_noM), am_ce0, (.invokevirtual 65, 31, false, [2, 10, 0, 0, 3197, 3198, 3199, 1002, 3200], mX10_isWord), am_ce0, am_ce0, (.ifCond .eq 12, 34, false, [43], am_noM)],
  [am_ce0, am_ce0, (.aload_n 0, 35, false, [], am_noM), (.aload_n 1, 36, false, [], am_noM), (.aload_n 2, 37, false, [], am_noM), (.invokevirtual 69, 40, false, [3, 9, 0, 0, 4009, 4011, 7, 1006, 4012], mX9_readUse), am_ce0, am_ce0, (.goto 108, 43, false, [148], am_noM), am_ce0, am_ce0, (.aload_n 1, 44, false, [], am_noM), (.ldc 73, 46, false, [1, 8, 872], am_noM), am_ce0, (.invokevirtual 65, 49, false, [2, 10, 0, 0, 3197, 3198, 3199, 1002, 3200], mX10_isWord), am_ce0],
  [am_ce0, (.ifCond .eq 11, 52, false, [60], am_noM), am_ce0, am_ce0, (.aload_n 0, 53, false, [], am_noM), (.aload_n 1, 54, false, [], am_noM), (.invokevirtual 75, 57, false, [2, 9, 0, 0, 4052, 4054, 13, 1006, 4055], mX9_readTimes), am_ce0, am_ce0, (.goto 91, 60, false, [148], am_noM), am_ce0, am_ce0, (.aload_n 1, 61, false, [], am_noM), (.ldc 78, 63, false, [1, 6, 878], am_noM), am_ce0, (.invokevirtual 65, 66, false, [2, 10, 0, 0, 3197, 3198, 3199, 1002, 3200], mX10_isWord)],
  [am_ce0, am_ce0, (.ifCond .eq 11, 69, false, [77], am_noM), am_ce0, am_ce0, (.aload_n 0, 70, false, [], am_noM), (.aload_n 1, 71, false, [], am_noM), (.invokevirtual 80, 74, false, [2, 9, 0, 0, 4058, 4060, 14, 1006, 4061], mX9_readPlay), am_ce0, am_ce0, (.goto 74, 77, false, [148], am_noM), am_ce0, am_ce0, (.aload_n 1, 78, false, [], am_noM), (.ldc 83, 80, false, [1, 7, 894], am_noM), am_ce0],
  [(.invokevirtual 65, 83, false, [2, 10, 0, 0, 3197, 3198, 3199, 1002, 3200], mX10_isWord), am_ce0, am_ce0, (.ifCond .eq 11, 86, false, [94], am_noM), am_ce0, am_ce0, (.aload_n 0, 87, false, [], am_noM), (.aload_n 1, 88, false, [], am_noM), (.invokevirtual 85, 91, false, [2, 9, 0, 0, 4100, 4102, 18, 1006, 4103], mX9_readStorm), am_ce0, am_ce0, (.goto 57, 94, false, [148], am_noM), am_ce0, am_ce0, (.aload_n 1, 95, false, [], am_noM), (.ldc 88, 97, false, [1, 1, 895], am_noM)],
  [am_ce0, (.invokevirtual 65, 100, false, [2, 10, 0, 0, 3197, 3198, 3199, 1002, 3200], mX10_isWord), am_ce0, am_ce0, (.ifCond .eq 11, 103, false, [111], am_noM), am_ce0, am_ce0, (.aload_n 0, 104, false, [], am_noM), (.aload_n 1, 105, false, [], am_noM), (.invokevirtual 90, 108, false, [2, 9, 0, 0, 4104, 4106, 19, 1006, 4107], mX9_close), am_ce0, am_ce0, (.goto 40, 111, false, [148], am_noM), am_ce0, am_ce0, (.aload_n 1, 112, false, [], am_noM)],
  [(.getfield 93, 115, false, [10, 5, 1048], am_noM), am_ce0, am_ce0, (.ifCond .ne 24, 118, false, [139], am_noM), am_ce0, am_ce0, (.aload_n 0, 119, false, [], am_noM), (.getfield 45, 122, false, [9, 9, 1213], am_noM), am_ce0, am_ce0, (.ifCond .ne 17, 125, false, [139], am_noM), am_ce0, am_ce0, (.aload_n 0, 126, false, [], am_noM), (.getfield 33, 129, false, [9, 5, 1209], am_noM), am_ce0],
  [am_ce0, (.aload_n 0, 130, false, [], am_noM), (.getfield 12, 133, false, [9, 0, 1203], am_noM), am_ce0, am_ce0, (.if_acmp .ne 6, 136, false, [139], am_noM), am_ce0, am_ce0, (.goto 18, 139, false, [154], am_noM), am_ce0, am_ce0, (.aload_n 0, 140, false, [], am_noM), (.iconst 1, 141, false, [], am_noM), (.aload_n 1, 142, false, [], am_noM), (.getfield 96, 145, false, [10, 6, 1050], am_noM), am_ce0],
  [am_ce0, (.invokevirtual 99, 148, false, [3, 9, 0, 0, 4017, 4019, 9, 1006, 4020], mX9_fail), am_ce0, am_ce0, (.iinc 3 1, 151, false, [], am_noM), am_ce0, am_ce0, (.goto (-144), 154, false, [7], am_noM), am_ce0, am_ce0, (.aload_n 0, 155, false, [], am_noM), (.getfield 48, 158, false, [9, 10, 1214], am_noM), am_ce0, am_ce0, (.ifCond .ne 21, 161, false, [179], am_noM), am_ce0],
  [am_ce0, (.aload_n 1, 162, false, [], am_noM), (.getfield 103, 165, false, [10, 1, 1041], am_noM), am_ce0, am_ce0, (.sipush 600, 168, false, [], am_noM), am_ce0, am_ce0, (.if_icmp .le 11, 171, false, [179], am_noM), am_ce0, am_ce0, (.aload_n 0, 172, false, [], am_noM), (.iconst 1, 173, false, [], am_noM), (.sipush 600, 176, false, [], am_noM), am_ce0, am_ce0],
  [(.invokevirtual 99, 179, false, [3, 9, 0, 0, 4017, 4019, 9, 1006, 4020], mX9_fail), am_ce0, am_ce0, (.aload_n 0, 180, false, [], am_noM), (.getfield 48, 183, false, [9, 10, 1214], am_noM), am_ce0, am_ce0, (.ifCond .ne 35, 186, false, [218], am_noM), am_ce0, am_ce0, (.aload_n 0, 187, false, [], am_noM), (.getfield 12, 190, false, [9, 0, 1203], am_noM), am_ce0, am_ce0, (.getfield 106, 193, false, [8, 4, 1190], am_noM), am_ce0],
  [am_ce0, (.ifCond .ne 16, 196, false, [209], am_noM), am_ce0, am_ce0, (.aload_n 0, 197, false, [], am_noM), (.getfield 12, 200, false, [9, 0, 1203], am_noM), am_ce0, am_ce0, (.invokevirtual 110, 203, false, [1, 8, 0, 0, 4112, 4113, 4114, 1007, 4115], mX8_lastTick), am_ce0, am_ce0, (.sipush 4000, 206, false, [], am_noM), am_ce0, am_ce0, (.if_icmp .le 12, 209, false, [218], am_noM), am_ce0],
  [am_ce0, (.aload_n 0, 210, false, [], am_noM), (.iconst 4, 211, false, [], am_noM), (.aload_n 1, 212, false, [], am_noM), (.getfield 103, 215, false, [10, 1, 1041], am_noM), am_ce0, am_ce0, (.invokevirtual 99, 218, false, [3, 9, 0, 0, 4017, 4019, 9, 1006, 4020], mX9_fail), am_ce0, am_ce0, (.aload_n 0, 219, false, [], am_noM), (.getfield 48, 222, false, [9, 10, 1214], am_noM), am_ce0, am_ce0, (.ifCond .ne 7, 225, false, [229], am_noM), am_ce0],
  [am_ce0, (.iconst 1, 226, false, [], am_noM), (.goto 4, 229, false, [230], am_noM), am_ce0, am_ce0, (.iconst 0, 230, false, [], am_noM), (.ireturn, 231, false, [1], am_noM)]]
def kX9_begin : List (List CE) := [[(.aload_n 1, 1, false, [], am_noM), (.invokevirtual 114, 4, false, [1, 10, 0, 0, 3169, 3170, 3171, 1002, 3172], mX10_rewind), am_ce0, am_ce0, (.aload_n 0, 5, false, [], am_noM), (.getfield 12, 8, false, [9, 0, 1203], am_noM), am_ce0, am_ce0, (.invokevirtual 117, 11, false, [1, 8, 0, 0, 3173, 3174, 3175, 1007, 3176], mX8_clear), am_ce0, am_ce0, (.aload_n 0, 12, false, [], am_noM), (.aload_n 0, 13, false, [], am_noM), (.getfield 12, 16, false, [9, 0, 1203], am_noM), am_ce0, am_ce0],
  [(.putfield 33, 19, false, [9, 5, 1209], am_noM), am_ce0, am_ce0, (.aload_n 0, 20, false, [], am_noM), (.iconst 0, 21, false, [], am_noM), (.putfield 29, 24, false, [9, 4, 1208], am_noM), am_ce0, am_ce0, (.aload_n 0, 25, false, [], am_noM), (.iconst 0, 26, false, [], am_noM), (.putfield 45, 29, false, [9, 9, 1213], am_noM), am_ce0, am_ce0, (.aload_n 0, 30, false, [], am_noM), (.iconst 0, 31, false, [], am_noM), (.putfield 48, 34, false, [9, 10, 1214], am_noM)],
  [am_ce0, am_ce0, (.aload_n 0, 35, false, [], am_noM), (.iconst 0, 36, false, [], am_noM), (.putfield 51, 39, false, [9, 11, 1216], am_noM), am_ce0, am_ce0, (.return_, 40, false, [], am_noM)]]
def kX9_fail : List (List CE) := [[(.aload_n 0, 1, false, [], am_noM), (.getfield 48, 4, false, [9, 10, 1214], am_noM), am_ce0, am_ce0, (.ifCond .ne 13, 7, false, [17], am_noM), am_ce0, am_ce0, (.aload_n 0, 8, false, [], am_noM), (.iload_n 1, 9, false, [], am_noM), (.putfield 48, 12, false, [9, 10, 1214], am_noM), am_ce0, am_ce0, (.aload_n 0, 13, false, [], am_noM), (.iload_n 2, 14, false, [], am_noM), (.putfield 51, 17, false, [9, 11, 1216], am_noM), am_ce0],
  [am_ce0, (.return_, 18, false, [], am_noM)]]
def kX9_readUse : List (List CE) := [[(.aload_n 0, 1, false, [], am_noM), (.aload_n 1, 2, false, [], am_noM), (.iconst 0, 3, false, [], am_noM), (.sipush 2000, 6, false, [], am_noM), am_ce0, am_ce0, (.invokevirtual 120, 9, false, [4, 9, 0, 0, 4013, 4015, 8, 1006, 4016], mX9_readNumber), am_ce0, am_ce0, (.istore_n 3, 10, false, [], am_noM), (.aload_n 0, 11, false, [], am_noM), (.aload_n 1, 12, false, [], am_noM), (.ldc 124, 14, false, [1, 9, 842], am_noM), am_ce0, (.invokevirtual 126, 17, false, [3, 9, 0, 0, 4022, 4024, 10, 1006, 4025], mX9_readWord), am_ce0],
  [am_ce0, (.aload_n 0, 18, false, [], am_noM), (.aload_n 1, 19, false, [], am_noM), (.iconst 0, 20, false, [], am_noM), (.aload_n 2, 21, false, [], am_noM), (.getfield 130, 24, false, [5, 4, 1090], am_noM), am_ce0, am_ce0, (.iconst 1, 25, false, [], am_noM), (.isub, 26, false, [], am_noM), (.invokevirtual 120, 29, false, [4, 9, 0, 0, 4013, 4015, 8, 1006, 4016], mX9_readNumber), am_ce0, am_ce0, (.istore 4, 31, false, [], am_noM), am_ce0, (.iconst 1, 32, false, [], am_noM)],
  [(.istore 5, 34, false, [], am_noM), am_ce0, (.aload_n 0, 35, false, [], am_noM), (.getfield 48, 38, false, [9, 10, 1214], am_noM), am_ce0, am_ce0, (.ifCond .ne 60, 41, false, [98], am_noM), am_ce0, am_ce0, (.aload_n 1, 42, false, [], am_noM), (.invokevirtual 60, 45, false, [1, 10, 0, 0, 3177, 3178, 3179, 1002, 3180], mX10_nextToken), am_ce0, am_ce0, (.aload_n 1, 46, false, [], am_noM), (.ldc 133, 48, false, [1, 10, 847], am_noM), am_ce0],
  [(.invokevirtual 65, 51, false, [2, 10, 0, 0, 3197, 3198, 3199, 1002, 3200], mX10_isWord), am_ce0, am_ce0, (.ifCond .eq 30, 54, false, [81], am_noM), am_ce0, am_ce0, (.aload_n 0, 55, false, [], am_noM), (.aload_n 1, 56, false, [], am_noM), (.aload_n 2, 57, false, [], am_noM), (.iload 4, 59, false, [], am_noM), am_ce0, (.invokevirtual 135, 62, false, [2, 5, 0, 0, 4027, 4028, 4029, 1003, 4030], mX5_leastNumber), am_ce0, am_ce0, (.aload_n 2, 63, false, [], am_noM), (.iload 4, 65, false, [], am_noM)],
  [am_ce0, (.invokevirtual 139, 68, false, [2, 5, 0, 0, 4039, 4040, 4041, 1003, 4042], mX5_mostNumber), am_ce0, am_ce0, (.invokevirtual 120, 71, false, [4, 9, 0, 0, 4013, 4015, 8, 1006, 4016], mX9_readNumber), am_ce0, am_ce0, (.istore 5, 73, false, [], am_noM), am_ce0, (.aload_n 0, 74, false, [], am_noM), (.aload_n 1, 75, false, [], am_noM), (.invokevirtual 142, 78, false, [2, 9, 0, 0, 4043, 4045, 12, 1006, 4046], mX9_readSemicolon), am_ce0, am_ce0, (.goto 20, 81, false, [98], am_noM), am_ce0],
  [am_ce0, (.aload_n 1, 82, false, [], am_noM), (.getfield 93, 85, false, [10, 5, 1048], am_noM), am_ce0, am_ce0, (.iconst 3, 86, false, [], am_noM), (.if_icmp .eq 12, 89, false, [98], am_noM), am_ce0, am_ce0, (.aload_n 0, 90, false, [], am_noM), (.iconst 1, 91, false, [], am_noM), (.aload_n 1, 92, false, [], am_noM), (.getfield 96, 95, false, [10, 6, 1050], am_noM), am_ce0, am_ce0, (.invokevirtual 99, 98, false, [3, 9, 0, 0, 4017, 4019, 9, 1006, 4020], mX9_fail)],
  [am_ce0, am_ce0, (.aload_n 0, 99, false, [], am_noM), (.getfield 48, 102, false, [9, 10, 1214], am_noM), am_ce0, am_ce0, (.ifCond .ne 15, 105, false, [117], am_noM), am_ce0, am_ce0, (.aload_n 0, 106, false, [], am_noM), (.getfield 33, 109, false, [9, 5, 1209], am_noM), am_ce0, am_ce0, (.iload_n 3, 110, false, [], am_noM), (.iload 4, 112, false, [], am_noM), am_ce0],
  [(.iload 5, 114, false, [], am_noM), am_ce0, (.invokevirtual 145, 117, false, [4, 8, 0, 0, 4047, 4048, 4049, 1007, 4050], mX8_add), am_ce0, am_ce0, (.return_, 118, false, [], am_noM)]]
def kX9_readTimes : List (List CE) := [[(.aload_n 0, 1, false, [], am_noM), (.getfield 45, 4, false, [9, 9, 1213], am_noM), am_ce0, am_ce0, (.ifCond .lt 11, 7, false, [15], am_noM), am_ce0, am_ce0, (.aload_n 0, 8, false, [], am_noM), (.getfield 45, 11, false, [9, 9, 1213], am_noM), am_ce0, am_ce0, (.iconst 4, 12, false, [], am_noM), (.if_icmp .lt 13, 15, false, [25], am_noM), am_ce0, am_ce0, (.aload_n 0, 16, false, [], am_noM)],
  [(.iconst 3, 17, false, [], am_noM), (.aload_n 1, 18, false, [], am_noM), (.getfield 96, 21, false, [10, 6, 1050], am_noM), am_ce0, am_ce0, (.invokevirtual 99, 24, false, [3, 9, 0, 0, 4017, 4019, 9, 1006, 4020], mX9_fail), am_ce0, am_ce0, (.return_, 25, false, [], am_noM), (.aload_n 0, 26, false, [], am_noM), (.aload_n 1, 27, false, [], am_noM), (.iconst 1, 28, false, [], am_noM), (.bipush 20, 30, false, [], am_noM), am_ce0, (.invokevirtual 120, 33, false, [4, 9, 0, 0, 4013, 4015, 8, 1006, 4016], mX9_readNumber), am_ce0],
  [am_ce0, (.istore_n 2, 34, false, [], am_noM), (.aload_n 0, 35, false, [], am_noM), (.aload_n 1, 36, false, [], am_noM), (.ldc 149, 38, false, [1, 2, 877], am_noM), am_ce0, (.invokevirtual 126, 41, false, [3, 9, 0, 0, 4022, 4024, 10, 1006, 4025], mX9_readWord), am_ce0, am_ce0, (.aload_n 0, 42, false, [], am_noM), (.aload_n 1, 43, false, [], am_noM), (.iconst 1, 44, false, [], am_noM), (.sipush 2000, 47, false, [], am_noM), am_ce0, am_ce0, (.invokevirtual 120, 50, false, [4, 9, 0, 0, 4013, 4015, 8, 1006, 4016], mX9_readNumber)],
  [am_ce0, am_ce0, (.istore_n 3, 51, false, [], am_noM), (.aload_n 0, 52, false, [], am_noM), (.getfield 48, 55, false, [9, 10, 1214], am_noM), am_ce0, am_ce0, (.ifCond .ne 49, 58, false, [104], am_noM), am_ce0, am_ce0, (.aload_n 0, 59, false, [], am_noM), (.getfield 36, 62, false, [9, 6, 1210], am_noM), am_ce0, am_ce0, (.aload_n 0, 63, false, [], am_noM), (.getfield 45, 66, false, [9, 9, 1213], am_noM)],
  [am_ce0, am_ce0, (.aload_n 0, 67, false, [], am_noM), (.getfield 33, 70, false, [9, 5, 1209], am_noM), am_ce0, am_ce0, (.getfield 151, 73, false, [8, 3, 1186], am_noM), am_ce0, am_ce0, (.iastore, 74, false, [], am_noM), (.aload_n 0, 75, false, [], am_noM), (.getfield 39, 78, false, [9, 7, 1211], am_noM), am_ce0, am_ce0, (.aload_n 0, 79, false, [], am_noM), (.getfield 45, 82, false, [9, 9, 1213], am_noM)],
  [am_ce0, am_ce0, (.iload_n 2, 83, false, [], am_noM), (.iastore, 84, false, [], am_noM), (.aload_n 0, 85, false, [], am_noM), (.getfield 42, 88, false, [9, 8, 1212], am_noM), am_ce0, am_ce0, (.aload_n 0, 89, false, [], am_noM), (.getfield 45, 92, false, [9, 9, 1213], am_noM), am_ce0, am_ce0, (.iload_n 3, 93, false, [], am_noM), (.iastore, 94, false, [], am_noM), (.aload_n 0, 95, false, [], am_noM), (.dup, 96, false, [], am_noM)],
  [(.getfield 45, 99, false, [9, 9, 1213], am_noM), am_ce0, am_ce0, (.iconst 1, 100, false, [], am_noM), (.iadd, 101, false, [], am_noM), (.putfield 45, 104, false, [9, 9, 1213], am_noM), am_ce0, am_ce0, (.return_, 105, false, [], am_noM)]]
def kX9_readPlay : List (List CE) := [[(.aload_n 1, 1, false, [], am_noM), (.invokevirtual 60, 4, false, [1, 10, 0, 0, 3177, 3178, 3179, 1002, 3180], mX10_nextToken), am_ce0, am_ce0, (.aload_n 0, 5, false, [], am_noM), (.aload_n 1, 6, false, [], am_noM), (.invokevirtual 152, 9, false, [2, 9, 0, 0, 4062, 4064, 15, 1006, 4065], mX9_findStorm), am_ce0, am_ce0, (.istore_n 2, 10, false, [], am_noM), (.aload_n 1, 11, false, [], am_noM), (.invokestatic 156, 14, false, [0, 1, 0, 0, 4070, 4071, 1006, 4072], mX9_isName), am_ce0, am_ce0, (.ifCond .ne 15, 17, false, [29], am_noM), am_ce0],
  [am_ce0, (.aload_n 0, 18, false, [], am_noM), (.iconst 1, 19, false, [], am_noM), (.aload_n 1, 20, false, [], am_noM), (.getfield 96, 23, false, [10, 6, 1050], am_noM), am_ce0, am_ce0, (.invokevirtual 99, 26, false, [3, 9, 0, 0, 4017, 4019, 9, 1006, 4020], mX9_fail), am_ce0, am_ce0, (.goto 17, 29, false, [43], am_noM), am_ce0, am_ce0, (.iload_n 2, 30, false, [], am_noM), (.iconst (-1), 31, false, [], am_noM), (.if_icmp .ne 12, 34, false, [43], am_noM)],
  [am_ce0, am_ce0, (.aload_n 0, 35, false, [], am_noM), (.iconst 3, 36, false, [], am_noM), (.aload_n 1, 37, false, [], am_noM), (.getfield 96, 40, false, [10, 6, 1050], am_noM), am_ce0, am_ce0, (.invokevirtual 99, 43, false, [3, 9, 0, 0, 4017, 4019, 9, 1006, 4020], mX9_fail), am_ce0, am_ce0, (.aload_n 0, 44, false, [], am_noM), (.aload_n 1, 45, false, [], am_noM), (.ldc 63, 47, false, [1, 0, 777], am_noM), am_ce0, (.invokevirtual 126, 50, false, [3, 9, 0, 0, 4022, 4024, 10, 1006, 4025], mX9_readWord)],
  [am_ce0, am_ce0, (.aload_n 0, 51, false, [], am_noM), (.aload_n 1, 52, false, [], am_noM), (.iconst 0, 53, false, [], am_noM), (.sipush 2000, 56, false, [], am_noM), am_ce0, am_ce0, (.invokevirtual 120, 59, false, [4, 9, 0, 0, 4013, 4015, 8, 1006, 4016], mX9_readNumber), am_ce0, am_ce0, (.istore_n 3, 60, false, [], am_noM), (.aload_n 0, 61, false, [], am_noM), (.aload_n 1, 62, false, [], am_noM), (.invokevirtual 142, 65, false, [2, 9, 0, 0, 4043, 4045, 12, 1006, 4046], mX9_readSemicolon), am_ce0],
  [am_ce0, (.aload_n 0, 66, false, [], am_noM), (.iload_n 2, 67, false, [], am_noM), (.invokevirtual 160, 70, false, [2, 9, 0, 0, 4075, 4077, 16, 1006, 4078], mX9_stormAt), am_ce0, am_ce0, (.astore 4, 72, false, [], am_noM), am_ce0, (.aload_n 0, 73, false, [], am_noM), (.getfield 48, 76, false, [9, 10, 1214], am_noM), am_ce0, am_ce0, (.ifCond .ne 18, 79, false, [94], am_noM), am_ce0, am_ce0, (.aload 4, 81, false, [], am_noM)],
  [am_ce0, (.ifnull 13, 84, false, [94], am_noM), am_ce0, am_ce0, (.aload_n 0, 85, false, [], am_noM), (.getfield 33, 88, false, [9, 5, 1209], am_noM), am_ce0, am_ce0, (.aload 4, 90, false, [], am_noM), am_ce0, (.iload_n 3, 91, false, [], am_noM), (.invokevirtual 164, 94, false, [3, 8, 0, 0, 4079, 4080, 4081, 1007, 4082], mX8_addAll), am_ce0, am_ce0, (.return_, 95, false, [], am_noM)]]
def kX9_readStorm : List (List CE) := [[(.aload_n 0, 1, false, [], am_noM), (.getfield 33, 4, false, [9, 5, 1209], am_noM), am_ce0, am_ce0, (.aload_n 0, 5, false, [], am_noM), (.getfield 12, 8, false, [9, 0, 1203], am_noM), am_ce0, am_ce0, (.if_acmp .ne 10, 11, false, [18], am_noM), am_ce0, am_ce0, (.aload_n 0, 12, false, [], am_noM), (.getfield 45, 15, false, [9, 9, 1213], am_noM), am_ce0, am_ce0, (.ifCond .le 13, 18, false, [28], am_noM)],
  [am_ce0, am_ce0, (.aload_n 0, 19, false, [], am_noM), (.iconst 1, 20, false, [], am_noM), (.aload_n 1, 21, false, [], am_noM), (.getfield 96, 24, false, [10, 6, 1050], am_noM), am_ce0, am_ce0, (.invokevirtual 99, 27, false, [3, 9, 0, 0, 4017, 4019, 9, 1006, 4020], mX9_fail), am_ce0, am_ce0, (.return_, 28, false, [], am_noM), (.aload_n 0, 29, false, [], am_noM), (.aload_n 0, 30, false, [], am_noM), (.getfield 29, 33, false, [9, 4, 1208], am_noM), am_ce0],
  [am_ce0, (.invokevirtual 160, 36, false, [2, 9, 0, 0, 4075, 4077, 16, 1006, 4078], mX9_stormAt), am_ce0, am_ce0, (.astore_n 2, 37, false, [], am_noM), (.aload_n 2, 38, false, [], am_noM), (.ifnonnull 13, 41, false, [51], am_noM), am_ce0, am_ce0, (.aload_n 0, 42, false, [], am_noM), (.iconst 3, 43, false, [], am_noM), (.aload_n 1, 44, false, [], am_noM), (.getfield 96, 47, false, [10, 6, 1050], am_noM), am_ce0, am_ce0, (.invokevirtual 99, 50, false, [3, 9, 0, 0, 4017, 4019, 9, 1006, 4020], mX9_fail)],
  [am_ce0, am_ce0, (.return_, 51, false, [], am_noM), (.aload_n 1, 52, false, [], am_noM), (.invokevirtual 60, 55, false, [1, 10, 0, 0, 3177, 3178, 3179, 1002, 3180], mX10_nextToken), am_ce0, am_ce0, (.aload_n 1, 56, false, [], am_noM), (.invokestatic 156, 59, false, [0, 1, 0, 0, 4070, 4071, 1006, 4072], mX9_isName), am_ce0, am_ce0, (.ifCond .ne 15, 62, false, [74], am_noM), am_ce0, am_ce0, (.aload_n 0, 63, false, [], am_noM), (.iconst 1, 64, false, [], am_noM)],
  [(.aload_n 1, 65, false, [], am_noM), (.getfield 96, 68, false, [10, 6, 1050], am_noM), am_ce0, am_ce0, (.invokevirtual 99, 71, false, [3, 9, 0, 0, 4017, 4019, 9, 1006, 4020], mX9_fail), am_ce0, am_ce0, (.goto 59, 74, false, [130], am_noM), am_ce0, am_ce0, (.aload_n 0, 75, false, [], am_noM), (.aload_n 1, 76, false, [], am_noM), (.invokevirtual 152, 79, false, [2, 9, 0, 0, 4062, 4064, 15, 1006, 4065], mX9_findStorm), am_ce0, am_ce0, (.iconst (-1), 80, false, [], am_noM)],
  [(.if_icmp .eq 15, 83, false, [95], am_noM), am_ce0, am_ce0, (.aload_n 0, 84, false, [], am_noM), (.iconst 3, 85, false, [], am_noM), (.aload_n 1, 86, false, [], am_noM), (.getfield 96, 89, false, [10, 6, 1050], am_noM), am_ce0, am_ce0, (.invokevirtual 99, 92, false, [3, 9, 0, 0, 4017, 4019, 9, 1006, 4020], mX9_fail), am_ce0, am_ce0, (.goto 38, 95, false, [130], am_noM), am_ce0, am_ce0, (.aload_n 0, 96, false, [], am_noM)],
  [(.getfield 22, 99, false, [9, 2, 1206], am_noM), am_ce0, am_ce0, (.aload_n 0, 100, false, [], am_noM), (.getfield 29, 103, false, [9, 4, 1208], am_noM), am_ce0, am_ce0, (.aload_n 1, 104, false, [], am_noM), (.getfield 96, 107, false, [10, 6, 1050], am_noM), am_ce0, am_ce0, (.iastore, 108, false, [], am_noM), (.aload_n 0, 109, false, [], am_noM), (.getfield 26, 112, false, [9, 3, 1207], am_noM), am_ce0, am_ce0],
  [(.aload_n 0, 113, false, [], am_noM), (.getfield 29, 116, false, [9, 4, 1208], am_noM), am_ce0, am_ce0, (.aload_n 1, 117, false, [], am_noM), (.getfield 168, 120, false, [10, 7, 1052], am_noM), am_ce0, am_ce0, (.iastore, 121, false, [], am_noM), (.aload_n 2, 122, false, [], am_noM), (.invokevirtual 117, 125, false, [1, 8, 0, 0, 3173, 3174, 3175, 1007, 3176], mX8_clear), am_ce0, am_ce0, (.aload_n 0, 126, false, [], am_noM), (.aload_n 2, 127, false, [], am_noM), (.putfield 33, 130, false, [9, 5, 1209], am_noM)],
  [am_ce0, am_ce0, (.return_, 131, false, [], am_noM)]]
def kX9_close : List (List CE) := [[(.aload_n 0, 1, false, [], am_noM), (.getfield 45, 4, false, [9, 9, 1213], am_noM), am_ce0, am_ce0, (.ifCond .le 58, 7, false, [62], am_noM), am_ce0, am_ce0, (.aload_n 0, 8, false, [], am_noM), (.getfield 45, 11, false, [9, 9, 1213], am_noM), am_ce0, am_ce0, (.iconst 4, 12, false, [], am_noM), (.if_icmp .gt 50, 15, false, [62], am_noM), am_ce0, am_ce0, (.aload_n 0, 16, false, [], am_noM)],
  [(.dup, 17, false, [], am_noM), (.getfield 45, 20, false, [9, 9, 1213], am_noM), am_ce0, am_ce0, (.iconst 1, 21, false, [], am_noM), (.isub, 22, false, [], am_noM), (.putfield 45, 25, false, [9, 9, 1213], am_noM), am_ce0, am_ce0, (.aload_n 0, 26, false, [], am_noM), (.getfield 33, 29, false, [9, 5, 1209], am_noM), am_ce0, am_ce0, (.aload_n 0, 30, false, [], am_noM), (.getfield 36, 33, false, [9, 6, 1210], am_noM), am_ce0],
  [am_ce0, (.aload_n 0, 34, false, [], am_noM), (.getfield 45, 37, false, [9, 9, 1213], am_noM), am_ce0, am_ce0, (.iaload, 38, false, [], am_noM), (.aload_n 0, 39, false, [], am_noM), (.getfield 39, 42, false, [9, 7, 1211], am_noM), am_ce0, am_ce0, (.aload_n 0, 43, false, [], am_noM), (.getfield 45, 46, false, [9, 9, 1213], am_noM), am_ce0, am_ce0, (.iaload, 47, false, [], am_noM), (.aload_n 0, 48, false, [], am_noM)],
  [(.getfield 42, 51, false, [9, 8, 1212], am_noM), am_ce0, am_ce0, (.aload_n 0, 52, false, [], am_noM), (.getfield 45, 55, false, [9, 9, 1213], am_noM), am_ce0, am_ce0, (.iaload, 56, false, [], am_noM), (.invokevirtual 171, 59, false, [4, 8, 0, 0, 4108, 4109, 4110, 1007, 4111], mX8_repeat), am_ce0, am_ce0, (.goto 44, 62, false, [103], am_noM), am_ce0, am_ce0, (.aload_n 0, 63, false, [], am_noM), (.getfield 33, 66, false, [9, 5, 1209], am_noM)],
  [am_ce0, am_ce0, (.aload_n 0, 67, false, [], am_noM), (.getfield 12, 70, false, [9, 0, 1203], am_noM), am_ce0, am_ce0, (.if_acmp .eq 24, 73, false, [94], am_noM), am_ce0, am_ce0, (.aload_n 0, 74, false, [], am_noM), (.aload_n 0, 75, false, [], am_noM), (.getfield 12, 78, false, [9, 0, 1203], am_noM), am_ce0, am_ce0, (.putfield 33, 81, false, [9, 5, 1209], am_noM), am_ce0],
  [am_ce0, (.aload_n 0, 82, false, [], am_noM), (.dup, 83, false, [], am_noM), (.getfield 29, 86, false, [9, 4, 1208], am_noM), am_ce0, am_ce0, (.iconst 1, 87, false, [], am_noM), (.iadd, 88, false, [], am_noM), (.putfield 29, 91, false, [9, 4, 1208], am_noM), am_ce0, am_ce0, (.goto 12, 94, false, [103], am_noM), am_ce0, am_ce0, (.aload_n 0, 95, false, [], am_noM), (.iconst 1, 96, false, [], am_noM)],
  [(.aload_n 1, 97, false, [], am_noM), (.getfield 96, 100, false, [10, 6, 1050], am_noM), am_ce0, am_ce0, (.invokevirtual 99, 103, false, [3, 9, 0, 0, 4017, 4019, 9, 1006, 4020], mX9_fail), am_ce0, am_ce0, (.return_, 104, false, [], am_noM)]]
def kX9_stormAt : List (List CE) := [[(.iload_n 1, 1, false, [], am_noM), (.ifCond .lt 18, 4, false, [19], am_noM), am_ce0, am_ce0, (.iload_n 1, 5, false, [], am_noM), (.bipush 8, 7, false, [], am_noM), am_ce0, (.if_icmp .ge 12, 10, false, [19], am_noM), am_ce0, am_ce0, (.aload_n 0, 11, false, [], am_noM), (.getfield 18, 14, false, [9, 1, 1205], am_noM), am_ce0, am_ce0, (.iload_n 1, 15, false, [], am_noM), (.aaload, 16, false, [], am_noM)],
  [(.goto 4, 19, false, [20], am_noM), am_ce0, am_ce0, (.aconst_null, 20, false, [], am_noM), (.areturn, 21, false, [], am_noM)]]
def kX9_findStorm : List (List CE) := [[(.iconst 0, 1, false, [], am_noM), (.istore_n 2, 2, false, [], am_noM), (.iload_n 2, 3, true, [], am_noM), (.aload_n 0, 4, false, [], am_noM), (.getfield 29, 7, false, [9, 4, 1208], am_noM), am_ce0, am_ce0, (.if_icmp .ge 36, 10, false, [43], am_noM), am_ce0, am_ce0, (.iload_n 2, 11, false, [], am_noM), (.bipush 8, 13, false, [], am_noM), am_ce0, (.if_icmp .ge 30, 16, false, [43], am_noM), am_ce0, am_ce0],
  [(.aload_n 1, 17, false, [], am_noM), (.aload_n 0, 18, false, [], am_noM), (.getfield 22, 21, false, [9, 2, 1206], am_noM), am_ce0, am_ce0, (.iload_n 2, 22, false, [], am_noM), (.iaload, 23, false, [], am_noM), (.aload_n 0, 24, false, [], am_noM), (.getfield 26, 27, false, [9, 3, 1207], am_noM), am_ce0, am_ce0, (.iload_n 2, 28, false, [], am_noM), (.iaload, 29, false, [], am_noM), (.invokevirtual 174, 32, false, [3, 10, 0, 0, 4066, 4067, 4068, 1002, 4069], mX10_isWordAt), am_ce0, am_ce0],
  [(.ifCond .eq 5, 35, false, [37], am_noM), am_ce0, am_ce0, (.iload_n 2, 36, false, [], am_noM), (.ireturn, 37, false, [0], am_noM), (.iinc 2 1, 40, false, [], am_noM), am_ce0, am_ce0, (.goto (-38), 43, false, [2], am_noM), am_ce0, am_ce0, (.iconst (-1), 44, false, [], am_noM), (.ireturn, 45, false, [0], am_noM)]]
def kX9_isName : List (List CE) := [[(.aload_n 0, 1, false, [], am_noM), (.ldc 83, 3, false, [1, 7, 894], am_noM), am_ce0, (.invokevirtual 65, 6, false, [2, 10, 0, 0, 3197, 3198, 3199, 1002, 3200], mX10_isWord), am_ce0, am_ce0, (.ifCond .ne 66, 9, false, [72], am_noM), am_ce0, am_ce0, (.aload_n 0, 10, false, [], am_noM), (.ldc 88, 12, false, [1, 1, 895], am_noM), am_ce0, (.invokevirtual 65, 15, false, [2, 10, 0, 0, 3197, 3198, 3199, 1002, 3200], mX10_isWord), am_ce0, am_ce0, (.ifCond .ne 57, 18, false, [72], am_noM)],
  [am_ce0, am_ce0, (.aload_n 0, 19, false, [], am_noM), (.ldc 63, 21, false, [1, 0, 777], am_noM), am_ce0, (.invokevirtual 65, 24, false, [2, 10, 0, 0, 3197, 3198, 3199, 1002, 3200], mX10_isWord), am_ce0, am_ce0, (.ifCond .ne 48, 27, false, [72], am_noM), am_ce0, am_ce0, (.aload_n 0, 28, false, [], am_noM), (.ldc 124, 30, false, [1, 9, 842], am_noM), am_ce0, (.invokevirtual 65, 33, false, [2, 10, 0, 0, 3197, 3198, 3199, 1002, 3200], mX10_isWord), am_ce0],
  [am_ce0, (.ifCond .ne 39, 36, false, [72], am_noM), am_ce0, am_ce0, (.aload_n 0, 37, false, [], am_noM), (.ldc 133, 39, false, [1, 10, 847], am_noM), am_ce0, (.invokevirtual 65, 42, false, [2, 10, 0, 0, 3197, 3198, 3199, 1002, 3200], mX10_isWord), am_ce0, am_ce0, (.ifCond .ne 30, 45, false, [72], am_noM), am_ce0, am_ce0, (.aload_n 0, 46, false, [], am_noM), (.ldc 73, 48, false, [1, 8, 872], am_noM), am_ce0],
  [(.invokevirtual 65, 51, false, [2, 10, 0, 0, 3197, 3198, 3199, 1002, 3200], mX10_isWord), am_ce0, am_ce0, (.ifCond .ne 21, 54, false, [72], am_noM), am_ce0, am_ce0, (.aload_n 0, 55, false, [], am_noM), (.ldc 149, 57, false, [1, 2, 877], am_noM), am_ce0, (.invokevirtual 65, 60, false, [2, 10, 0, 0, 3197, 3198, 3199, 1002, 3200], mX10_isWord), am_ce0, am_ce0, (.ifCond .ne 12, 63, false, [72], am_noM), am_ce0, am_ce0, (.aload_n 0, 64, false, [], am_noM)],
  [(.ldc 78, 66, false, [1, 6, 878], am_noM), am_ce0, (.invokevirtual 65, 69, false, [2, 10, 0, 0, 3197, 3198, 3199, 1002, 3200], mX10_isWord), am_ce0, am_ce0, (.ifCond .eq 7, 72, false, [76], am_noM), am_ce0, am_ce0, (.iconst 1, 73, false, [], am_noM), (.goto 4, 76, false, [77], am_noM), am_ce0, am_ce0, (.iconst 0, 77, false, [], am_noM), (.istore_n 1, 78, false, [], am_noM), (.aload_n 0, 79, false, [], am_noM), (.getfield 93, 82, false, [10, 5, 1048], am_noM)],
  [am_ce0, am_ce0, (.iconst 1, 83, false, [], am_noM), (.if_icmp .ne 11, 86, false, [94], am_noM), am_ce0, am_ce0, (.iload_n 1, 87, false, [], am_noM), (.ifCond .ne 7, 90, false, [94], am_noM), am_ce0, am_ce0, (.iconst 1, 91, false, [], am_noM), (.goto 4, 94, false, [95], am_noM), am_ce0, am_ce0, (.iconst 0, 95, false, [], am_noM), (.ireturn, 96, false, [1], am_noM)]]
def kX9_readWord : List (List CE) := [[(.aload_n 0, 1, false, [], am_noM), (.getfield 48, 4, false, [9, 10, 1214], am_noM), am_ce0, am_ce0, (.ifCond .ne 24, 7, false, [28], am_noM), am_ce0, am_ce0, (.aload_n 1, 8, false, [], am_noM), (.invokevirtual 60, 11, false, [1, 10, 0, 0, 3177, 3178, 3179, 1002, 3180], mX10_nextToken), am_ce0, am_ce0, (.aload_n 1, 12, false, [], am_noM), (.aload_n 2, 13, false, [], am_noM), (.invokevirtual 65, 16, false, [2, 10, 0, 0, 3197, 3198, 3199, 1002, 3200], mX10_isWord), am_ce0, am_ce0],
  [(.ifCond .ne 12, 19, false, [28], am_noM), am_ce0, am_ce0, (.aload_n 0, 20, false, [], am_noM), (.iconst 1, 21, false, [], am_noM), (.aload_n 1, 22, false, [], am_noM), (.getfield 96, 25, false, [10, 6, 1050], am_noM), am_ce0, am_ce0, (.invokevirtual 99, 28, false, [3, 9, 0, 0, 4017, 4019, 9, 1006, 4020], mX9_fail), am_ce0, am_ce0, (.return_, 29, false, [], am_noM)]]
def kX9_readSemicolon : List (List CE) := [[(.aload_n 0, 1, false, [], am_noM), (.getfield 48, 4, false, [9, 10, 1214], am_noM), am_ce0, am_ce0, (.ifCond .ne 24, 7, false, [28], am_noM), am_ce0, am_ce0, (.aload_n 1, 8, false, [], am_noM), (.invokevirtual 60, 11, false, [1, 10, 0, 0, 3177, 3178, 3179, 1002, 3180], mX10_nextToken), am_ce0, am_ce0, (.aload_n 1, 12, false, [], am_noM), (.getfield 93, 15, false, [10, 5, 1048], am_noM), am_ce0, am_ce0, (.iconst 3, 16, false, [], am_noM)],
  [(.if_icmp .eq 12, 19, false, [28], am_noM), am_ce0, am_ce0, (.aload_n 0, 20, false, [], am_noM), (.iconst 1, 21, false, [], am_noM), (.aload_n 1, 22, false, [], am_noM), (.getfield 96, 25, false, [10, 6, 1050], am_noM), am_ce0, am_ce0, (.invokevirtual 99, 28, false, [3, 9, 0, 0, 4017, 4019, 9, 1006, 4020], mX9_fail), am_ce0, am_ce0, (.return_, 29, false, [], am_noM)]]
def kX9_readNumber : List (List CE) := [[(.aload_n 0, 1, false, [], am_noM), (.getfield 48, 4, false, [9, 10, 1214], am_noM), am_ce0, am_ce0, (.ifCond .eq 5, 7, false, [9], am_noM), am_ce0, am_ce0, (.iconst (-1), 8, false, [], am_noM), (.ireturn, 9, false, [0], am_noM), (.aload_n 1, 10, false, [], am_noM), (.invokevirtual 60, 13, false, [1, 10, 0, 0, 3177, 3178, 3179, 1002, 3180], mX10_nextToken), am_ce0, am_ce0, (.aload_n 1, 14, false, [], am_noM), (.getfield 93, 17, false, [10, 5, 1048], am_noM), am_ce0],
  [am_ce0, (.iconst 2, 18, false, [], am_noM), (.if_icmp .eq 15, 21, false, [33], am_noM), am_ce0, am_ce0, (.aload_n 0, 22, false, [], am_noM), (.iconst 1, 23, false, [], am_noM), (.aload_n 1, 24, false, [], am_noM), (.getfield 96, 27, false, [10, 6, 1050], am_noM), am_ce0, am_ce0, (.invokevirtual 99, 30, false, [3, 9, 0, 0, 4017, 4019, 9, 1006, 4020], mX9_fail), am_ce0, am_ce0, (.goto 28, 33, false, [58], am_noM), am_ce0],
  [am_ce0, (.aload_n 1, 34, false, [], am_noM), (.getfield 178, 37, false, [10, 8, 1054], am_noM), am_ce0, am_ce0, (.iload_n 2, 38, false, [], am_noM), (.if_icmp .lt 11, 41, false, [49], am_noM), am_ce0, am_ce0, (.aload_n 1, 42, false, [], am_noM), (.getfield 178, 45, false, [10, 8, 1054], am_noM), am_ce0, am_ce0, (.iload_n 3, 46, false, [], am_noM), (.if_icmp .le 12, 49, false, [58], am_noM), am_ce0],
  [am_ce0, (.aload_n 0, 50, false, [], am_noM), (.iconst 2, 51, false, [], am_noM), (.aload_n 1, 52, false, [], am_noM), (.getfield 96, 55, false, [10, 6, 1050], am_noM), am_ce0, am_ce0, (.invokevirtual 99, 58, false, [3, 9, 0, 0, 4017, 4019, 9, 1006, 4020], mX9_fail), am_ce0, am_ce0, (.aload_n 1, 59, false, [], am_noM), (.getfield 178, 62, false, [10, 8, 1054], am_noM), am_ce0, am_ce0, (.ireturn, 63, false, [0], am_noM)]]
def kX10_init : List (List CE) := [[(.aload_n 0, 1, false, [], am_noM), (.invokespecial 3, 4, false, [1, 1037, 1030, 1031], am_noM), am_ce0, am_ce0, (.aload_n 0, 5, false, [], am_noM), (.sipush 640, 8, false, [], am_noM), am_ce0, am_ce0, (.newarray .int, 10, false, [58, 640, 1074], am_noM), am_ce0, (.putfield 11, 13, false, [10, 0, 1038], am_noM), am_ce0, am_ce0, (.aload_n 0, 14, false, [], am_noM), (.iconst 0, 15, false, [], am_noM), (.putfield 15, 18, false, [10, 1, 1039], am_noM)],
  [am_ce0, am_ce0, (.aload_n 0, 19, false, [], am_noM), (.bipush 10, 21, false, [], am_noM), am_ce0, (.newarray .int, 23, false, [59, 10, 1074], am_noM), am_ce0, (.putfield 19, 26, false, [10, 2, 1043], am_noM), am_ce0, am_ce0, (.aload_n 0, 27, false, [], am_noM), (.iconst 0, 28, false, [], am_noM), (.putfield 22, 31, false, [10, 3, 1044], am_noM), am_ce0, am_ce0, (.aload_n 0, 32, false, [], am_noM)],
  [(.iconst 0, 33, false, [], am_noM), (.putfield 25, 36, false, [10, 4, 1046], am_noM), am_ce0, am_ce0, (.aload_n 0, 37, false, [], am_noM), (.iconst 0, 38, false, [], am_noM), (.putfield 28, 41, false, [10, 5, 1047], am_noM), am_ce0, am_ce0, (.aload_n 0, 42, false, [], am_noM), (.iconst 0, 43, false, [], am_noM), (.putfield 31, 46, false, [10, 6, 1049], am_noM), am_ce0, am_ce0, (.aload_n 0, 47, false, [], am_noM), (.iconst 0, 48, false, [], am_noM)],
  [(.putfield 34, 51, false, [10, 7, 1051], am_noM), am_ce0, am_ce0, (.aload_n 0, 52, false, [], am_noM), (.iconst 0, 53, false, [], am_noM), (.putfield 37, 56, false, [10, 8, 1053], am_noM), am_ce0, am_ce0, (.return_, 57, false, [], am_noM)]]
def kX10_take : List (List CE) := [[(.aload_n 0, 1, false, [], am_noM), (.getfield 15, 4, false, [10, 1, 1039], am_noM), am_ce0, am_ce0, (.sipush 620, 7, false, [], am_noM), am_ce0, am_ce0, (.if_icmp .le 5, 10, false, [12], am_noM), am_ce0, am_ce0, (.iconst (-1), 11, false, [], am_noM), (.ireturn, 12, false, [0], am_noM), (.aload_n 0, 13, false, [], am_noM), (.iload_n 1, 14, false, [], am_noM), (.invokevirtual 40, 17, false, [2, 10, 0, 0, 3005, 3007, 0, 1002, 3008], mX10_put), am_ce0],
  [am_ce0, (.aload_n 0, 18, false, [], am_noM), (.iload_n 2, 19, false, [], am_noM), (.invokevirtual 40, 22, false, [2, 10, 0, 0, 3005, 3007, 0, 1002, 3008], mX10_put), am_ce0, am_ce0, (.aload_n 0, 23, false, [], am_noM), (.iload_n 3, 24, false, [], am_noM), (.invokevirtual 40, 27, false, [2, 10, 0, 0, 3005, 3007, 0, 1002, 3008], mX10_put), am_ce0, am_ce0, (.aload_n 0, 28, false, [], am_noM), (.iload 4, 30, false, [], am_noM), am_ce0, (.invokevirtual 40, 33, false, [2, 10, 0, 0, 3005, 3007, 0, 1002, 3008], mX10_put), am_ce0],
  [am_ce0, (.aload_n 0, 34, false, [], am_noM), (.iload 5, 36, false, [], am_noM), am_ce0, (.invokevirtual 40, 39, false, [2, 10, 0, 0, 3005, 3007, 0, 1002, 3008], mX10_put), am_ce0, am_ce0, (.aload_n 0, 40, false, [], am_noM), (.getfield 15, 43, false, [10, 1, 1039], am_noM), am_ce0, am_ce0, (.ireturn, 44, false, [0], am_noM)]]
def kX10_put : List (List CE) := [[(.bipush 24, 2, false, [], am_noM), am_ce0, (.istore_n 2, 3, false, [], am_noM), (.iload_n 2, 4, true, [], am_noM), (.ifCond .lt 52, 7, false, [56], am_noM), am_ce0, am_ce0, (.aload_n 0, 8, false, [], am_noM), (.getfield 15, 11, false, [10, 1, 1039], am_noM), am_ce0, am_ce0, (.ifCond .lt 39, 14, false, [50], am_noM), am_ce0, am_ce0, (.aload_n 0, 15, false, [], am_noM), (.getfield 15, 18, false, [10, 1, 1039], am_noM)],
  [am_ce0, am_ce0, (.sipush 640, 21, false, [], am_noM), am_ce0, am_ce0, (.if_icmp .ge 29, 24, false, [50], am_noM), am_ce0, am_ce0, (.aload_n 0, 25, false, [], am_noM), (.getfield 11, 28, false, [10, 0, 1038], am_noM), am_ce0, am_ce0, (.aload_n 0, 29, false, [], am_noM), (.getfield 15, 32, false, [10, 1, 1039], am_noM), am_ce0, am_ce0],
  [(.iload_n 1, 33, false, [], am_noM), (.iload_n 2, 34, false, [], am_noM), (.iushr, 35, false, [], am_noM), (.sipush 255, 38, false, [], am_noM), am_ce0, am_ce0, (.iand, 39, false, [], am_noM), (.iastore, 40, false, [], am_noM), (.aload_n 0, 41, false, [], am_noM), (.dup, 42, false, [], am_noM), (.getfield 15, 45, false, [10, 1, 1039], am_noM), am_ce0, am_ce0, (.iconst 1, 46, false, [], am_noM), (.iadd, 47, false, [], am_noM), (.putfield 15, 50, false, [10, 1, 1039], am_noM)],
  [am_ce0, am_ce0, (.iinc 2 (-8), 53, false, [], am_noM), am_ce0, am_ce0, (.goto (-50), 56, false, [3], am_noM), am_ce0, am_ce0, (.return_, 57, false, [], am_noM)]]
def kX10_cut : List (List CE) := [[(.iload_n 1, 1, false, [], am_noM), (.ifCond .lt 11, 4, false, [12], am_noM), am_ce0, am_ce0, (.iload_n 1, 5, false, [], am_noM), (.aload_n 0, 6, false, [], am_noM), (.getfield 15, 9, false, [10, 1, 1039], am_noM), am_ce0, am_ce0, (.if_icmp .le 5, 12, false, [14], am_noM), am_ce0, am_ce0, (.iconst 0, 13, false, [], am_noM), (.ireturn, 14, false, [1], am_noM), (.aload_n 0, 15, false, [], am_noM), (.iload_n 1, 16, false, [], am_noM)],
  [(.putfield 15, 19, false, [10, 1, 1039], am_noM), am_ce0, am_ce0, (.iconst 1, 20, false, [], am_noM), (.ireturn, 21, false, [1], am_noM)]]
def kX10_clear : List (List CE) := [[(.aload_n 0, 1, false, [], am_noM), (.iconst 0, 2, false, [], am_noM), (.putfield 15, 5, false, [10, 1, 1039], am_noM), am_ce0, am_ce0, (.return_, 6, false, [], am_noM)]]
def kX10_byteAt : List (List CE) := [[(.iload_n 1, 1, false, [], am_noM), (.ifCond .lt 27, 4, false, [28], am_noM), am_ce0, am_ce0, (.iload_n 1, 5, false, [], am_noM), (.aload_n 0, 6, false, [], am_noM), (.getfield 15, 9, false, [10, 1, 1039], am_noM), am_ce0, am_ce0, (.if_icmp .ge 19, 12, false, [28], am_noM), am_ce0, am_ce0, (.iload_n 1, 13, false, [], am_noM), (.sipush 640, 16, false, [], am_noM), am_ce0, am_ce0],
  [(.if_icmp .ge 12, 19, false, [28], am_noM), am_ce0, am_ce0, (.aload_n 0, 20, false, [], am_noM), (.getfield 11, 23, false, [10, 0, 1038], am_noM), am_ce0, am_ce0, (.iload_n 1, 24, false, [], am_noM), (.iaload, 25, false, [], am_noM), (.goto 4, 28, false, [29], am_noM), am_ce0, am_ce0, (.iconst 0, 29, false, [], am_noM), (.ireturn, 30, false, [0], am_noM)]]
def kX10_readTicks : List (List CE) := [[(.aload_n 0, 1, false, [], am_noM), (.iconst 0, 2, false, [], am_noM), (.putfield 22, 5, false, [10, 3, 1044], am_noM), am_ce0, am_ce0, (.aload_n 0, 6, false, [], am_noM), (.getfield 15, 9, false, [10, 1, 1039], am_noM), am_ce0, am_ce0, (.iconst 2, 10, false, [], am_noM), (.irem, 11, false, [], am_noM), (.ifCond .ne 12, 14, false, [23], am_noM), am_ce0, am_ce0, (.aload_n 0, 15, false, [], am_noM), (.getfield 15, 18, false, [10, 1, 1039], am_noM)],
  [am_ce0, am_ce0, (.bipush 20, 20, false, [], am_noM), am_ce0, (.if_icmp .le 5, 23, false, [25], am_noM), am_ce0, am_ce0, (.iconst 0, 24, false, [], am_noM), (.ireturn, 25, false, [1], am_noM), (.iconst (-1), 26, false, [], am_noM), (.istore_n 1, 27, false, [], am_noM), (.iconst 0, 28, false, [], am_noM), (.istore_n 2, 29, false, [], am_noM), (.iload_n 2, 30, true, [], am_noM), (.bipush 10, 32, false, [], am_noM), am_ce0],
  [(.if_icmp .ge 64, 35, false, [96], am_noM), am_ce0, am_ce0, (.iconst 2, 36, false, [], am_noM), (.iload_n 2, 37, false, [], am_noM), (.imul, 38, false, [], am_noM), (.aload_n 0, 39, false, [], am_noM), (.getfield 15, 42, false, [10, 1, 1039], am_noM), am_ce0, am_ce0, (.if_icmp .ge 54, 45, false, [96], am_noM), am_ce0, am_ce0, (.aload_n 0, 46, false, [], am_noM), (.iconst 2, 47, false, [], am_noM), (.iload_n 2, 48, false, [], am_noM)],
  [(.imul, 49, false, [], am_noM), (.invokevirtual 44, 52, false, [2, 10, 0, 0, 3182, 3062, 3063, 1002, 3064], mX10_byteAt), am_ce0, am_ce0, (.sipush 256, 55, false, [], am_noM), am_ce0, am_ce0, (.imul, 56, false, [], am_noM), (.aload_n 0, 57, false, [], am_noM), (.iconst 2, 58, false, [], am_noM), (.iload_n 2, 59, false, [], am_noM), (.imul, 60, false, [], am_noM), (.iconst 1, 61, false, [], am_noM), (.iadd, 62, false, [], am_noM), (.invokevirtual 44, 65, false, [2, 10, 0, 0, 3182, 3062, 3063, 1002, 3064], mX10_byteAt), am_ce0],
  [am_ce0, (.iadd, 66, false, [], am_noM), (.istore_n 3, 67, false, [], am_noM), (.iload_n 3, 68, false, [], am_noM), (.iload_n 1, 69, false, [], am_noM), (.if_icmp .gt 5, 72, false, [74], am_noM), am_ce0, am_ce0, (.iconst 0, 73, false, [], am_noM), (.ireturn, 74, false, [1], am_noM), (.aload_n 0, 75, false, [], am_noM), (.getfield 19, 78, false, [10, 2, 1043], am_noM), am_ce0, am_ce0, (.iload_n 2, 79, false, [], am_noM), (.iload_n 3, 80, false, [], am_noM)],
  [(.iastore, 81, false, [], am_noM), (.aload_n 0, 82, false, [], am_noM), (.iload_n 2, 83, false, [], am_noM), (.iconst 1, 84, false, [], am_noM), (.iadd, 85, false, [], am_noM), (.putfield 22, 88, false, [10, 3, 1044], am_noM), am_ce0, am_ce0, (.iload_n 3, 89, false, [], am_noM), (.istore_n 1, 90, false, [], am_noM), (.iinc 2 1, 93, false, [], am_noM), am_ce0, am_ce0, (.goto (-64), 96, false, [29], am_noM), am_ce0, am_ce0],
  [(.iconst 1, 97, false, [], am_noM), (.ireturn, 98, false, [1], am_noM)]]
def kX10_tickAt : List (List CE) := [[(.iload_n 1, 1, false, [], am_noM), (.ifCond .lt 26, 4, false, [27], am_noM), am_ce0, am_ce0, (.iload_n 1, 5, false, [], am_noM), (.aload_n 0, 6, false, [], am_noM), (.getfield 22, 9, false, [10, 3, 1044], am_noM), am_ce0, am_ce0, (.if_icmp .ge 18, 12, false, [27], am_noM), am_ce0, am_ce0, (.iload_n 1, 13, false, [], am_noM), (.bipush 10, 15, false, [], am_noM), am_ce0, (.if_icmp .ge 12, 18, false, [27], am_noM)],
  [am_ce0, am_ce0, (.aload_n 0, 19, false, [], am_noM), (.getfield 19, 22, false, [10, 2, 1043], am_noM), am_ce0, am_ce0, (.iload_n 1, 23, false, [], am_noM), (.iaload, 24, false, [], am_noM), (.goto 4, 27, false, [28], am_noM), am_ce0, am_ce0, (.iconst (-1), 28, false, [], am_noM), (.ireturn, 29, false, [0], am_noM)]]
def kX10_rewind : List (List CE) := [[(.aload_n 0, 1, false, [], am_noM), (.iconst 0, 2, false, [], am_noM), (.putfield 25, 5, false, [10, 4, 1046], am_noM), am_ce0, am_ce0, (.return_, 6, false, [], am_noM)]]
def kX10_nextToken : List (List CE) := [[(.aload_n 0, 1, false, [], am_noM), (.getfield 15, 4, false, [10, 1, 1039], am_noM), am_ce0, am_ce0, (.sipush 600, 7, false, [], am_noM), am_ce0, am_ce0, (.invokestatic 48, 10, false, [2, 3181, 3073, 1015, 3074], am_noM), am_ce0, am_ce0, (.istore_n 1, 11, false, [], am_noM), (.aload_n 0, 12, true, [], am_noM), (.getfield 25, 15, false, [10, 4, 1046], am_noM), am_ce0, am_ce0, (.iload_n 1, 16, false, [], am_noM)],
  [(.if_icmp .ge 30, 19, false, [46], am_noM), am_ce0, am_ce0, (.aload_n 0, 20, false, [], am_noM), (.aload_n 0, 21, false, [], am_noM), (.getfield 25, 24, false, [10, 4, 1046], am_noM), am_ce0, am_ce0, (.invokevirtual 44, 27, false, [2, 10, 0, 0, 3182, 3062, 3063, 1002, 3064], mX10_byteAt), am_ce0, am_ce0, (.invokestatic 54, 30, false, [0, 1, 0, 0, 3183, 3184, 1002, 3185], mX10_isBlank), am_ce0, am_ce0, (.ifCond .eq 16, 33, false, [46], am_noM), am_ce0],
  [am_ce0, (.aload_n 0, 34, false, [], am_noM), (.dup, 35, false, [], am_noM), (.getfield 25, 38, false, [10, 4, 1046], am_noM), am_ce0, am_ce0, (.iconst 1, 39, false, [], am_noM), (.iadd, 40, false, [], am_noM), (.putfield 25, 43, false, [10, 4, 1046], am_noM), am_ce0, am_ce0, (.goto (-32), 46, false, [11], am_noM), am_ce0, am_ce0, (.aload_n 0, 47, false, [], am_noM), (.getfield 25, 50, false, [10, 4, 1046], am_noM)],
  [am_ce0, am_ce0, (.iload_n 1, 51, false, [], am_noM), (.if_icmp .lt 19, 54, false, [70], am_noM), am_ce0, am_ce0, (.aload_n 0, 55, false, [], am_noM), (.iconst 0, 56, false, [], am_noM), (.putfield 28, 59, false, [10, 5, 1047], am_noM), am_ce0, am_ce0, (.aload_n 0, 60, false, [], am_noM), (.iload_n 1, 61, false, [], am_noM), (.putfield 31, 64, false, [10, 6, 1049], am_noM), am_ce0, am_ce0],
  [(.aload_n 0, 65, false, [], am_noM), (.iload_n 1, 66, false, [], am_noM), (.putfield 34, 69, false, [10, 7, 1051], am_noM), am_ce0, am_ce0, (.return_, 70, false, [], am_noM), (.aload_n 0, 71, false, [], am_noM), (.aload_n 0, 72, false, [], am_noM), (.getfield 25, 75, false, [10, 4, 1046], am_noM), am_ce0, am_ce0, (.putfield 31, 78, false, [10, 6, 1049], am_noM), am_ce0, am_ce0, (.aload_n 0, 79, false, [], am_noM), (.aload_n 0, 80, false, [], am_noM)],
  [(.getfield 25, 83, false, [10, 4, 1046], am_noM), am_ce0, am_ce0, (.invokevirtual 44, 86, false, [2, 10, 0, 0, 3182, 3062, 3063, 1002, 3064], mX10_byteAt), am_ce0, am_ce0, (.bipush 59, 88, false, [], am_noM), am_ce0, (.if_icmp .ne 21, 91, false, [109], am_noM), am_ce0, am_ce0, (.aload_n 0, 92, false, [], am_noM), (.iconst 3, 93, false, [], am_noM), (.putfield 28, 96, false, [10, 5, 1047], am_noM), am_ce0, am_ce0],
  [(.aload_n 0, 97, false, [], am_noM), (.dup, 98, false, [], am_noM), (.getfield 25, 101, false, [10, 4, 1046], am_noM), am_ce0, am_ce0, (.iconst 1, 102, false, [], am_noM), (.iadd, 103, false, [], am_noM), (.putfield 25, 106, false, [10, 4, 1046], am_noM), am_ce0, am_ce0, (.goto 7, 109, false, [113], am_noM), am_ce0, am_ce0, (.aload_n 0, 110, false, [], am_noM), (.invokevirtual 58, 113, false, [1, 10, 0, 0, 3186, 3188, 6, 1002, 3189], mX10_readLettersAndDigits), am_ce0],
  [am_ce0, (.aload_n 0, 114, false, [], am_noM), (.aload_n 0, 115, false, [], am_noM), (.getfield 25, 118, false, [10, 4, 1046], am_noM), am_ce0, am_ce0, (.putfield 34, 121, false, [10, 7, 1051], am_noM), am_ce0, am_ce0, (.return_, 122, false, [], am_noM)]]
def kX10_readLettersAndDigits : List (List CE) := [[(.iconst 0, 1, false, [], am_noM), (.istore_n 1, 2, false, [], am_noM), (.iconst 0, 3, false, [], am_noM), (.istore_n 2, 4, false, [], am_noM), (.aload_n 0, 5, false, [], am_noM), (.iconst 0, 6, false, [], am_noM), (.putfield 37, 9, false, [10, 8, 1053], am_noM), am_ce0, am_ce0, (.aload_n 0, 10, true, [], am_noM), (.getfield 25, 13, false, [10, 4, 1046], am_noM), am_ce0, am_ce0, (.aload_n 0, 14, false, [], am_noM), (.getfield 15, 17, false, [10, 1, 1039], am_noM), am_ce0],
  [am_ce0, (.if_icmp .ge 99, 20, false, [116], am_noM), am_ce0, am_ce0, (.aload_n 0, 21, false, [], am_noM), (.aload_n 0, 22, false, [], am_noM), (.getfield 25, 25, false, [10, 4, 1046], am_noM), am_ce0, am_ce0, (.invokevirtual 44, 28, false, [2, 10, 0, 0, 3182, 3062, 3063, 1002, 3064], mX10_byteAt), am_ce0, am_ce0, (.invokestatic 61, 31, false, [0, 1, 0, 0, 3190, 3191, 1002, 3192], mX10_isLetter), am_ce0, am_ce0, (.ifCond .ne 17, 34, false, [48], am_noM)],
  [am_ce0, am_ce0, (.aload_n 0, 35, false, [], am_noM), (.aload_n 0, 36, false, [], am_noM), (.getfield 25, 39, false, [10, 4, 1046], am_noM), am_ce0, am_ce0, (.invokevirtual 44, 42, false, [2, 10, 0, 0, 3182, 3062, 3063, 1002, 3064], mX10_byteAt), am_ce0, am_ce0, (.invokestatic 64, 45, false, [0, 1, 0, 0, 3193, 3194, 1002, 3195], mX10_isDigit), am_ce0, am_ce0, (.ifCond .eq 71, 48, false, [116], am_noM), am_ce0, am_ce0],
  [(.aload_n 0, 49, false, [], am_noM), (.aload_n 0, 50, false, [], am_noM), (.getfield 25, 53, false, [10, 4, 1046], am_noM), am_ce0, am_ce0, (.invokevirtual 44, 56, false, [2, 10, 0, 0, 3182, 3062, 3063, 1002, 3064], mX10_byteAt), am_ce0, am_ce0, (.invokestatic 64, 59, false, [0, 1, 0, 0, 3193, 3194, 1002, 3195], mX10_isDigit), am_ce0, am_ce0, (.ifCond .eq 41, 62, false, [100], am_noM), am_ce0, am_ce0, (.iinc 2 1, 65, false, [], am_noM), am_ce0],
  [am_ce0, (.aload_n 0, 66, false, [], am_noM), (.iload_n 2, 67, false, [], am_noM), (.iconst 4, 68, false, [], am_noM), (.if_icmp .le 7, 71, false, [75], am_noM), am_ce0, am_ce0, (.iconst 0, 72, false, [], am_noM), (.goto 22, 75, false, [94], am_noM), am_ce0, am_ce0, (.aload_n 0, 76, false, [], am_noM), (.getfield 37, 79, false, [10, 8, 1053], am_noM), am_ce0, am_ce0, (.bipush 10, 81, false, [], am_noM)],
  [am_ce0, (.imul, 82, false, [], am_noM), (.aload_n 0, 83, false, [], am_noM), (.aload_n 0, 84, false, [], am_noM), (.getfield 25, 87, false, [10, 4, 1046], am_noM), am_ce0, am_ce0, (.invokevirtual 44, 90, false, [2, 10, 0, 0, 3182, 3062, 3063, 1002, 3064], mX10_byteAt), am_ce0, am_ce0, (.iadd, 91, false, [], am_noM), (.bipush 48, 93, false, [], am_noM), am_ce0, (.isub, 94, false, [], am_noM), (.putfield 37, 97, false, [10, 8, 1053], am_noM), am_ce0],
  [am_ce0, (.goto 6, 100, false, [103], am_noM), am_ce0, am_ce0, (.iinc 1 1, 103, false, [], am_noM), am_ce0, am_ce0, (.aload_n 0, 104, false, [], am_noM), (.dup, 105, false, [], am_noM), (.getfield 25, 108, false, [10, 4, 1046], am_noM), am_ce0, am_ce0, (.iconst 1, 109, false, [], am_noM), (.iadd, 110, false, [], am_noM), (.putfield 25, 113, false, [10, 4, 1046], am_noM), am_ce0],
  [am_ce0, (.goto (-104), 116, false, [9], am_noM), am_ce0, am_ce0, (.iload_n 2, 117, false, [], am_noM), (.ifCond .ne 22, 120, false, [139], am_noM), am_ce0, am_ce0, (.iload_n 1, 121, false, [], am_noM), (.iconst 1, 122, false, [], am_noM), (.if_icmp .lt 17, 125, false, [139], am_noM), am_ce0, am_ce0, (.iload_n 1, 126, false, [], am_noM), (.bipush 8, 128, false, [], am_noM), am_ce0],
  [(.if_icmp .gt 11, 131, false, [139], am_noM), am_ce0, am_ce0, (.aload_n 0, 132, false, [], am_noM), (.iconst 1, 133, false, [], am_noM), (.putfield 28, 136, false, [10, 5, 1047], am_noM), am_ce0, am_ce0, (.goto 30, 139, false, [166], am_noM), am_ce0, am_ce0, (.iload_n 1, 140, false, [], am_noM), (.ifCond .ne 21, 143, false, [161], am_noM), am_ce0, am_ce0, (.iload_n 2, 144, false, [], am_noM)],
  [(.iconst 1, 145, false, [], am_noM), (.if_icmp .lt 16, 148, false, [161], am_noM), am_ce0, am_ce0, (.iload_n 2, 149, false, [], am_noM), (.iconst 4, 150, false, [], am_noM), (.if_icmp .gt 11, 153, false, [161], am_noM), am_ce0, am_ce0, (.aload_n 0, 154, false, [], am_noM), (.iconst 2, 155, false, [], am_noM), (.putfield 28, 158, false, [10, 5, 1047], am_noM), am_ce0, am_ce0, (.goto 8, 161, false, [166], am_noM), am_ce0],
  [am_ce0, (.aload_n 0, 162, false, [], am_noM), (.iconst 4, 163, false, [], am_noM), (.putfield 28, 166, false, [10, 5, 1047], am_noM), am_ce0, am_ce0, (.return_, 167, false, [], am_noM)]]
def kX10_isBlank : List (List CE) := [[(.iload_n 0, 1, false, [], am_noM), (.bipush 32, 3, false, [], am_noM), am_ce0, (.if_icmp .eq 9, 6, false, [12], am_noM), am_ce0, am_ce0, (.iload_n 0, 7, false, [], am_noM), (.bipush 10, 9, false, [], am_noM), am_ce0, (.if_icmp .ne 7, 12, false, [16], am_noM), am_ce0, am_ce0, (.iconst 1, 13, false, [], am_noM), (.goto 4, 16, false, [17], am_noM), am_ce0, am_ce0],
  [(.iconst 0, 17, false, [], am_noM), (.ireturn, 18, false, [1], am_noM)]]
def kX10_isLetter : List (List CE) := [[(.iload_n 0, 1, false, [], am_noM), (.bipush 97, 3, false, [], am_noM), am_ce0, (.if_icmp .lt 13, 6, false, [16], am_noM), am_ce0, am_ce0, (.iload_n 0, 7, false, [], am_noM), (.bipush 122, 9, false, [], am_noM), am_ce0, (.if_icmp .gt 7, 12, false, [16], am_noM), am_ce0, am_ce0, (.iconst 1, 13, false, [], am_noM), (.goto 4, 16, false, [17], am_noM), am_ce0, am_ce0],
  [(.iconst 0, 17, false, [], am_noM), (.ireturn, 18, false, [1], am_noM)]]
def kX10_isDigit : List (List CE) := [[(.iload_n 0, 1, false, [], am_noM), (.bipush 48, 3, false, [], am_noM), am_ce0, (.if_icmp .lt 13, 6, false, [16], am_noM), am_ce0, am_ce0, (.iload_n 0, 7, false, [], am_noM), (.bipush 57, 9, false, [], am_noM), am_ce0, (.if_icmp .gt 7, 12, false, [16], am_noM), am_ce0, am_ce0, (.iconst 1, 13, false, [], am_noM), (.goto 4, 16, false, [17], am_noM), am_ce0, am_ce0],
  [(.iconst 0, 17, false, [], am_noM), (.ireturn, 18, false, [1], am_noM)]]
def kX10_isWord : List (List CE) := [[(.aload_n 0, 1, false, [], am_noM), (.getfield 28, 4, false, [10, 5, 1047], am_noM), am_ce0, am_ce0, (.iconst 1, 5, false, [], am_noM), (.if_icmp .ne 19, 8, false, [24], am_noM), am_ce0, am_ce0, (.aload_n 0, 9, false, [], am_noM), (.getfield 34, 12, false, [10, 7, 1051], am_noM), am_ce0, am_ce0, (.aload_n 0, 13, false, [], am_noM), (.getfield 31, 16, false, [10, 6, 1049], am_noM), am_ce0, am_ce0],
  [(.isub, 17, false, [], am_noM), (.aload_n 1, 18, false, [], am_noM), (.invokevirtual 67, 21, false, [], am_noM), am_ce0, am_ce0, (.if_icmp .eq 5, 24, false, [26], am_noM), am_ce0, am_ce0, (.iconst 0, 25, false, [], am_noM), (.ireturn, 26, false, [1], am_noM), (.iconst 0, 27, false, [], am_noM), (.istore_n 2, 28, false, [], am_noM), (.iload_n 2, 29, true, [], am_noM), (.aload_n 1, 30, false, [], am_noM), (.invokevirtual 67, 33, false, [], am_noM), am_ce0],
  [am_ce0, (.if_icmp .ge 29, 36, false, [62], am_noM), am_ce0, am_ce0, (.aload_n 0, 37, false, [], am_noM), (.aload_n 0, 38, false, [], am_noM), (.getfield 31, 41, false, [10, 6, 1049], am_noM), am_ce0, am_ce0, (.iload_n 2, 42, false, [], am_noM), (.iadd, 43, false, [], am_noM), (.invokevirtual 44, 46, false, [2, 10, 0, 0, 3182, 3062, 3063, 1002, 3064], mX10_byteAt), am_ce0, am_ce0, (.aload_n 1, 47, false, [], am_noM), (.iload_n 2, 48, false, [], am_noM)],
  [(.invokevirtual 73, 51, false, [], am_noM), am_ce0, am_ce0, (.if_icmp .eq 5, 54, false, [56], am_noM), am_ce0, am_ce0, (.iconst 0, 55, false, [], am_noM), (.ireturn, 56, false, [1], am_noM), (.iinc 2 1, 59, false, [], am_noM), am_ce0, am_ce0, (.goto (-31), 62, false, [28], am_noM), am_ce0, am_ce0, (.iconst 1, 63, false, [], am_noM), (.ireturn, 64, false, [1], am_noM)]]
def kX10_isWordAt : List (List CE) := [[(.aload_n 0, 1, false, [], am_noM), (.getfield 28, 4, false, [10, 5, 1047], am_noM), am_ce0, am_ce0, (.iconst 1, 5, false, [], am_noM), (.if_icmp .ne 18, 8, false, [23], am_noM), am_ce0, am_ce0, (.aload_n 0, 9, false, [], am_noM), (.getfield 34, 12, false, [10, 7, 1051], am_noM), am_ce0, am_ce0, (.aload_n 0, 13, false, [], am_noM), (.getfield 31, 16, false, [10, 6, 1049], am_noM), am_ce0, am_ce0],
  [(.isub, 17, false, [], am_noM), (.iload_n 2, 18, false, [], am_noM), (.iload_n 1, 19, false, [], am_noM), (.isub, 20, false, [], am_noM), (.if_icmp .eq 5, 23, false, [25], am_noM), am_ce0, am_ce0, (.iconst 0, 24, false, [], am_noM), (.ireturn, 25, false, [1], am_noM), (.iconst 0, 26, false, [], am_noM), (.istore_n 3, 27, false, [], am_noM), (.iload_n 3, 28, true, [], am_noM), (.iload_n 2, 29, false, [], am_noM), (.iload_n 1, 30, false, [], am_noM), (.isub, 31, false, [], am_noM), (.if_icmp .ge 31, 34, false, [62], am_noM)],
  [am_ce0, am_ce0, (.aload_n 0, 35, false, [], am_noM), (.aload_n 0, 36, false, [], am_noM), (.getfield 31, 39, false, [10, 6, 1049], am_noM), am_ce0, am_ce0, (.iload_n 3, 40, false, [], am_noM), (.iadd, 41, false, [], am_noM), (.invokevirtual 44, 44, false, [2, 10, 0, 0, 3182, 3062, 3063, 1002, 3064], mX10_byteAt), am_ce0, am_ce0, (.aload_n 0, 45, false, [], am_noM), (.iload_n 1, 46, false, [], am_noM), (.iload_n 3, 47, false, [], am_noM), (.iadd, 48, false, [], am_noM)],
  [(.invokevirtual 44, 51, false, [2, 10, 0, 0, 3182, 3062, 3063, 1002, 3064], mX10_byteAt), am_ce0, am_ce0, (.if_icmp .eq 5, 54, false, [56], am_noM), am_ce0, am_ce0, (.iconst 0, 55, false, [], am_noM), (.ireturn, 56, false, [1], am_noM), (.iinc 3 1, 59, false, [], am_noM), am_ce0, am_ce0, (.goto (-32), 62, false, [27], am_noM), am_ce0, am_ce0, (.iconst 1, 63, false, [], am_noM), (.ireturn, 64, false, [1], am_noM)]]
def kX11_init : List (List CE) := [[(.aload_n 0, 1, false, [], am_noM), (.invokespecial 1, 4, false, [1, 1029, 1030, 1031], am_noM), am_ce0, am_ce0, (.aload_n 0, 5, false, [], am_noM), (.new 7, 8, false, [10, 9, 1032, 1033, 1002], am_noM), am_ce0, am_ce0, (.dup, 9, false, [], am_noM), (.invokespecial 9, 12, false, [2, 1, 2, 650, 136, 103], mX10_init), am_ce0, am_ce0, (.putfield 10, 15, false, [11, 0, 2200], am_noM), am_ce0, am_ce0, (.aload_n 0, 16, false, [], am_noM)],
  [(.bipush 16, 18, false, [], am_noM), am_ce0, (.anewarray 16, 21, false, [], am_noM), am_ce0, am_ce0, (.putfield 18, 24, false, [11, 1, 2201], am_noM), am_ce0, am_ce0, (.aload_n 0, 25, false, [], am_noM), (.iconst 4, 26, false, [], am_noM), (.anewarray 22, 29, false, [], am_noM), am_ce0, am_ce0, (.putfield 24, 32, false, [11, 2, 2202], am_noM), am_ce0, am_ce0],
  [(.aload_n 0, 33, false, [], am_noM), (.new 28, 36, false, [5, 5, 1079, 1080, 1003], am_noM), am_ce0, am_ce0, (.dup, 37, false, [], am_noM), (.invokespecial 30, 40, false, [2, 1, 4, 48, 183, 104], mX5_init), am_ce0, am_ce0, (.putfield 31, 43, false, [11, 3, 2203], am_noM), am_ce0, am_ce0, (.aload_n 0, 44, false, [], am_noM), (.new 35, 47, false, [3, 16, 1103, 1104, 1004], am_noM), am_ce0, am_ce0, (.dup, 48, false, [], am_noM)],
  [(.invokespecial 37, 51, false, [0, 1, 41, 1096, 1105, 1106, 1004, 1107], mX3_init), am_ce0, am_ce0, (.putfield 38, 54, false, [11, 4, 2204], am_noM), am_ce0, am_ce0, (.aload_n 0, 55, false, [], am_noM), (.new 42, 58, false, [9, 12, 1168, 1169, 1006], am_noM), am_ce0, am_ce0, (.dup, 59, false, [], am_noM), (.invokespecial 44, 62, false, [0, 1, 42, 729, 1170, 1171, 1006, 1172], mX9_init), am_ce0, am_ce0, (.putfield 45, 65, false, [11, 5, 2205], am_noM), am_ce0],
  [am_ce0, (.aload_n 0, 66, false, [], am_noM), (.new 49, 69, false, [8, 5, 2003, 1175, 1007], am_noM), am_ce0, am_ce0, (.dup, 70, false, [], am_noM), (.invokespecial 51, 73, false, [2, 1, 3, 72, 278, 108], mX8_init), am_ce0, am_ce0, (.putfield 52, 76, false, [11, 6, 2206], am_noM), am_ce0, am_ce0, (.aload_n 0, 77, false, [], am_noM), (.new 56, 80, false, [4, 8, 2005, 2006, 1008], am_noM), am_ce0, am_ce0],
  [(.dup, 81, false, [], am_noM), (.invokespecial 58, 84, false, [2, 1, 4, 42, 349, 109], mX4_init), am_ce0, am_ce0, (.putfield 59, 87, false, [11, 7, 2207], am_noM), am_ce0, am_ce0, (.aload_n 0, 88, false, [], am_noM), (.new 56, 91, false, [4, 8, 2005, 2006, 1008], am_noM), am_ce0, am_ce0, (.dup, 92, false, [], am_noM), (.invokespecial 58, 95, false, [2, 1, 4, 42, 349, 109], mX4_init), am_ce0, am_ce0, (.putfield 63, 98, false, [11, 8, 2208], am_noM)],
  [am_ce0, am_ce0, (.aload_n 0, 99, false, [], am_noM), (.new 66, 102, false, [6, 13, 2073, 2074, 1010], am_noM), am_ce0, am_ce0, (.dup, 103, false, [], am_noM), (.invokespecial 68, 106, false, [0, 1, 29, 1072, 2075, 2076, 1010, 2077], mX6_init), am_ce0, am_ce0, (.putfield 69, 109, false, [11, 9, 2209], am_noM), am_ce0, am_ce0, (.aload_n 0, 110, false, [], am_noM), (.new 73, 113, false, [2, 14, 2128, 2129, 1011], am_noM), am_ce0],
  [am_ce0, (.dup, 114, false, [], am_noM), (.invokespecial 75, 117, false, [2, 1, 9, 101, 472, 112], mX2_init), am_ce0, am_ce0, (.putfield 76, 120, false, [11, 10, 2210], am_noM), am_ce0, am_ce0, (.aload_n 0, 121, false, [], am_noM), (.iconst 0, 122, false, [], am_noM), (.putfield 80, 125, false, [11, 11, 2211], am_noM), am_ce0, am_ce0, (.iconst 0, 126, false, [], am_noM), (.istore_n 1, 127, false, [], am_noM), (.iload_n 1, 128, true, [], am_noM)],
  [(.iconst 4, 129, false, [], am_noM), (.if_icmp .ge 22, 132, false, [151], am_noM), am_ce0, am_ce0, (.aload_n 0, 133, false, [], am_noM), (.getfield 24, 136, false, [11, 2, 2202], am_noM), am_ce0, am_ce0, (.iload_n 1, 137, false, [], am_noM), (.new 22, 140, false, [7, 4, 1077, 2180, 1012], am_noM), am_ce0, am_ce0, (.dup, 141, false, [], am_noM), (.invokespecial 84, 144, false, [2, 1, 3, 36, 523, 113], mX7_init), am_ce0, am_ce0],
  [(.aastore, 145, false, [], am_noM), (.iinc 1 1, 148, false, [], am_noM), am_ce0, am_ce0, (.goto (-21), 151, false, [127], am_noM), am_ce0, am_ce0, (.return_, 152, false, [], am_noM)]]
def kX11_feed : List (List CE) := [[(.aload_n 0, 1, false, [], am_noM), (.getfield 10, 4, false, [11, 0, 2200], am_noM), am_ce0, am_ce0, (.iload_n 1, 5, false, [], am_noM), (.iload_n 2, 6, false, [], am_noM), (.iload_n 3, 7, false, [], am_noM), (.iload 4, 9, false, [], am_noM), am_ce0, (.iload 5, 11, false, [], am_noM), am_ce0, (.invokevirtual 85, 14, false, [6, 10, 0, 0, 3001, 3002, 3003, 1002, 3004], mX10_take), am_ce0, am_ce0, (.ireturn, 15, false, [0], am_noM)]]
def kX11_end : List (List CE) := [[(.aload_n 0, 1, false, [], am_noM), (.getfield 10, 4, false, [11, 0, 2200], am_noM), am_ce0, am_ce0, (.iload_n 1, 5, false, [], am_noM), (.invokevirtual 89, 8, false, [2, 10, 0, 0, 3013, 3014, 3015, 1002, 3016], mX10_cut), am_ce0, am_ce0, (.ireturn, 9, false, [1], am_noM)]]
def kX11_board : List (List CE) := [[(.iload_n 1, 1, false, [], am_noM), (.iconst 1, 2, false, [], am_noM), (.bipush 40, 4, false, [], am_noM), am_ce0, (.invokestatic 93, 7, false, [0, 3, 0, 0, 3021, 3022, 1001, 3023], mX11_within), am_ce0, am_ce0, (.ifCond .eq 50, 10, false, [57], am_noM), am_ce0, am_ce0, (.iload_n 2, 11, false, [], am_noM), (.bipush (-9), 13, false, [], am_noM), am_ce0, (.bipush 30, 15, false, [], am_noM), am_ce0, (.invokestatic 93, 18, false, [0, 3, 0, 0, 3021, 3022, 1001, 3023], mX11_within)],
  [am_ce0, am_ce0, (.ifCond .eq 39, 21, false, [57], am_noM), am_ce0, am_ce0, (.iload_n 3, 22, false, [], am_noM), (.iconst 0, 23, false, [], am_noM), (.bipush 15, 25, false, [], am_noM), am_ce0, (.invokestatic 93, 28, false, [0, 3, 0, 0, 3021, 3022, 1001, 3023], mX11_within), am_ce0, am_ce0, (.ifCond .eq 29, 31, false, [57], am_noM), am_ce0, am_ce0, (.iload 4, 33, false, [], am_noM)],
  [am_ce0, (.iconst 0, 34, false, [], am_noM), (.bipush 9, 36, false, [], am_noM), am_ce0, (.invokestatic 93, 39, false, [0, 3, 0, 0, 3021, 3022, 1001, 3023], mX11_within), am_ce0, am_ce0, (.ifCond .eq 18, 42, false, [57], am_noM), am_ce0, am_ce0, (.iload 5, 44, false, [], am_noM), am_ce0, (.iconst 0, 45, false, [], am_noM), (.bipush 8, 47, false, [], am_noM), am_ce0, (.invokestatic 93, 50, false, [0, 3, 0, 0, 3021, 3022, 1001, 3023], mX11_within)],
  [am_ce0, am_ce0, (.ifCond .eq 7, 53, false, [57], am_noM), am_ce0, am_ce0, (.iconst 1, 54, false, [], am_noM), (.goto 4, 57, false, [58], am_noM), am_ce0, am_ce0, (.iconst 0, 58, false, [], am_noM), (.istore 6, 60, false, [], am_noM), am_ce0, (.iload 6, 62, false, [], am_noM), am_ce0, (.ifCond .eq 19, 65, false, [81], am_noM), am_ce0],
  [am_ce0, (.aload_n 0, 66, false, [], am_noM), (.getfield 80, 69, false, [11, 11, 2211], am_noM), am_ce0, am_ce0, (.ifCond .lt 12, 72, false, [81], am_noM), am_ce0, am_ce0, (.aload_n 0, 73, false, [], am_noM), (.getfield 80, 76, false, [11, 11, 2211], am_noM), am_ce0, am_ce0, (.bipush 16, 78, false, [], am_noM), am_ce0, (.if_icmp .lt 5, 81, false, [83], am_noM), am_ce0],
  [am_ce0, (.iconst (-1), 82, false, [], am_noM), (.ireturn, 83, false, [0], am_noM), (.aload_n 0, 84, false, [], am_noM), (.getfield 18, 87, false, [11, 1, 2201], am_noM), am_ce0, am_ce0, (.aload_n 0, 88, false, [], am_noM), (.getfield 80, 91, false, [11, 11, 2211], am_noM), am_ce0, am_ce0, (.new 16, 94, false, [1, 5, 1075, 3024, 1014], am_noM), am_ce0, am_ce0, (.dup, 95, false, [], am_noM), (.iload_n 1, 96, false, [], am_noM)],
  [(.iload_n 2, 97, false, [], am_noM), (.iload_n 3, 98, false, [], am_noM), (.iload 4, 100, false, [], am_noM), am_ce0, (.iload 5, 102, false, [], am_noM), am_ce0, (.invokespecial 97, 105, false, [0, 6, 0, 0, 3025, 3026, 1014, 3027], mX1_init), am_ce0, am_ce0, (.aastore, 106, false, [], am_noM), (.aload_n 0, 107, false, [], am_noM), (.dup, 108, false, [], am_noM), (.getfield 80, 111, false, [11, 11, 2211], am_noM), am_ce0, am_ce0, (.iconst 1, 112, false, [], am_noM)],
  [(.iadd, 113, false, [], am_noM), (.putfield 80, 116, false, [11, 11, 2211], am_noM), am_ce0, am_ce0, (.aload_n 0, 117, false, [], am_noM), (.getfield 80, 120, false, [11, 11, 2211], am_noM), am_ce0, am_ce0, (.iconst 1, 121, false, [], am_noM), (.isub, 122, false, [], am_noM), (.ireturn, 123, false, [0], am_noM)]]
def kX11_run : List (List CE) := [[(.iconst (-1), 1, false, [], am_noM), (.istore_n 2, 2, false, [], am_noM), (.iload_n 1, 3, false, [], am_noM), (.iconst 0, 4, false, [], am_noM), (.iconst 3, 5, false, [], am_noM), (.invokestatic 93, 8, false, [0, 3, 0, 0, 3021, 3022, 1001, 3023], mX11_within), am_ce0, am_ce0, (.ifCond .eq 45, 11, false, [53], am_noM), am_ce0, am_ce0, (.aload_n 0, 12, false, [], am_noM), (.getfield 10, 15, false, [11, 0, 2200], am_noM), am_ce0, am_ce0, (.aload_n 0, 16, false, [], am_noM)],
  [(.getfield 80, 19, false, [11, 11, 2211], am_noM), am_ce0, am_ce0, (.invokestatic 100, 22, false, [0, 2, 0, 0, 3058, 3059, 1012, 3060], mX7_isTold), am_ce0, am_ce0, (.ifCond .eq 31, 25, false, [53], am_noM), am_ce0, am_ce0, (.aload_n 0, 26, false, [], am_noM), (.getfield 24, 29, false, [11, 2, 2202], am_noM), am_ce0, am_ce0, (.iload_n 1, 30, false, [], am_noM), (.aaload, 31, false, [], am_noM), (.astore_n 3, 32, false, [], am_noM)],
  [(.aload_n 3, 33, false, [], am_noM), (.ifnull 20, 36, false, [53], am_noM), am_ce0, am_ce0, (.aload_n 3, 37, false, [], am_noM), (.aload_n 0, 38, false, [], am_noM), (.getfield 10, 41, false, [11, 0, 2200], am_noM), am_ce0, am_ce0, (.aload_n 0, 42, false, [], am_noM), (.getfield 18, 45, false, [11, 1, 2201], am_noM), am_ce0, am_ce0, (.invokevirtual 104, 48, false, [3, 7, 0, 0, 3068, 3069, 3070, 1012, 3071], mX7_build), am_ce0, am_ce0],
  [(.aload_n 3, 49, false, [], am_noM), (.getfield 108, 52, false, [7, 3, 2190], am_noM), am_ce0, am_ce0, (.istore_n 2, 53, false, [], am_noM), (.aload_n 0, 54, false, [], am_noM), (.getfield 10, 57, false, [11, 0, 2200], am_noM), am_ce0, am_ce0, (.invokevirtual 111, 60, false, [1, 10, 0, 0, 3075, 3076, 3077, 1002, 3078], mX10_clear), am_ce0, am_ce0, (.iload_n 2, 61, false, [], am_noM), (.ireturn, 62, false, [0], am_noM)]]
def kX11_fall : List (List CE) := [[(.aload_n 0, 1, false, [], am_noM), (.iload_n 1, 2, false, [], am_noM), (.invokevirtual 114, 5, false, [2, 11, 0, 0, 3083, 3085, 1, 1001, 3086], mX11_pathOf), am_ce0, am_ce0, (.astore 4, 7, false, [], am_noM), am_ce0, (.aload 4, 9, false, [], am_noM), am_ce0, (.ifnull 12, 12, false, [21], am_noM), am_ce0, am_ce0, (.iload_n 3, 13, false, [], am_noM), (.iconst 0, 14, false, [], am_noM), (.iconst 3, 15, false, [], am_noM), (.invokestatic 93, 18, false, [0, 3, 0, 0, 3021, 3022, 1001, 3023], mX11_within)],
  [am_ce0, am_ce0, (.ifCond .ne 6, 21, false, [24], am_noM), am_ce0, am_ce0, (.bipush (-2), 23, false, [], am_noM), am_ce0, (.ireturn, 24, false, [0], am_noM), (.aload_n 0, 25, false, [], am_noM), (.getfield 59, 28, false, [11, 7, 2207], am_noM), am_ce0, am_ce0, (.aload 4, 30, false, [], am_noM), am_ce0, (.iload_n 2, 31, false, [], am_noM), (.invokevirtual 118, 34, false, [3, 4, 0, 0, 3087, 3088, 3089, 1008, 3090], mX4_follow)],
  [am_ce0, am_ce0, (.aload_n 0, 35, false, [], am_noM), (.getfield 59, 38, false, [11, 7, 2207], am_noM), am_ce0, am_ce0, (.iload_n 3, 39, false, [], am_noM), (.invokevirtual 122, 42, false, [2, 4, 0, 0, 3133, 3134, 3135, 1008, 3136], mX4_answer), am_ce0, am_ce0, (.ireturn, 43, false, [0], am_noM)]]
def kX11_knock : List (List CE) := [[(.iload_n 1, 1, false, [], am_noM), (.iconst 0, 2, false, [], am_noM), (.aload_n 0, 3, false, [], am_noM), (.getfield 59, 6, false, [11, 7, 2207], am_noM), am_ce0, am_ce0, (.getfield 126, 9, false, [4, 4, 2051], am_noM), am_ce0, am_ce0, (.iconst 1, 10, false, [], am_noM), (.isub, 11, false, [], am_noM), (.invokestatic 93, 14, false, [0, 3, 0, 0, 3021, 3022, 1001, 3023], mX11_within), am_ce0, am_ce0, (.ifCond .eq 12, 17, false, [26], am_noM), am_ce0],
  [am_ce0, (.iload_n 2, 18, false, [], am_noM), (.iconst 0, 19, false, [], am_noM), (.iconst 2, 20, false, [], am_noM), (.invokestatic 93, 23, false, [0, 3, 0, 0, 3021, 3022, 1001, 3023], mX11_within), am_ce0, am_ce0, (.ifCond .ne 13, 26, false, [36], am_noM), am_ce0, am_ce0, (.new 129, 29, false, [], am_noM), am_ce0, am_ce0, (.dup, 30, false, [], am_noM), (.ldc 131, 32, false, [1, 4, 1270], am_noM), am_ce0],
  [(.invokespecial 133, 35, false, [], am_noM), am_ce0, am_ce0, (.athrow, 36, false, [], am_noM), (.aload_n 0, 37, false, [], am_noM), (.getfield 59, 40, false, [11, 7, 2207], am_noM), am_ce0, am_ce0, (.iload_n 1, 41, false, [], am_noM), (.iload_n 2, 42, false, [], am_noM), (.invokevirtual 136, 45, false, [3, 4, 0, 0, 5235, 5236, 5237, 1008, 5238], mX4_knockAt), am_ce0, am_ce0, (.ireturn, 46, false, [0], am_noM)]]
def kX11_machine : List (List CE) := [[(.aload_n 0, 1, false, [], am_noM), (.getfield 31, 4, false, [11, 3, 2203], am_noM), am_ce0, am_ce0, (.getfield 140, 7, false, [5, 4, 1091], am_noM), am_ce0, am_ce0, (.bipush 12, 9, false, [], am_noM), am_ce0, (.if_icmp .lt 6, 12, false, [15], am_noM), am_ce0, am_ce0, (.bipush (-2), 14, false, [], am_noM), am_ce0, (.ireturn, 15, false, [0], am_noM), (.iload_n 1, 16, false, [], am_noM)],
  [(.iconst 0, 17, false, [], am_noM), (.iconst 4, 18, false, [], am_noM), (.invokestatic 93, 21, false, [0, 3, 0, 0, 3021, 3022, 1001, 3023], mX11_within), am_ce0, am_ce0, (.ifCond .eq 13, 24, false, [34], am_noM), am_ce0, am_ce0, (.iload_n 2, 25, false, [], am_noM), (.iconst 0, 26, false, [], am_noM), (.bipush 99, 28, false, [], am_noM), am_ce0, (.invokestatic 93, 31, false, [0, 3, 0, 0, 3021, 3022, 1001, 3023], mX11_within), am_ce0, am_ce0, (.ifCond .ne 6, 34, false, [37], am_noM)],
  [am_ce0, am_ce0, (.bipush (-3), 36, false, [], am_noM), am_ce0, (.ireturn, 37, false, [0], am_noM), (.aload_n 0, 38, false, [], am_noM), (.iload_n 1, 39, false, [], am_noM), (.iload_n 3, 40, false, [], am_noM), (.iload 4, 42, false, [], am_noM), am_ce0, (.invokevirtual 141, 45, false, [4, 11, 0, 0, 3141, 3143, 4, 1001, 3144], mX11_canStand), am_ce0, am_ce0, (.ifCond .ne 6, 48, false, [51], am_noM), am_ce0, am_ce0],
  [(.bipush (-4), 50, false, [], am_noM), am_ce0, (.ireturn, 51, false, [0], am_noM), (.aload_n 0, 52, false, [], am_noM), (.getfield 31, 55, false, [11, 3, 2203], am_noM), am_ce0, am_ce0, (.iload_n 1, 56, false, [], am_noM), (.iload_n 2, 57, false, [], am_noM), (.iload_n 3, 58, false, [], am_noM), (.iload 4, 60, false, [], am_noM), am_ce0, (.invokevirtual 144, 63, false, [5, 5, 0, 0, 3145, 3146, 3147, 1003, 3148], mX5_add), am_ce0, am_ce0, (.ireturn, 64, false, [0], am_noM)]]
def kX11_man : List (List CE) := [[(.iload_n 1, 1, false, [], am_noM), (.iconst 0, 2, false, [], am_noM), (.bipush 99, 4, false, [], am_noM), am_ce0, (.invokestatic 93, 7, false, [0, 3, 0, 0, 3021, 3022, 1001, 3023], mX11_within), am_ce0, am_ce0, (.ifCond .eq 14, 10, false, [21], am_noM), am_ce0, am_ce0, (.aload_n 0, 11, false, [], am_noM), (.getfield 38, 14, false, [11, 4, 2204], am_noM), am_ce0, am_ce0, (.iload_n 1, 15, false, [], am_noM), (.invokevirtual 148, 18, false, [2, 3, 0, 0, 3153, 3154, 3155, 1004, 3156], mX3_add)],
  [am_ce0, am_ce0, (.goto 4, 21, false, [22], am_noM), am_ce0, am_ce0, (.iconst (-1), 22, false, [], am_noM), (.ireturn, 23, false, [0], am_noM)]]
def kX11_score : List (List CE) := [[(.aload_n 0, 1, false, [], am_noM), (.getfield 45, 4, false, [11, 5, 2205], am_noM), am_ce0, am_ce0, (.aload_n 0, 5, false, [], am_noM), (.getfield 10, 8, false, [11, 0, 2200], am_noM), am_ce0, am_ce0, (.aload_n 0, 9, false, [], am_noM), (.getfield 31, 12, false, [11, 3, 2203], am_noM), am_ce0, am_ce0, (.invokevirtual 150, 15, false, [3, 9, 0, 0, 3161, 3162, 3163, 1006, 3164], mX9_understands), am_ce0, am_ce0, (.ifCond .eq 35, 18, false, [50], am_noM)],
  [am_ce0, am_ce0, (.aload_n 0, 19, false, [], am_noM), (.getfield 52, 22, false, [11, 6, 2206], am_noM), am_ce0, am_ce0, (.aload_n 0, 23, false, [], am_noM), (.getfield 45, 26, false, [11, 5, 2205], am_noM), am_ce0, am_ce0, (.getfield 154, 29, false, [9, 0, 1204], am_noM), am_ce0, am_ce0, (.invokevirtual 157, 32, false, [2, 8, 0, 0, 4117, 4118, 4119, 1007, 4120], mX8_becomes), am_ce0, am_ce0],
  [(.aload_n 0, 33, false, [], am_noM), (.getfield 38, 36, false, [11, 4, 2204], am_noM), am_ce0, am_ce0, (.invokevirtual 161, 39, false, [1, 3, 0, 0, 4130, 1112, 1113, 1004, 1114], mX3_forget), am_ce0, am_ce0, (.aload_n 0, 40, false, [], am_noM), (.getfield 52, 43, false, [11, 6, 2206], am_noM), am_ce0, am_ce0, (.getfield 164, 46, false, [8, 3, 1187], am_noM), am_ce0, am_ce0, (.istore_n 1, 47, false, [], am_noM), (.goto 13, 50, false, [60], am_noM)],
  [am_ce0, am_ce0, (.iconst (-1), 51, false, [], am_noM), (.aload_n 0, 52, false, [], am_noM), (.getfield 45, 55, false, [11, 5, 2205], am_noM), am_ce0, am_ce0, (.getfield 165, 58, false, [9, 11, 1217], am_noM), am_ce0, am_ce0, (.isub, 59, false, [], am_noM), (.istore_n 1, 60, false, [], am_noM), (.aload_n 0, 61, false, [], am_noM), (.getfield 10, 64, false, [11, 0, 2200], am_noM), am_ce0, am_ce0],
  [(.invokevirtual 111, 67, false, [1, 10, 0, 0, 3075, 3076, 3077, 1002, 3078], mX10_clear), am_ce0, am_ce0, (.iload_n 1, 68, false, [], am_noM), (.ireturn, 69, false, [0], am_noM)]]
def kX11_fault : List (List CE) := [[(.aload_n 0, 1, false, [], am_noM), (.getfield 45, 4, false, [11, 5, 2205], am_noM), am_ce0, am_ce0, (.getfield 168, 7, false, [9, 10, 1215], am_noM), am_ce0, am_ce0, (.ireturn, 8, false, [0], am_noM)]]
def kX11_event : List (List CE) := [[(.iload_n 1, 1, false, [], am_noM), (.iconst 0, 2, false, [], am_noM), (.aload_n 0, 3, false, [], am_noM), (.getfield 52, 6, false, [11, 6, 2206], am_noM), am_ce0, am_ce0, (.getfield 164, 9, false, [8, 3, 1187], am_noM), am_ce0, am_ce0, (.iconst 1, 10, false, [], am_noM), (.isub, 11, false, [], am_noM), (.invokestatic 93, 14, false, [0, 3, 0, 0, 3021, 3022, 1001, 3023], mX11_within), am_ce0, am_ce0, (.ifCond .eq 12, 17, false, [26], am_noM), am_ce0],
  [am_ce0, (.iload_n 2, 18, false, [], am_noM), (.iconst 0, 19, false, [], am_noM), (.iconst 4, 20, false, [], am_noM), (.invokestatic 93, 23, false, [0, 3, 0, 0, 3021, 3022, 1001, 3023], mX11_within), am_ce0, am_ce0, (.ifCond .ne 13, 26, false, [36], am_noM), am_ce0, am_ce0, (.new 129, 29, false, [], am_noM), am_ce0, am_ce0, (.dup, 30, false, [], am_noM), (.ldc 171, 32, false, [1, 3, 1307], am_noM), am_ce0],
  [(.invokespecial 133, 35, false, [], am_noM), am_ce0, am_ce0, (.athrow, 36, false, [], am_noM), (.aload_n 0, 37, false, [], am_noM), (.getfield 52, 40, false, [11, 6, 2206], am_noM), am_ce0, am_ce0, (.iload_n 1, 41, false, [], am_noM), (.invokevirtual 173, 44, false, [2, 8, 0, 0, 6007, 4092, 4093, 1007, 4094], mX8_machineOf), am_ce0, am_ce0, (.istore_n 3, 45, false, [], am_noM), (.aload_n 0, 46, false, [], am_noM), (.getfield 52, 49, false, [11, 6, 2206], am_noM), am_ce0],
  [am_ce0, (.iload_n 1, 50, false, [], am_noM), (.invokevirtual 176, 53, false, [2, 8, 0, 0, 6008, 4096, 4097, 1007, 4098], mX8_numberOf), am_ce0, am_ce0, (.istore 4, 55, false, [], am_noM), am_ce0, (.iload_n 2, 56, false, [], am_noM), (.tableswitch 57 0 3 #[32, 41, 43, 46], 88, false, [113, 0, 88, 1, 97, 2, 99, 3, 102], am_noM), am_ce0, am_ce0, am_ce0, am_ce0, am_ce0, am_ce0, am_ce0],
  [am_ce0, am_ce0, am_ce0, am_ce0, am_ce0, am_ce0, am_ce0, am_ce0, am_ce0, am_ce0, am_ce0, am_ce0, am_ce0, am_ce0, am_ce0, am_ce0],
  [am_ce0, am_ce0, am_ce0, am_ce0, am_ce0, am_ce0, am_ce0, am_ce0, (.aload_n 0, 89, false, [], am_noM), (.getfield 52, 92, false, [11, 6, 2206], am_noM), am_ce0, am_ce0, (.iload_n 1, 93, false, [], am_noM), (.invokevirtual 179, 96, false, [2, 8, 0, 0, 6009, 4084, 4085, 1007, 4086], mX8_tickOf), am_ce0, am_ce0],
  [(.ireturn, 97, false, [0], am_noM), (.iload_n 3, 98, false, [], am_noM), (.ireturn, 99, false, [0], am_noM), (.iload 4, 101, false, [], am_noM), am_ce0, (.ireturn, 102, false, [0], am_noM), (.aload_n 0, 103, false, [], am_noM), (.getfield 31, 106, false, [11, 3, 2203], am_noM), am_ce0, am_ce0, (.iload_n 3, 107, false, [], am_noM), (.iload 4, 109, false, [], am_noM), am_ce0, (.invokevirtual 182, 112, false, [3, 5, 0, 0, 6010, 4231, 4232, 1003, 4233], mX5_takes), am_ce0, am_ce0],
  [(.ireturn, 113, false, [0], am_noM), (.aload_n 0, 114, false, [], am_noM), (.getfield 31, 117, false, [11, 3, 2203], am_noM), am_ce0, am_ce0, (.iload_n 3, 118, false, [], am_noM), (.iload 4, 120, false, [], am_noM), am_ce0, (.invokevirtual 185, 123, false, [3, 5, 0, 0, 6011, 4196, 4197, 1003, 4198], mX5_strength), am_ce0, am_ce0, (.ireturn, 124, false, [0], am_noM)]]
def kX11_night : List (List CE) := [[(.aload_n 0, 1, false, [], am_noM), (.getfield 69, 4, false, [11, 9, 2209], am_noM), am_ce0, am_ce0, (.aload_n 0, 5, false, [], am_noM), (.getfield 52, 8, false, [11, 6, 2206], am_noM), am_ce0, am_ce0, (.aload_n 0, 9, false, [], am_noM), (.getfield 31, 12, false, [11, 3, 2203], am_noM), am_ce0, am_ce0, (.aload_n 0, 13, false, [], am_noM), (.getfield 24, 16, false, [11, 2, 2202], am_noM), am_ce0, am_ce0],
  [(.invokevirtual 188, 19, false, [4, 6, 0, 0, 4140, 4141, 4142, 1010, 4143], mX6_goThrough), am_ce0, am_ce0, (.aload_n 0, 20, false, [], am_noM), (.getfield 69, 23, false, [11, 9, 2209], am_noM), am_ce0, am_ce0, (.getfield 192, 26, false, [6, 3, 2086], am_noM), am_ce0, am_ce0, (.ireturn, 27, false, [0], am_noM)]]
def kX11_sound : List (List CE) := [[(.iload_n 1, 1, false, [], am_noM), (.iconst 0, 2, false, [], am_noM), (.aload_n 0, 3, false, [], am_noM), (.getfield 69, 6, false, [11, 9, 2209], am_noM), am_ce0, am_ce0, (.getfield 192, 9, false, [6, 3, 2086], am_noM), am_ce0, am_ce0, (.iconst 1, 10, false, [], am_noM), (.isub, 11, false, [], am_noM), (.invokestatic 93, 14, false, [0, 3, 0, 0, 3021, 3022, 1001, 3023], mX11_within), am_ce0, am_ce0, (.ifCond .eq 12, 17, false, [26], am_noM), am_ce0],
  [am_ce0, (.iload_n 2, 18, false, [], am_noM), (.iconst 0, 19, false, [], am_noM), (.iconst 2, 20, false, [], am_noM), (.invokestatic 93, 23, false, [0, 3, 0, 0, 3021, 3022, 1001, 3023], mX11_within), am_ce0, am_ce0, (.ifCond .ne 13, 26, false, [36], am_noM), am_ce0, am_ce0, (.new 129, 29, false, [], am_noM), am_ce0, am_ce0, (.dup, 30, false, [], am_noM), (.ldc 195, 32, false, [1, 5, 1320], am_noM), am_ce0],
  [(.invokespecial 133, 35, false, [], am_noM), am_ce0, am_ce0, (.athrow, 36, false, [], am_noM), (.aload_n 0, 37, false, [], am_noM), (.getfield 69, 40, false, [11, 9, 2209], am_noM), am_ce0, am_ce0, (.iload_n 1, 41, false, [], am_noM), (.iload_n 2, 42, false, [], am_noM), (.invokevirtual 197, 45, false, [3, 6, 0, 0, 6020, 6021, 6022, 1010, 6023], mX6_soundAt), am_ce0, am_ce0, (.ireturn, 46, false, [0], am_noM)]]
def kX11_told : List (List CE) := [[(.iload_n 1, 1, false, [], am_noM), (.tableswitch 75 0 4 #[35, 43, 51, 59, 67], 36, false, [76, 0, 36, 1, 44, 2, 52, 3, 60, 4, 68], am_noM), am_ce0, am_ce0, am_ce0, am_ce0, am_ce0, am_ce0, am_ce0, am_ce0, am_ce0, am_ce0, am_ce0, am_ce0, am_ce0, am_ce0],
  [am_ce0, am_ce0, am_ce0, am_ce0, am_ce0, am_ce0, am_ce0, am_ce0, am_ce0, am_ce0, am_ce0, am_ce0, am_ce0, am_ce0, am_ce0, am_ce0],
  [am_ce0, am_ce0, am_ce0, am_ce0, (.aload_n 0, 37, false, [], am_noM), (.getfield 69, 40, false, [11, 9, 2209], am_noM), am_ce0, am_ce0, (.getfield 200, 43, false, [6, 7, 2093], am_noM), am_ce0, am_ce0, (.ireturn, 44, false, [0], am_noM), (.aload_n 0, 45, false, [], am_noM), (.getfield 69, 48, false, [11, 9, 2209], am_noM), am_ce0, am_ce0],
  [(.getfield 203, 51, false, [6, 8, 2095], am_noM), am_ce0, am_ce0, (.ireturn, 52, false, [0], am_noM), (.aload_n 0, 53, false, [], am_noM), (.getfield 69, 56, false, [11, 9, 2209], am_noM), am_ce0, am_ce0, (.getfield 206, 59, false, [6, 9, 2097], am_noM), am_ce0, am_ce0, (.ireturn, 60, false, [0], am_noM), (.aload_n 0, 61, false, [], am_noM), (.getfield 69, 64, false, [11, 9, 2209], am_noM), am_ce0, am_ce0],
  [(.getfield 209, 67, false, [6, 4, 2088], am_noM), am_ce0, am_ce0, (.ireturn, 68, false, [0], am_noM), (.aload_n 0, 69, false, [], am_noM), (.getfield 69, 72, false, [11, 9, 2209], am_noM), am_ce0, am_ce0, (.getfield 212, 75, false, [6, 5, 2090], am_noM), am_ce0, am_ce0, (.ireturn, 76, false, [0], am_noM), (.iconst (-1), 77, false, [], am_noM), (.ireturn, 78, false, [0], am_noM)]]
def kX11_made : List (List CE) := [[(.aload_n 0, 1, false, [], am_noM), (.getfield 38, 4, false, [11, 4, 2204], am_noM), am_ce0, am_ce0, (.aload_n 0, 5, false, [], am_noM), (.getfield 52, 8, false, [11, 6, 2206], am_noM), am_ce0, am_ce0, (.aload_n 0, 9, false, [], am_noM), (.getfield 31, 12, false, [11, 3, 2203], am_noM), am_ce0, am_ce0, (.invokevirtual 215, 15, false, [3, 3, 0, 0, 4212, 4213, 4214, 1004, 4215], mX3_makeMost), am_ce0, am_ce0, (.ireturn, 16, false, [0], am_noM)]]
def kX11_who : List (List CE) := [[(.iload_n 1, 1, false, [], am_noM), (.iconst 0, 2, false, [], am_noM), (.aload_n 0, 3, false, [], am_noM), (.getfield 52, 6, false, [11, 6, 2206], am_noM), am_ce0, am_ce0, (.getfield 164, 9, false, [8, 3, 1187], am_noM), am_ce0, am_ce0, (.iconst 1, 10, false, [], am_noM), (.isub, 11, false, [], am_noM), (.invokestatic 93, 14, false, [0, 3, 0, 0, 3021, 3022, 1001, 3023], mX11_within), am_ce0, am_ce0, (.ifCond .eq 14, 17, false, [28], am_noM), am_ce0],
  [am_ce0, (.aload_n 0, 18, false, [], am_noM), (.getfield 38, 21, false, [11, 4, 2204], am_noM), am_ce0, am_ce0, (.iload_n 1, 22, false, [], am_noM), (.invokevirtual 219, 25, false, [2, 3, 0, 0, 5040, 5041, 5042, 1004, 5043], mX3_doerOf), am_ce0, am_ce0, (.goto 4, 28, false, [29], am_noM), am_ce0, am_ce0, (.iconst (-1), 29, false, [], am_noM), (.ireturn, 30, false, [0], am_noM)]]
def kX11_balls : List (List CE) := [[(.aload_n 0, 1, false, [], am_noM), (.iload_n 1, 2, false, [], am_noM), (.invokevirtual 114, 5, false, [2, 11, 0, 0, 3083, 3085, 1, 1001, 3086], mX11_pathOf), am_ce0, am_ce0, (.astore_n 3, 6, false, [], am_noM), (.aload_n 3, 7, false, [], am_noM), (.ifnull 14, 10, false, [21], am_noM), am_ce0, am_ce0, (.iload_n 2, 11, false, [], am_noM), (.iconst 0, 12, false, [], am_noM), (.sipush 1000, 15, false, [], am_noM), am_ce0, am_ce0, (.invokestatic 93, 18, false, [0, 3, 0, 0, 3021, 3022, 1001, 3023], mX11_within)],
  [am_ce0, am_ce0, (.ifCond .ne 5, 21, false, [23], am_noM), am_ce0, am_ce0, (.iconst (-1), 22, false, [], am_noM), (.ireturn, 23, false, [0], am_noM), (.aload_n 0, 24, false, [], am_noM), (.getfield 63, 27, false, [11, 8, 2208], am_noM), am_ce0, am_ce0, (.aload_n 3, 28, false, [], am_noM), (.iconst 0, 29, false, [], am_noM), (.invokevirtual 118, 32, false, [3, 4, 0, 0, 3087, 3088, 3089, 1008, 3090], mX4_follow), am_ce0, am_ce0],
  [(.aload_n 0, 33, false, [], am_noM), (.getfield 63, 36, false, [11, 8, 2208], am_noM), am_ce0, am_ce0, (.getfield 222, 39, false, [4, 5, 2053], am_noM), am_ce0, am_ce0, (.iconst (-1), 40, false, [], am_noM), (.if_icmp .ne 6, 43, false, [46], am_noM), am_ce0, am_ce0, (.bipush (-2), 45, false, [], am_noM), am_ce0, (.ireturn, 46, false, [0], am_noM), (.aload_n 0, 47, false, [], am_noM), (.getfield 31, 50, false, [11, 3, 2203], am_noM)],
  [am_ce0, am_ce0, (.aload_n 0, 51, false, [], am_noM), (.getfield 52, 54, false, [11, 6, 2206], am_noM), am_ce0, am_ce0, (.iload_n 1, 55, false, [], am_noM), (.aload_n 0, 56, false, [], am_noM), (.getfield 63, 59, false, [11, 8, 2208], am_noM), am_ce0, am_ce0, (.getfield 222, 62, false, [4, 5, 2053], am_noM), am_ce0, am_ce0, (.iload_n 2, 63, false, [], am_noM), (.iadd, 64, false, [], am_noM)],
  [(.invokevirtual 225, 67, false, [4, 5, 0, 0, 5048, 5049, 5050, 1003, 5051], mX5_ballsNeeded), am_ce0, am_ce0, (.ireturn, 68, false, [0], am_noM)]]
def kX11_fillings : List (List CE) := [[(.aload_n 0, 1, false, [], am_noM), (.getfield 31, 4, false, [11, 3, 2203], am_noM), am_ce0, am_ce0, (.iload_n 1, 5, false, [], am_noM), (.invokevirtual 229, 8, false, [2, 5, 0, 0, 5064, 4032, 4033, 1003, 4034], mX5_kindOf), am_ce0, am_ce0, (.iconst 1, 9, false, [], am_noM), (.if_icmp .ne 18, 12, false, [27], am_noM), am_ce0, am_ce0, (.aload_n 0, 13, false, [], am_noM), (.getfield 31, 16, false, [11, 3, 2203], am_noM), am_ce0, am_ce0],
  [(.aload_n 0, 17, false, [], am_noM), (.getfield 52, 20, false, [11, 6, 2206], am_noM), am_ce0, am_ce0, (.iload_n 1, 21, false, [], am_noM), (.invokevirtual 232, 24, false, [3, 5, 0, 0, 5065, 5066, 5067, 1003, 5068], mX5_fillingsNeeded), am_ce0, am_ce0, (.goto 4, 27, false, [28], am_noM), am_ce0, am_ce0, (.iconst (-1), 28, false, [], am_noM), (.ireturn, 29, false, [0], am_noM)]]
def kX11_lay : List (List CE) := [[(.iconst (-1), 1, false, [], am_noM), (.istore_n 2, 2, false, [], am_noM), (.iload_n 1, 3, false, [], am_noM), (.iconst 1, 4, false, [], am_noM), (.iconst 4, 5, false, [], am_noM), (.invokestatic 93, 8, false, [0, 3, 0, 0, 3021, 3022, 1001, 3023], mX11_within), am_ce0, am_ce0, (.ifCond .eq 41, 11, false, [49], am_noM), am_ce0, am_ce0, (.aload_n 0, 12, false, [], am_noM), (.getfield 80, 15, false, [11, 11, 2211], am_noM), am_ce0, am_ce0, (.ifCond .le 34, 18, false, [49], am_noM)],
  [am_ce0, am_ce0, (.aload_n 0, 19, false, [], am_noM), (.getfield 10, 22, false, [11, 0, 2200], am_noM), am_ce0, am_ce0, (.invokevirtual 236, 25, false, [1, 10, 0, 0, 5076, 5077, 5078, 1002, 5079], mX10_readTicks), am_ce0, am_ce0, (.ifCond .eq 24, 28, false, [49], am_noM), am_ce0, am_ce0, (.aload_n 0, 29, false, [], am_noM), (.getfield 76, 32, false, [11, 10, 2210], am_noM), am_ce0, am_ce0],
  [(.aload_n 0, 33, false, [], am_noM), (.getfield 18, 36, false, [11, 1, 2201], am_noM), am_ce0, am_ce0, (.aload_n 0, 37, false, [], am_noM), (.getfield 80, 40, false, [11, 11, 2211], am_noM), am_ce0, am_ce0, (.iload_n 1, 41, false, [], am_noM), (.aload_n 0, 42, false, [], am_noM), (.getfield 10, 45, false, [11, 0, 2200], am_noM), am_ce0, am_ce0, (.invokevirtual 240, 48, false, [5, 2, 0, 0, 5080, 5081, 5082, 1011, 5083], mX2_layLikest), am_ce0, am_ce0],
  [(.istore_n 2, 49, false, [], am_noM), (.aload_n 0, 50, false, [], am_noM), (.getfield 10, 53, false, [11, 0, 2200], am_noM), am_ce0, am_ce0, (.invokevirtual 111, 56, false, [1, 10, 0, 0, 3075, 3076, 3077, 1002, 3078], mX10_clear), am_ce0, am_ce0, (.iload_n 2, 57, false, [], am_noM), (.ireturn, 58, false, [0], am_noM)]]
def kX11_laid : List (List CE) := [[(.aload_n 0, 1, false, [], am_noM), (.getfield 76, 4, false, [11, 10, 2210], am_noM), am_ce0, am_ce0, (.iload_n 1, 5, false, [], am_noM), (.invokevirtual 244, 8, false, [2, 2, 0, 0, 5133, 5134, 5135, 1011, 5136], mX2_laidAt), am_ce0, am_ce0, (.ireturn, 9, false, [0], am_noM)]]
def kX11_worn : List (List CE) := [[(.iconst (-1), 1, false, [], am_noM), (.istore_n 2, 2, false, [], am_noM), (.aload_n 0, 3, false, [], am_noM), (.iload_n 1, 4, false, [], am_noM), (.invokevirtual 114, 7, false, [2, 11, 0, 0, 3083, 3085, 1, 1001, 3086], mX11_pathOf), am_ce0, am_ce0, (.astore_n 3, 8, false, [], am_noM), (.aload_n 3, 9, false, [], am_noM), (.ifnull 26, 12, false, [35], am_noM), am_ce0, am_ce0, (.aload_n 0, 13, false, [], am_noM), (.getfield 10, 16, false, [11, 0, 2200], am_noM), am_ce0, am_ce0],
  [(.invokevirtual 236, 19, false, [1, 10, 0, 0, 5076, 5077, 5078, 1002, 5079], mX10_readTicks), am_ce0, am_ce0, (.ifCond .eq 16, 22, false, [35], am_noM), am_ce0, am_ce0, (.aload_n 0, 23, false, [], am_noM), (.getfield 76, 26, false, [11, 10, 2210], am_noM), am_ce0, am_ce0, (.aload_n 3, 27, false, [], am_noM), (.aload_n 0, 28, false, [], am_noM), (.getfield 10, 31, false, [11, 0, 2200], am_noM), am_ce0, am_ce0, (.invokevirtual 247, 34, false, [3, 2, 0, 0, 5141, 5142, 5143, 1011, 5144], mX2_explain)],
  [am_ce0, am_ce0, (.istore_n 2, 35, false, [], am_noM), (.aload_n 0, 36, false, [], am_noM), (.getfield 10, 39, false, [11, 0, 2200], am_noM), am_ce0, am_ce0, (.invokevirtual 111, 42, false, [1, 10, 0, 0, 3075, 3076, 3077, 1002, 3078], mX10_clear), am_ce0, am_ce0, (.iload_n 2, 43, false, [], am_noM), (.ireturn, 44, false, [0], am_noM)]]
def kX11_count : List (List CE) := [[(.iload_n 1, 1, false, [], am_noM), (.tableswitch 81 0 5 #[39, 44, 49, 57, 65, 73], 40, false, [82, 0, 40, 1, 45, 2, 50, 3, 58, 4, 66, 5, 74], am_noM), am_ce0, am_ce0, am_ce0, am_ce0, am_ce0, am_ce0, am_ce0, am_ce0, am_ce0, am_ce0, am_ce0, am_ce0, am_ce0, am_ce0],
  [am_ce0, am_ce0, am_ce0, am_ce0, am_ce0, am_ce0, am_ce0, am_ce0, am_ce0, am_ce0, am_ce0, am_ce0, am_ce0, am_ce0, am_ce0, am_ce0],
  [am_ce0, am_ce0, am_ce0, am_ce0, am_ce0, am_ce0, am_ce0, am_ce0, (.aload_n 0, 41, false, [], am_noM), (.getfield 80, 44, false, [11, 11, 2211], am_noM), am_ce0, am_ce0, (.ireturn, 45, false, [0], am_noM), (.aload_n 0, 46, false, [], am_noM), (.invokevirtual 251, 49, false, [1, 11, 0, 0, 5158, 5160, 48, 1001, 5161], mX11_runsThatAre), am_ce0],
  [am_ce0, (.ireturn, 50, false, [0], am_noM), (.aload_n 0, 51, false, [], am_noM), (.getfield 31, 54, false, [11, 3, 2203], am_noM), am_ce0, am_ce0, (.getfield 140, 57, false, [5, 4, 1091], am_noM), am_ce0, am_ce0, (.ireturn, 58, false, [0], am_noM), (.aload_n 0, 59, false, [], am_noM), (.getfield 38, 62, false, [11, 4, 2204], am_noM), am_ce0, am_ce0, (.getfield 255, 65, false, [3, 1, 1120], am_noM), am_ce0],
  [am_ce0, (.ireturn, 66, false, [0], am_noM), (.aload_n 0, 67, false, [], am_noM), (.getfield 52, 70, false, [11, 6, 2206], am_noM), am_ce0, am_ce0, (.getfield 164, 73, false, [8, 3, 1187], am_noM), am_ce0, am_ce0, (.ireturn, 74, false, [0], am_noM), (.aload_n 0, 75, false, [], am_noM), (.getfield 10, 78, false, [11, 0, 2200], am_noM), am_ce0, am_ce0, (.getfield 256, 81, false, [10, 1, 1042], am_noM), am_ce0],
  [am_ce0, (.ireturn, 82, false, [0], am_noM), (.iconst (-1), 83, false, [], am_noM), (.ireturn, 84, false, [0], am_noM)]]
def kX11_within : List (List CE) := [[(.iload_n 0, 1, false, [], am_noM), (.iload_n 1, 2, false, [], am_noM), (.if_icmp .lt 12, 5, false, [14], am_noM), am_ce0, am_ce0, (.iload_n 0, 6, false, [], am_noM), (.iload_n 2, 7, false, [], am_noM), (.if_icmp .gt 7, 10, false, [14], am_noM), am_ce0, am_ce0, (.iconst 1, 11, false, [], am_noM), (.goto 4, 14, false, [15], am_noM), am_ce0, am_ce0, (.iconst 0, 15, false, [], am_noM), (.ireturn, 16, false, [1], am_noM)]]
def kX11_pathOf : List (List CE) := [[(.iload_n 1, 1, false, [], am_noM), (.iconst 0, 2, false, [], am_noM), (.iconst 3, 3, false, [], am_noM), (.invokestatic 93, 6, false, [0, 3, 0, 0, 3021, 3022, 1001, 3023], mX11_within), am_ce0, am_ce0, (.ifCond .ne 5, 9, false, [11], am_noM), am_ce0, am_ce0, (.aconst_null, 10, false, [], am_noM), (.areturn, 11, false, [], am_noM), (.aload_n 0, 12, false, [], am_noM), (.getfield 24, 15, false, [11, 2, 2202], am_noM), am_ce0, am_ce0, (.iload_n 1, 16, false, [], am_noM)],
  [(.aaload, 17, false, [], am_noM), (.astore_n 2, 18, false, [], am_noM), (.aload_n 2, 19, false, [], am_noM), (.ifnull 10, 22, false, [29], am_noM), am_ce0, am_ce0, (.aload_n 2, 23, false, [], am_noM), (.getfield 108, 26, false, [7, 3, 2190], am_noM), am_ce0, am_ce0, (.ifCond .ne 7, 29, false, [33], am_noM), am_ce0, am_ce0, (.aconst_null, 30, false, [], am_noM), (.goto 4, 33, false, [34], am_noM), am_ce0],
  [am_ce0, (.aload_n 2, 34, false, [], am_noM), (.areturn, 35, false, [], am_noM)]]
def kX11_runsThatAre : List (List CE) := [[(.iconst 0, 1, false, [], am_noM), (.istore_n 1, 2, false, [], am_noM), (.iconst 0, 3, false, [], am_noM), (.istore_n 2, 4, false, [], am_noM), (.iload_n 2, 5, true, [], am_noM), (.iconst 4, 6, false, [], am_noM), (.if_icmp .ge 20, 9, false, [26], am_noM), am_ce0, am_ce0, (.aload_n 0, 10, false, [], am_noM), (.iload_n 2, 11, false, [], am_noM), (.invokevirtual 114, 14, false, [2, 11, 0, 0, 3083, 3085, 1, 1001, 3086], mX11_pathOf), am_ce0, am_ce0, (.ifnull 6, 17, false, [20], am_noM), am_ce0],
  [am_ce0, (.iinc 1 1, 20, false, [], am_noM), am_ce0, am_ce0, (.iinc 2 1, 23, false, [], am_noM), am_ce0, am_ce0, (.goto (-19), 26, false, [4], am_noM), am_ce0, am_ce0, (.iload_n 1, 27, false, [], am_noM), (.ireturn, 28, false, [0], am_noM)]]
def kX11_canStand : List (List CE) := [[(.iload_n 1, 1, false, [], am_noM), (.ifCond .ne 17, 4, false, [18], am_noM), am_ce0, am_ce0, (.aload_n 0, 5, false, [], am_noM), (.iload_n 2, 6, false, [], am_noM), (.invokevirtual 114, 9, false, [2, 11, 0, 0, 3083, 3085, 1, 1001, 3086], mX11_pathOf), am_ce0, am_ce0, (.ifnull 7, 12, false, [16], am_noM), am_ce0, am_ce0, (.iconst 1, 13, false, [], am_noM), (.goto 4, 16, false, [17], am_noM), am_ce0, am_ce0],
  [(.iconst 0, 17, false, [], am_noM), (.ireturn, 18, false, [1], am_noM), (.iload_n 1, 19, false, [], am_noM), (.iconst 4, 20, false, [], am_noM), (.if_icmp .ne 36, 23, false, [56], am_noM), am_ce0, am_ce0, (.aload_n 0, 24, false, [], am_noM), (.iload_n 2, 25, false, [], am_noM), (.invokevirtual 114, 28, false, [2, 11, 0, 0, 3083, 3085, 1, 1001, 3086], mX11_pathOf), am_ce0, am_ce0, (.astore 4, 30, false, [], am_noM), am_ce0, (.aload 4, 32, false, [], am_noM), am_ce0],
  [(.ifnull 22, 35, false, [54], am_noM), am_ce0, am_ce0, (.iload_n 3, 36, false, [], am_noM), (.iconst 0, 37, false, [], am_noM), (.aload 4, 39, false, [], am_noM), am_ce0, (.getfield 108, 42, false, [7, 3, 2190], am_noM), am_ce0, am_ce0, (.iconst 1, 43, false, [], am_noM), (.isub, 44, false, [], am_noM), (.invokestatic 93, 47, false, [0, 3, 0, 0, 3021, 3022, 1001, 3023], mX11_within), am_ce0, am_ce0, (.ifCond .eq 7, 50, false, [54], am_noM)],
  [am_ce0, am_ce0, (.iconst 1, 51, false, [], am_noM), (.goto 4, 54, false, [55], am_noM), am_ce0, am_ce0, (.iconst 0, 55, false, [], am_noM), (.ireturn, 56, false, [1], am_noM), (.iload_n 1, 57, false, [], am_noM), (.iconst 1, 58, false, [], am_noM), (.if_icmp .ne 24, 61, false, [82], am_noM), am_ce0, am_ce0, (.iload_n 2, 62, false, [], am_noM), (.iconst 1, 63, false, [], am_noM), (.bipush 99, 65, false, [], am_noM)],
  [am_ce0, (.invokestatic 93, 68, false, [0, 3, 0, 0, 3021, 3022, 1001, 3023], mX11_within), am_ce0, am_ce0, (.ifCond .eq 18, 71, false, [86], am_noM), am_ce0, am_ce0, (.iload_n 3, 72, false, [], am_noM), (.iconst 1, 73, false, [], am_noM), (.sipush 200, 76, false, [], am_noM), am_ce0, am_ce0, (.invokestatic 93, 79, false, [0, 3, 0, 0, 3021, 3022, 1001, 3023], mX11_within), am_ce0, am_ce0, (.ifCond .eq 7, 82, false, [86], am_noM)],
  [am_ce0, am_ce0, (.iconst 1, 83, false, [], am_noM), (.goto 4, 86, false, [87], am_noM), am_ce0, am_ce0, (.iconst 0, 87, false, [], am_noM), (.ireturn, 88, false, [1], am_noM)]]
def kX12_init : List (List CE) := [[(.aload_n 0, 1, false, [], am_noM), (.invokespecial 1, 4, false, [1, 6029, 1030, 1031], am_noM), am_ce0, am_ce0, (.aload_n 0, 5, false, [], am_noM), (.sipush 640, 8, false, [], am_noM), am_ce0, am_ce0, (.newarray .int, 10, false, [62, 640, 1074], am_noM), am_ce0, (.putfield 7, 13, false, [12, 1, 6032], am_noM), am_ce0, am_ce0, (.aload_n 0, 14, false, [], am_noM), (.bipush 16, 16, false, [], am_noM), am_ce0],
  [(.newarray .int, 18, false, [63, 16, 1074], am_noM), am_ce0, (.putfield 13, 21, false, [12, 3, 6034], am_noM), am_ce0, am_ce0, (.aload_n 0, 22, false, [], am_noM), (.bipush 16, 24, false, [], am_noM), am_ce0, (.newarray .int, 26, false, [64, 16, 1074], am_noM), am_ce0, (.putfield 16, 29, false, [12, 4, 6035], am_noM), am_ce0, am_ce0, (.aload_n 0, 30, false, [], am_noM), (.bipush 16, 32, false, [], am_noM), am_ce0],
  [(.newarray .int, 34, false, [65, 16, 1074], am_noM), am_ce0, (.putfield 19, 37, false, [12, 5, 6036], am_noM), am_ce0, am_ce0, (.aload_n 0, 38, false, [], am_noM), (.bipush 16, 40, false, [], am_noM), am_ce0, (.newarray .int, 42, false, [66, 16, 1074], am_noM), am_ce0, (.putfield 22, 45, false, [12, 6, 6037], am_noM), am_ce0, am_ce0, (.aload_n 0, 46, false, [], am_noM), (.bipush 16, 48, false, [], am_noM), am_ce0],
  [(.newarray .int, 50, false, [67, 16, 1074], am_noM), am_ce0, (.putfield 25, 53, false, [12, 7, 6038], am_noM), am_ce0, am_ce0, (.aload_n 0, 54, false, [], am_noM), (.iconst 5, 55, false, [], am_noM), (.newarray .int, 57, false, [68, 5, 1074], am_noM), am_ce0, (.putfield 28, 60, false, [12, 8, 6039], am_noM), am_ce0, am_ce0, (.aload_n 0, 61, false, [], am_noM), (.bipush 60, 63, false, [], am_noM), am_ce0, (.newarray .int, 65, false, [69, 60, 1074], am_noM)],
  [am_ce0, (.putfield 31, 68, false, [12, 9, 6040], am_noM), am_ce0, am_ce0, (.aload_n 0, 69, false, [], am_noM), (.bipush 60, 71, false, [], am_noM), am_ce0, (.newarray .int, 73, false, [70, 60, 1074], am_noM), am_ce0, (.putfield 34, 76, false, [12, 10, 6041], am_noM), am_ce0, am_ce0, (.aload_n 0, 77, false, [], am_noM), (.bipush 60, 79, false, [], am_noM), am_ce0, (.newarray .int, 81, false, [71, 60, 1074], am_noM)],
  [am_ce0, (.putfield 37, 84, false, [12, 11, 6042], am_noM), am_ce0, am_ce0, (.aload_n 0, 85, false, [], am_noM), (.bipush 60, 87, false, [], am_noM), am_ce0, (.newarray .int, 89, false, [72, 60, 1074], am_noM), am_ce0, (.putfield 40, 92, false, [12, 12, 6043], am_noM), am_ce0, am_ce0, (.aload_n 0, 93, false, [], am_noM), (.bipush 12, 95, false, [], am_noM), am_ce0, (.newarray .int, 97, false, [73, 12, 1074], am_noM)],
  [am_ce0, (.putfield 43, 100, false, [12, 19, 6050], am_noM), am_ce0, am_ce0, (.aload_n 0, 101, false, [], am_noM), (.bipush 12, 103, false, [], am_noM), am_ce0, (.newarray .int, 105, false, [74, 12, 1074], am_noM), am_ce0, (.putfield 46, 108, false, [12, 20, 6051], am_noM), am_ce0, am_ce0, (.aload_n 0, 109, false, [], am_noM), (.bipush 12, 111, false, [], am_noM), am_ce0, (.newarray .int, 113, false, [75, 12, 1074], am_noM)],
  [am_ce0, (.putfield 49, 116, false, [12, 21, 6052], am_noM), am_ce0, am_ce0, (.aload_n 0, 117, false, [], am_noM), (.bipush 12, 119, false, [], am_noM), am_ce0, (.newarray .int, 121, false, [76, 12, 1074], am_noM), am_ce0, (.putfield 52, 124, false, [12, 22, 6053], am_noM), am_ce0, am_ce0, (.aload_n 0, 125, false, [], am_noM), (.bipush 12, 127, false, [], am_noM), am_ce0, (.newarray .int, 129, false, [77, 12, 1074], am_noM)],
  [am_ce0, (.putfield 55, 132, false, [12, 23, 6054], am_noM), am_ce0, am_ce0, (.aload_n 0, 133, false, [], am_noM), (.bipush 12, 135, false, [], am_noM), am_ce0, (.newarray .int, 137, false, [78, 12, 1074], am_noM), am_ce0, (.putfield 58, 140, false, [12, 24, 6055], am_noM), am_ce0, am_ce0, (.aload_n 0, 141, false, [], am_noM), (.bipush 12, 143, false, [], am_noM), am_ce0, (.newarray .int, 145, false, [79, 12, 1074], am_noM)],
  [am_ce0, (.putfield 61, 148, false, [12, 29, 6060], am_noM), am_ce0, am_ce0, (.aload_n 0, 149, false, [], am_noM), (.bipush 12, 151, false, [], am_noM), am_ce0, (.newarray .int, 153, false, [80, 12, 1074], am_noM), am_ce0, (.putfield 64, 156, false, [12, 30, 6061], am_noM), am_ce0, am_ce0, (.aload_n 0, 157, false, [], am_noM), (.bipush 12, 159, false, [], am_noM), am_ce0, (.newarray .int, 161, false, [81, 12, 1074], am_noM)],
  [am_ce0, (.putfield 67, 164, false, [12, 31, 6062], am_noM), am_ce0, am_ce0, (.aload_n 0, 165, false, [], am_noM), (.bipush 12, 167, false, [], am_noM), am_ce0, (.newarray .int, 169, false, [82, 12, 1074], am_noM), am_ce0, (.putfield 70, 172, false, [12, 32, 6063], am_noM), am_ce0, am_ce0, (.aload_n 0, 173, false, [], am_noM), (.iconst 4, 174, false, [], am_noM), (.newarray .int, 176, false, [83, 4, 1074], am_noM), am_ce0],
  [(.putfield 73, 179, false, [12, 33, 6064], am_noM), am_ce0, am_ce0, (.aload_n 0, 180, false, [], am_noM), (.bipush 14, 182, false, [], am_noM), am_ce0, (.newarray .int, 184, false, [84, 14, 1074], am_noM), am_ce0, (.putfield 76, 187, false, [12, 44, 6075], am_noM), am_ce0, am_ce0, (.aload_n 0, 188, false, [], am_noM), (.sipush 336, 191, false, [], am_noM), am_ce0, am_ce0, (.newarray .int, 193, false, [85, 336, 1074], am_noM)],
  [am_ce0, (.putfield 79, 196, false, [12, 45, 6076], am_noM), am_ce0, am_ce0, (.aload_n 0, 197, false, [], am_noM), (.sipush 336, 200, false, [], am_noM), am_ce0, am_ce0, (.newarray .int, 202, false, [86, 336, 1074], am_noM), am_ce0, (.putfield 82, 205, false, [12, 46, 6077], am_noM), am_ce0, am_ce0, (.aload_n 0, 206, false, [], am_noM), (.sipush 336, 209, false, [], am_noM), am_ce0],
  [am_ce0, (.newarray .int, 211, false, [87, 336, 1074], am_noM), am_ce0, (.putfield 85, 214, false, [12, 47, 6078], am_noM), am_ce0, am_ce0, (.aload_n 0, 215, false, [], am_noM), (.bipush 14, 217, false, [], am_noM), am_ce0, (.newarray .boolean, 219, false, [88, 14, 7059], am_noM), am_ce0, (.putfield 88, 222, false, [12, 48, 6079], am_noM), am_ce0, am_ce0, (.aload_n 0, 223, false, [], am_noM), (.bipush 8, 225, false, [], am_noM)],
  [am_ce0, (.newarray .long, 227, false, [89, 8, 7060], am_noM), am_ce0, (.putfield 92, 230, false, [12, 49, 6080], am_noM), am_ce0, am_ce0, (.aload_n 0, 231, false, [], am_noM), (.bipush 6, 233, false, [], am_noM), am_ce0, (.newarray .int, 235, false, [90, 6, 1074], am_noM), am_ce0, (.putfield 96, 238, false, [12, 50, 6081], am_noM), am_ce0, am_ce0, (.aload_n 0, 239, false, [], am_noM), (.bipush 6, 241, false, [], am_noM)],
  [am_ce0, (.newarray .int, 243, false, [91, 6, 1074], am_noM), am_ce0, (.putfield 99, 246, false, [12, 51, 6082], am_noM), am_ce0, am_ce0, (.aload_n 0, 247, false, [], am_noM), (.bipush 24, 249, false, [], am_noM), am_ce0, (.newarray .int, 251, false, [92, 24, 1074], am_noM), am_ce0, (.putfield 102, 254, false, [12, 56, 6087], am_noM), am_ce0, am_ce0, (.aload_n 0, 255, false, [], am_noM), (.bipush 24, 257, false, [], am_noM)],
  [am_ce0, (.newarray .int, 259, false, [93, 24, 1074], am_noM), am_ce0, (.putfield 105, 262, false, [12, 57, 6088], am_noM), am_ce0, am_ce0, (.aload_n 0, 263, false, [], am_noM), (.bipush 24, 265, false, [], am_noM), am_ce0, (.newarray .int, 267, false, [94, 24, 1074], am_noM), am_ce0, (.putfield 108, 270, false, [12, 58, 6089], am_noM), am_ce0, am_ce0, (.aload_n 0, 271, false, [], am_noM), (.bipush 24, 273, false, [], am_noM)],
  [am_ce0, (.newarray .int, 275, false, [95, 24, 1074], am_noM), am_ce0, (.putfield 111, 278, false, [12, 59, 6090], am_noM), am_ce0, am_ce0, (.aload_n 0, 279, false, [], am_noM), (.sipush 300, 282, false, [], am_noM), am_ce0, am_ce0, (.newarray .int, 284, false, [96, 300, 1074], am_noM), am_ce0, (.putfield 114, 287, false, [12, 62, 6093], am_noM), am_ce0, am_ce0, (.aload_n 0, 288, false, [], am_noM)],
  [(.sipush 300, 291, false, [], am_noM), am_ce0, am_ce0, (.newarray .int, 293, false, [97, 300, 1074], am_noM), am_ce0, (.putfield 117, 296, false, [12, 63, 6094], am_noM), am_ce0, am_ce0, (.aload_n 0, 297, false, [], am_noM), (.sipush 300, 300, false, [], am_noM), am_ce0, am_ce0, (.newarray .int, 302, false, [98, 300, 1074], am_noM), am_ce0, (.putfield 120, 305, false, [12, 64, 6095], am_noM), am_ce0],
  [am_ce0, (.aload_n 0, 306, false, [], am_noM), (.bipush 24, 308, false, [], am_noM), am_ce0, (.newarray .int, 310, false, [99, 24, 1074], am_noM), am_ce0, (.putfield 123, 313, false, [12, 65, 6096], am_noM), am_ce0, am_ce0, (.aload_n 0, 314, false, [], am_noM), (.bipush 24, 316, false, [], am_noM), am_ce0, (.newarray .int, 318, false, [100, 24, 1074], am_noM), am_ce0, (.putfield 126, 321, false, [12, 66, 6097], am_noM), am_ce0],
  [am_ce0, (.aload_n 0, 322, false, [], am_noM), (.bipush 24, 324, false, [], am_noM), am_ce0, (.newarray .int, 326, false, [101, 24, 1074], am_noM), am_ce0, (.putfield 129, 329, false, [12, 67, 6098], am_noM), am_ce0, am_ce0, (.aload_n 0, 330, false, [], am_noM), (.bipush 24, 332, false, [], am_noM), am_ce0, (.newarray .int, 334, false, [102, 24, 1074], am_noM), am_ce0, (.putfield 132, 337, false, [12, 68, 6099], am_noM), am_ce0],
  [am_ce0, (.aload_n 0, 338, false, [], am_noM), (.bipush 24, 340, false, [], am_noM), am_ce0, (.newarray .int, 342, false, [103, 24, 1074], am_noM), am_ce0, (.putfield 135, 345, false, [12, 69, 6100], am_noM), am_ce0, am_ce0, (.aload_n 0, 346, false, [], am_noM), (.bipush 24, 348, false, [], am_noM), am_ce0, (.newarray .int, 350, false, [104, 24, 1074], am_noM), am_ce0, (.putfield 138, 353, false, [12, 70, 6101], am_noM), am_ce0],
  [am_ce0, (.aload_n 0, 354, false, [], am_noM), (.iconst 4, 355, false, [], am_noM), (.newarray .int, 357, false, [105, 4, 1074], am_noM), am_ce0, (.putfield 141, 360, false, [12, 71, 6102], am_noM), am_ce0, am_ce0, (.aload_n 0, 361, false, [], am_noM), (.ldc 144, 363, false, [0, 511875, 6030], am_noM), am_ce0, (.newarray .int, 365, false, [106, 511875, 1074], am_noM), am_ce0, (.putfield 145, 368, false, [12, 78, 6109], am_noM), am_ce0, am_ce0],
  [(.aload_n 0, 369, false, [], am_noM), (.bipush 16, 371, false, [], am_noM), am_ce0, (.newarray .int, 373, false, [107, 16, 1074], am_noM), am_ce0, (.putfield 148, 376, false, [12, 79, 6110], am_noM), am_ce0, am_ce0, (.aload_n 0, 377, false, [], am_noM), (.iconst 5, 378, false, [], am_noM), (.newarray .int, 380, false, [108, 5, 1074], am_noM), am_ce0, (.putfield 151, 383, false, [12, 80, 6111], am_noM), am_ce0, am_ce0, (.aload_n 0, 384, false, [], am_noM)],
  [(.iconst 4, 385, false, [], am_noM), (.newarray .int, 387, false, [109, 4, 1074], am_noM), am_ce0, (.putfield 154, 390, false, [12, 81, 6112], am_noM), am_ce0, am_ce0, (.aload_n 0, 391, false, [], am_noM), (.sipush 150, 394, false, [], am_noM), am_ce0, am_ce0, (.newarray .int, 396, false, [110, 150, 1074], am_noM), am_ce0, (.putfield 157, 399, false, [12, 82, 6113], am_noM), am_ce0, am_ce0, (.aload_n 0, 400, false, [], am_noM)],
  [(.bipush 25, 402, false, [], am_noM), am_ce0, (.newarray .int, 404, false, [111, 25, 1074], am_noM), am_ce0, (.putfield 160, 407, false, [12, 83, 6114], am_noM), am_ce0, am_ce0, (.aload_n 0, 408, false, [], am_noM), (.bipush 24, 410, false, [], am_noM), am_ce0, (.newarray .int, 412, false, [112, 24, 1074], am_noM), am_ce0, (.putfield 163, 415, false, [12, 84, 6115], am_noM), am_ce0, am_ce0, (.aload_n 0, 416, false, [], am_noM)],
  [(.bipush 10, 418, false, [], am_noM), am_ce0, (.newarray .int, 420, false, [113, 10, 1074], am_noM), am_ce0, (.putfield 166, 423, false, [12, 85, 6116], am_noM), am_ce0, am_ce0, (.aload_n 0, 424, false, [], am_noM), (.iconst 4, 425, false, [], am_noM), (.newarray .int, 427, false, [114, 4, 1074], am_noM), am_ce0, (.putfield 169, 430, false, [12, 86, 6117], am_noM), am_ce0, am_ce0, (.return_, 431, false, [], am_noM)]]
def kX12_thrown : List (List CE) := [[(.aload_n 0, 1, false, [], am_noM), (.getfield 172, 4, false, [12, 0, 6031], am_noM), am_ce0, am_ce0, (.ireturn, 5, false, [0], am_noM)]]
def kX12_refuse : List (List CE) := [[(.aload_n 0, 1, false, [], am_noM), (.iconst 1, 2, false, [], am_noM), (.putfield 172, 5, false, [12, 0, 6031], am_noM), am_ce0, am_ce0, (.iconst 0, 6, false, [], am_noM), (.ireturn, 7, false, [0], am_noM)]]
def kX12_come : List (List CE) := [[(.bipush 24, 2, false, [], am_noM), am_ce0, (.istore_n 2, 3, false, [], am_noM), (.iload_n 2, 4, true, [], am_noM), (.ifCond .lt 35, 7, false, [39], am_noM), am_ce0, am_ce0, (.aload_n 0, 8, false, [], am_noM), (.getfield 7, 11, false, [12, 1, 6032], am_noM), am_ce0, am_ce0, (.aload_n 0, 12, false, [], am_noM), (.getfield 176, 15, false, [12, 2, 6033], am_noM), am_ce0, am_ce0, (.iload_n 1, 16, false, [], am_noM)],
  [(.iload_n 2, 17, false, [], am_noM), (.iushr, 18, false, [], am_noM), (.sipush 255, 21, false, [], am_noM), am_ce0, am_ce0, (.iand, 22, false, [], am_noM), (.iastore, 23, false, [], am_noM), (.aload_n 0, 24, false, [], am_noM), (.dup, 25, false, [], am_noM), (.getfield 176, 28, false, [12, 2, 6033], am_noM), am_ce0, am_ce0, (.iconst 1, 29, false, [], am_noM), (.iadd, 30, false, [], am_noM), (.putfield 176, 33, false, [12, 2, 6033], am_noM), am_ce0],
  [am_ce0, (.iinc 2 (-8), 36, false, [], am_noM), am_ce0, am_ce0, (.goto (-33), 39, false, [3], am_noM), am_ce0, am_ce0, (.return_, 40, false, [], am_noM)]]
def kX12_feed : List (List CE) := [[(.aload_n 0, 1, false, [], am_noM), (.iconst 0, 2, false, [], am_noM), (.putfield 172, 5, false, [12, 0, 6031], am_noM), am_ce0, am_ce0, (.aload_n 0, 6, false, [], am_noM), (.getfield 176, 9, false, [12, 2, 6033], am_noM), am_ce0, am_ce0, (.bipush 20, 11, false, [], am_noM), am_ce0, (.iadd, 12, false, [], am_noM), (.sipush 640, 15, false, [], am_noM), am_ce0, am_ce0, (.if_icmp .le 5, 18, false, [20], am_noM)],
  [am_ce0, am_ce0, (.iconst (-1), 19, false, [], am_noM), (.ireturn, 20, false, [0], am_noM), (.aload_n 0, 21, false, [], am_noM), (.iload_n 1, 22, false, [], am_noM), (.invokevirtual 179, 25, false, [2, 12, 0, 0, 7069, 7071, 50, 1013, 7072], mX12_come), am_ce0, am_ce0, (.aload_n 0, 26, false, [], am_noM), (.iload_n 2, 27, false, [], am_noM), (.invokevirtual 179, 30, false, [2, 12, 0, 0, 7069, 7071, 50, 1013, 7072], mX12_come), am_ce0, am_ce0, (.aload_n 0, 31, false, [], am_noM), (.iload_n 3, 32, false, [], am_noM)],
  [(.invokevirtual 179, 35, false, [2, 12, 0, 0, 7069, 7071, 50, 1013, 7072], mX12_come), am_ce0, am_ce0, (.aload_n 0, 36, false, [], am_noM), (.iload 4, 38, false, [], am_noM), am_ce0, (.invokevirtual 179, 41, false, [2, 12, 0, 0, 7069, 7071, 50, 1013, 7072], mX12_come), am_ce0, am_ce0, (.aload_n 0, 42, false, [], am_noM), (.iload 5, 44, false, [], am_noM), am_ce0, (.invokevirtual 179, 47, false, [2, 12, 0, 0, 7069, 7071, 50, 1013, 7072], mX12_come), am_ce0, am_ce0, (.aload_n 0, 48, false, [], am_noM)],
  [(.getfield 176, 51, false, [12, 2, 6033], am_noM), am_ce0, am_ce0, (.ireturn, 52, false, [0], am_noM)]]
def kX12_end : List (List CE) := [[(.aload_n 0, 1, false, [], am_noM), (.iconst 0, 2, false, [], am_noM), (.putfield 172, 5, false, [12, 0, 6031], am_noM), am_ce0, am_ce0, (.iload_n 1, 6, false, [], am_noM), (.ifCond .lt 11, 9, false, [17], am_noM), am_ce0, am_ce0, (.iload_n 1, 10, false, [], am_noM), (.aload_n 0, 11, false, [], am_noM), (.getfield 176, 14, false, [12, 2, 6033], am_noM), am_ce0, am_ce0, (.if_icmp .le 5, 17, false, [19], am_noM), am_ce0],
  [am_ce0, (.iconst 0, 18, false, [], am_noM), (.ireturn, 19, false, [1], am_noM), (.aload_n 0, 20, false, [], am_noM), (.iload_n 1, 21, false, [], am_noM), (.putfield 176, 24, false, [12, 2, 6033], am_noM), am_ce0, am_ce0, (.iconst 1, 25, false, [], am_noM), (.ireturn, 26, false, [1], am_noM)]]
def kX12_isIn : List (List CE) := [[(.iload_n 0, 1, false, [], am_noM), (.iload_n 1, 2, false, [], am_noM), (.if_icmp .lt 12, 5, false, [14], am_noM), am_ce0, am_ce0, (.iload_n 0, 6, false, [], am_noM), (.iload_n 2, 7, false, [], am_noM), (.if_icmp .gt 7, 10, false, [14], am_noM), am_ce0, am_ce0, (.iconst 1, 11, false, [], am_noM), (.goto 4, 14, false, [15], am_noM), am_ce0, am_ce0, (.iconst 0, 15, false, [], am_noM), (.ireturn, 16, false, [1], am_noM)]]
def kX12_board : List (List CE) := [[(.aload_n 0, 1, false, [], am_noM), (.iconst 0, 2, false, [], am_noM), (.putfield 172, 5, false, [12, 0, 6031], am_noM), am_ce0, am_ce0, (.aload_n 0, 6, false, [], am_noM), (.getfield 183, 9, false, [12, 13, 6044], am_noM), am_ce0, am_ce0, (.bipush 16, 11, false, [], am_noM), am_ce0, (.if_icmp .eq 56, 14, false, [67], am_noM), am_ce0, am_ce0, (.iload_n 1, 15, false, [], am_noM), (.iconst 1, 16, false, [], am_noM)],
  [(.bipush 40, 18, false, [], am_noM), am_ce0, (.invokestatic 186, 21, false, [0, 3, 0, 0, 7081, 7082, 1013, 7083], mX12_isIn), am_ce0, am_ce0, (.ifCond .eq 46, 24, false, [67], am_noM), am_ce0, am_ce0, (.iload_n 2, 25, false, [], am_noM), (.bipush (-9), 27, false, [], am_noM), am_ce0, (.bipush 30, 29, false, [], am_noM), am_ce0, (.invokestatic 186, 32, false, [0, 3, 0, 0, 7081, 7082, 1013, 7083], mX12_isIn), am_ce0, am_ce0],
  [(.ifCond .eq 35, 35, false, [67], am_noM), am_ce0, am_ce0, (.iload_n 3, 36, false, [], am_noM), (.iconst 0, 37, false, [], am_noM), (.bipush 15, 39, false, [], am_noM), am_ce0, (.invokestatic 186, 42, false, [0, 3, 0, 0, 7081, 7082, 1013, 7083], mX12_isIn), am_ce0, am_ce0, (.ifCond .eq 25, 45, false, [67], am_noM), am_ce0, am_ce0, (.iload 4, 47, false, [], am_noM), am_ce0, (.iconst 0, 48, false, [], am_noM)],
  [(.bipush 9, 50, false, [], am_noM), am_ce0, (.invokestatic 186, 53, false, [0, 3, 0, 0, 7081, 7082, 1013, 7083], mX12_isIn), am_ce0, am_ce0, (.ifCond .eq 14, 56, false, [67], am_noM), am_ce0, am_ce0, (.iload 5, 58, false, [], am_noM), am_ce0, (.iconst 0, 59, false, [], am_noM), (.bipush 8, 61, false, [], am_noM), am_ce0, (.invokestatic 186, 64, false, [0, 3, 0, 0, 7081, 7082, 1013, 7083], mX12_isIn), am_ce0, am_ce0],
  [(.ifCond .ne 5, 67, false, [69], am_noM), am_ce0, am_ce0, (.iconst (-1), 68, false, [], am_noM), (.ireturn, 69, false, [0], am_noM), (.aload_n 0, 70, false, [], am_noM), (.getfield 13, 73, false, [12, 3, 6034], am_noM), am_ce0, am_ce0, (.aload_n 0, 74, false, [], am_noM), (.getfield 183, 77, false, [12, 13, 6044], am_noM), am_ce0, am_ce0, (.iload_n 1, 78, false, [], am_noM), (.iastore, 79, false, [], am_noM), (.aload_n 0, 80, false, [], am_noM)],
  [(.getfield 16, 83, false, [12, 4, 6035], am_noM), am_ce0, am_ce0, (.aload_n 0, 84, false, [], am_noM), (.getfield 183, 87, false, [12, 13, 6044], am_noM), am_ce0, am_ce0, (.iload_n 2, 88, false, [], am_noM), (.iastore, 89, false, [], am_noM), (.aload_n 0, 90, false, [], am_noM), (.getfield 19, 93, false, [12, 5, 6036], am_noM), am_ce0, am_ce0, (.aload_n 0, 94, false, [], am_noM), (.getfield 183, 97, false, [12, 13, 6044], am_noM), am_ce0],
  [am_ce0, (.iload_n 3, 98, false, [], am_noM), (.iastore, 99, false, [], am_noM), (.aload_n 0, 100, false, [], am_noM), (.getfield 22, 103, false, [12, 6, 6037], am_noM), am_ce0, am_ce0, (.aload_n 0, 104, false, [], am_noM), (.getfield 183, 107, false, [12, 13, 6044], am_noM), am_ce0, am_ce0, (.iload 4, 109, false, [], am_noM), am_ce0, (.iastore, 110, false, [], am_noM), (.aload_n 0, 111, false, [], am_noM), (.getfield 25, 114, false, [12, 7, 6038], am_noM)],
  [am_ce0, am_ce0, (.aload_n 0, 115, false, [], am_noM), (.getfield 183, 118, false, [12, 13, 6044], am_noM), am_ce0, am_ce0, (.iload 5, 120, false, [], am_noM), am_ce0, (.iastore, 121, false, [], am_noM), (.aload_n 0, 122, false, [], am_noM), (.dup, 123, false, [], am_noM), (.getfield 183, 126, false, [12, 13, 6044], am_noM), am_ce0, am_ce0, (.iconst 1, 127, false, [], am_noM), (.iadd, 128, false, [], am_noM)],
  [(.putfield 183, 131, false, [12, 13, 6044], am_noM), am_ce0, am_ce0, (.aload_n 0, 132, false, [], am_noM), (.getfield 183, 135, false, [12, 13, 6044], am_noM), am_ce0, am_ce0, (.iconst 1, 136, false, [], am_noM), (.isub, 137, false, [], am_noM), (.ireturn, 138, false, [0], am_noM)]]
def kX12_isSlot : List (List CE) := [[(.iload_n 0, 1, false, [], am_noM), (.ifCond .lt 12, 4, false, [13], am_noM), am_ce0, am_ce0, (.iload_n 0, 5, false, [], am_noM), (.iconst 4, 6, false, [], am_noM), (.if_icmp .ge 7, 9, false, [13], am_noM), am_ce0, am_ce0, (.iconst 1, 10, false, [], am_noM), (.goto 4, 13, false, [14], am_noM), am_ce0, am_ce0, (.iconst 0, 14, false, [], am_noM), (.ireturn, 15, false, [1], am_noM)]]
def kX12_isRun : List (List CE) := [[(.iload_n 1, 1, false, [], am_noM), (.invokestatic 190, 4, false, [0, 1, 0, 0, 7088, 7089, 1013, 7090], mX12_isSlot), am_ce0, am_ce0, (.ifCond .eq 16, 7, false, [20], am_noM), am_ce0, am_ce0, (.aload_n 0, 8, false, [], am_noM), (.getfield 28, 11, false, [12, 8, 6039], am_noM), am_ce0, am_ce0, (.iload_n 1, 12, false, [], am_noM), (.iaload, 13, false, [], am_noM), (.ifCond .le 7, 16, false, [20], am_noM), am_ce0, am_ce0],
  [(.iconst 1, 17, false, [], am_noM), (.goto 4, 20, false, [21], am_noM), am_ce0, am_ce0, (.iconst 0, 21, false, [], am_noM), (.ireturn, 22, false, [1], am_noM)]]
def kX12_run : List (List CE) := [[(.aload_n 0, 1, false, [], am_noM), (.iconst 0, 2, false, [], am_noM), (.putfield 172, 5, false, [12, 0, 6031], am_noM), am_ce0, am_ce0, (.aload_n 0, 6, false, [], am_noM), (.getfield 176, 9, false, [12, 2, 6033], am_noM), am_ce0, am_ce0, (.istore_n 2, 10, false, [], am_noM), (.aload_n 0, 11, false, [], am_noM), (.iconst 0, 12, false, [], am_noM), (.putfield 176, 15, false, [12, 2, 6033], am_noM), am_ce0, am_ce0, (.iload_n 2, 16, false, [], am_noM)],
  [(.iconst 3, 17, false, [], am_noM), (.idiv, 18, false, [], am_noM), (.istore_n 3, 19, false, [], am_noM), (.iload_n 1, 20, false, [], am_noM), (.invokestatic 190, 23, false, [0, 1, 0, 0, 7088, 7089, 1013, 7090], mX12_isSlot), am_ce0, am_ce0, (.ifCond .eq 19, 26, false, [42], am_noM), am_ce0, am_ce0, (.iload_n 2, 27, false, [], am_noM), (.iconst 3, 28, false, [], am_noM), (.irem, 29, false, [], am_noM), (.ifCond .ne 13, 32, false, [42], am_noM), am_ce0, am_ce0],
  [(.iload_n 3, 33, false, [], am_noM), (.iconst 1, 34, false, [], am_noM), (.bipush 12, 36, false, [], am_noM), am_ce0, (.invokestatic 186, 39, false, [0, 3, 0, 0, 7081, 7082, 1013, 7083], mX12_isIn), am_ce0, am_ce0, (.ifCond .ne 5, 42, false, [44], am_noM), am_ce0, am_ce0, (.iconst (-1), 43, false, [], am_noM), (.ireturn, 44, false, [0], am_noM), (.iconst 0, 45, false, [], am_noM), (.istore 4, 47, false, [], am_noM), am_ce0, (.iload 4, 49, true, [], am_noM)],
  [am_ce0, (.iload_n 3, 50, false, [], am_noM), (.if_icmp .ge 79, 53, false, [129], am_noM), am_ce0, am_ce0, (.aload_n 0, 54, false, [], am_noM), (.getfield 7, 57, false, [12, 1, 6032], am_noM), am_ce0, am_ce0, (.iconst 3, 58, false, [], am_noM), (.iload 4, 60, false, [], am_noM), am_ce0, (.imul, 61, false, [], am_noM), (.iaload, 62, false, [], am_noM), (.aload_n 0, 63, false, [], am_noM), (.getfield 183, 66, false, [12, 13, 6044], am_noM)],
  [am_ce0, am_ce0, (.if_icmp .lt 5, 69, false, [71], am_noM), am_ce0, am_ce0, (.iconst (-1), 70, false, [], am_noM), (.ireturn, 71, false, [0], am_noM), (.iconst 1, 72, false, [], am_noM), (.istore 5, 74, false, [], am_noM), am_ce0, (.iload 5, 76, true, [], am_noM), am_ce0, (.iconst 3, 77, false, [], am_noM), (.if_icmp .ge 46, 80, false, [123], am_noM), am_ce0, am_ce0],
  [(.aload_n 0, 81, false, [], am_noM), (.getfield 7, 84, false, [12, 1, 6032], am_noM), am_ce0, am_ce0, (.iconst 3, 85, false, [], am_noM), (.iload 4, 87, false, [], am_noM), am_ce0, (.imul, 88, false, [], am_noM), (.iload 5, 90, false, [], am_noM), am_ce0, (.iadd, 91, false, [], am_noM), (.iaload, 92, false, [], am_noM), (.istore 6, 94, false, [], am_noM), am_ce0, (.iload 6, 96, false, [], am_noM), am_ce0],
  [(.sipush 255, 99, false, [], am_noM), am_ce0, am_ce0, (.if_icmp .eq 18, 102, false, [117], am_noM), am_ce0, am_ce0, (.iload 6, 104, false, [], am_noM), am_ce0, (.iload 4, 106, false, [], am_noM), am_ce0, (.if_icmp .le 9, 109, false, [115], am_noM), am_ce0, am_ce0, (.iload 6, 111, false, [], am_noM), am_ce0, (.iload_n 3, 112, false, [], am_noM)],
  [(.if_icmp .lt 5, 115, false, [117], am_noM), am_ce0, am_ce0, (.iconst (-1), 116, false, [], am_noM), (.ireturn, 117, false, [0], am_noM), (.iinc 5 1, 120, false, [], am_noM), am_ce0, am_ce0, (.goto (-46), 123, false, [74], am_noM), am_ce0, am_ce0, (.iinc 4 1, 126, false, [], am_noM), am_ce0, am_ce0, (.goto (-79), 129, false, [47], am_noM), am_ce0],
  [am_ce0, (.aload_n 0, 130, false, [], am_noM), (.getfield 28, 133, false, [12, 8, 6039], am_noM), am_ce0, am_ce0, (.iload_n 1, 134, false, [], am_noM), (.iload_n 3, 135, false, [], am_noM), (.iastore, 136, false, [], am_noM), (.iconst 0, 137, false, [], am_noM), (.istore 4, 139, false, [], am_noM), am_ce0, (.iload 4, 141, true, [], am_noM), am_ce0, (.iload_n 3, 142, false, [], am_noM), (.if_icmp .ge 76, 145, false, [218], am_noM), am_ce0],
  [am_ce0, (.aload_n 0, 146, false, [], am_noM), (.getfield 31, 149, false, [12, 9, 6040], am_noM), am_ce0, am_ce0, (.bipush 12, 151, false, [], am_noM), am_ce0, (.iload_n 1, 152, false, [], am_noM), (.imul, 153, false, [], am_noM), (.iload 4, 155, false, [], am_noM), am_ce0, (.iadd, 156, false, [], am_noM), (.aload_n 0, 157, false, [], am_noM), (.getfield 7, 160, false, [12, 1, 6032], am_noM), am_ce0, am_ce0],
  [(.iconst 3, 161, false, [], am_noM), (.iload 4, 163, false, [], am_noM), am_ce0, (.imul, 164, false, [], am_noM), (.iaload, 165, false, [], am_noM), (.iastore, 166, false, [], am_noM), (.aload_n 0, 167, false, [], am_noM), (.getfield 34, 170, false, [12, 10, 6041], am_noM), am_ce0, am_ce0, (.bipush 12, 172, false, [], am_noM), am_ce0, (.iload_n 1, 173, false, [], am_noM), (.imul, 174, false, [], am_noM), (.iload 4, 176, false, [], am_noM), am_ce0],
  [(.iadd, 177, false, [], am_noM), (.aload_n 0, 178, false, [], am_noM), (.getfield 7, 181, false, [12, 1, 6032], am_noM), am_ce0, am_ce0, (.iconst 3, 182, false, [], am_noM), (.iload 4, 184, false, [], am_noM), am_ce0, (.imul, 185, false, [], am_noM), (.iconst 1, 186, false, [], am_noM), (.iadd, 187, false, [], am_noM), (.iaload, 188, false, [], am_noM), (.iastore, 189, false, [], am_noM), (.aload_n 0, 190, false, [], am_noM), (.getfield 37, 193, false, [12, 11, 6042], am_noM), am_ce0],
  [am_ce0, (.bipush 12, 195, false, [], am_noM), am_ce0, (.iload_n 1, 196, false, [], am_noM), (.imul, 197, false, [], am_noM), (.iload 4, 199, false, [], am_noM), am_ce0, (.iadd, 200, false, [], am_noM), (.aload_n 0, 201, false, [], am_noM), (.getfield 7, 204, false, [12, 1, 6032], am_noM), am_ce0, am_ce0, (.iconst 3, 205, false, [], am_noM), (.iload 4, 207, false, [], am_noM), am_ce0, (.imul, 208, false, [], am_noM)],
  [(.iconst 2, 209, false, [], am_noM), (.iadd, 210, false, [], am_noM), (.iaload, 211, false, [], am_noM), (.iastore, 212, false, [], am_noM), (.iinc 4 1, 215, false, [], am_noM), am_ce0, am_ce0, (.goto (-76), 218, false, [139], am_noM), am_ce0, am_ce0, (.iload_n 3, 219, false, [], am_noM), (.ireturn, 220, false, [0], am_noM)]]
def kX12_lengthAt : List (List CE) := [[(.bipush 64, 2, false, [], am_noM), am_ce0, (.aload_n 0, 3, false, [], am_noM), (.getfield 13, 6, false, [12, 3, 6034], am_noM), am_ce0, am_ce0, (.aload_n 0, 7, false, [], am_noM), (.getfield 31, 10, false, [12, 9, 6040], am_noM), am_ce0, am_ce0, (.bipush 12, 12, false, [], am_noM), am_ce0, (.iload_n 1, 13, false, [], am_noM), (.imul, 14, false, [], am_noM), (.iload_n 2, 15, false, [], am_noM), (.iadd, 16, false, [], am_noM)],
  [(.iaload, 17, false, [], am_noM), (.iaload, 18, false, [], am_noM), (.imul, 19, false, [], am_noM), (.ireturn, 20, false, [0], am_noM)]]
def kX12_nextOf : List (List CE) := [[(.iload_n 3, 1, false, [], am_noM), (.iload_n 2, 2, false, [], am_noM), (.ishr, 3, false, [], am_noM), (.iconst 1, 4, false, [], am_noM), (.iand, 5, false, [], am_noM), (.iconst 1, 6, false, [], am_noM), (.if_icmp .ne 17, 9, false, [23], am_noM), am_ce0, am_ce0, (.aload_n 0, 10, false, [], am_noM), (.getfield 37, 13, false, [12, 11, 6042], am_noM), am_ce0, am_ce0, (.bipush 12, 15, false, [], am_noM), am_ce0, (.iload_n 1, 16, false, [], am_noM)],
  [(.imul, 17, false, [], am_noM), (.iload_n 2, 18, false, [], am_noM), (.iadd, 19, false, [], am_noM), (.iaload, 20, false, [], am_noM), (.goto 14, 23, false, [34], am_noM), am_ce0, am_ce0, (.aload_n 0, 24, false, [], am_noM), (.getfield 34, 27, false, [12, 10, 6041], am_noM), am_ce0, am_ce0, (.bipush 12, 29, false, [], am_noM), am_ce0, (.iload_n 1, 30, false, [], am_noM), (.imul, 31, false, [], am_noM), (.iload_n 2, 32, false, [], am_noM)],
  [(.iadd, 33, false, [], am_noM), (.iaload, 34, false, [], am_noM), (.ireturn, 35, false, [0], am_noM)]]
def kX12_step : List (List CE) := [[(.aload_n 0, 1, false, [], am_noM), (.getfield 31, 4, false, [12, 9, 6040], am_noM), am_ce0, am_ce0, (.bipush 12, 6, false, [], am_noM), am_ce0, (.iload_n 1, 7, false, [], am_noM), (.imul, 8, false, [], am_noM), (.aload_n 0, 9, false, [], am_noM), (.getfield 194, 12, false, [12, 14, 6045], am_noM), am_ce0, am_ce0, (.iadd, 13, false, [], am_noM), (.iaload, 14, false, [], am_noM), (.istore_n 3, 15, false, [], am_noM), (.aload_n 0, 16, false, [], am_noM)],
  [(.iconst 0, 17, false, [], am_noM), (.putfield 197, 20, false, [12, 17, 6048], am_noM), am_ce0, am_ce0, (.aload_n 0, 21, false, [], am_noM), (.dup, 22, false, [], am_noM), (.getfield 200, 25, false, [12, 16, 6047], am_noM), am_ce0, am_ce0, (.aload_n 0, 26, false, [], am_noM), (.getfield 16, 29, false, [12, 4, 6035], am_noM), am_ce0, am_ce0, (.iload_n 3, 30, false, [], am_noM), (.iaload, 31, false, [], am_noM), (.iadd, 32, false, [], am_noM)],
  [(.putfield 200, 35, false, [12, 16, 6047], am_noM), am_ce0, am_ce0, (.aload_n 0, 36, false, [], am_noM), (.getfield 200, 39, false, [12, 16, 6047], am_noM), am_ce0, am_ce0, (.ifCond .ge 8, 42, false, [47], am_noM), am_ce0, am_ce0, (.aload_n 0, 43, false, [], am_noM), (.iconst 0, 44, false, [], am_noM), (.putfield 200, 47, false, [12, 16, 6047], am_noM), am_ce0, am_ce0, (.aload_n 0, 48, false, [], am_noM)],
  [(.dup, 49, false, [], am_noM), (.getfield 200, 52, false, [12, 16, 6047], am_noM), am_ce0, am_ce0, (.aload_n 0, 53, false, [], am_noM), (.getfield 200, 56, false, [12, 16, 6047], am_noM), am_ce0, am_ce0, (.aload_n 0, 57, false, [], am_noM), (.getfield 19, 60, false, [12, 5, 6036], am_noM), am_ce0, am_ce0, (.iload_n 3, 61, false, [], am_noM), (.iaload, 62, false, [], am_noM), (.imul, 63, false, [], am_noM), (.bipush 64, 65, false, [], am_noM)],
  [am_ce0, (.idiv, 66, false, [], am_noM), (.isub, 67, false, [], am_noM), (.putfield 200, 70, false, [12, 16, 6047], am_noM), am_ce0, am_ce0, (.aload_n 0, 71, false, [], am_noM), (.getfield 200, 74, false, [12, 16, 6047], am_noM), am_ce0, am_ce0, (.sipush 1023, 77, false, [], am_noM), am_ce0, am_ce0, (.if_icmp .le 10, 80, false, [87], am_noM), am_ce0, am_ce0],
  [(.aload_n 0, 81, false, [], am_noM), (.sipush 1023, 84, false, [], am_noM), am_ce0, am_ce0, (.putfield 200, 87, false, [12, 16, 6047], am_noM), am_ce0, am_ce0, (.aload_n 0, 88, false, [], am_noM), (.dup, 89, false, [], am_noM), (.getfield 203, 92, false, [12, 15, 6046], am_noM), am_ce0, am_ce0, (.aload_n 0, 93, false, [], am_noM), (.getfield 200, 96, false, [12, 16, 6047], am_noM), am_ce0, am_ce0],
  [(.iadd, 97, false, [], am_noM), (.putfield 203, 100, false, [12, 15, 6046], am_noM), am_ce0, am_ce0, (.aload_n 0, 101, false, [], am_noM), (.getfield 203, 104, false, [12, 15, 6046], am_noM), am_ce0, am_ce0, (.aload_n 0, 105, false, [], am_noM), (.iload_n 1, 106, false, [], am_noM), (.aload_n 0, 107, false, [], am_noM), (.getfield 194, 110, false, [12, 14, 6045], am_noM), am_ce0, am_ce0, (.invokevirtual 206, 113, false, [3, 12, 0, 0, 7107, 7109, 54, 1013, 7110], mX12_lengthAt), am_ce0],
  [am_ce0, (.if_icmp .ge 4, 116, false, [117], am_noM), am_ce0, am_ce0, (.return_, 117, false, [], am_noM), (.aload_n 0, 118, false, [], am_noM), (.getfield 22, 121, false, [12, 6, 6037], am_noM), am_ce0, am_ce0, (.iload_n 3, 122, false, [], am_noM), (.iaload, 123, false, [], am_noM), (.aload_n 0, 124, false, [], am_noM), (.getfield 40, 127, false, [12, 12, 6043], am_noM), am_ce0, am_ce0, (.bipush 12, 129, false, [], am_noM)],
  [am_ce0, (.iload_n 1, 130, false, [], am_noM), (.imul, 131, false, [], am_noM), (.aload_n 0, 132, false, [], am_noM), (.getfield 194, 135, false, [12, 14, 6045], am_noM), am_ce0, am_ce0, (.iadd, 136, false, [], am_noM), (.iaload, 137, false, [], am_noM), (.isub, 138, false, [], am_noM), (.istore 4, 140, false, [], am_noM), am_ce0, (.iload 4, 142, false, [], am_noM), am_ce0, (.ifCond .ge 6, 145, false, [148], am_noM), am_ce0],
  [am_ce0, (.iconst 0, 146, false, [], am_noM), (.istore 4, 148, false, [], am_noM), am_ce0, (.aload_n 0, 149, false, [], am_noM), (.iload 4, 151, false, [], am_noM), am_ce0, (.aload_n 0, 152, false, [], am_noM), (.getfield 200, 155, false, [12, 16, 6047], am_noM), am_ce0, am_ce0, (.imul, 156, false, [], am_noM), (.bipush 64, 158, false, [], am_noM), am_ce0, (.idiv, 159, false, [], am_noM), (.putfield 197, 162, false, [12, 17, 6048], am_noM)],
  [am_ce0, am_ce0, (.aload_n 0, 163, false, [], am_noM), (.dup, 164, false, [], am_noM), (.getfield 200, 167, false, [12, 16, 6047], am_noM), am_ce0, am_ce0, (.aload_n 0, 168, false, [], am_noM), (.getfield 200, 171, false, [12, 16, 6047], am_noM), am_ce0, am_ce0, (.aload_n 0, 172, false, [], am_noM), (.getfield 25, 175, false, [12, 7, 6038], am_noM), am_ce0, am_ce0, (.iload_n 3, 176, false, [], am_noM)],
  [(.iaload, 177, false, [], am_noM), (.imul, 178, false, [], am_noM), (.bipush 16, 180, false, [], am_noM), am_ce0, (.idiv, 181, false, [], am_noM), (.isub, 182, false, [], am_noM), (.putfield 200, 185, false, [12, 16, 6047], am_noM), am_ce0, am_ce0, (.aload_n 0, 186, false, [], am_noM), (.dup, 187, false, [], am_noM), (.getfield 203, 190, false, [12, 15, 6046], am_noM), am_ce0, am_ce0, (.iload 4, 192, false, [], am_noM), am_ce0],
  [(.aload_n 0, 193, false, [], am_noM), (.getfield 200, 196, false, [12, 16, 6047], am_noM), am_ce0, am_ce0, (.imul, 197, false, [], am_noM), (.bipush 8, 199, false, [], am_noM), am_ce0, (.idiv, 200, false, [], am_noM), (.aload_n 0, 201, false, [], am_noM), (.iload_n 1, 202, false, [], am_noM), (.aload_n 0, 203, false, [], am_noM), (.getfield 194, 206, false, [12, 14, 6045], am_noM), am_ce0, am_ce0, (.invokevirtual 206, 209, false, [3, 12, 0, 0, 7107, 7109, 54, 1013, 7110], mX12_lengthAt), am_ce0],
  [am_ce0, (.isub, 210, false, [], am_noM), (.iadd, 211, false, [], am_noM), (.putfield 203, 214, false, [12, 15, 6046], am_noM), am_ce0, am_ce0, (.aload_n 0, 215, false, [], am_noM), (.aload_n 0, 216, false, [], am_noM), (.iload_n 1, 217, false, [], am_noM), (.aload_n 0, 218, false, [], am_noM), (.getfield 194, 221, false, [12, 14, 6045], am_noM), am_ce0, am_ce0, (.iload_n 2, 222, false, [], am_noM), (.invokevirtual 210, 225, false, [4, 12, 0, 0, 7111, 7113, 55, 1013, 7114], mX12_nextOf), am_ce0],
  [am_ce0, (.putfield 194, 228, false, [12, 14, 6045], am_noM), am_ce0, am_ce0, (.aload_n 0, 229, true, [], am_noM), (.getfield 194, 232, false, [12, 14, 6045], am_noM), am_ce0, am_ce0, (.sipush 255, 235, false, [], am_noM), am_ce0, am_ce0, (.if_icmp .eq 64, 238, false, [299], am_noM), am_ce0, am_ce0, (.aload_n 0, 239, false, [], am_noM), (.getfield 203, 242, false, [12, 15, 6046], am_noM)],
  [am_ce0, am_ce0, (.aload_n 0, 243, false, [], am_noM), (.iload_n 1, 244, false, [], am_noM), (.aload_n 0, 245, false, [], am_noM), (.getfield 194, 248, false, [12, 14, 6045], am_noM), am_ce0, am_ce0, (.invokevirtual 206, 251, false, [3, 12, 0, 0, 7107, 7109, 54, 1013, 7110], mX12_lengthAt), am_ce0, am_ce0, (.if_icmp .lt 48, 254, false, [299], am_noM), am_ce0, am_ce0, (.aload_n 0, 255, false, [], am_noM), (.dup, 256, false, [], am_noM)],
  [(.getfield 203, 259, false, [12, 15, 6046], am_noM), am_ce0, am_ce0, (.aload_n 0, 260, false, [], am_noM), (.iload_n 1, 261, false, [], am_noM), (.aload_n 0, 262, false, [], am_noM), (.getfield 194, 265, false, [12, 14, 6045], am_noM), am_ce0, am_ce0, (.invokevirtual 206, 268, false, [3, 12, 0, 0, 7107, 7109, 54, 1013, 7110], mX12_lengthAt), am_ce0, am_ce0, (.isub, 269, false, [], am_noM), (.putfield 203, 272, false, [12, 15, 6046], am_noM), am_ce0, am_ce0],
  [(.aload_n 0, 273, false, [], am_noM), (.aload_n 0, 274, false, [], am_noM), (.iload_n 1, 275, false, [], am_noM), (.aload_n 0, 276, false, [], am_noM), (.getfield 194, 279, false, [12, 14, 6045], am_noM), am_ce0, am_ce0, (.iload_n 2, 280, false, [], am_noM), (.invokevirtual 210, 283, false, [4, 12, 0, 0, 7111, 7113, 55, 1013, 7114], mX12_nextOf), am_ce0, am_ce0, (.putfield 194, 286, false, [12, 14, 6045], am_noM), am_ce0, am_ce0, (.aload_n 0, 287, false, [], am_noM), (.dup, 288, false, [], am_noM)],
  [(.getfield 214, 291, false, [12, 18, 6049], am_noM), am_ce0, am_ce0, (.iconst 1, 292, false, [], am_noM), (.iadd, 293, false, [], am_noM), (.putfield 214, 296, false, [12, 18, 6049], am_noM), am_ce0, am_ce0, (.goto (-68), 299, false, [228], am_noM), am_ce0, am_ce0, (.return_, 300, false, [], am_noM)]]
def kX12_follow : List (List CE) := [[(.aload_n 0, 1, false, [], am_noM), (.iconst 0, 2, false, [], am_noM), (.putfield 194, 5, false, [12, 14, 6045], am_noM), am_ce0, am_ce0, (.aload_n 0, 6, false, [], am_noM), (.iconst 0, 7, false, [], am_noM), (.putfield 203, 10, false, [12, 15, 6046], am_noM), am_ce0, am_ce0, (.aload_n 0, 11, false, [], am_noM), (.iconst 0, 12, false, [], am_noM), (.putfield 200, 15, false, [12, 16, 6047], am_noM), am_ce0, am_ce0, (.aload_n 0, 16, false, [], am_noM)],
  [(.iconst 0, 17, false, [], am_noM), (.putfield 214, 20, false, [12, 18, 6049], am_noM), am_ce0, am_ce0, (.aload_n 0, 21, false, [], am_noM), (.iconst 0, 22, false, [], am_noM), (.putfield 217, 25, false, [12, 25, 6056], am_noM), am_ce0, am_ce0, (.aload_n 0, 26, false, [], am_noM), (.iconst 0, 27, false, [], am_noM), (.putfield 220, 30, false, [12, 27, 6058], am_noM), am_ce0, am_ce0, (.aload_n 0, 31, false, [], am_noM), (.iconst (-1), 32, false, [], am_noM)],
  [(.putfield 223, 35, false, [12, 26, 6057], am_noM), am_ce0, am_ce0, (.iconst 1, 36, false, [], am_noM), (.istore_n 3, 37, false, [], am_noM), (.iload_n 3, 38, true, [], am_noM), (.sipush 2000, 41, false, [], am_noM), am_ce0, am_ce0, (.if_icmp .gt 114, 44, false, [155], am_noM), am_ce0, am_ce0, (.aload_n 0, 45, false, [], am_noM), (.getfield 223, 48, false, [12, 26, 6057], am_noM), am_ce0, am_ce0],
  [(.iconst (-1), 49, false, [], am_noM), (.if_icmp .ne 106, 52, false, [155], am_noM), am_ce0, am_ce0, (.aload_n 0, 53, false, [], am_noM), (.getfield 194, 56, false, [12, 14, 6045], am_noM), am_ce0, am_ce0, (.istore 4, 58, false, [], am_noM), am_ce0, (.aload_n 0, 59, false, [], am_noM), (.iload_n 1, 60, false, [], am_noM), (.iload_n 2, 61, false, [], am_noM), (.invokevirtual 226, 64, false, [3, 12, 0, 0, 7103, 7105, 53, 1013, 7106], mX12_step), am_ce0, am_ce0],
  [(.aload_n 0, 65, false, [], am_noM), (.getfield 200, 68, false, [12, 16, 6047], am_noM), am_ce0, am_ce0, (.aload_n 0, 69, false, [], am_noM), (.getfield 220, 72, false, [12, 27, 6058], am_noM), am_ce0, am_ce0, (.if_icmp .le 11, 75, false, [83], am_noM), am_ce0, am_ce0, (.aload_n 0, 76, false, [], am_noM), (.aload_n 0, 77, false, [], am_noM), (.getfield 200, 80, false, [12, 16, 6047], am_noM), am_ce0, am_ce0],
  [(.putfield 220, 83, false, [12, 27, 6058], am_noM), am_ce0, am_ce0, (.aload_n 0, 84, false, [], am_noM), (.getfield 197, 87, false, [12, 17, 6048], am_noM), am_ce0, am_ce0, (.ifCond .le 47, 90, false, [134], am_noM), am_ce0, am_ce0, (.aload_n 0, 91, false, [], am_noM), (.getfield 43, 94, false, [12, 19, 6050], am_noM), am_ce0, am_ce0, (.aload_n 0, 95, false, [], am_noM), (.getfield 217, 98, false, [12, 25, 6056], am_noM)],
  [am_ce0, am_ce0, (.iload_n 3, 99, false, [], am_noM), (.iastore, 100, false, [], am_noM), (.aload_n 0, 101, false, [], am_noM), (.getfield 46, 104, false, [12, 20, 6051], am_noM), am_ce0, am_ce0, (.aload_n 0, 105, false, [], am_noM), (.getfield 217, 108, false, [12, 25, 6056], am_noM), am_ce0, am_ce0, (.iload 4, 110, false, [], am_noM), am_ce0, (.iastore, 111, false, [], am_noM), (.aload_n 0, 112, false, [], am_noM)],
  [(.getfield 49, 115, false, [12, 21, 6052], am_noM), am_ce0, am_ce0, (.aload_n 0, 116, false, [], am_noM), (.getfield 217, 119, false, [12, 25, 6056], am_noM), am_ce0, am_ce0, (.aload_n 0, 120, false, [], am_noM), (.getfield 197, 123, false, [12, 17, 6048], am_noM), am_ce0, am_ce0, (.iastore, 124, false, [], am_noM), (.aload_n 0, 125, false, [], am_noM), (.dup, 126, false, [], am_noM), (.getfield 217, 129, false, [12, 25, 6056], am_noM), am_ce0],
  [am_ce0, (.iconst 1, 130, false, [], am_noM), (.iadd, 131, false, [], am_noM), (.putfield 217, 134, false, [12, 25, 6056], am_noM), am_ce0, am_ce0, (.aload_n 0, 135, false, [], am_noM), (.getfield 194, 138, false, [12, 14, 6045], am_noM), am_ce0, am_ce0, (.sipush 255, 141, false, [], am_noM), am_ce0, am_ce0, (.if_icmp .ne 8, 144, false, [149], am_noM), am_ce0, am_ce0],
  [(.aload_n 0, 145, false, [], am_noM), (.iload_n 3, 146, false, [], am_noM), (.putfield 223, 149, false, [12, 26, 6057], am_noM), am_ce0, am_ce0, (.iinc 3 1, 152, false, [], am_noM), am_ce0, am_ce0, (.goto (-115), 155, false, [37], am_noM), am_ce0, am_ce0, (.return_, 156, false, [], am_noM)]]
def kX12_fall : List (List CE) := [[(.aload_n 0, 1, false, [], am_noM), (.iconst 0, 2, false, [], am_noM), (.putfield 172, 5, false, [12, 0, 6031], am_noM), am_ce0, am_ce0, (.aload_n 0, 6, false, [], am_noM), (.iload_n 1, 7, false, [], am_noM), (.invokevirtual 230, 10, false, [2, 12, 0, 0, 7095, 7097, 51, 1013, 7098], mX12_isRun), am_ce0, am_ce0, (.ifCond .eq 12, 13, false, [22], am_noM), am_ce0, am_ce0, (.iload_n 3, 14, false, [], am_noM), (.ifCond .lt 8, 17, false, [22], am_noM), am_ce0],
  [am_ce0, (.iload_n 3, 18, false, [], am_noM), (.iconst 3, 19, false, [], am_noM), (.if_icmp .le 6, 22, false, [25], am_noM), am_ce0, am_ce0, (.bipush (-2), 24, false, [], am_noM), am_ce0, (.ireturn, 25, false, [0], am_noM), (.aload_n 0, 26, false, [], am_noM), (.iload_n 1, 27, false, [], am_noM), (.iload_n 2, 28, false, [], am_noM), (.invokevirtual 233, 31, false, [3, 12, 0, 0, 7099, 7101, 52, 1013, 7102], mX12_follow), am_ce0, am_ce0, (.aload_n 0, 32, false, [], am_noM)],
  [(.aload_n 0, 33, false, [], am_noM), (.getfield 217, 36, false, [12, 25, 6056], am_noM), am_ce0, am_ce0, (.putfield 236, 39, false, [12, 28, 6059], am_noM), am_ce0, am_ce0, (.iconst 0, 40, false, [], am_noM), (.istore 4, 42, false, [], am_noM), am_ce0, (.iload 4, 44, true, [], am_noM), am_ce0, (.aload_n 0, 45, false, [], am_noM), (.getfield 217, 48, false, [12, 25, 6056], am_noM), am_ce0, am_ce0],
  [(.if_icmp .ge 51, 51, false, [99], am_noM), am_ce0, am_ce0, (.aload_n 0, 52, false, [], am_noM), (.getfield 52, 55, false, [12, 22, 6053], am_noM), am_ce0, am_ce0, (.iload 4, 57, false, [], am_noM), am_ce0, (.aload_n 0, 58, false, [], am_noM), (.getfield 43, 61, false, [12, 19, 6050], am_noM), am_ce0, am_ce0, (.iload 4, 63, false, [], am_noM), am_ce0, (.iaload, 64, false, [], am_noM)],
  [(.iastore, 65, false, [], am_noM), (.aload_n 0, 66, false, [], am_noM), (.getfield 55, 69, false, [12, 23, 6054], am_noM), am_ce0, am_ce0, (.iload 4, 71, false, [], am_noM), am_ce0, (.aload_n 0, 72, false, [], am_noM), (.getfield 46, 75, false, [12, 20, 6051], am_noM), am_ce0, am_ce0, (.iload 4, 77, false, [], am_noM), am_ce0, (.iaload, 78, false, [], am_noM), (.iastore, 79, false, [], am_noM), (.aload_n 0, 80, false, [], am_noM)],
  [(.getfield 58, 83, false, [12, 24, 6055], am_noM), am_ce0, am_ce0, (.iload 4, 85, false, [], am_noM), am_ce0, (.aload_n 0, 86, false, [], am_noM), (.getfield 49, 89, false, [12, 21, 6052], am_noM), am_ce0, am_ce0, (.iload 4, 91, false, [], am_noM), am_ce0, (.iaload, 92, false, [], am_noM), (.iastore, 93, false, [], am_noM), (.iinc 4 1, 96, false, [], am_noM), am_ce0, am_ce0],
  [(.goto (-54), 99, false, [42], am_noM), am_ce0, am_ce0, (.iload_n 3, 100, false, [], am_noM), (.ifCond .ne 10, 103, false, [110], am_noM), am_ce0, am_ce0, (.aload_n 0, 104, false, [], am_noM), (.getfield 223, 107, false, [12, 26, 6057], am_noM), am_ce0, am_ce0, (.goto 31, 110, false, [138], am_noM), am_ce0, am_ce0, (.iload_n 3, 111, false, [], am_noM), (.iconst 1, 112, false, [], am_noM)],
  [(.if_icmp .ne 10, 115, false, [122], am_noM), am_ce0, am_ce0, (.aload_n 0, 116, false, [], am_noM), (.getfield 217, 119, false, [12, 25, 6056], am_noM), am_ce0, am_ce0, (.goto 19, 122, false, [138], am_noM), am_ce0, am_ce0, (.iload_n 3, 123, false, [], am_noM), (.iconst 2, 124, false, [], am_noM), (.if_icmp .ne 10, 127, false, [134], am_noM), am_ce0, am_ce0, (.aload_n 0, 128, false, [], am_noM)],
  [(.getfield 214, 131, false, [12, 18, 6049], am_noM), am_ce0, am_ce0, (.goto 7, 134, false, [138], am_noM), am_ce0, am_ce0, (.aload_n 0, 135, false, [], am_noM), (.getfield 220, 138, false, [12, 27, 6058], am_noM), am_ce0, am_ce0, (.ireturn, 139, false, [0], am_noM)]]
def kX12_knock : List (List CE) := [[(.iload_n 1, 1, false, [], am_noM), (.ifCond .lt 20, 4, false, [21], am_noM), am_ce0, am_ce0, (.iload_n 1, 5, false, [], am_noM), (.aload_n 0, 6, false, [], am_noM), (.getfield 236, 9, false, [12, 28, 6059], am_noM), am_ce0, am_ce0, (.if_icmp .ge 12, 12, false, [21], am_noM), am_ce0, am_ce0, (.iload_n 2, 13, false, [], am_noM), (.ifCond .lt 8, 16, false, [21], am_noM), am_ce0, am_ce0],
  [(.iload_n 2, 17, false, [], am_noM), (.iconst 2, 18, false, [], am_noM), (.if_icmp .le 8, 21, false, [26], am_noM), am_ce0, am_ce0, (.aload_n 0, 22, false, [], am_noM), (.invokevirtual 239, 25, false, [1, 12, 0, 0, 7119, 7121, 56, 1013, 7122], mX12_refuse), am_ce0, am_ce0, (.ireturn, 26, false, [0], am_noM), (.aload_n 0, 27, false, [], am_noM), (.iconst 0, 28, false, [], am_noM), (.putfield 172, 31, false, [12, 0, 6031], am_noM), am_ce0, am_ce0, (.iload_n 2, 32, false, [], am_noM)],
  [(.ifCond .ne 12, 35, false, [44], am_noM), am_ce0, am_ce0, (.aload_n 0, 36, false, [], am_noM), (.getfield 52, 39, false, [12, 22, 6053], am_noM), am_ce0, am_ce0, (.iload_n 1, 40, false, [], am_noM), (.iaload, 41, false, [], am_noM), (.goto 23, 44, false, [64], am_noM), am_ce0, am_ce0, (.iload_n 2, 45, false, [], am_noM), (.iconst 1, 46, false, [], am_noM), (.if_icmp .ne 12, 49, false, [58], am_noM), am_ce0],
  [am_ce0, (.aload_n 0, 50, false, [], am_noM), (.getfield 55, 53, false, [12, 23, 6054], am_noM), am_ce0, am_ce0, (.iload_n 1, 54, false, [], am_noM), (.iaload, 55, false, [], am_noM), (.goto 9, 58, false, [64], am_noM), am_ce0, am_ce0, (.aload_n 0, 59, false, [], am_noM), (.getfield 58, 62, false, [12, 24, 6055], am_noM), am_ce0, am_ce0, (.iload_n 1, 63, false, [], am_noM), (.iaload, 64, false, [], am_noM)],
  [(.ireturn, 65, false, [0], am_noM)]]
def kX12_machine : List (List CE) := [[(.aload_n 0, 1, false, [], am_noM), (.iconst 0, 2, false, [], am_noM), (.putfield 172, 5, false, [12, 0, 6031], am_noM), am_ce0, am_ce0, (.aload_n 0, 6, false, [], am_noM), (.getfield 243, 9, false, [12, 34, 6065], am_noM), am_ce0, am_ce0, (.bipush 12, 11, false, [], am_noM), am_ce0, (.if_icmp .ne 6, 14, false, [17], am_noM), am_ce0, am_ce0, (.bipush (-2), 16, false, [], am_noM), am_ce0],
  [(.ireturn, 17, false, [0], am_noM), (.iload_n 1, 18, false, [], am_noM), (.iconst 0, 19, false, [], am_noM), (.iconst 4, 20, false, [], am_noM), (.invokestatic 186, 23, false, [0, 3, 0, 0, 7081, 7082, 1013, 7083], mX12_isIn), am_ce0, am_ce0, (.ifCond .eq 13, 26, false, [36], am_noM), am_ce0, am_ce0, (.iload_n 2, 27, false, [], am_noM), (.iconst 0, 28, false, [], am_noM), (.bipush 99, 30, false, [], am_noM), am_ce0, (.invokestatic 186, 33, false, [0, 3, 0, 0, 7081, 7082, 1013, 7083], mX12_isIn), am_ce0],
  [am_ce0, (.ifCond .ne 6, 36, false, [39], am_noM), am_ce0, am_ce0, (.bipush (-3), 38, false, [], am_noM), am_ce0, (.ireturn, 39, false, [0], am_noM), (.iload_n 1, 40, false, [], am_noM), (.ifCond .eq 8, 43, false, [48], am_noM), am_ce0, am_ce0, (.iload_n 1, 44, false, [], am_noM), (.iconst 4, 45, false, [], am_noM), (.if_icmp .ne 11, 48, false, [56], am_noM), am_ce0, am_ce0],
  [(.aload_n 0, 49, false, [], am_noM), (.iload_n 3, 50, false, [], am_noM), (.invokevirtual 230, 53, false, [2, 12, 0, 0, 7095, 7097, 51, 1013, 7098], mX12_isRun), am_ce0, am_ce0, (.ifCond .eq 52, 56, false, [105], am_noM), am_ce0, am_ce0, (.iload_n 1, 57, false, [], am_noM), (.iconst 4, 58, false, [], am_noM), (.if_icmp .ne 20, 61, false, [78], am_noM), am_ce0, am_ce0, (.iload 4, 63, false, [], am_noM), am_ce0, (.iconst 0, 64, false, [], am_noM)],
  [(.aload_n 0, 65, false, [], am_noM), (.getfield 28, 68, false, [12, 8, 6039], am_noM), am_ce0, am_ce0, (.iload_n 3, 69, false, [], am_noM), (.iaload, 70, false, [], am_noM), (.iconst 1, 71, false, [], am_noM), (.isub, 72, false, [], am_noM), (.invokestatic 186, 75, false, [0, 3, 0, 0, 7081, 7082, 1013, 7083], mX12_isIn), am_ce0, am_ce0, (.ifCond .eq 30, 78, false, [105], am_noM), am_ce0, am_ce0, (.iload_n 1, 79, false, [], am_noM), (.iconst 1, 80, false, [], am_noM)],
  [(.if_icmp .ne 28, 83, false, [108], am_noM), am_ce0, am_ce0, (.iload_n 3, 84, false, [], am_noM), (.iconst 1, 85, false, [], am_noM), (.bipush 99, 87, false, [], am_noM), am_ce0, (.invokestatic 186, 90, false, [0, 3, 0, 0, 7081, 7082, 1013, 7083], mX12_isIn), am_ce0, am_ce0, (.ifCond .eq 15, 93, false, [105], am_noM), am_ce0, am_ce0, (.iload 4, 95, false, [], am_noM), am_ce0, (.iconst 1, 96, false, [], am_noM)],
  [(.sipush 200, 99, false, [], am_noM), am_ce0, am_ce0, (.invokestatic 186, 102, false, [0, 3, 0, 0, 7081, 7082, 1013, 7083], mX12_isIn), am_ce0, am_ce0, (.ifCond .ne 6, 105, false, [108], am_noM), am_ce0, am_ce0, (.bipush (-4), 107, false, [], am_noM), am_ce0, (.ireturn, 108, false, [0], am_noM), (.aload_n 0, 109, false, [], am_noM), (.getfield 61, 112, false, [12, 29, 6060], am_noM), am_ce0, am_ce0],
  [(.aload_n 0, 113, false, [], am_noM), (.getfield 243, 116, false, [12, 34, 6065], am_noM), am_ce0, am_ce0, (.iload_n 1, 117, false, [], am_noM), (.iastore, 118, false, [], am_noM), (.aload_n 0, 119, false, [], am_noM), (.getfield 64, 122, false, [12, 30, 6061], am_noM), am_ce0, am_ce0, (.aload_n 0, 123, false, [], am_noM), (.getfield 243, 126, false, [12, 34, 6065], am_noM), am_ce0, am_ce0, (.iload_n 2, 127, false, [], am_noM), (.iastore, 128, false, [], am_noM)],
  [(.aload_n 0, 129, false, [], am_noM), (.getfield 67, 132, false, [12, 31, 6062], am_noM), am_ce0, am_ce0, (.aload_n 0, 133, false, [], am_noM), (.getfield 243, 136, false, [12, 34, 6065], am_noM), am_ce0, am_ce0, (.iload_n 3, 137, false, [], am_noM), (.iastore, 138, false, [], am_noM), (.aload_n 0, 139, false, [], am_noM), (.getfield 70, 142, false, [12, 32, 6063], am_noM), am_ce0, am_ce0, (.aload_n 0, 143, false, [], am_noM), (.getfield 243, 146, false, [12, 34, 6065], am_noM)],
  [am_ce0, am_ce0, (.iload 4, 148, false, [], am_noM), am_ce0, (.iastore, 149, false, [], am_noM), (.aload_n 0, 150, false, [], am_noM), (.dup, 151, false, [], am_noM), (.getfield 243, 154, false, [12, 34, 6065], am_noM), am_ce0, am_ce0, (.iconst 1, 155, false, [], am_noM), (.iadd, 156, false, [], am_noM), (.putfield 243, 159, false, [12, 34, 6065], am_noM), am_ce0, am_ce0, (.aload_n 0, 160, false, [], am_noM)],
  [(.getfield 243, 163, false, [12, 34, 6065], am_noM), am_ce0, am_ce0, (.iconst 1, 164, false, [], am_noM), (.isub, 165, false, [], am_noM), (.ireturn, 166, false, [0], am_noM)]]
def kX12_man : List (List CE) := [[(.aload_n 0, 1, false, [], am_noM), (.iconst 0, 2, false, [], am_noM), (.putfield 172, 5, false, [12, 0, 6031], am_noM), am_ce0, am_ce0, (.aload_n 0, 6, false, [], am_noM), (.getfield 246, 9, false, [12, 35, 6066], am_noM), am_ce0, am_ce0, (.iconst 4, 10, false, [], am_noM), (.if_icmp .eq 13, 13, false, [23], am_noM), am_ce0, am_ce0, (.iload_n 1, 14, false, [], am_noM), (.iconst 0, 15, false, [], am_noM), (.bipush 99, 17, false, [], am_noM)],
  [am_ce0, (.invokestatic 186, 20, false, [0, 3, 0, 0, 7081, 7082, 1013, 7083], mX12_isIn), am_ce0, am_ce0, (.ifCond .ne 5, 23, false, [25], am_noM), am_ce0, am_ce0, (.iconst (-1), 24, false, [], am_noM), (.ireturn, 25, false, [0], am_noM), (.aload_n 0, 26, false, [], am_noM), (.getfield 73, 29, false, [12, 33, 6064], am_noM), am_ce0, am_ce0, (.aload_n 0, 30, false, [], am_noM), (.getfield 246, 33, false, [12, 35, 6066], am_noM), am_ce0],
  [am_ce0, (.iload_n 1, 34, false, [], am_noM), (.iastore, 35, false, [], am_noM), (.aload_n 0, 36, false, [], am_noM), (.dup, 37, false, [], am_noM), (.getfield 246, 40, false, [12, 35, 6066], am_noM), am_ce0, am_ce0, (.iconst 1, 41, false, [], am_noM), (.iadd, 42, false, [], am_noM), (.putfield 246, 45, false, [12, 35, 6066], am_noM), am_ce0, am_ce0, (.aload_n 0, 46, false, [], am_noM), (.getfield 246, 49, false, [12, 35, 6066], am_noM), am_ce0],
  [am_ce0, (.iconst 1, 50, false, [], am_noM), (.isub, 51, false, [], am_noM), (.ireturn, 52, false, [0], am_noM)]]
def kX12_byteAt : List (List CE) := [[(.iload_n 1, 1, false, [], am_noM), (.aload_n 0, 2, false, [], am_noM), (.getfield 249, 5, false, [12, 36, 6067], am_noM), am_ce0, am_ce0, (.if_icmp .ge 12, 8, false, [17], am_noM), am_ce0, am_ce0, (.aload_n 0, 9, false, [], am_noM), (.getfield 7, 12, false, [12, 1, 6032], am_noM), am_ce0, am_ce0, (.iload_n 1, 13, false, [], am_noM), (.iaload, 14, false, [], am_noM), (.goto 4, 17, false, [18], am_noM), am_ce0],
  [am_ce0, (.iconst 0, 18, false, [], am_noM), (.ireturn, 19, false, [0], am_noM)]]
def kX12_isDigit : List (List CE) := [[(.iload_n 0, 1, false, [], am_noM), (.bipush 48, 3, false, [], am_noM), am_ce0, (.if_icmp .lt 13, 6, false, [16], am_noM), am_ce0, am_ce0, (.iload_n 0, 7, false, [], am_noM), (.bipush 57, 9, false, [], am_noM), am_ce0, (.if_icmp .gt 7, 12, false, [16], am_noM), am_ce0, am_ce0, (.iconst 1, 13, false, [], am_noM), (.goto 4, 16, false, [17], am_noM), am_ce0, am_ce0],
  [(.iconst 0, 17, false, [], am_noM), (.ireturn, 18, false, [1], am_noM)]]
def kX12_isLetter : List (List CE) := [[(.iload_n 0, 1, false, [], am_noM), (.bipush 97, 3, false, [], am_noM), am_ce0, (.if_icmp .lt 13, 6, false, [16], am_noM), am_ce0, am_ce0, (.iload_n 0, 7, false, [], am_noM), (.bipush 122, 9, false, [], am_noM), am_ce0, (.if_icmp .gt 7, 12, false, [16], am_noM), am_ce0, am_ce0, (.iconst 1, 13, false, [], am_noM), (.goto 4, 16, false, [17], am_noM), am_ce0, am_ce0],
  [(.iconst 0, 17, false, [], am_noM), (.ireturn, 18, false, [1], am_noM)]]
def kX12_go : List (List CE) := [[(.aload_n 0, 1, true, [], am_noM), (.getfield 252, 4, false, [12, 37, 6068], am_noM), am_ce0, am_ce0, (.aload_n 0, 5, false, [], am_noM), (.getfield 249, 8, false, [12, 36, 6067], am_noM), am_ce0, am_ce0, (.if_icmp .ge 44, 11, false, [52], am_noM), am_ce0, am_ce0, (.aload_n 0, 12, false, [], am_noM), (.getfield 7, 15, false, [12, 1, 6032], am_noM), am_ce0, am_ce0, (.aload_n 0, 16, false, [], am_noM)],
  [(.getfield 252, 19, false, [12, 37, 6068], am_noM), am_ce0, am_ce0, (.iaload, 20, false, [], am_noM), (.bipush 32, 22, false, [], am_noM), am_ce0, (.if_icmp .eq 17, 25, false, [39], am_noM), am_ce0, am_ce0, (.aload_n 0, 26, false, [], am_noM), (.getfield 7, 29, false, [12, 1, 6032], am_noM), am_ce0, am_ce0, (.aload_n 0, 30, false, [], am_noM), (.getfield 252, 33, false, [12, 37, 6068], am_noM), am_ce0],
  [am_ce0, (.iaload, 34, false, [], am_noM), (.bipush 10, 36, false, [], am_noM), am_ce0, (.if_icmp .ne 16, 39, false, [52], am_noM), am_ce0, am_ce0, (.aload_n 0, 40, false, [], am_noM), (.dup, 41, false, [], am_noM), (.getfield 252, 44, false, [12, 37, 6068], am_noM), am_ce0, am_ce0, (.iconst 1, 45, false, [], am_noM), (.iadd, 46, false, [], am_noM), (.putfield 252, 49, false, [12, 37, 6068], am_noM), am_ce0],
  [am_ce0, (.goto (-49), 52, false, [0], am_noM), am_ce0, am_ce0, (.aload_n 0, 53, false, [], am_noM), (.aload_n 0, 54, false, [], am_noM), (.getfield 252, 57, false, [12, 37, 6068], am_noM), am_ce0, am_ce0, (.putfield 255, 60, false, [12, 38, 6069], am_noM), am_ce0, am_ce0, (.aload_n 0, 61, false, [], am_noM), (.getfield 249, 64, false, [12, 36, 6067], am_noM), am_ce0, am_ce0],
  [(.sipush 600, 67, false, [], am_noM), am_ce0, am_ce0, (.if_icmp .le 26, 70, false, [93], am_noM), am_ce0, am_ce0, (.aload_n 0, 71, false, [], am_noM), (.getfield 255, 74, false, [12, 38, 6069], am_noM), am_ce0, am_ce0, (.sipush 600, 77, false, [], am_noM), am_ce0, am_ce0, (.if_icmp .lt 16, 80, false, [93], am_noM), am_ce0, am_ce0],
  [(.aload_n 0, 81, false, [], am_noM), (.sipush 600, 84, false, [], am_noM), am_ce0, am_ce0, (.putfield 255, 87, false, [12, 38, 6069], am_noM), am_ce0, am_ce0, (.aload_n 0, 88, false, [], am_noM), (.iconst 1, 89, false, [], am_noM), (.putfield 258, 92, false, [12, 39, 6070], am_noM), am_ce0, am_ce0, (.return_, 93, false, [], am_noM), (.aload_n 0, 94, false, [], am_noM), (.getfield 252, 97, false, [12, 37, 6068], am_noM), am_ce0],
  [am_ce0, (.aload_n 0, 98, false, [], am_noM), (.getfield 249, 101, false, [12, 36, 6067], am_noM), am_ce0, am_ce0, (.if_icmp .lt 9, 104, false, [110], am_noM), am_ce0, am_ce0, (.aload_n 0, 105, false, [], am_noM), (.iconst 0, 106, false, [], am_noM), (.putfield 258, 109, false, [12, 39, 6070], am_noM), am_ce0, am_ce0, (.return_, 110, false, [], am_noM), (.aload_n 0, 111, false, [], am_noM), (.getfield 7, 114, false, [12, 1, 6032], am_noM)],
  [am_ce0, am_ce0, (.aload_n 0, 115, false, [], am_noM), (.getfield 252, 118, false, [12, 37, 6068], am_noM), am_ce0, am_ce0, (.iaload, 119, false, [], am_noM), (.istore_n 1, 120, false, [], am_noM), (.iload_n 1, 121, false, [], am_noM), (.invokestatic 261, 124, false, [0, 1, 0, 0, 7143, 7144, 1013, 7145], mX12_isLetter), am_ce0, am_ce0, (.ifCond .ne 36, 127, false, [160], am_noM), am_ce0, am_ce0, (.iload_n 1, 128, false, [], am_noM)],
  [(.invokestatic 264, 131, false, [0, 1, 0, 0, 7146, 7147, 1013, 7148], mX12_isDigit), am_ce0, am_ce0, (.ifCond .ne 29, 134, false, [160], am_noM), am_ce0, am_ce0, (.aload_n 0, 135, false, [], am_noM), (.iload_n 1, 136, false, [], am_noM), (.bipush 59, 138, false, [], am_noM), am_ce0, (.if_icmp .ne 7, 141, false, [145], am_noM), am_ce0, am_ce0, (.iconst 4, 142, false, [], am_noM), (.goto 4, 145, false, [146], am_noM), am_ce0],
  [am_ce0, (.iconst 1, 146, false, [], am_noM), (.putfield 258, 149, false, [12, 39, 6070], am_noM), am_ce0, am_ce0, (.aload_n 0, 150, false, [], am_noM), (.dup, 151, false, [], am_noM), (.getfield 252, 154, false, [12, 37, 6068], am_noM), am_ce0, am_ce0, (.iconst 1, 155, false, [], am_noM), (.iadd, 156, false, [], am_noM), (.putfield 252, 159, false, [12, 37, 6068], am_noM), am_ce0, am_ce0, (.return_, 160, false, [], am_noM)],
  [(.iload_n 1, 161, false, [], am_noM), (.invokestatic 261, 164, false, [0, 1, 0, 0, 7143, 7144, 1013, 7145], mX12_isLetter), am_ce0, am_ce0, (.istore_n 2, 165, false, [], am_noM), (.iconst 1, 166, false, [], am_noM), (.istore_n 3, 167, false, [], am_noM), (.aload_n 0, 168, false, [], am_noM), (.lconst 0, 169, false, [0], am_noM), (.putfield 267, 172, false, [12, 43, 6074], am_noM), am_ce0, am_ce0, (.aload_n 0, 173, false, [], am_noM), (.iconst 0, 174, false, [], am_noM), (.putfield 271, 177, false, [12, 40, 6071], am_noM), am_ce0],
  [am_ce0, (.aload_n 0, 178, true, [], am_noM), (.aload_n 0, 179, false, [], am_noM), (.getfield 252, 182, false, [12, 37, 6068], am_noM), am_ce0, am_ce0, (.invokevirtual 274, 185, false, [2, 12, 0, 0, 7149, 7151, 59, 1013, 7152], mX12_byteAt), am_ce0, am_ce0, (.invokestatic 261, 188, false, [0, 1, 0, 0, 7143, 7144, 1013, 7145], mX12_isLetter), am_ce0, am_ce0, (.ifCond .ne 17, 191, false, [205], am_noM), am_ce0, am_ce0, (.aload_n 0, 192, false, [], am_noM)],
  [(.aload_n 0, 193, false, [], am_noM), (.getfield 252, 196, false, [12, 37, 6068], am_noM), am_ce0, am_ce0, (.invokevirtual 274, 199, false, [2, 12, 0, 0, 7149, 7151, 59, 1013, 7152], mX12_byteAt), am_ce0, am_ce0, (.invokestatic 264, 202, false, [0, 1, 0, 0, 7146, 7147, 1013, 7148], mX12_isDigit), am_ce0, am_ce0, (.ifCond .eq 110, 205, false, [312], am_noM), am_ce0, am_ce0, (.aload_n 0, 206, false, [], am_noM), (.getfield 7, 209, false, [12, 1, 6032], am_noM), am_ce0],
  [am_ce0, (.aload_n 0, 210, false, [], am_noM), (.getfield 252, 213, false, [12, 37, 6068], am_noM), am_ce0, am_ce0, (.iaload, 214, false, [], am_noM), (.istore 4, 216, false, [], am_noM), am_ce0, (.iload_n 3, 217, false, [], am_noM), (.ifCond .eq 16, 220, false, [233], am_noM), am_ce0, am_ce0, (.iload 4, 222, false, [], am_noM), am_ce0, (.invokestatic 261, 225, false, [0, 1, 0, 0, 7143, 7144, 1013, 7145], mX12_isLetter), am_ce0],
  [am_ce0, (.iload_n 2, 226, false, [], am_noM), (.if_icmp .ne 7, 229, false, [233], am_noM), am_ce0, am_ce0, (.iconst 1, 230, false, [], am_noM), (.goto 4, 233, false, [234], am_noM), am_ce0, am_ce0, (.iconst 0, 234, false, [], am_noM), (.istore_n 3, 235, false, [], am_noM), (.aload_n 0, 236, false, [], am_noM), (.getfield 252, 239, false, [12, 37, 6068], am_noM), am_ce0, am_ce0, (.aload_n 0, 240, false, [], am_noM)],
  [(.getfield 255, 243, false, [12, 38, 6069], am_noM), am_ce0, am_ce0, (.isub, 244, false, [], am_noM), (.bipush 8, 246, false, [], am_noM), am_ce0, (.if_icmp .ge 23, 249, false, [269], am_noM), am_ce0, am_ce0, (.aload_n 0, 250, false, [], am_noM), (.ldc2_w 278, 253, false, [27, 7153], am_noM), am_ce0, am_ce0, (.aload_n 0, 254, false, [], am_noM), (.getfield 267, 257, false, [12, 43, 6074], am_noM), am_ce0],
  [am_ce0, (.lmul, 258, false, [], am_noM), (.iload 4, 260, false, [], am_noM), am_ce0, (.i2l, 261, false, [], am_noM), (.ladd, 262, false, [], am_noM), (.ldc2_w 280, 265, false, [96, 7154], am_noM), am_ce0, am_ce0, (.lsub, 266, false, [], am_noM), (.putfield 267, 269, false, [12, 43, 6074], am_noM), am_ce0, am_ce0, (.aload_n 0, 270, false, [], am_noM), (.getfield 252, 273, false, [12, 37, 6068], am_noM), am_ce0],
  [am_ce0, (.aload_n 0, 274, false, [], am_noM), (.getfield 255, 277, false, [12, 38, 6069], am_noM), am_ce0, am_ce0, (.isub, 278, false, [], am_noM), (.iconst 4, 279, false, [], am_noM), (.if_icmp .ge 20, 282, false, [299], am_noM), am_ce0, am_ce0, (.aload_n 0, 283, false, [], am_noM), (.bipush 10, 285, false, [], am_noM), am_ce0, (.aload_n 0, 286, false, [], am_noM), (.getfield 271, 289, false, [12, 40, 6071], am_noM), am_ce0],
  [am_ce0, (.imul, 290, false, [], am_noM), (.iload 4, 292, false, [], am_noM), am_ce0, (.iadd, 293, false, [], am_noM), (.bipush 48, 295, false, [], am_noM), am_ce0, (.isub, 296, false, [], am_noM), (.putfield 271, 299, false, [12, 40, 6071], am_noM), am_ce0, am_ce0, (.aload_n 0, 300, false, [], am_noM), (.dup, 301, false, [], am_noM), (.getfield 252, 304, false, [12, 37, 6068], am_noM), am_ce0, am_ce0],
  [(.iconst 1, 305, false, [], am_noM), (.iadd, 306, false, [], am_noM), (.putfield 252, 309, false, [12, 37, 6068], am_noM), am_ce0, am_ce0, (.goto (-132), 312, false, [177], am_noM), am_ce0, am_ce0, (.aload_n 0, 313, false, [], am_noM), (.iload_n 3, 314, false, [], am_noM), (.ifCond .eq 25, 317, false, [339], am_noM), am_ce0, am_ce0, (.aload_n 0, 318, false, [], am_noM), (.getfield 252, 321, false, [12, 37, 6068], am_noM), am_ce0],
  [am_ce0, (.aload_n 0, 322, false, [], am_noM), (.getfield 255, 325, false, [12, 38, 6069], am_noM), am_ce0, am_ce0, (.isub, 326, false, [], am_noM), (.iload_n 2, 327, false, [], am_noM), (.ifCond .eq 8, 330, false, [335], am_noM), am_ce0, am_ce0, (.bipush 8, 332, false, [], am_noM), am_ce0, (.goto 4, 335, false, [336], am_noM), am_ce0, am_ce0, (.iconst 4, 336, false, [], am_noM)],
  [(.if_icmp .le 7, 339, false, [343], am_noM), am_ce0, am_ce0, (.iconst 1, 340, false, [], am_noM), (.goto 12, 343, false, [352], am_noM), am_ce0, am_ce0, (.iload_n 2, 344, false, [], am_noM), (.ifCond .eq 7, 347, false, [351], am_noM), am_ce0, am_ce0, (.iconst 2, 348, false, [], am_noM), (.goto 4, 351, false, [352], am_noM), am_ce0, am_ce0, (.iconst 3, 352, false, [], am_noM)],
  [(.putfield 258, 355, false, [12, 39, 6070], am_noM), am_ce0, am_ce0, (.return_, 356, false, [], am_noM)]]
def kX12_spelt : List (List CE) := [[(.ldc2_w 278, 3, false, [27, 7153], am_noM), am_ce0, am_ce0, (.iload_n 0, 4, false, [], am_noM), (.i2l, 5, false, [], am_noM), (.ldc2_w 280, 8, false, [96, 7154], am_noM), am_ce0, am_ce0, (.lsub, 9, false, [], am_noM), (.lmul, 10, false, [], am_noM), (.iload_n 1, 11, false, [], am_noM), (.i2l, 12, false, [], am_noM), (.ladd, 13, false, [], am_noM), (.ldc2_w 280, 16, false, [96, 7154], am_noM), am_ce0, am_ce0],
  [(.lsub, 17, false, [], am_noM), (.lstore 5, 19, false, [], am_noM), am_ce0, (.iload_n 2, 20, false, [], am_noM), (.ifCond .le 18, 23, false, [38], am_noM), am_ce0, am_ce0, (.ldc2_w 278, 26, false, [27, 7153], am_noM), am_ce0, am_ce0, (.lload 5, 28, false, [], am_noM), am_ce0, (.lmul, 29, false, [], am_noM), (.iload_n 2, 30, false, [], am_noM), (.i2l, 31, false, [], am_noM), (.ladd, 32, false, [], am_noM)],
  [(.ldc2_w 280, 35, false, [96, 7154], am_noM), am_ce0, am_ce0, (.lsub, 36, false, [], am_noM), (.lstore 5, 38, false, [], am_noM), am_ce0, (.iload_n 3, 39, false, [], am_noM), (.ifCond .le 18, 42, false, [57], am_noM), am_ce0, am_ce0, (.ldc2_w 278, 45, false, [27, 7153], am_noM), am_ce0, am_ce0, (.lload 5, 47, false, [], am_noM), am_ce0, (.lmul, 48, false, [], am_noM)],
  [(.iload_n 3, 49, false, [], am_noM), (.i2l, 50, false, [], am_noM), (.ladd, 51, false, [], am_noM), (.ldc2_w 280, 54, false, [96, 7154], am_noM), am_ce0, am_ce0, (.lsub, 55, false, [], am_noM), (.lstore 5, 57, false, [], am_noM), am_ce0, (.iload 4, 59, false, [], am_noM), am_ce0, (.ifCond .le 20, 62, false, [79], am_noM), am_ce0, am_ce0, (.ldc2_w 278, 65, false, [27, 7153], am_noM), am_ce0],
  [am_ce0, (.lload 5, 67, false, [], am_noM), am_ce0, (.lmul, 68, false, [], am_noM), (.iload 4, 70, false, [], am_noM), am_ce0, (.i2l, 71, false, [], am_noM), (.ladd, 72, false, [], am_noM), (.ldc2_w 280, 75, false, [96, 7154], am_noM), am_ce0, am_ce0, (.lsub, 76, false, [], am_noM), (.goto 5, 79, false, [81], am_noM), am_ce0, am_ce0, (.lload 5, 81, false, [], am_noM)],
  [am_ce0, (.lreturn, 82, false, [], am_noM)]]
def kX12_isKey : List (List CE) := [[(.aload_n 0, 1, false, [], am_noM), (.getfield 258, 4, false, [12, 39, 6070], am_noM), am_ce0, am_ce0, (.iconst 2, 5, false, [], am_noM), (.if_icmp .ne 16, 8, false, [21], am_noM), am_ce0, am_ce0, (.aload_n 0, 9, false, [], am_noM), (.getfield 267, 12, false, [12, 43, 6074], am_noM), am_ce0, am_ce0, (.lload_n 1, 13, false, [], am_noM), (.lcmp, 14, false, [], am_noM), (.ifCond .ne 7, 17, false, [21], am_noM), am_ce0],
  [am_ce0, (.iconst 1, 18, false, [], am_noM), (.goto 4, 21, false, [22], am_noM), am_ce0, am_ce0, (.iconst 0, 22, false, [], am_noM), (.ireturn, 23, false, [1], am_noM)]]
def kX12_isAt : List (List CE) := [[(.aload_n 0, 1, false, [], am_noM), (.bipush 97, 3, false, [], am_noM), am_ce0, (.bipush 116, 5, false, [], am_noM), am_ce0, (.iconst 0, 6, false, [], am_noM), (.iconst 0, 7, false, [], am_noM), (.iconst 0, 8, false, [], am_noM), (.invokestatic 282, 11, false, [0, 5, 0, 0, 7163, 7164, 1013, 7165], mX12_spelt), am_ce0, am_ce0, (.invokevirtual 286, 14, false, [2, 12, 0, 0, 7166, 7168, 62, 1013, 7169], mX12_isKey), am_ce0, am_ce0, (.ireturn, 15, false, [1], am_noM)]]
def kX12_isUse : List (List CE) := [[(.aload_n 0, 1, false, [], am_noM), (.bipush 117, 3, false, [], am_noM), am_ce0, (.bipush 115, 5, false, [], am_noM), am_ce0, (.bipush 101, 7, false, [], am_noM), am_ce0, (.iconst 0, 8, false, [], am_noM), (.iconst 0, 9, false, [], am_noM), (.invokestatic 282, 12, false, [0, 5, 0, 0, 7163, 7164, 1013, 7165], mX12_spelt), am_ce0, am_ce0, (.invokevirtual 286, 15, false, [2, 12, 0, 0, 7166, 7168, 62, 1013, 7169], mX12_isKey), am_ce0, am_ce0, (.ireturn, 16, false, [1], am_noM)]]
def kX12_isWith : List (List CE) := [[(.aload_n 0, 1, false, [], am_noM), (.bipush 119, 3, false, [], am_noM), am_ce0, (.bipush 105, 5, false, [], am_noM), am_ce0, (.bipush 116, 7, false, [], am_noM), am_ce0, (.bipush 104, 9, false, [], am_noM), am_ce0, (.iconst 0, 10, false, [], am_noM), (.invokestatic 282, 13, false, [0, 5, 0, 0, 7163, 7164, 1013, 7165], mX12_spelt), am_ce0, am_ce0, (.invokevirtual 286, 16, false, [2, 12, 0, 0, 7166, 7168, 62, 1013, 7169], mX12_isKey), am_ce0, am_ce0],
  [(.ireturn, 17, false, [1], am_noM)]]
def kX12_isEnd : List (List CE) := [[(.aload_n 0, 1, false, [], am_noM), (.bipush 101, 3, false, [], am_noM), am_ce0, (.bipush 110, 5, false, [], am_noM), am_ce0, (.bipush 100, 7, false, [], am_noM), am_ce0, (.iconst 0, 8, false, [], am_noM), (.iconst 0, 9, false, [], am_noM), (.invokestatic 282, 12, false, [0, 5, 0, 0, 7163, 7164, 1013, 7165], mX12_spelt), am_ce0, am_ce0, (.invokevirtual 286, 15, false, [2, 12, 0, 0, 7166, 7168, 62, 1013, 7169], mX12_isKey), am_ce0, am_ce0, (.ireturn, 16, false, [1], am_noM)]]
def kX12_isStorm : List (List CE) := [[(.aload_n 0, 1, false, [], am_noM), (.bipush 115, 3, false, [], am_noM), am_ce0, (.bipush 116, 5, false, [], am_noM), am_ce0, (.bipush 111, 7, false, [], am_noM), am_ce0, (.bipush 114, 9, false, [], am_noM), am_ce0, (.bipush 109, 11, false, [], am_noM), am_ce0, (.invokestatic 282, 14, false, [0, 5, 0, 0, 7163, 7164, 1013, 7165], mX12_spelt), am_ce0, am_ce0, (.invokevirtual 286, 17, false, [2, 12, 0, 0, 7166, 7168, 62, 1013, 7169], mX12_isKey), am_ce0],
  [am_ce0, (.ireturn, 18, false, [1], am_noM)]]
def kX12_isTimes : List (List CE) := [[(.aload_n 0, 1, false, [], am_noM), (.bipush 116, 3, false, [], am_noM), am_ce0, (.bipush 105, 5, false, [], am_noM), am_ce0, (.bipush 109, 7, false, [], am_noM), am_ce0, (.bipush 101, 9, false, [], am_noM), am_ce0, (.bipush 115, 11, false, [], am_noM), am_ce0, (.invokestatic 282, 14, false, [0, 5, 0, 0, 7163, 7164, 1013, 7165], mX12_spelt), am_ce0, am_ce0, (.invokevirtual 286, 17, false, [2, 12, 0, 0, 7166, 7168, 62, 1013, 7169], mX12_isKey), am_ce0],
  [am_ce0, (.ireturn, 18, false, [1], am_noM)]]
def kX12_isEvery : List (List CE) := [[(.aload_n 0, 1, false, [], am_noM), (.bipush 101, 3, false, [], am_noM), am_ce0, (.bipush 118, 5, false, [], am_noM), am_ce0, (.bipush 101, 7, false, [], am_noM), am_ce0, (.bipush 114, 9, false, [], am_noM), am_ce0, (.bipush 121, 11, false, [], am_noM), am_ce0, (.invokestatic 282, 14, false, [0, 5, 0, 0, 7163, 7164, 1013, 7165], mX12_spelt), am_ce0, am_ce0, (.invokevirtual 286, 17, false, [2, 12, 0, 0, 7166, 7168, 62, 1013, 7169], mX12_isKey), am_ce0],
  [am_ce0, (.ireturn, 18, false, [1], am_noM)]]
def kX12_isPlay : List (List CE) := [[(.aload_n 0, 1, false, [], am_noM), (.bipush 112, 3, false, [], am_noM), am_ce0, (.bipush 108, 5, false, [], am_noM), am_ce0, (.bipush 97, 7, false, [], am_noM), am_ce0, (.bipush 121, 9, false, [], am_noM), am_ce0, (.iconst 0, 10, false, [], am_noM), (.invokestatic 282, 13, false, [0, 5, 0, 0, 7163, 7164, 1013, 7165], mX12_spelt), am_ce0, am_ce0, (.invokevirtual 286, 16, false, [2, 12, 0, 0, 7166, 7168, 62, 1013, 7169], mX12_isKey), am_ce0, am_ce0],
  [(.ireturn, 17, false, [1], am_noM)]]
def kX12_isName : List (List CE) := [[(.aload_n 0, 1, false, [], am_noM), (.getfield 258, 4, false, [12, 39, 6070], am_noM), am_ce0, am_ce0, (.iconst 2, 5, false, [], am_noM), (.if_icmp .ne 63, 8, false, [68], am_noM), am_ce0, am_ce0, (.aload_n 0, 9, false, [], am_noM), (.invokevirtual 290, 12, false, [1, 12, 0, 0, 7159, 7161, 61, 1013, 7162], mX12_isAt), am_ce0, am_ce0, (.ifCond .ne 56, 15, false, [68], am_noM), am_ce0, am_ce0, (.aload_n 0, 16, false, [], am_noM)],
  [(.invokevirtual 294, 19, false, [1, 12, 0, 0, 7182, 7184, 66, 1013, 7185], mX12_isUse), am_ce0, am_ce0, (.ifCond .ne 49, 22, false, [68], am_noM), am_ce0, am_ce0, (.aload_n 0, 23, false, [], am_noM), (.invokevirtual 297, 26, false, [1, 12, 0, 0, 7186, 7188, 67, 1013, 7189], mX12_isWith), am_ce0, am_ce0, (.ifCond .ne 42, 29, false, [68], am_noM), am_ce0, am_ce0, (.aload_n 0, 30, false, [], am_noM), (.invokevirtual 300, 33, false, [1, 12, 0, 0, 7210, 7212, 73, 1013, 7213], mX12_isEnd), am_ce0],
  [am_ce0, (.ifCond .ne 35, 36, false, [68], am_noM), am_ce0, am_ce0, (.aload_n 0, 37, false, [], am_noM), (.invokevirtual 303, 40, false, [1, 12, 0, 0, 7214, 7216, 74, 1013, 7217], mX12_isStorm), am_ce0, am_ce0, (.ifCond .ne 28, 43, false, [68], am_noM), am_ce0, am_ce0, (.aload_n 0, 44, false, [], am_noM), (.invokevirtual 306, 47, false, [1, 12, 0, 0, 7218, 7220, 75, 1013, 7221], mX12_isTimes), am_ce0, am_ce0, (.ifCond .ne 21, 50, false, [68], am_noM)],
  [am_ce0, am_ce0, (.aload_n 0, 51, false, [], am_noM), (.invokevirtual 309, 54, false, [1, 12, 0, 0, 7222, 7224, 76, 1013, 7225], mX12_isEvery), am_ce0, am_ce0, (.ifCond .ne 14, 57, false, [68], am_noM), am_ce0, am_ce0, (.aload_n 0, 58, false, [], am_noM), (.invokevirtual 312, 61, false, [1, 12, 0, 0, 7198, 7200, 70, 1013, 7201], mX12_isPlay), am_ce0, am_ce0, (.ifCond .ne 7, 64, false, [68], am_noM), am_ce0, am_ce0],
  [(.iconst 1, 65, false, [], am_noM), (.goto 4, 68, false, [69], am_noM), am_ce0, am_ce0, (.iconst 0, 69, false, [], am_noM), (.ireturn, 70, false, [1], am_noM)]]
def kX12_bad : List (List CE) := [[(.aload_n 0, 1, false, [], am_noM), (.aload_n 0, 2, false, [], am_noM), (.getfield 258, 5, false, [12, 39, 6070], am_noM), am_ce0, am_ce0, (.iconst 1, 6, false, [], am_noM), (.if_icmp .ne 7, 9, false, [13], am_noM), am_ce0, am_ce0, (.iconst 1, 10, false, [], am_noM), (.goto 4, 13, false, [14], am_noM), am_ce0, am_ce0, (.iload_n 1, 14, false, [], am_noM), (.putfield 315, 17, false, [12, 41, 6072], am_noM), am_ce0],
  [am_ce0, (.aload_n 0, 18, false, [], am_noM), (.aload_n 0, 19, false, [], am_noM), (.getfield 255, 22, false, [12, 38, 6069], am_noM), am_ce0, am_ce0, (.putfield 318, 25, false, [12, 42, 6073], am_noM), am_ce0, am_ce0, (.iconst 0, 26, false, [], am_noM), (.ireturn, 27, false, [1], am_noM)]]
def kX12_readNumber : List (List CE) := [[(.aload_n 0, 1, false, [], am_noM), (.getfield 258, 4, false, [12, 39, 6070], am_noM), am_ce0, am_ce0, (.iconst 3, 5, false, [], am_noM), (.if_icmp .eq 9, 8, false, [14], am_noM), am_ce0, am_ce0, (.aload_n 0, 9, false, [], am_noM), (.iconst 1, 10, false, [], am_noM), (.invokevirtual 321, 13, false, [2, 12, 0, 0, 7174, 7176, 64, 1013, 7177], mX12_bad), am_ce0, am_ce0, (.ireturn, 14, false, [1], am_noM), (.aload_n 0, 15, false, [], am_noM), (.getfield 271, 18, false, [12, 40, 6071], am_noM)],
  [am_ce0, am_ce0, (.iload_n 1, 19, false, [], am_noM), (.iload_n 2, 20, false, [], am_noM), (.invokestatic 186, 23, false, [0, 3, 0, 0, 7081, 7082, 1013, 7083], mX12_isIn), am_ce0, am_ce0, (.ifCond .ne 11, 26, false, [34], am_noM), am_ce0, am_ce0, (.aload_n 0, 27, false, [], am_noM), (.iconst 2, 28, false, [], am_noM), (.invokevirtual 321, 31, false, [2, 12, 0, 0, 7174, 7176, 64, 1013, 7177], mX12_bad), am_ce0, am_ce0, (.ifCond .eq 7, 34, false, [38], am_noM)],
  [am_ce0, am_ce0, (.iconst 1, 35, false, [], am_noM), (.goto 4, 38, false, [39], am_noM), am_ce0, am_ce0, (.iconst 0, 39, false, [], am_noM), (.ireturn, 40, false, [1], am_noM)]]
def kX12_readEnd : List (List CE) := [[(.aload_n 0, 1, false, [], am_noM), (.getfield 258, 4, false, [12, 39, 6070], am_noM), am_ce0, am_ce0, (.iconst 4, 5, false, [], am_noM), (.if_icmp .eq 11, 8, false, [16], am_noM), am_ce0, am_ce0, (.aload_n 0, 9, false, [], am_noM), (.iconst 1, 10, false, [], am_noM), (.invokevirtual 321, 13, false, [2, 12, 0, 0, 7174, 7176, 64, 1013, 7177], mX12_bad), am_ce0, am_ce0, (.ifCond .eq 7, 16, false, [20], am_noM), am_ce0, am_ce0],
  [(.iconst 1, 17, false, [], am_noM), (.goto 4, 20, false, [21], am_noM), am_ce0, am_ce0, (.iconst 0, 21, false, [], am_noM), (.ireturn, 22, false, [1], am_noM)]]
def kX12_clear : List (List CE) := [[(.aload_n 0, 1, false, [], am_noM), (.getfield 76, 4, false, [12, 44, 6075], am_noM), am_ce0, am_ce0, (.iload_n 1, 5, false, [], am_noM), (.iconst 0, 6, false, [], am_noM), (.iastore, 7, false, [], am_noM), (.aload_n 0, 8, false, [], am_noM), (.getfield 88, 11, false, [12, 48, 6079], am_noM), am_ce0, am_ce0, (.iload_n 1, 12, false, [], am_noM), (.iconst 0, 13, false, [], am_noM), (.bastore, 14, false, [], am_noM), (.return_, 15, false, [], am_noM)]]
def kX12_put : List (List CE) := [[(.aload_n 0, 1, false, [], am_noM), (.getfield 76, 4, false, [12, 44, 6075], am_noM), am_ce0, am_ce0, (.iload_n 1, 5, false, [], am_noM), (.iaload, 6, false, [], am_noM), (.bipush 24, 8, false, [], am_noM), am_ce0, (.if_icmp .eq 10, 11, false, [18], am_noM), am_ce0, am_ce0, (.iload_n 2, 12, false, [], am_noM), (.sipush 4000, 15, false, [], am_noM), am_ce0, am_ce0, (.if_icmp .le 11, 18, false, [26], am_noM)],
  [am_ce0, am_ce0, (.aload_n 0, 19, false, [], am_noM), (.getfield 88, 22, false, [12, 48, 6079], am_noM), am_ce0, am_ce0, (.iload_n 1, 23, false, [], am_noM), (.iconst 1, 24, false, [], am_noM), (.bastore, 25, false, [], am_noM), (.return_, 26, false, [], am_noM), (.bipush 24, 28, false, [], am_noM), am_ce0, (.iload_n 1, 29, false, [], am_noM), (.imul, 30, false, [], am_noM), (.aload_n 0, 31, false, [], am_noM), (.getfield 76, 34, false, [12, 44, 6075], am_noM)],
  [am_ce0, am_ce0, (.iload_n 1, 35, false, [], am_noM), (.iaload, 36, false, [], am_noM), (.iadd, 37, false, [], am_noM), (.istore 5, 39, false, [], am_noM), am_ce0, (.aload_n 0, 40, false, [], am_noM), (.getfield 79, 43, false, [12, 45, 6076], am_noM), am_ce0, am_ce0, (.iload 5, 45, false, [], am_noM), am_ce0, (.iload_n 2, 46, false, [], am_noM), (.iastore, 47, false, [], am_noM), (.aload_n 0, 48, false, [], am_noM)],
  [(.getfield 82, 51, false, [12, 46, 6077], am_noM), am_ce0, am_ce0, (.iload 5, 53, false, [], am_noM), am_ce0, (.iload_n 3, 54, false, [], am_noM), (.iastore, 55, false, [], am_noM), (.aload_n 0, 56, false, [], am_noM), (.getfield 85, 59, false, [12, 47, 6078], am_noM), am_ce0, am_ce0, (.iload 5, 61, false, [], am_noM), am_ce0, (.iload 4, 63, false, [], am_noM), am_ce0, (.iastore, 64, false, [], am_noM)],
  [(.aload_n 0, 65, false, [], am_noM), (.getfield 76, 68, false, [12, 44, 6075], am_noM), am_ce0, am_ce0, (.iload_n 1, 69, false, [], am_noM), (.dup2, 70, false, [], am_noM), (.iaload, 71, false, [], am_noM), (.iconst 1, 72, false, [], am_noM), (.iadd, 73, false, [], am_noM), (.iastore, 74, false, [], am_noM), (.return_, 75, false, [], am_noM)]]
def kX12_pour : List (List CE) := [[(.aload_n 0, 1, false, [], am_noM), (.getfield 88, 4, false, [12, 48, 6079], am_noM), am_ce0, am_ce0, (.iload_n 1, 5, false, [], am_noM), (.baload, 6, false, [], am_noM), (.ifCond .eq 10, 9, false, [16], am_noM), am_ce0, am_ce0, (.aload_n 0, 10, false, [], am_noM), (.getfield 88, 13, false, [12, 48, 6079], am_noM), am_ce0, am_ce0, (.iload_n 2, 14, false, [], am_noM), (.iconst 1, 15, false, [], am_noM), (.bastore, 16, false, [], am_noM)],
  [(.iconst 0, 17, false, [], am_noM), (.istore 4, 19, false, [], am_noM), am_ce0, (.iload 4, 21, true, [], am_noM), am_ce0, (.aload_n 0, 22, false, [], am_noM), (.getfield 76, 25, false, [12, 44, 6075], am_noM), am_ce0, am_ce0, (.iload_n 1, 26, false, [], am_noM), (.iaload, 27, false, [], am_noM), (.if_icmp .ge 52, 30, false, [79], am_noM), am_ce0, am_ce0, (.aload_n 0, 31, false, [], am_noM), (.iload_n 2, 32, false, [], am_noM)],
  [(.aload_n 0, 33, false, [], am_noM), (.getfield 79, 36, false, [12, 45, 6076], am_noM), am_ce0, am_ce0, (.bipush 24, 38, false, [], am_noM), am_ce0, (.iload_n 1, 39, false, [], am_noM), (.imul, 40, false, [], am_noM), (.iload 4, 42, false, [], am_noM), am_ce0, (.iadd, 43, false, [], am_noM), (.iaload, 44, false, [], am_noM), (.iload_n 3, 45, false, [], am_noM), (.iadd, 46, false, [], am_noM), (.aload_n 0, 47, false, [], am_noM), (.getfield 82, 50, false, [12, 46, 6077], am_noM)],
  [am_ce0, am_ce0, (.bipush 24, 52, false, [], am_noM), am_ce0, (.iload_n 1, 53, false, [], am_noM), (.imul, 54, false, [], am_noM), (.iload 4, 56, false, [], am_noM), am_ce0, (.iadd, 57, false, [], am_noM), (.iaload, 58, false, [], am_noM), (.aload_n 0, 59, false, [], am_noM), (.getfield 85, 62, false, [12, 47, 6078], am_noM), am_ce0, am_ce0, (.bipush 24, 64, false, [], am_noM), am_ce0],
  [(.iload_n 1, 65, false, [], am_noM), (.imul, 66, false, [], am_noM), (.iload 4, 68, false, [], am_noM), am_ce0, (.iadd, 69, false, [], am_noM), (.iaload, 70, false, [], am_noM), (.invokevirtual 324, 73, false, [5, 12, 0, 0, 7194, 7196, 69, 1013, 7197], mX12_put), am_ce0, am_ce0, (.iinc 4 1, 76, false, [], am_noM), am_ce0, am_ce0, (.goto (-57), 79, false, [19], am_noM), am_ce0, am_ce0, (.return_, 80, false, [], am_noM)]]
def kX12_readUse : List (List CE) := [[(.aload_n 0, 1, false, [], am_noM), (.invokevirtual 294, 4, false, [1, 12, 0, 0, 7182, 7184, 66, 1013, 7185], mX12_isUse), am_ce0, am_ce0, (.ifCond .ne 9, 7, false, [13], am_noM), am_ce0, am_ce0, (.aload_n 0, 8, false, [], am_noM), (.iconst 1, 9, false, [], am_noM), (.invokevirtual 321, 12, false, [2, 12, 0, 0, 7174, 7176, 64, 1013, 7177], mX12_bad), am_ce0, am_ce0, (.ireturn, 13, false, [1], am_noM), (.aload_n 0, 14, false, [], am_noM), (.invokevirtual 328, 17, false, [1, 12, 0, 0, 7139, 7141, 58, 1013, 7142], mX12_go), am_ce0],
  [am_ce0, (.aload_n 0, 18, false, [], am_noM), (.iconst 0, 19, false, [], am_noM), (.aload_n 0, 20, false, [], am_noM), (.getfield 243, 23, false, [12, 34, 6065], am_noM), am_ce0, am_ce0, (.iconst 1, 24, false, [], am_noM), (.isub, 25, false, [], am_noM), (.invokevirtual 331, 28, false, [3, 12, 0, 0, 7170, 7172, 63, 1013, 7173], mX12_readNumber), am_ce0, am_ce0, (.ifCond .ne 5, 31, false, [33], am_noM), am_ce0, am_ce0, (.iconst 0, 32, false, [], am_noM)],
  [(.ireturn, 33, false, [1], am_noM), (.aload_n 0, 34, false, [], am_noM), (.getfield 271, 37, false, [12, 40, 6071], am_noM), am_ce0, am_ce0, (.istore_n 2, 38, false, [], am_noM), (.iconst 1, 39, false, [], am_noM), (.istore_n 3, 40, false, [], am_noM), (.aload_n 0, 41, false, [], am_noM), (.invokevirtual 328, 44, false, [1, 12, 0, 0, 7139, 7141, 58, 1013, 7142], mX12_go), am_ce0, am_ce0, (.aload_n 0, 45, false, [], am_noM), (.invokevirtual 297, 48, false, [1, 12, 0, 0, 7186, 7188, 67, 1013, 7189], mX12_isWith), am_ce0, am_ce0],
  [(.ifCond .eq 84, 51, false, [132], am_noM), am_ce0, am_ce0, (.aload_n 0, 52, false, [], am_noM), (.invokevirtual 328, 55, false, [1, 12, 0, 0, 7139, 7141, 58, 1013, 7142], mX12_go), am_ce0, am_ce0, (.aload_n 0, 56, false, [], am_noM), (.getfield 61, 59, false, [12, 29, 6060], am_noM), am_ce0, am_ce0, (.iload_n 2, 60, false, [], am_noM), (.iaload, 61, false, [], am_noM), (.istore 4, 63, false, [], am_noM), am_ce0, (.aload_n 0, 64, false, [], am_noM)],
  [(.iload 4, 66, false, [], am_noM), am_ce0, (.ifCond .eq 9, 69, false, [75], am_noM), am_ce0, am_ce0, (.iload 4, 71, false, [], am_noM), am_ce0, (.iconst 4, 72, false, [], am_noM), (.if_icmp .ne 7, 75, false, [79], am_noM), am_ce0, am_ce0, (.iconst 0, 76, false, [], am_noM), (.goto 4, 79, false, [80], am_noM), am_ce0, am_ce0, (.iconst 1, 80, false, [], am_noM)],
  [(.iload 4, 82, false, [], am_noM), am_ce0, (.ifCond .ne 9, 85, false, [91], am_noM), am_ce0, am_ce0, (.sipush 9999, 88, false, [], am_noM), am_ce0, am_ce0, (.goto 27, 91, false, [115], am_noM), am_ce0, am_ce0, (.iload 4, 93, false, [], am_noM), am_ce0, (.iconst 2, 94, false, [], am_noM), (.if_icmp .ne 9, 97, false, [103], am_noM), am_ce0],
  [am_ce0, (.sipush 500, 100, false, [], am_noM), am_ce0, am_ce0, (.goto 15, 103, false, [115], am_noM), am_ce0, am_ce0, (.iload 4, 105, false, [], am_noM), am_ce0, (.iconst 4, 106, false, [], am_noM), (.if_icmp .ne 7, 109, false, [113], am_noM), am_ce0, am_ce0, (.iconst 1, 110, false, [], am_noM), (.goto 5, 113, false, [115], am_noM), am_ce0],
  [am_ce0, (.bipush 99, 115, false, [], am_noM), am_ce0, (.invokevirtual 331, 118, false, [3, 12, 0, 0, 7170, 7172, 63, 1013, 7173], mX12_readNumber), am_ce0, am_ce0, (.ifCond .ne 5, 121, false, [123], am_noM), am_ce0, am_ce0, (.iconst 0, 122, false, [], am_noM), (.ireturn, 123, false, [1], am_noM), (.aload_n 0, 124, false, [], am_noM), (.getfield 271, 127, false, [12, 40, 6071], am_noM), am_ce0, am_ce0, (.istore_n 3, 128, false, [], am_noM)],
  [(.aload_n 0, 129, false, [], am_noM), (.invokevirtual 328, 132, false, [1, 12, 0, 0, 7139, 7141, 58, 1013, 7142], mX12_go), am_ce0, am_ce0, (.aload_n 0, 133, false, [], am_noM), (.invokevirtual 335, 136, false, [1, 12, 0, 0, 7190, 7192, 68, 1013, 7193], mX12_readEnd), am_ce0, am_ce0, (.ifCond .ne 5, 139, false, [141], am_noM), am_ce0, am_ce0, (.iconst 0, 140, false, [], am_noM), (.ireturn, 141, false, [1], am_noM), (.aload_n 0, 142, false, [], am_noM), (.aload_n 0, 143, false, [], am_noM), (.getfield 338, 146, false, [12, 52, 6083], am_noM)],
  [am_ce0, am_ce0, (.iload_n 1, 147, false, [], am_noM), (.iload_n 2, 148, false, [], am_noM), (.iload_n 3, 149, false, [], am_noM), (.invokevirtual 324, 152, false, [5, 12, 0, 0, 7194, 7196, 69, 1013, 7197], mX12_put), am_ce0, am_ce0, (.iconst 1, 153, false, [], am_noM), (.ireturn, 154, false, [1], am_noM)]]
def kX12_stormOf : List (List CE) := [[(.iconst 0, 1, false, [], am_noM), (.istore_n 3, 2, false, [], am_noM), (.iload_n 3, 3, true, [], am_noM), (.aload_n 0, 4, false, [], am_noM), (.getfield 341, 7, false, [12, 53, 6084], am_noM), am_ce0, am_ce0, (.if_icmp .ge 22, 10, false, [29], am_noM), am_ce0, am_ce0, (.aload_n 0, 11, false, [], am_noM), (.getfield 92, 14, false, [12, 49, 6080], am_noM), am_ce0, am_ce0, (.iload_n 3, 15, false, [], am_noM), (.laload, 16, false, [], am_noM)],
  [(.lload_n 1, 17, false, [], am_noM), (.lcmp, 18, false, [], am_noM), (.ifCond .ne 5, 21, false, [23], am_noM), am_ce0, am_ce0, (.iload_n 3, 22, false, [], am_noM), (.ireturn, 23, false, [0], am_noM), (.iinc 3 1, 26, false, [], am_noM), am_ce0, am_ce0, (.goto (-24), 29, false, [2], am_noM), am_ce0, am_ce0, (.iconst (-1), 30, false, [], am_noM), (.ireturn, 31, false, [0], am_noM)]]
def kX12_readPlay : List (List CE) := [[(.aload_n 0, 1, false, [], am_noM), (.invokevirtual 328, 4, false, [1, 12, 0, 0, 7139, 7141, 58, 1013, 7142], mX12_go), am_ce0, am_ce0, (.aload_n 0, 5, false, [], am_noM), (.invokevirtual 344, 8, false, [1, 12, 0, 0, 7206, 7208, 72, 1013, 7209], mX12_isName), am_ce0, am_ce0, (.ifCond .ne 9, 11, false, [17], am_noM), am_ce0, am_ce0, (.aload_n 0, 12, false, [], am_noM), (.iconst 1, 13, false, [], am_noM), (.invokevirtual 321, 16, false, [2, 12, 0, 0, 7174, 7176, 64, 1013, 7177], mX12_bad), am_ce0, am_ce0],
  [(.ireturn, 17, false, [1], am_noM), (.aload_n 0, 18, false, [], am_noM), (.aload_n 0, 19, false, [], am_noM), (.getfield 267, 22, false, [12, 43, 6074], am_noM), am_ce0, am_ce0, (.invokevirtual 347, 25, false, [2, 12, 0, 0, 7226, 7228, 77, 1013, 7229], mX12_stormOf), am_ce0, am_ce0, (.istore_n 1, 26, false, [], am_noM), (.iload_n 1, 27, false, [], am_noM), (.iconst (-1), 28, false, [], am_noM), (.if_icmp .eq 20, 31, false, [48], am_noM), am_ce0, am_ce0, (.aload_n 0, 32, false, [], am_noM)],
  [(.getfield 351, 35, false, [12, 55, 6086], am_noM), am_ce0, am_ce0, (.ifCond .eq 19, 38, false, [54], am_noM), am_ce0, am_ce0, (.iload_n 1, 39, false, [], am_noM), (.aload_n 0, 40, false, [], am_noM), (.getfield 341, 43, false, [12, 53, 6084], am_noM), am_ce0, am_ce0, (.iconst 1, 44, false, [], am_noM), (.isub, 45, false, [], am_noM), (.if_icmp .ne 9, 48, false, [54], am_noM), am_ce0, am_ce0],
  [(.aload_n 0, 49, false, [], am_noM), (.iconst 3, 50, false, [], am_noM), (.invokevirtual 321, 53, false, [2, 12, 0, 0, 7174, 7176, 64, 1013, 7177], mX12_bad), am_ce0, am_ce0, (.ireturn, 54, false, [1], am_noM), (.aload_n 0, 55, false, [], am_noM), (.invokevirtual 328, 58, false, [1, 12, 0, 0, 7139, 7141, 58, 1013, 7142], mX12_go), am_ce0, am_ce0, (.aload_n 0, 59, false, [], am_noM), (.invokevirtual 290, 62, false, [1, 12, 0, 0, 7159, 7161, 61, 1013, 7162], mX12_isAt), am_ce0, am_ce0, (.ifCond .ne 9, 65, false, [71], am_noM), am_ce0],
  [am_ce0, (.aload_n 0, 66, false, [], am_noM), (.iconst 1, 67, false, [], am_noM), (.invokevirtual 321, 70, false, [2, 12, 0, 0, 7174, 7176, 64, 1013, 7177], mX12_bad), am_ce0, am_ce0, (.ireturn, 71, false, [1], am_noM), (.aload_n 0, 72, false, [], am_noM), (.invokevirtual 328, 75, false, [1, 12, 0, 0, 7139, 7141, 58, 1013, 7142], mX12_go), am_ce0, am_ce0, (.aload_n 0, 76, false, [], am_noM), (.iconst 0, 77, false, [], am_noM), (.sipush 2000, 80, false, [], am_noM), am_ce0, am_ce0],
  [(.invokevirtual 331, 83, false, [3, 12, 0, 0, 7170, 7172, 63, 1013, 7173], mX12_readNumber), am_ce0, am_ce0, (.ifCond .ne 5, 86, false, [88], am_noM), am_ce0, am_ce0, (.iconst 0, 87, false, [], am_noM), (.ireturn, 88, false, [1], am_noM), (.aload_n 0, 89, false, [], am_noM), (.getfield 271, 92, false, [12, 40, 6071], am_noM), am_ce0, am_ce0, (.istore_n 2, 93, false, [], am_noM), (.aload_n 0, 94, false, [], am_noM), (.invokevirtual 328, 97, false, [1, 12, 0, 0, 7139, 7141, 58, 1013, 7142], mX12_go), am_ce0],
  [am_ce0, (.aload_n 0, 98, false, [], am_noM), (.invokevirtual 335, 101, false, [1, 12, 0, 0, 7190, 7192, 68, 1013, 7193], mX12_readEnd), am_ce0, am_ce0, (.ifCond .ne 5, 104, false, [106], am_noM), am_ce0, am_ce0, (.iconst 0, 105, false, [], am_noM), (.ireturn, 106, false, [1], am_noM), (.aload_n 0, 107, false, [], am_noM), (.bipush 6, 109, false, [], am_noM), am_ce0, (.iload_n 1, 110, false, [], am_noM), (.iadd, 111, false, [], am_noM), (.aload_n 0, 112, false, [], am_noM)],
  [(.getfield 338, 115, false, [12, 52, 6083], am_noM), am_ce0, am_ce0, (.iload_n 2, 116, false, [], am_noM), (.invokevirtual 355, 119, false, [4, 12, 0, 0, 7230, 7232, 78, 1013, 7233], mX12_pour), am_ce0, am_ce0, (.iconst 1, 120, false, [], am_noM), (.ireturn, 121, false, [1], am_noM)]]
def kX12_readTimes : List (List CE) := [[(.aload_n 0, 1, false, [], am_noM), (.getfield 359, 4, false, [12, 54, 6085], am_noM), am_ce0, am_ce0, (.iconst 4, 5, false, [], am_noM), (.if_icmp .ne 9, 8, false, [14], am_noM), am_ce0, am_ce0, (.aload_n 0, 9, false, [], am_noM), (.iconst 3, 10, false, [], am_noM), (.invokevirtual 321, 13, false, [2, 12, 0, 0, 7174, 7176, 64, 1013, 7177], mX12_bad), am_ce0, am_ce0, (.ireturn, 14, false, [1], am_noM), (.aload_n 0, 15, false, [], am_noM), (.invokevirtual 328, 18, false, [1, 12, 0, 0, 7139, 7141, 58, 1013, 7142], mX12_go)],
  [am_ce0, am_ce0, (.aload_n 0, 19, false, [], am_noM), (.iconst 1, 20, false, [], am_noM), (.bipush 20, 22, false, [], am_noM), am_ce0, (.invokevirtual 331, 25, false, [3, 12, 0, 0, 7170, 7172, 63, 1013, 7173], mX12_readNumber), am_ce0, am_ce0, (.ifCond .ne 5, 28, false, [30], am_noM), am_ce0, am_ce0, (.iconst 0, 29, false, [], am_noM), (.ireturn, 30, false, [1], am_noM), (.aload_n 0, 31, false, [], am_noM), (.getfield 271, 34, false, [12, 40, 6071], am_noM)],
  [am_ce0, am_ce0, (.istore_n 1, 35, false, [], am_noM), (.aload_n 0, 36, false, [], am_noM), (.invokevirtual 328, 39, false, [1, 12, 0, 0, 7139, 7141, 58, 1013, 7142], mX12_go), am_ce0, am_ce0, (.aload_n 0, 40, false, [], am_noM), (.invokevirtual 309, 43, false, [1, 12, 0, 0, 7222, 7224, 76, 1013, 7225], mX12_isEvery), am_ce0, am_ce0, (.ifCond .ne 9, 46, false, [52], am_noM), am_ce0, am_ce0, (.aload_n 0, 47, false, [], am_noM), (.iconst 1, 48, false, [], am_noM)],
  [(.invokevirtual 321, 51, false, [2, 12, 0, 0, 7174, 7176, 64, 1013, 7177], mX12_bad), am_ce0, am_ce0, (.ireturn, 52, false, [1], am_noM), (.aload_n 0, 53, false, [], am_noM), (.invokevirtual 328, 56, false, [1, 12, 0, 0, 7139, 7141, 58, 1013, 7142], mX12_go), am_ce0, am_ce0, (.aload_n 0, 57, false, [], am_noM), (.iconst 1, 58, false, [], am_noM), (.sipush 2000, 61, false, [], am_noM), am_ce0, am_ce0, (.invokevirtual 331, 64, false, [3, 12, 0, 0, 7170, 7172, 63, 1013, 7173], mX12_readNumber), am_ce0, am_ce0],
  [(.ifCond .ne 5, 67, false, [69], am_noM), am_ce0, am_ce0, (.iconst 0, 68, false, [], am_noM), (.ireturn, 69, false, [1], am_noM), (.aload_n 0, 70, false, [], am_noM), (.dup, 71, false, [], am_noM), (.getfield 338, 74, false, [12, 52, 6083], am_noM), am_ce0, am_ce0, (.iconst 1, 75, false, [], am_noM), (.iadd, 76, false, [], am_noM), (.putfield 338, 79, false, [12, 52, 6083], am_noM), am_ce0, am_ce0, (.aload_n 0, 80, false, [], am_noM)],
  [(.dup, 81, false, [], am_noM), (.getfield 359, 84, false, [12, 54, 6085], am_noM), am_ce0, am_ce0, (.iconst 1, 85, false, [], am_noM), (.iadd, 86, false, [], am_noM), (.putfield 359, 89, false, [12, 54, 6085], am_noM), am_ce0, am_ce0, (.aload_n 0, 90, false, [], am_noM), (.aload_n 0, 91, false, [], am_noM), (.getfield 338, 94, false, [12, 52, 6083], am_noM), am_ce0, am_ce0, (.invokevirtual 362, 97, false, [2, 12, 0, 0, 7135, 7137, 57, 1013, 7138], mX12_clear), am_ce0],
  [am_ce0, (.aload_n 0, 98, false, [], am_noM), (.getfield 96, 101, false, [12, 50, 6081], am_noM), am_ce0, am_ce0, (.aload_n 0, 102, false, [], am_noM), (.getfield 338, 105, false, [12, 52, 6083], am_noM), am_ce0, am_ce0, (.iload_n 1, 106, false, [], am_noM), (.iastore, 107, false, [], am_noM), (.aload_n 0, 108, false, [], am_noM), (.getfield 99, 111, false, [12, 51, 6082], am_noM), am_ce0, am_ce0, (.aload_n 0, 112, false, [], am_noM)],
  [(.getfield 338, 115, false, [12, 52, 6083], am_noM), am_ce0, am_ce0, (.aload_n 0, 116, false, [], am_noM), (.getfield 271, 119, false, [12, 40, 6071], am_noM), am_ce0, am_ce0, (.iastore, 120, false, [], am_noM), (.iconst 1, 121, false, [], am_noM), (.ireturn, 122, false, [1], am_noM)]]
def kX12_endTimes : List (List CE) := [[(.aload_n 0, 1, false, [], am_noM), (.getfield 338, 4, false, [12, 52, 6083], am_noM), am_ce0, am_ce0, (.istore_n 1, 5, false, [], am_noM), (.aload_n 0, 6, false, [], am_noM), (.dup, 7, false, [], am_noM), (.getfield 338, 10, false, [12, 52, 6083], am_noM), am_ce0, am_ce0, (.iconst 1, 11, false, [], am_noM), (.isub, 12, false, [], am_noM), (.putfield 338, 15, false, [12, 52, 6083], am_noM), am_ce0, am_ce0, (.aload_n 0, 16, false, [], am_noM)],
  [(.dup, 17, false, [], am_noM), (.getfield 359, 20, false, [12, 54, 6085], am_noM), am_ce0, am_ce0, (.iconst 1, 21, false, [], am_noM), (.isub, 22, false, [], am_noM), (.putfield 359, 25, false, [12, 54, 6085], am_noM), am_ce0, am_ce0, (.iconst 0, 26, false, [], am_noM), (.istore_n 2, 27, false, [], am_noM), (.iload_n 2, 28, true, [], am_noM), (.aload_n 0, 29, false, [], am_noM), (.getfield 96, 32, false, [12, 50, 6081], am_noM), am_ce0, am_ce0],
  [(.iload_n 1, 33, false, [], am_noM), (.iaload, 34, false, [], am_noM), (.if_icmp .ge 38, 37, false, [72], am_noM), am_ce0, am_ce0, (.aload_n 0, 38, false, [], am_noM), (.getfield 88, 41, false, [12, 48, 6079], am_noM), am_ce0, am_ce0, (.aload_n 0, 42, false, [], am_noM), (.getfield 338, 45, false, [12, 52, 6083], am_noM), am_ce0, am_ce0, (.baload, 46, false, [], am_noM), (.ifCond .ne 26, 49, false, [72], am_noM), am_ce0],
  [am_ce0, (.aload_n 0, 50, false, [], am_noM), (.iload_n 1, 51, false, [], am_noM), (.aload_n 0, 52, false, [], am_noM), (.getfield 338, 55, false, [12, 52, 6083], am_noM), am_ce0, am_ce0, (.iload_n 2, 56, false, [], am_noM), (.aload_n 0, 57, false, [], am_noM), (.getfield 99, 60, false, [12, 51, 6082], am_noM), am_ce0, am_ce0, (.iload_n 1, 61, false, [], am_noM), (.iaload, 62, false, [], am_noM), (.imul, 63, false, [], am_noM), (.invokevirtual 355, 66, false, [4, 12, 0, 0, 7230, 7232, 78, 1013, 7233], mX12_pour)],
  [am_ce0, am_ce0, (.iinc 2 1, 69, false, [], am_noM), am_ce0, am_ce0, (.goto (-42), 72, false, [27], am_noM), am_ce0, am_ce0, (.return_, 73, false, [], am_noM)]]
def kX12_readStorm : List (List CE) := [[(.aload_n 0, 1, false, [], am_noM), (.getfield 341, 4, false, [12, 53, 6084], am_noM), am_ce0, am_ce0, (.bipush 8, 6, false, [], am_noM), am_ce0, (.if_icmp .ne 9, 9, false, [15], am_noM), am_ce0, am_ce0, (.aload_n 0, 10, false, [], am_noM), (.iconst 3, 11, false, [], am_noM), (.invokevirtual 321, 14, false, [2, 12, 0, 0, 7174, 7176, 64, 1013, 7177], mX12_bad), am_ce0, am_ce0, (.ireturn, 15, false, [1], am_noM), (.aload_n 0, 16, false, [], am_noM)],
  [(.invokevirtual 328, 19, false, [1, 12, 0, 0, 7139, 7141, 58, 1013, 7142], mX12_go), am_ce0, am_ce0, (.aload_n 0, 20, false, [], am_noM), (.invokevirtual 344, 23, false, [1, 12, 0, 0, 7206, 7208, 72, 1013, 7209], mX12_isName), am_ce0, am_ce0, (.ifCond .ne 9, 26, false, [32], am_noM), am_ce0, am_ce0, (.aload_n 0, 27, false, [], am_noM), (.iconst 1, 28, false, [], am_noM), (.invokevirtual 321, 31, false, [2, 12, 0, 0, 7174, 7176, 64, 1013, 7177], mX12_bad), am_ce0, am_ce0, (.ireturn, 32, false, [1], am_noM)],
  [(.aload_n 0, 33, false, [], am_noM), (.aload_n 0, 34, false, [], am_noM), (.getfield 267, 37, false, [12, 43, 6074], am_noM), am_ce0, am_ce0, (.invokevirtual 347, 40, false, [2, 12, 0, 0, 7226, 7228, 77, 1013, 7229], mX12_stormOf), am_ce0, am_ce0, (.iconst (-1), 41, false, [], am_noM), (.if_icmp .eq 9, 44, false, [50], am_noM), am_ce0, am_ce0, (.aload_n 0, 45, false, [], am_noM), (.iconst 3, 46, false, [], am_noM), (.invokevirtual 321, 49, false, [2, 12, 0, 0, 7174, 7176, 64, 1013, 7177], mX12_bad), am_ce0],
  [am_ce0, (.ireturn, 50, false, [1], am_noM), (.aload_n 0, 51, false, [], am_noM), (.getfield 92, 54, false, [12, 49, 6080], am_noM), am_ce0, am_ce0, (.aload_n 0, 55, false, [], am_noM), (.getfield 341, 58, false, [12, 53, 6084], am_noM), am_ce0, am_ce0, (.aload_n 0, 59, false, [], am_noM), (.getfield 267, 62, false, [12, 43, 6074], am_noM), am_ce0, am_ce0, (.lastore, 63, false, [], am_noM), (.aload_n 0, 64, false, [], am_noM)],
  [(.dup, 65, false, [], am_noM), (.getfield 341, 68, false, [12, 53, 6084], am_noM), am_ce0, am_ce0, (.iconst 1, 69, false, [], am_noM), (.iadd, 70, false, [], am_noM), (.putfield 341, 73, false, [12, 53, 6084], am_noM), am_ce0, am_ce0, (.aload_n 0, 74, false, [], am_noM), (.iconst 1, 75, false, [], am_noM), (.putfield 351, 78, false, [12, 55, 6086], am_noM), am_ce0, am_ce0, (.aload_n 0, 79, false, [], am_noM), (.iconst 1, 80, false, [], am_noM)],
  [(.putfield 338, 83, false, [12, 52, 6083], am_noM), am_ce0, am_ce0, (.aload_n 0, 84, false, [], am_noM), (.iconst 1, 85, false, [], am_noM), (.invokevirtual 362, 88, false, [2, 12, 0, 0, 7135, 7137, 57, 1013, 7138], mX12_clear), am_ce0, am_ce0, (.iconst 1, 89, false, [], am_noM), (.ireturn, 90, false, [1], am_noM)]]
def kX12_readPiece : List (List CE) := [[(.aload_n 0, 1, false, [], am_noM), (.invokevirtual 290, 4, false, [1, 12, 0, 0, 7159, 7161, 61, 1013, 7162], mX12_isAt), am_ce0, am_ce0, (.ifCond .eq 35, 7, false, [39], am_noM), am_ce0, am_ce0, (.aload_n 0, 8, false, [], am_noM), (.invokevirtual 328, 11, false, [1, 12, 0, 0, 7139, 7141, 58, 1013, 7142], mX12_go), am_ce0, am_ce0, (.aload_n 0, 12, false, [], am_noM), (.iconst 0, 13, false, [], am_noM), (.sipush 2000, 16, false, [], am_noM), am_ce0, am_ce0],
  [(.invokevirtual 331, 19, false, [3, 12, 0, 0, 7170, 7172, 63, 1013, 7173], mX12_readNumber), am_ce0, am_ce0, (.ifCond .ne 5, 22, false, [24], am_noM), am_ce0, am_ce0, (.iconst 0, 23, false, [], am_noM), (.ireturn, 24, false, [1], am_noM), (.aload_n 0, 25, false, [], am_noM), (.getfield 271, 28, false, [12, 40, 6071], am_noM), am_ce0, am_ce0, (.istore_n 1, 29, false, [], am_noM), (.aload_n 0, 30, false, [], am_noM), (.invokevirtual 328, 33, false, [1, 12, 0, 0, 7139, 7141, 58, 1013, 7142], mX12_go), am_ce0],
  [am_ce0, (.aload_n 0, 34, false, [], am_noM), (.iload_n 1, 35, false, [], am_noM), (.invokevirtual 365, 38, false, [2, 12, 0, 0, 7178, 7180, 65, 1013, 7181], mX12_readUse), am_ce0, am_ce0, (.ireturn, 39, false, [1], am_noM), (.aload_n 0, 40, false, [], am_noM), (.invokevirtual 312, 43, false, [1, 12, 0, 0, 7198, 7200, 70, 1013, 7201], mX12_isPlay), am_ce0, am_ce0, (.ifCond .eq 8, 46, false, [51], am_noM), am_ce0, am_ce0, (.aload_n 0, 47, false, [], am_noM), (.invokevirtual 368, 50, false, [1, 12, 0, 0, 7202, 7204, 71, 1013, 7205], mX12_readPlay)],
  [am_ce0, am_ce0, (.ireturn, 51, false, [1], am_noM), (.aload_n 0, 52, false, [], am_noM), (.invokevirtual 306, 55, false, [1, 12, 0, 0, 7218, 7220, 75, 1013, 7221], mX12_isTimes), am_ce0, am_ce0, (.ifCond .eq 8, 58, false, [63], am_noM), am_ce0, am_ce0, (.aload_n 0, 59, false, [], am_noM), (.invokevirtual 371, 62, false, [1, 12, 0, 0, 7234, 7236, 79, 1013, 7237], mX12_readTimes), am_ce0, am_ce0, (.ireturn, 63, false, [1], am_noM), (.aload_n 0, 64, false, [], am_noM)],
  [(.invokevirtual 300, 67, false, [1, 12, 0, 0, 7210, 7212, 73, 1013, 7213], mX12_isEnd), am_ce0, am_ce0, (.ifCond .eq 16, 70, false, [83], am_noM), am_ce0, am_ce0, (.aload_n 0, 71, false, [], am_noM), (.getfield 359, 74, false, [12, 54, 6085], am_noM), am_ce0, am_ce0, (.ifCond .le 9, 77, false, [83], am_noM), am_ce0, am_ce0, (.aload_n 0, 78, false, [], am_noM), (.invokevirtual 374, 81, false, [1, 12, 0, 0, 7238, 8000, 80, 1013, 8001], mX12_endTimes), am_ce0],
  [am_ce0, (.iconst 1, 82, false, [], am_noM), (.ireturn, 83, false, [1], am_noM), (.aload_n 0, 84, false, [], am_noM), (.invokevirtual 300, 87, false, [1, 12, 0, 0, 7210, 7212, 73, 1013, 7213], mX12_isEnd), am_ce0, am_ce0, (.ifCond .eq 41, 90, false, [128], am_noM), am_ce0, am_ce0, (.aload_n 0, 91, false, [], am_noM), (.getfield 351, 94, false, [12, 55, 6086], am_noM), am_ce0, am_ce0, (.ifCond .eq 34, 97, false, [128], am_noM), am_ce0],
  [am_ce0, (.iconst 5, 98, false, [], am_noM), (.aload_n 0, 99, false, [], am_noM), (.getfield 341, 102, false, [12, 53, 6084], am_noM), am_ce0, am_ce0, (.iadd, 103, false, [], am_noM), (.istore_n 1, 104, false, [], am_noM), (.aload_n 0, 105, false, [], am_noM), (.iload_n 1, 106, false, [], am_noM), (.invokevirtual 362, 109, false, [2, 12, 0, 0, 7135, 7137, 57, 1013, 7138], mX12_clear), am_ce0, am_ce0, (.aload_n 0, 110, false, [], am_noM), (.iconst 1, 111, false, [], am_noM), (.iload_n 1, 112, false, [], am_noM)],
  [(.iconst 0, 113, false, [], am_noM), (.invokevirtual 355, 116, false, [4, 12, 0, 0, 7230, 7232, 78, 1013, 7233], mX12_pour), am_ce0, am_ce0, (.aload_n 0, 117, false, [], am_noM), (.iconst 0, 118, false, [], am_noM), (.putfield 351, 121, false, [12, 55, 6086], am_noM), am_ce0, am_ce0, (.aload_n 0, 122, false, [], am_noM), (.iconst 0, 123, false, [], am_noM), (.putfield 338, 126, false, [12, 52, 6083], am_noM), am_ce0, am_ce0, (.iconst 1, 127, false, [], am_noM), (.ireturn, 128, false, [1], am_noM)],
  [(.aload_n 0, 129, false, [], am_noM), (.invokevirtual 303, 132, false, [1, 12, 0, 0, 7214, 7216, 74, 1013, 7217], mX12_isStorm), am_ce0, am_ce0, (.ifCond .eq 22, 135, false, [154], am_noM), am_ce0, am_ce0, (.aload_n 0, 136, false, [], am_noM), (.getfield 351, 139, false, [12, 55, 6086], am_noM), am_ce0, am_ce0, (.ifCond .ne 15, 142, false, [154], am_noM), am_ce0, am_ce0, (.aload_n 0, 143, false, [], am_noM), (.getfield 359, 146, false, [12, 54, 6085], am_noM)],
  [am_ce0, am_ce0, (.ifCond .ne 8, 149, false, [154], am_noM), am_ce0, am_ce0, (.aload_n 0, 150, false, [], am_noM), (.invokevirtual 377, 153, false, [1, 12, 0, 0, 8002, 8004, 81, 1013, 8005], mX12_readStorm), am_ce0, am_ce0, (.ireturn, 154, false, [1], am_noM), (.aload_n 0, 155, false, [], am_noM), (.iconst 1, 156, false, [], am_noM), (.invokevirtual 321, 159, false, [2, 12, 0, 0, 7174, 7176, 64, 1013, 7177], mX12_bad), am_ce0, am_ce0, (.ireturn, 160, false, [1], am_noM)]]
def kX12_score : List (List CE) := [[(.aload_n 0, 1, false, [], am_noM), (.iconst 0, 2, false, [], am_noM), (.putfield 172, 5, false, [12, 0, 6031], am_noM), am_ce0, am_ce0, (.aload_n 0, 6, false, [], am_noM), (.aload_n 0, 7, false, [], am_noM), (.getfield 176, 10, false, [12, 2, 6033], am_noM), am_ce0, am_ce0, (.putfield 249, 13, false, [12, 36, 6067], am_noM), am_ce0, am_ce0, (.aload_n 0, 14, false, [], am_noM), (.iconst 0, 15, false, [], am_noM), (.putfield 176, 18, false, [12, 2, 6033], am_noM)],
  [am_ce0, am_ce0, (.aload_n 0, 19, false, [], am_noM), (.iconst 0, 20, false, [], am_noM), (.putfield 315, 23, false, [12, 41, 6072], am_noM), am_ce0, am_ce0, (.aload_n 0, 24, false, [], am_noM), (.iconst 0, 25, false, [], am_noM), (.putfield 338, 28, false, [12, 52, 6083], am_noM), am_ce0, am_ce0, (.aload_n 0, 29, false, [], am_noM), (.iconst 0, 30, false, [], am_noM), (.putfield 341, 33, false, [12, 53, 6084], am_noM), am_ce0],
  [am_ce0, (.aload_n 0, 34, false, [], am_noM), (.iconst 0, 35, false, [], am_noM), (.putfield 359, 38, false, [12, 54, 6085], am_noM), am_ce0, am_ce0, (.aload_n 0, 39, false, [], am_noM), (.iconst 0, 40, false, [], am_noM), (.putfield 351, 43, false, [12, 55, 6086], am_noM), am_ce0, am_ce0, (.aload_n 0, 44, false, [], am_noM), (.iconst 0, 45, false, [], am_noM), (.invokevirtual 362, 48, false, [2, 12, 0, 0, 7135, 7137, 57, 1013, 7138], mX12_clear), am_ce0, am_ce0],
  [(.aload_n 0, 49, false, [], am_noM), (.iconst 0, 50, false, [], am_noM), (.putfield 252, 53, false, [12, 37, 6068], am_noM), am_ce0, am_ce0, (.aload_n 0, 54, false, [], am_noM), (.invokevirtual 328, 57, false, [1, 12, 0, 0, 7139, 7141, 58, 1013, 7142], mX12_go), am_ce0, am_ce0, (.aload_n 0, 58, true, [], am_noM), (.getfield 258, 61, false, [12, 39, 6070], am_noM), am_ce0, am_ce0, (.ifCond .eq 24, 64, false, [85], am_noM), am_ce0, am_ce0],
  [(.aload_n 0, 65, false, [], am_noM), (.invokevirtual 380, 68, false, [1, 12, 0, 0, 7155, 7157, 60, 1013, 7158], mX12_readPiece), am_ce0, am_ce0, (.ifCond .ne 10, 71, false, [78], am_noM), am_ce0, am_ce0, (.iconst (-1), 72, false, [], am_noM), (.aload_n 0, 73, false, [], am_noM), (.getfield 318, 76, false, [12, 42, 6073], am_noM), am_ce0, am_ce0, (.isub, 77, false, [], am_noM), (.ireturn, 78, false, [0], am_noM), (.aload_n 0, 79, false, [], am_noM), (.invokevirtual 328, 82, false, [1, 12, 0, 0, 7139, 7141, 58, 1013, 7142], mX12_go)],
  [am_ce0, am_ce0, (.goto (-25), 85, false, [57], am_noM), am_ce0, am_ce0, (.aload_n 0, 86, false, [], am_noM), (.getfield 351, 89, false, [12, 55, 6086], am_noM), am_ce0, am_ce0, (.ifCond .ne 10, 92, false, [99], am_noM), am_ce0, am_ce0, (.aload_n 0, 93, false, [], am_noM), (.getfield 359, 96, false, [12, 54, 6085], am_noM), am_ce0, am_ce0],
  [(.ifCond .le 16, 99, false, [112], am_noM), am_ce0, am_ce0, (.aload_n 0, 100, false, [], am_noM), (.iconst 1, 101, false, [], am_noM), (.invokevirtual 321, 104, false, [2, 12, 0, 0, 7174, 7176, 64, 1013, 7177], mX12_bad), am_ce0, am_ce0, (.pop, 105, false, [], am_noM), (.iconst (-1), 106, false, [], am_noM), (.aload_n 0, 107, false, [], am_noM), (.getfield 318, 110, false, [12, 42, 6073], am_noM), am_ce0, am_ce0, (.isub, 111, false, [], am_noM), (.ireturn, 112, false, [0], am_noM)],
  [(.aload_n 0, 113, false, [], am_noM), (.getfield 88, 116, false, [12, 48, 6079], am_noM), am_ce0, am_ce0, (.iconst 0, 117, false, [], am_noM), (.baload, 118, false, [], am_noM), (.ifCond .eq 15, 121, false, [133], am_noM), am_ce0, am_ce0, (.aload_n 0, 122, false, [], am_noM), (.iconst 4, 123, false, [], am_noM), (.putfield 315, 126, false, [12, 41, 6072], am_noM), am_ce0, am_ce0, (.iconst (-1), 127, false, [], am_noM), (.aload_n 0, 128, false, [], am_noM)],
  [(.getfield 249, 131, false, [12, 36, 6067], am_noM), am_ce0, am_ce0, (.isub, 132, false, [], am_noM), (.ireturn, 133, false, [0], am_noM), (.aload_n 0, 134, false, [], am_noM), (.aload_n 0, 135, false, [], am_noM), (.getfield 76, 138, false, [12, 44, 6075], am_noM), am_ce0, am_ce0, (.iconst 0, 139, false, [], am_noM), (.iaload, 140, false, [], am_noM), (.putfield 383, 143, false, [12, 60, 6091], am_noM), am_ce0, am_ce0, (.aload_n 0, 144, false, [], am_noM)],
  [(.iconst 0, 145, false, [], am_noM), (.putfield 386, 148, false, [12, 61, 6092], am_noM), am_ce0, am_ce0, (.iconst 0, 149, false, [], am_noM), (.istore_n 1, 150, false, [], am_noM), (.iload_n 1, 151, true, [], am_noM), (.aload_n 0, 152, false, [], am_noM), (.getfield 383, 155, false, [12, 60, 6091], am_noM), am_ce0, am_ce0, (.if_icmp .ge 101, 158, false, [256], am_noM), am_ce0, am_ce0, (.iconst 0, 159, false, [], am_noM), (.istore_n 2, 160, false, [], am_noM)],
  [(.iconst 0, 161, false, [], am_noM), (.istore_n 3, 162, false, [], am_noM), (.iload_n 3, 163, true, [], am_noM), (.aload_n 0, 164, false, [], am_noM), (.getfield 383, 167, false, [12, 60, 6091], am_noM), am_ce0, am_ce0, (.if_icmp .ge 47, 170, false, [214], am_noM), am_ce0, am_ce0, (.aload_n 0, 171, false, [], am_noM), (.getfield 79, 174, false, [12, 45, 6076], am_noM), am_ce0, am_ce0, (.iload_n 3, 175, false, [], am_noM), (.iaload, 176, false, [], am_noM)],
  [(.aload_n 0, 177, false, [], am_noM), (.getfield 79, 180, false, [12, 45, 6076], am_noM), am_ce0, am_ce0, (.iload_n 1, 181, false, [], am_noM), (.iaload, 182, false, [], am_noM), (.if_icmp .lt 23, 185, false, [205], am_noM), am_ce0, am_ce0, (.iload_n 3, 186, false, [], am_noM), (.iload_n 1, 187, false, [], am_noM), (.if_icmp .ge 21, 190, false, [208], am_noM), am_ce0, am_ce0, (.aload_n 0, 191, false, [], am_noM), (.getfield 79, 194, false, [12, 45, 6076], am_noM)],
  [am_ce0, am_ce0, (.iload_n 3, 195, false, [], am_noM), (.iaload, 196, false, [], am_noM), (.aload_n 0, 197, false, [], am_noM), (.getfield 79, 200, false, [12, 45, 6076], am_noM), am_ce0, am_ce0, (.iload_n 1, 201, false, [], am_noM), (.iaload, 202, false, [], am_noM), (.if_icmp .ne 6, 205, false, [208], am_noM), am_ce0, am_ce0, (.iinc 2 1, 208, false, [], am_noM), am_ce0, am_ce0],
  [(.iinc 3 1, 211, false, [], am_noM), am_ce0, am_ce0, (.goto (-49), 214, false, [162], am_noM), am_ce0, am_ce0, (.aload_n 0, 215, false, [], am_noM), (.getfield 102, 218, false, [12, 56, 6087], am_noM), am_ce0, am_ce0, (.iload_n 2, 219, false, [], am_noM), (.aload_n 0, 220, false, [], am_noM), (.getfield 79, 223, false, [12, 45, 6076], am_noM), am_ce0, am_ce0, (.iload_n 1, 224, false, [], am_noM)],
  [(.iaload, 225, false, [], am_noM), (.iastore, 226, false, [], am_noM), (.aload_n 0, 227, false, [], am_noM), (.getfield 105, 230, false, [12, 57, 6088], am_noM), am_ce0, am_ce0, (.iload_n 2, 231, false, [], am_noM), (.aload_n 0, 232, false, [], am_noM), (.getfield 82, 235, false, [12, 46, 6077], am_noM), am_ce0, am_ce0, (.iload_n 1, 236, false, [], am_noM), (.iaload, 237, false, [], am_noM), (.iastore, 238, false, [], am_noM), (.aload_n 0, 239, false, [], am_noM), (.getfield 108, 242, false, [12, 58, 6089], am_noM)],
  [am_ce0, am_ce0, (.iload_n 2, 243, false, [], am_noM), (.aload_n 0, 244, false, [], am_noM), (.getfield 85, 247, false, [12, 47, 6078], am_noM), am_ce0, am_ce0, (.iload_n 1, 248, false, [], am_noM), (.iaload, 249, false, [], am_noM), (.iastore, 250, false, [], am_noM), (.iinc 1 1, 253, false, [], am_noM), am_ce0, am_ce0, (.goto (-103), 256, false, [150], am_noM), am_ce0, am_ce0],
  [(.aload_n 0, 257, false, [], am_noM), (.getfield 383, 260, false, [12, 60, 6091], am_noM), am_ce0, am_ce0, (.ireturn, 261, false, [0], am_noM)]]
def kX12_fault : List (List CE) := [[(.aload_n 0, 1, false, [], am_noM), (.iconst 0, 2, false, [], am_noM), (.putfield 172, 5, false, [12, 0, 6031], am_noM), am_ce0, am_ce0, (.aload_n 0, 6, false, [], am_noM), (.getfield 315, 9, false, [12, 41, 6072], am_noM), am_ce0, am_ce0, (.ireturn, 10, false, [0], am_noM)]]
def kX12_takes : List (List CE) := [[(.aload_n 0, 1, false, [], am_noM), (.getfield 61, 4, false, [12, 29, 6060], am_noM), am_ce0, am_ce0, (.aload_n 0, 5, false, [], am_noM), (.getfield 105, 8, false, [12, 57, 6088], am_noM), am_ce0, am_ce0, (.iload_n 1, 9, false, [], am_noM), (.iaload, 10, false, [], am_noM), (.iaload, 11, false, [], am_noM), (.istore_n 2, 12, false, [], am_noM), (.iload_n 2, 13, false, [], am_noM), (.iconst 1, 14, false, [], am_noM), (.if_icmp .ne 14, 17, false, [28], am_noM), am_ce0],
  [am_ce0, (.iconst 4, 18, false, [], am_noM), (.aload_n 0, 19, false, [], am_noM), (.getfield 108, 22, false, [12, 58, 6089], am_noM), am_ce0, am_ce0, (.iload_n 1, 23, false, [], am_noM), (.iaload, 24, false, [], am_noM), (.imul, 25, false, [], am_noM), (.goto 18, 28, false, [43], am_noM), am_ce0, am_ce0, (.iload_n 2, 29, false, [], am_noM), (.iconst 2, 30, false, [], am_noM), (.if_icmp .ne 12, 33, false, [42], am_noM), am_ce0],
  [am_ce0, (.aload_n 0, 34, false, [], am_noM), (.getfield 108, 37, false, [12, 58, 6089], am_noM), am_ce0, am_ce0, (.iload_n 1, 38, false, [], am_noM), (.iaload, 39, false, [], am_noM), (.goto 4, 42, false, [43], am_noM), am_ce0, am_ce0, (.iconst 1, 43, false, [], am_noM), (.ireturn, 44, false, [0], am_noM)]]
def kX12_worth : List (List CE) := [[(.aload_n 0, 1, false, [], am_noM), (.getfield 61, 4, false, [12, 29, 6060], am_noM), am_ce0, am_ce0, (.aload_n 0, 5, false, [], am_noM), (.getfield 105, 8, false, [12, 57, 6088], am_noM), am_ce0, am_ce0, (.iload_n 1, 9, false, [], am_noM), (.iaload, 10, false, [], am_noM), (.iaload, 11, false, [], am_noM), (.istore_n 2, 12, false, [], am_noM), (.iload_n 2, 13, false, [], am_noM), (.ifCond .eq 8, 16, false, [21], am_noM), am_ce0, am_ce0],
  [(.iload_n 2, 17, false, [], am_noM), (.iconst 4, 18, false, [], am_noM), (.if_icmp .ne 7, 21, false, [25], am_noM), am_ce0, am_ce0, (.iconst 1, 22, false, [], am_noM), (.goto 9, 25, false, [31], am_noM), am_ce0, am_ce0, (.aload_n 0, 26, false, [], am_noM), (.getfield 108, 29, false, [12, 58, 6089], am_noM), am_ce0, am_ce0, (.iload_n 1, 30, false, [], am_noM), (.iaload, 31, false, [], am_noM), (.ireturn, 32, false, [0], am_noM)]]
def kX12_event : List (List CE) := [[(.iload_n 1, 1, false, [], am_noM), (.ifCond .lt 20, 4, false, [21], am_noM), am_ce0, am_ce0, (.iload_n 1, 5, false, [], am_noM), (.aload_n 0, 6, false, [], am_noM), (.getfield 383, 9, false, [12, 60, 6091], am_noM), am_ce0, am_ce0, (.if_icmp .ge 12, 12, false, [21], am_noM), am_ce0, am_ce0, (.iload_n 2, 13, false, [], am_noM), (.ifCond .lt 8, 16, false, [21], am_noM), am_ce0, am_ce0],
  [(.iload_n 2, 17, false, [], am_noM), (.iconst 4, 18, false, [], am_noM), (.if_icmp .le 8, 21, false, [26], am_noM), am_ce0, am_ce0, (.aload_n 0, 22, false, [], am_noM), (.invokevirtual 239, 25, false, [1, 12, 0, 0, 7119, 7121, 56, 1013, 7122], mX12_refuse), am_ce0, am_ce0, (.ireturn, 26, false, [0], am_noM), (.aload_n 0, 27, false, [], am_noM), (.iconst 0, 28, false, [], am_noM), (.putfield 172, 31, false, [12, 0, 6031], am_noM), am_ce0, am_ce0, (.iload_n 2, 32, false, [], am_noM)],
  [(.tableswitch 59 0 3 #[32, 39, 46, 53], 64, false, [91, 0, 64, 1, 71, 2, 78, 3, 85], am_noM), am_ce0, am_ce0, am_ce0, am_ce0, am_ce0, am_ce0, am_ce0, am_ce0, am_ce0, am_ce0, am_ce0, am_ce0, am_ce0, am_ce0, am_ce0],
  [am_ce0, am_ce0, am_ce0, am_ce0, am_ce0, am_ce0, am_ce0, am_ce0, am_ce0, am_ce0, am_ce0, am_ce0, am_ce0, am_ce0, am_ce0, am_ce0],
  [(.aload_n 0, 65, false, [], am_noM), (.getfield 102, 68, false, [12, 56, 6087], am_noM), am_ce0, am_ce0, (.iload_n 1, 69, false, [], am_noM), (.iaload, 70, false, [], am_noM), (.ireturn, 71, false, [0], am_noM), (.aload_n 0, 72, false, [], am_noM), (.getfield 105, 75, false, [12, 57, 6088], am_noM), am_ce0, am_ce0, (.iload_n 1, 76, false, [], am_noM), (.iaload, 77, false, [], am_noM), (.ireturn, 78, false, [0], am_noM), (.aload_n 0, 79, false, [], am_noM), (.getfield 108, 82, false, [12, 58, 6089], am_noM)],
  [am_ce0, am_ce0, (.iload_n 1, 83, false, [], am_noM), (.iaload, 84, false, [], am_noM), (.ireturn, 85, false, [0], am_noM), (.aload_n 0, 86, false, [], am_noM), (.iload_n 1, 87, false, [], am_noM), (.invokevirtual 389, 90, false, [2, 12, 0, 0, 8014, 8016, 82, 1013, 8017], mX12_takes), am_ce0, am_ce0, (.ireturn, 91, false, [0], am_noM), (.aload_n 0, 92, false, [], am_noM), (.iload_n 1, 93, false, [], am_noM), (.invokevirtual 392, 96, false, [2, 12, 0, 0, 8018, 8020, 83, 1013, 8021], mX12_worth), am_ce0, am_ce0],
  [(.ireturn, 97, false, [0], am_noM)]]
def kX12_hear : List (List CE) := [[(.aload_n 0, 1, false, [], am_noM), (.getfield 395, 4, false, [12, 72, 6103], am_noM), am_ce0, am_ce0, (.sipush 300, 7, false, [], am_noM), am_ce0, am_ce0, (.if_icmp .ge 43, 10, false, [50], am_noM), am_ce0, am_ce0, (.aload_n 0, 11, false, [], am_noM), (.getfield 114, 14, false, [12, 62, 6093], am_noM), am_ce0, am_ce0, (.aload_n 0, 15, false, [], am_noM), (.getfield 395, 18, false, [12, 72, 6103], am_noM)],
  [am_ce0, am_ce0, (.iload_n 1, 19, false, [], am_noM), (.iastore, 20, false, [], am_noM), (.aload_n 0, 21, false, [], am_noM), (.getfield 117, 24, false, [12, 63, 6094], am_noM), am_ce0, am_ce0, (.aload_n 0, 25, false, [], am_noM), (.getfield 395, 28, false, [12, 72, 6103], am_noM), am_ce0, am_ce0, (.iload_n 2, 29, false, [], am_noM), (.iastore, 30, false, [], am_noM), (.aload_n 0, 31, false, [], am_noM), (.getfield 120, 34, false, [12, 64, 6095], am_noM)],
  [am_ce0, am_ce0, (.aload_n 0, 35, false, [], am_noM), (.getfield 395, 38, false, [12, 72, 6103], am_noM), am_ce0, am_ce0, (.iload_n 3, 39, false, [], am_noM), (.iastore, 40, false, [], am_noM), (.aload_n 0, 41, false, [], am_noM), (.dup, 42, false, [], am_noM), (.getfield 395, 45, false, [12, 72, 6103], am_noM), am_ce0, am_ce0, (.iconst 1, 46, false, [], am_noM), (.iadd, 47, false, [], am_noM), (.putfield 395, 50, false, [12, 72, 6103], am_noM)],
  [am_ce0, am_ce0, (.aload_n 0, 51, false, [], am_noM), (.dup, 52, false, [], am_noM), (.getfield 398, 55, false, [12, 76, 6107], am_noM), am_ce0, am_ce0, (.iconst 1, 56, false, [], am_noM), (.iadd, 57, false, [], am_noM), (.putfield 398, 60, false, [12, 76, 6107], am_noM), am_ce0, am_ce0, (.aload_n 0, 61, false, [], am_noM), (.dup, 62, false, [], am_noM), (.getfield 401, 65, false, [12, 77, 6108], am_noM), am_ce0],
  [am_ce0, (.iload_n 3, 66, false, [], am_noM), (.iadd, 67, false, [], am_noM), (.putfield 401, 70, false, [12, 77, 6108], am_noM), am_ce0, am_ce0, (.return_, 71, false, [], am_noM)]]
def kX12_rollAll : List (List CE) := [[(.iconst 0, 1, false, [], am_noM), (.istore_n 2, 2, false, [], am_noM), (.iload_n 2, 3, true, [], am_noM), (.aload_n 0, 4, false, [], am_noM), (.getfield 404, 7, false, [12, 73, 6104], am_noM), am_ce0, am_ce0, (.if_icmp .ge 184, 10, false, [191], am_noM), am_ce0, am_ce0, (.aload_n 0, 11, false, [], am_noM), (.getfield 135, 14, false, [12, 69, 6100], am_noM), am_ce0, am_ce0, (.iload_n 2, 15, false, [], am_noM), (.aload_n 0, 16, false, [], am_noM)],
  [(.getfield 126, 19, false, [12, 66, 6097], am_noM), am_ce0, am_ce0, (.iload_n 2, 20, false, [], am_noM), (.iaload, 21, false, [], am_noM), (.iastore, 22, false, [], am_noM), (.aload_n 0, 23, false, [], am_noM), (.getfield 138, 26, false, [12, 70, 6101], am_noM), am_ce0, am_ce0, (.iload_n 2, 27, false, [], am_noM), (.aload_n 0, 28, false, [], am_noM), (.getfield 129, 31, false, [12, 67, 6098], am_noM), am_ce0, am_ce0, (.iload_n 2, 32, false, [], am_noM)],
  [(.iaload, 33, false, [], am_noM), (.iastore, 34, false, [], am_noM), (.aload_n 0, 35, false, [], am_noM), (.getfield 126, 38, false, [12, 66, 6097], am_noM), am_ce0, am_ce0, (.iload_n 2, 39, false, [], am_noM), (.iaload, 40, false, [], am_noM), (.sipush 255, 43, false, [], am_noM), am_ce0, am_ce0, (.if_icmp .ne 6, 46, false, [49], am_noM), am_ce0, am_ce0, (.goto 139, 49, false, [185], am_noM), am_ce0],
  [am_ce0, (.aload_n 0, 50, false, [], am_noM), (.aload_n 0, 51, false, [], am_noM), (.getfield 126, 54, false, [12, 66, 6097], am_noM), am_ce0, am_ce0, (.iload_n 2, 55, false, [], am_noM), (.iaload, 56, false, [], am_noM), (.putfield 194, 59, false, [12, 14, 6045], am_noM), am_ce0, am_ce0, (.aload_n 0, 60, false, [], am_noM), (.aload_n 0, 61, false, [], am_noM), (.getfield 129, 64, false, [12, 67, 6098], am_noM), am_ce0, am_ce0],
  [(.iload_n 2, 65, false, [], am_noM), (.iaload, 66, false, [], am_noM), (.putfield 203, 69, false, [12, 15, 6046], am_noM), am_ce0, am_ce0, (.aload_n 0, 70, false, [], am_noM), (.aload_n 0, 71, false, [], am_noM), (.getfield 132, 74, false, [12, 68, 6099], am_noM), am_ce0, am_ce0, (.iload_n 2, 75, false, [], am_noM), (.iaload, 76, false, [], am_noM), (.putfield 200, 79, false, [12, 16, 6047], am_noM), am_ce0, am_ce0, (.aload_n 0, 80, false, [], am_noM)],
  [(.aload_n 0, 81, false, [], am_noM), (.getfield 123, 84, false, [12, 65, 6096], am_noM), am_ce0, am_ce0, (.iload_n 2, 85, false, [], am_noM), (.iaload, 86, false, [], am_noM), (.aload_n 0, 87, false, [], am_noM), (.getfield 141, 90, false, [12, 71, 6102], am_noM), am_ce0, am_ce0, (.aload_n 0, 91, false, [], am_noM), (.getfield 123, 94, false, [12, 65, 6096], am_noM), am_ce0, am_ce0, (.iload_n 2, 95, false, [], am_noM), (.iaload, 96, false, [], am_noM)],
  [(.iaload, 97, false, [], am_noM), (.invokevirtual 226, 100, false, [3, 12, 0, 0, 7103, 7105, 53, 1013, 7106], mX12_step), am_ce0, am_ce0, (.aload_n 0, 101, false, [], am_noM), (.getfield 126, 104, false, [12, 66, 6097], am_noM), am_ce0, am_ce0, (.iload_n 2, 105, false, [], am_noM), (.aload_n 0, 106, false, [], am_noM), (.getfield 194, 109, false, [12, 14, 6045], am_noM), am_ce0, am_ce0, (.iastore, 110, false, [], am_noM), (.aload_n 0, 111, false, [], am_noM), (.getfield 129, 114, false, [12, 67, 6098], am_noM)],
  [am_ce0, am_ce0, (.iload_n 2, 115, false, [], am_noM), (.aload_n 0, 116, false, [], am_noM), (.getfield 203, 119, false, [12, 15, 6046], am_noM), am_ce0, am_ce0, (.iastore, 120, false, [], am_noM), (.aload_n 0, 121, false, [], am_noM), (.getfield 132, 124, false, [12, 68, 6099], am_noM), am_ce0, am_ce0, (.iload_n 2, 125, false, [], am_noM), (.aload_n 0, 126, false, [], am_noM), (.getfield 200, 129, false, [12, 16, 6047], am_noM), am_ce0],
  [am_ce0, (.iastore, 130, false, [], am_noM), (.aload_n 0, 131, false, [], am_noM), (.getfield 197, 134, false, [12, 17, 6048], am_noM), am_ce0, am_ce0, (.ifCond .le 31, 137, false, [165], am_noM), am_ce0, am_ce0, (.aload_n 0, 138, false, [], am_noM), (.iload_n 1, 139, false, [], am_noM), (.bipush 100, 141, false, [], am_noM), am_ce0, (.aload_n 0, 142, false, [], am_noM), (.getfield 123, 145, false, [12, 65, 6096], am_noM), am_ce0],
  [am_ce0, (.iload_n 2, 146, false, [], am_noM), (.iaload, 147, false, [], am_noM), (.imul, 148, false, [], am_noM), (.aload_n 0, 149, false, [], am_noM), (.getfield 135, 152, false, [12, 69, 6100], am_noM), am_ce0, am_ce0, (.iload_n 2, 153, false, [], am_noM), (.iaload, 154, false, [], am_noM), (.iadd, 155, false, [], am_noM), (.bipush 100, 157, false, [], am_noM), am_ce0, (.iadd, 158, false, [], am_noM), (.aload_n 0, 159, false, [], am_noM), (.getfield 197, 162, false, [12, 17, 6048], am_noM)],
  [am_ce0, am_ce0, (.invokevirtual 407, 165, false, [4, 12, 0, 0, 8030, 8032, 85, 1013, 8033], mX12_hear), am_ce0, am_ce0, (.aload_n 0, 166, false, [], am_noM), (.getfield 194, 169, false, [12, 14, 6045], am_noM), am_ce0, am_ce0, (.sipush 255, 172, false, [], am_noM), am_ce0, am_ce0, (.if_icmp .ne 13, 175, false, [185], am_noM), am_ce0, am_ce0, (.aload_n 0, 176, false, [], am_noM)],
  [(.dup, 177, false, [], am_noM), (.getfield 410, 180, false, [12, 74, 6105], am_noM), am_ce0, am_ce0, (.iconst 1, 181, false, [], am_noM), (.iadd, 182, false, [], am_noM), (.putfield 410, 185, false, [12, 74, 6105], am_noM), am_ce0, am_ce0, (.iinc 2 1, 188, false, [], am_noM), am_ce0, am_ce0, (.goto (-186), 191, false, [2], am_noM), am_ce0, am_ce0, (.iconst 0, 192, false, [], am_noM)],
  [(.istore_n 2, 193, false, [], am_noM), (.iload_n 2, 194, true, [], am_noM), (.aload_n 0, 195, false, [], am_noM), (.getfield 404, 198, false, [12, 73, 6104], am_noM), am_ce0, am_ce0, (.if_icmp .ge 246, 201, false, [444], am_noM), am_ce0, am_ce0, (.iload_n 2, 202, false, [], am_noM), (.iconst 1, 203, false, [], am_noM), (.iadd, 204, false, [], am_noM), (.istore_n 3, 205, false, [], am_noM), (.iload_n 3, 206, true, [], am_noM), (.aload_n 0, 207, false, [], am_noM), (.getfield 404, 210, false, [12, 73, 6104], am_noM)],
  [am_ce0, am_ce0, (.if_icmp .ge 228, 213, false, [438], am_noM), am_ce0, am_ce0, (.aload_n 0, 214, false, [], am_noM), (.getfield 123, 217, false, [12, 65, 6096], am_noM), am_ce0, am_ce0, (.iload_n 2, 218, false, [], am_noM), (.iaload, 219, false, [], am_noM), (.aload_n 0, 220, false, [], am_noM), (.getfield 123, 223, false, [12, 65, 6096], am_noM), am_ce0, am_ce0, (.iload_n 3, 224, false, [], am_noM)],
  [(.iaload, 225, false, [], am_noM), (.if_icmp .ne 207, 228, false, [432], am_noM), am_ce0, am_ce0, (.aload_n 0, 229, false, [], am_noM), (.getfield 135, 232, false, [12, 69, 6100], am_noM), am_ce0, am_ce0, (.iload_n 2, 233, false, [], am_noM), (.iaload, 234, false, [], am_noM), (.sipush 255, 237, false, [], am_noM), am_ce0, am_ce0, (.if_icmp .eq 195, 240, false, [432], am_noM), am_ce0, am_ce0],
  [(.aload_n 0, 241, false, [], am_noM), (.getfield 135, 244, false, [12, 69, 6100], am_noM), am_ce0, am_ce0, (.iload_n 2, 245, false, [], am_noM), (.iaload, 246, false, [], am_noM), (.aload_n 0, 247, false, [], am_noM), (.getfield 135, 250, false, [12, 69, 6100], am_noM), am_ce0, am_ce0, (.iload_n 3, 251, false, [], am_noM), (.iaload, 252, false, [], am_noM), (.if_icmp .ne 180, 255, false, [432], am_noM), am_ce0, am_ce0, (.aload_n 0, 256, false, [], am_noM)],
  [(.getfield 126, 259, false, [12, 66, 6097], am_noM), am_ce0, am_ce0, (.iload_n 2, 260, false, [], am_noM), (.iaload, 261, false, [], am_noM), (.aload_n 0, 262, false, [], am_noM), (.getfield 135, 265, false, [12, 69, 6100], am_noM), am_ce0, am_ce0, (.iload_n 2, 266, false, [], am_noM), (.iaload, 267, false, [], am_noM), (.if_icmp .ne 165, 270, false, [432], am_noM), am_ce0, am_ce0, (.aload_n 0, 271, false, [], am_noM), (.getfield 126, 274, false, [12, 66, 6097], am_noM)],
  [am_ce0, am_ce0, (.iload_n 3, 275, false, [], am_noM), (.iaload, 276, false, [], am_noM), (.aload_n 0, 277, false, [], am_noM), (.getfield 135, 280, false, [12, 69, 6100], am_noM), am_ce0, am_ce0, (.iload_n 2, 281, false, [], am_noM), (.iaload, 282, false, [], am_noM), (.if_icmp .eq 6, 285, false, [288], am_noM), am_ce0, am_ce0, (.goto 147, 288, false, [432], am_noM), am_ce0, am_ce0],
  [(.aload_n 0, 289, false, [], am_noM), (.getfield 138, 292, false, [12, 70, 6101], am_noM), am_ce0, am_ce0, (.iload_n 2, 293, false, [], am_noM), (.iaload, 294, false, [], am_noM), (.aload_n 0, 295, false, [], am_noM), (.getfield 138, 298, false, [12, 70, 6101], am_noM), am_ce0, am_ce0, (.iload_n 3, 299, false, [], am_noM), (.iaload, 300, false, [], am_noM), (.if_icmp .ge 18, 303, false, [318], am_noM), am_ce0, am_ce0, (.aload_n 0, 304, false, [], am_noM)],
  [(.getfield 129, 307, false, [12, 67, 6098], am_noM), am_ce0, am_ce0, (.iload_n 2, 308, false, [], am_noM), (.iaload, 309, false, [], am_noM), (.aload_n 0, 310, false, [], am_noM), (.getfield 129, 313, false, [12, 67, 6098], am_noM), am_ce0, am_ce0, (.iload_n 3, 314, false, [], am_noM), (.iaload, 315, false, [], am_noM), (.if_icmp .gt 36, 318, false, [351], am_noM), am_ce0, am_ce0, (.aload_n 0, 319, false, [], am_noM), (.getfield 138, 322, false, [12, 70, 6101], am_noM)],
  [am_ce0, am_ce0, (.iload_n 2, 323, false, [], am_noM), (.iaload, 324, false, [], am_noM), (.aload_n 0, 325, false, [], am_noM), (.getfield 138, 328, false, [12, 70, 6101], am_noM), am_ce0, am_ce0, (.iload_n 3, 329, false, [], am_noM), (.iaload, 330, false, [], am_noM), (.if_icmp .le 102, 333, false, [432], am_noM), am_ce0, am_ce0, (.aload_n 0, 334, false, [], am_noM), (.getfield 129, 337, false, [12, 67, 6098], am_noM), am_ce0],
  [am_ce0, (.iload_n 2, 338, false, [], am_noM), (.iaload, 339, false, [], am_noM), (.aload_n 0, 340, false, [], am_noM), (.getfield 129, 343, false, [12, 67, 6098], am_noM), am_ce0, am_ce0, (.iload_n 3, 344, false, [], am_noM), (.iaload, 345, false, [], am_noM), (.if_icmp .lt 6, 348, false, [351], am_noM), am_ce0, am_ce0, (.goto 84, 351, false, [432], am_noM), am_ce0, am_ce0, (.aload_n 0, 352, false, [], am_noM)],
  [(.dup, 353, false, [], am_noM), (.getfield 413, 356, false, [12, 75, 6106], am_noM), am_ce0, am_ce0, (.iconst 1, 357, false, [], am_noM), (.iadd, 358, false, [], am_noM), (.putfield 413, 361, false, [12, 75, 6106], am_noM), am_ce0, am_ce0, (.aload_n 0, 362, false, [], am_noM), (.getfield 132, 365, false, [12, 68, 6099], am_noM), am_ce0, am_ce0, (.iload_n 2, 366, false, [], am_noM), (.iaload, 367, false, [], am_noM), (.aload_n 0, 368, false, [], am_noM)],
  [(.getfield 132, 371, false, [12, 68, 6099], am_noM), am_ce0, am_ce0, (.iload_n 3, 372, false, [], am_noM), (.iaload, 373, false, [], am_noM), (.if_icmp .le 19, 376, false, [392], am_noM), am_ce0, am_ce0, (.aload_n 0, 377, false, [], am_noM), (.getfield 132, 380, false, [12, 68, 6099], am_noM), am_ce0, am_ce0, (.iload_n 2, 381, false, [], am_noM), (.iaload, 382, false, [], am_noM), (.aload_n 0, 383, false, [], am_noM), (.getfield 132, 386, false, [12, 68, 6099], am_noM)],
  [am_ce0, am_ce0, (.iload_n 3, 387, false, [], am_noM), (.iaload, 388, false, [], am_noM), (.isub, 389, false, [], am_noM), (.goto 16, 392, false, [405], am_noM), am_ce0, am_ce0, (.aload_n 0, 393, false, [], am_noM), (.getfield 132, 396, false, [12, 68, 6099], am_noM), am_ce0, am_ce0, (.iload_n 3, 397, false, [], am_noM), (.iaload, 398, false, [], am_noM), (.aload_n 0, 399, false, [], am_noM), (.getfield 132, 402, false, [12, 68, 6099], am_noM)],
  [am_ce0, am_ce0, (.iload_n 2, 403, false, [], am_noM), (.iaload, 404, false, [], am_noM), (.isub, 405, false, [], am_noM), (.bipush 16, 407, false, [], am_noM), am_ce0, (.idiv, 408, false, [], am_noM), (.istore 4, 410, false, [], am_noM), am_ce0, (.iload 4, 412, false, [], am_noM), am_ce0, (.ifCond .le 20, 415, false, [432], am_noM), am_ce0, am_ce0, (.aload_n 0, 416, false, [], am_noM)],
  [(.iload_n 1, 417, false, [], am_noM), (.sipush 900, 420, false, [], am_noM), am_ce0, am_ce0, (.aload_n 0, 421, false, [], am_noM), (.getfield 123, 424, false, [12, 65, 6096], am_noM), am_ce0, am_ce0, (.iload_n 2, 425, false, [], am_noM), (.iaload, 426, false, [], am_noM), (.iadd, 427, false, [], am_noM), (.iload 4, 429, false, [], am_noM), am_ce0, (.invokevirtual 407, 432, false, [4, 12, 0, 0, 8030, 8032, 85, 1013, 8033], mX12_hear), am_ce0, am_ce0],
  [(.iinc 3 1, 435, false, [], am_noM), am_ce0, am_ce0, (.goto (-230), 438, false, [205], am_noM), am_ce0, am_ce0, (.iinc 2 1, 441, false, [], am_noM), am_ce0, am_ce0, (.goto (-248), 444, false, [193], am_noM), am_ce0, am_ce0, (.return_, 445, false, [], am_noM)]]
def kX12_use : List (List CE) := [[(.aload_n 0, 1, false, [], am_noM), (.getfield 105, 4, false, [12, 57, 6088], am_noM), am_ce0, am_ce0, (.iload_n 1, 5, false, [], am_noM), (.iaload, 6, false, [], am_noM), (.istore_n 2, 7, false, [], am_noM), (.aload_n 0, 8, false, [], am_noM), (.aload_n 0, 9, false, [], am_noM), (.getfield 102, 12, false, [12, 56, 6087], am_noM), am_ce0, am_ce0, (.iload_n 1, 13, false, [], am_noM), (.iaload, 14, false, [], am_noM), (.iload_n 2, 15, false, [], am_noM), (.aload_n 0, 16, false, [], am_noM)],
  [(.iload_n 1, 17, false, [], am_noM), (.invokevirtual 392, 20, false, [2, 12, 0, 0, 8018, 8020, 83, 1013, 8021], mX12_worth), am_ce0, am_ce0, (.invokevirtual 407, 23, false, [4, 12, 0, 0, 8030, 8032, 85, 1013, 8033], mX12_hear), am_ce0, am_ce0, (.aload_n 0, 24, false, [], am_noM), (.getfield 61, 27, false, [12, 29, 6060], am_noM), am_ce0, am_ce0, (.iload_n 2, 28, false, [], am_noM), (.iaload, 29, false, [], am_noM), (.ifCond .ne 58, 32, false, [87], am_noM), am_ce0, am_ce0],
  [(.aload_n 0, 33, false, [], am_noM), (.getfield 123, 36, false, [12, 65, 6096], am_noM), am_ce0, am_ce0, (.aload_n 0, 37, false, [], am_noM), (.getfield 404, 40, false, [12, 73, 6104], am_noM), am_ce0, am_ce0, (.aload_n 0, 41, false, [], am_noM), (.getfield 67, 44, false, [12, 31, 6062], am_noM), am_ce0, am_ce0, (.iload_n 2, 45, false, [], am_noM), (.iaload, 46, false, [], am_noM), (.iastore, 47, false, [], am_noM), (.aload_n 0, 48, false, [], am_noM)],
  [(.getfield 126, 51, false, [12, 66, 6097], am_noM), am_ce0, am_ce0, (.aload_n 0, 52, false, [], am_noM), (.getfield 404, 55, false, [12, 73, 6104], am_noM), am_ce0, am_ce0, (.iconst 0, 56, false, [], am_noM), (.iastore, 57, false, [], am_noM), (.aload_n 0, 58, false, [], am_noM), (.getfield 129, 61, false, [12, 67, 6098], am_noM), am_ce0, am_ce0, (.aload_n 0, 62, false, [], am_noM), (.getfield 404, 65, false, [12, 73, 6104], am_noM), am_ce0],
  [am_ce0, (.iconst 0, 66, false, [], am_noM), (.iastore, 67, false, [], am_noM), (.aload_n 0, 68, false, [], am_noM), (.getfield 132, 71, false, [12, 68, 6099], am_noM), am_ce0, am_ce0, (.aload_n 0, 72, false, [], am_noM), (.getfield 404, 75, false, [12, 73, 6104], am_noM), am_ce0, am_ce0, (.iconst 0, 76, false, [], am_noM), (.iastore, 77, false, [], am_noM), (.aload_n 0, 78, false, [], am_noM), (.dup, 79, false, [], am_noM), (.getfield 404, 82, false, [12, 73, 6104], am_noM)],
  [am_ce0, am_ce0, (.iconst 1, 83, false, [], am_noM), (.iadd, 84, false, [], am_noM), (.putfield 404, 87, false, [12, 73, 6104], am_noM), am_ce0, am_ce0, (.aload_n 0, 88, false, [], am_noM), (.getfield 61, 91, false, [12, 29, 6060], am_noM), am_ce0, am_ce0, (.iload_n 2, 92, false, [], am_noM), (.iaload, 93, false, [], am_noM), (.iconst 4, 94, false, [], am_noM), (.if_icmp .ne 50, 97, false, [144], am_noM), am_ce0],
  [am_ce0, (.aload_n 0, 98, false, [], am_noM), (.getfield 141, 101, false, [12, 71, 6102], am_noM), am_ce0, am_ce0, (.aload_n 0, 102, false, [], am_noM), (.getfield 67, 105, false, [12, 31, 6062], am_noM), am_ce0, am_ce0, (.iload_n 2, 106, false, [], am_noM), (.iaload, 107, false, [], am_noM), (.aload_n 0, 108, false, [], am_noM), (.getfield 141, 111, false, [12, 71, 6102], am_noM), am_ce0, am_ce0, (.aload_n 0, 112, false, [], am_noM)],
  [(.getfield 67, 115, false, [12, 31, 6062], am_noM), am_ce0, am_ce0, (.iload_n 2, 116, false, [], am_noM), (.iaload, 117, false, [], am_noM), (.iaload, 118, false, [], am_noM), (.iconst 1, 119, false, [], am_noM), (.aload_n 0, 120, false, [], am_noM), (.getfield 70, 123, false, [12, 32, 6063], am_noM), am_ce0, am_ce0, (.iload_n 2, 124, false, [], am_noM), (.iaload, 125, false, [], am_noM), (.ishl, 126, false, [], am_noM), (.iconst (-1), 127, false, [], am_noM), (.ixor, 128, false, [], am_noM)],
  [(.iand, 129, false, [], am_noM), (.aload_n 0, 130, false, [], am_noM), (.getfield 108, 133, false, [12, 58, 6089], am_noM), am_ce0, am_ce0, (.iload_n 1, 134, false, [], am_noM), (.iaload, 135, false, [], am_noM), (.aload_n 0, 136, false, [], am_noM), (.getfield 70, 139, false, [12, 32, 6063], am_noM), am_ce0, am_ce0, (.iload_n 2, 140, false, [], am_noM), (.iaload, 141, false, [], am_noM), (.ishl, 142, false, [], am_noM), (.ior, 143, false, [], am_noM), (.iastore, 144, false, [], am_noM)],
  [(.return_, 145, false, [], am_noM)]]
def kX12_night : List (List CE) := [[(.aload_n 0, 1, false, [], am_noM), (.iconst 0, 2, false, [], am_noM), (.putfield 172, 5, false, [12, 0, 6031], am_noM), am_ce0, am_ce0, (.aload_n 0, 6, false, [], am_noM), (.iconst 0, 7, false, [], am_noM), (.putfield 395, 10, false, [12, 72, 6103], am_noM), am_ce0, am_ce0, (.aload_n 0, 11, false, [], am_noM), (.iconst 0, 12, false, [], am_noM), (.putfield 404, 15, false, [12, 73, 6104], am_noM), am_ce0, am_ce0, (.aload_n 0, 16, false, [], am_noM)],
  [(.iconst 0, 17, false, [], am_noM), (.putfield 410, 20, false, [12, 74, 6105], am_noM), am_ce0, am_ce0, (.aload_n 0, 21, false, [], am_noM), (.iconst 0, 22, false, [], am_noM), (.putfield 413, 25, false, [12, 75, 6106], am_noM), am_ce0, am_ce0, (.aload_n 0, 26, false, [], am_noM), (.iconst 0, 27, false, [], am_noM), (.putfield 398, 30, false, [12, 76, 6107], am_noM), am_ce0, am_ce0, (.aload_n 0, 31, false, [], am_noM), (.iconst 0, 32, false, [], am_noM)],
  [(.putfield 401, 35, false, [12, 77, 6108], am_noM), am_ce0, am_ce0, (.iconst 0, 36, false, [], am_noM), (.istore_n 1, 37, false, [], am_noM), (.iload_n 1, 38, true, [], am_noM), (.iconst 4, 39, false, [], am_noM), (.if_icmp .ge 16, 42, false, [55], am_noM), am_ce0, am_ce0, (.aload_n 0, 43, false, [], am_noM), (.getfield 141, 46, false, [12, 71, 6102], am_noM), am_ce0, am_ce0, (.iload_n 1, 47, false, [], am_noM), (.iconst 0, 48, false, [], am_noM)],
  [(.iastore, 49, false, [], am_noM), (.iinc 1 1, 52, false, [], am_noM), am_ce0, am_ce0, (.goto (-15), 55, false, [37], am_noM), am_ce0, am_ce0, (.iconst 0, 56, false, [], am_noM), (.istore_n 1, 57, false, [], am_noM), (.iconst 0, 58, false, [], am_noM), (.istore_n 2, 59, false, [], am_noM), (.iload_n 2, 60, true, [], am_noM), (.sipush 4400, 63, false, [], am_noM), am_ce0, am_ce0, (.if_icmp .gt 43, 66, false, [106], am_noM)],
  [am_ce0, am_ce0, (.aload_n 0, 67, false, [], am_noM), (.iload_n 2, 68, false, [], am_noM), (.invokevirtual 416, 71, false, [2, 12, 0, 0, 8026, 8028, 84, 1013, 8029], mX12_rollAll), am_ce0, am_ce0, (.iload_n 1, 72, true, [], am_noM), (.aload_n 0, 73, false, [], am_noM), (.getfield 383, 76, false, [12, 60, 6091], am_noM), am_ce0, am_ce0, (.if_icmp .ge 24, 79, false, [100], am_noM), am_ce0, am_ce0, (.aload_n 0, 80, false, [], am_noM)],
  [(.getfield 102, 83, false, [12, 56, 6087], am_noM), am_ce0, am_ce0, (.iload_n 1, 84, false, [], am_noM), (.iaload, 85, false, [], am_noM), (.iload_n 2, 86, false, [], am_noM), (.if_icmp .ne 14, 89, false, [100], am_noM), am_ce0, am_ce0, (.aload_n 0, 90, false, [], am_noM), (.iload_n 1, 91, false, [], am_noM), (.invokevirtual 419, 94, false, [2, 12, 0, 0, 8034, 8036, 86, 1013, 8037], mX12_use), am_ce0, am_ce0, (.iinc 1 1, 97, false, [], am_noM), am_ce0],
  [am_ce0, (.goto (-26), 100, false, [71], am_noM), am_ce0, am_ce0, (.iinc 2 1, 103, false, [], am_noM), am_ce0, am_ce0, (.goto (-44), 106, false, [59], am_noM), am_ce0, am_ce0, (.aload_n 0, 107, false, [], am_noM), (.getfield 395, 110, false, [12, 72, 6103], am_noM), am_ce0, am_ce0, (.ireturn, 111, false, [0], am_noM)]]
def kX12_sound : List (List CE) := [[(.iload_n 1, 1, false, [], am_noM), (.ifCond .lt 20, 4, false, [21], am_noM), am_ce0, am_ce0, (.iload_n 1, 5, false, [], am_noM), (.aload_n 0, 6, false, [], am_noM), (.getfield 395, 9, false, [12, 72, 6103], am_noM), am_ce0, am_ce0, (.if_icmp .ge 12, 12, false, [21], am_noM), am_ce0, am_ce0, (.iload_n 2, 13, false, [], am_noM), (.ifCond .lt 8, 16, false, [21], am_noM), am_ce0, am_ce0],
  [(.iload_n 2, 17, false, [], am_noM), (.iconst 2, 18, false, [], am_noM), (.if_icmp .le 8, 21, false, [26], am_noM), am_ce0, am_ce0, (.aload_n 0, 22, false, [], am_noM), (.invokevirtual 239, 25, false, [1, 12, 0, 0, 7119, 7121, 56, 1013, 7122], mX12_refuse), am_ce0, am_ce0, (.ireturn, 26, false, [0], am_noM), (.aload_n 0, 27, false, [], am_noM), (.iconst 0, 28, false, [], am_noM), (.putfield 172, 31, false, [12, 0, 6031], am_noM), am_ce0, am_ce0, (.iload_n 2, 32, false, [], am_noM)],
  [(.ifCond .ne 12, 35, false, [44], am_noM), am_ce0, am_ce0, (.aload_n 0, 36, false, [], am_noM), (.getfield 114, 39, false, [12, 62, 6093], am_noM), am_ce0, am_ce0, (.iload_n 1, 40, false, [], am_noM), (.iaload, 41, false, [], am_noM), (.goto 23, 44, false, [64], am_noM), am_ce0, am_ce0, (.iload_n 2, 45, false, [], am_noM), (.iconst 1, 46, false, [], am_noM), (.if_icmp .ne 12, 49, false, [58], am_noM), am_ce0],
  [am_ce0, (.aload_n 0, 50, false, [], am_noM), (.getfield 117, 53, false, [12, 63, 6094], am_noM), am_ce0, am_ce0, (.iload_n 1, 54, false, [], am_noM), (.iaload, 55, false, [], am_noM), (.goto 9, 58, false, [64], am_noM), am_ce0, am_ce0, (.aload_n 0, 59, false, [], am_noM), (.getfield 120, 62, false, [12, 64, 6095], am_noM), am_ce0, am_ce0, (.iload_n 1, 63, false, [], am_noM), (.iaload, 64, false, [], am_noM)],
  [(.ireturn, 65, false, [0], am_noM)]]
def kX12_told : List (List CE) := [[(.aload_n 0, 1, false, [], am_noM), (.iconst 0, 2, false, [], am_noM), (.putfield 172, 5, false, [12, 0, 6031], am_noM), am_ce0, am_ce0, (.iload_n 1, 6, false, [], am_noM), (.tableswitch 59 0 4 #[34, 39, 44, 49, 54], 40, false, [65, 0, 40, 1, 45, 2, 50, 3, 55, 4, 60], am_noM), am_ce0, am_ce0, am_ce0, am_ce0, am_ce0, am_ce0, am_ce0, am_ce0, am_ce0],
  [am_ce0, am_ce0, am_ce0, am_ce0, am_ce0, am_ce0, am_ce0, am_ce0, am_ce0, am_ce0, am_ce0, am_ce0, am_ce0, am_ce0, am_ce0, am_ce0],
  [am_ce0, am_ce0, am_ce0, am_ce0, am_ce0, am_ce0, am_ce0, am_ce0, (.aload_n 0, 41, false, [], am_noM), (.getfield 404, 44, false, [12, 73, 6104], am_noM), am_ce0, am_ce0, (.ireturn, 45, false, [0], am_noM), (.aload_n 0, 46, false, [], am_noM), (.getfield 410, 49, false, [12, 74, 6105], am_noM), am_ce0],
  [am_ce0, (.ireturn, 50, false, [0], am_noM), (.aload_n 0, 51, false, [], am_noM), (.getfield 413, 54, false, [12, 75, 6106], am_noM), am_ce0, am_ce0, (.ireturn, 55, false, [0], am_noM), (.aload_n 0, 56, false, [], am_noM), (.getfield 398, 59, false, [12, 76, 6107], am_noM), am_ce0, am_ce0, (.ireturn, 60, false, [0], am_noM), (.aload_n 0, 61, false, [], am_noM), (.getfield 401, 64, false, [12, 77, 6108], am_noM), am_ce0, am_ce0],
  [(.ireturn, 65, false, [0], am_noM), (.iconst (-1), 66, false, [], am_noM), (.ireturn, 67, false, [0], am_noM)]]
def kX12_choose : List (List CE) := [[(.aload_n 0, 1, false, [], am_noM), (.getfield 157, 4, false, [12, 82, 6113], am_noM), am_ce0, am_ce0, (.bipush 6, 6, false, [], am_noM), am_ce0, (.iload_n 1, 7, false, [], am_noM), (.imul, 8, false, [], am_noM), (.iload_n 2, 9, false, [], am_noM), (.iadd, 10, false, [], am_noM), (.iaload, 11, false, [], am_noM), (.ireturn, 12, false, [0], am_noM)]]
def kX12_prepare : List (List CE) := [[(.iconst 0, 1, false, [], am_noM), (.istore_n 1, 2, false, [], am_noM), (.iload_n 1, 3, true, [], am_noM), (.bipush 25, 5, false, [], am_noM), am_ce0, (.if_icmp .ge 83, 8, false, [88], am_noM), am_ce0, am_ce0, (.aload_n 0, 9, false, [], am_noM), (.getfield 157, 12, false, [12, 82, 6113], am_noM), am_ce0, am_ce0, (.bipush 6, 14, false, [], am_noM), am_ce0, (.iload_n 1, 15, false, [], am_noM), (.imul, 16, false, [], am_noM)],
  [(.iconst 1, 17, false, [], am_noM), (.iastore, 18, false, [], am_noM), (.iconst 1, 19, false, [], am_noM), (.istore_n 2, 20, false, [], am_noM), (.iload_n 2, 21, true, [], am_noM), (.bipush 6, 23, false, [], am_noM), am_ce0, (.if_icmp .ge 59, 26, false, [82], am_noM), am_ce0, am_ce0, (.aload_n 0, 27, false, [], am_noM), (.getfield 157, 30, false, [12, 82, 6113], am_noM), am_ce0, am_ce0, (.bipush 6, 32, false, [], am_noM), am_ce0],
  [(.iload_n 1, 33, false, [], am_noM), (.imul, 34, false, [], am_noM), (.iload_n 2, 35, false, [], am_noM), (.iadd, 36, false, [], am_noM), (.iload_n 1, 37, false, [], am_noM), (.ifCond .ne 7, 40, false, [44], am_noM), am_ce0, am_ce0, (.iconst 0, 41, false, [], am_noM), (.goto 34, 44, false, [75], am_noM), am_ce0, am_ce0, (.aload_n 0, 45, false, [], am_noM), (.getfield 157, 48, false, [12, 82, 6113], am_noM), am_ce0, am_ce0],
  [(.bipush 6, 50, false, [], am_noM), am_ce0, (.iload_n 1, 51, false, [], am_noM), (.imul, 52, false, [], am_noM), (.bipush 6, 54, false, [], am_noM), am_ce0, (.isub, 55, false, [], am_noM), (.iload_n 2, 56, false, [], am_noM), (.iadd, 57, false, [], am_noM), (.iaload, 58, false, [], am_noM), (.aload_n 0, 59, false, [], am_noM), (.getfield 157, 62, false, [12, 82, 6113], am_noM), am_ce0, am_ce0, (.bipush 6, 64, false, [], am_noM), am_ce0],
  [(.iload_n 1, 65, false, [], am_noM), (.imul, 66, false, [], am_noM), (.bipush 6, 68, false, [], am_noM), am_ce0, (.isub, 69, false, [], am_noM), (.iload_n 2, 70, false, [], am_noM), (.iadd, 71, false, [], am_noM), (.iconst 1, 72, false, [], am_noM), (.isub, 73, false, [], am_noM), (.iaload, 74, false, [], am_noM), (.iadd, 75, false, [], am_noM), (.iastore, 76, false, [], am_noM), (.iinc 2 1, 79, false, [], am_noM), am_ce0, am_ce0, (.goto (-59), 82, false, [20], am_noM)],
  [am_ce0, am_ce0, (.iinc 1 1, 85, false, [], am_noM), am_ce0, am_ce0, (.goto (-83), 88, false, [2], am_noM), am_ce0, am_ce0, (.iconst 0, 89, false, [], am_noM), (.istore_n 1, 90, false, [], am_noM), (.iconst 0, 91, false, [], am_noM), (.istore_n 2, 92, false, [], am_noM), (.iload_n 2, 93, true, [], am_noM), (.iconst 1, 94, false, [], am_noM), (.aload_n 0, 95, false, [], am_noM), (.getfield 246, 98, false, [12, 35, 6066], am_noM)],
  [am_ce0, am_ce0, (.ishl, 99, false, [], am_noM), (.if_icmp .ge 34, 102, false, [133], am_noM), am_ce0, am_ce0, (.aload_n 0, 103, false, [], am_noM), (.getfield 148, 106, false, [12, 79, 6110], am_noM), am_ce0, am_ce0, (.iload_n 2, 107, false, [], am_noM), (.iload_n 1, 108, false, [], am_noM), (.iastore, 109, false, [], am_noM), (.iload_n 1, 110, false, [], am_noM), (.aload_n 0, 111, false, [], am_noM), (.bipush 24, 113, false, [], am_noM)],
  [am_ce0, (.aload_n 0, 114, false, [], am_noM), (.getfield 246, 117, false, [12, 35, 6066], am_noM), am_ce0, am_ce0, (.iload_n 2, 118, false, [], am_noM), (.invokestatic 422, 121, false, [0, 1, 0, 0, 8058, 8059, 1013, 8060], mX12_bitsOf), am_ce0, am_ce0, (.isub, 122, false, [], am_noM), (.invokevirtual 425, 125, false, [3, 12, 0, 0, 8061, 8063, 89, 1013, 8064], mX12_choose), am_ce0, am_ce0, (.iadd, 126, false, [], am_noM), (.istore_n 1, 127, false, [], am_noM), (.iinc 2 1, 130, false, [], am_noM)],
  [am_ce0, am_ce0, (.goto (-38), 133, false, [92], am_noM), am_ce0, am_ce0, (.return_, 134, false, [], am_noM)]]
def kX12_bitsOf : List (List CE) := [[(.iconst 0, 1, false, [], am_noM), (.istore_n 1, 2, false, [], am_noM), (.iconst 0, 3, false, [], am_noM), (.istore_n 2, 4, false, [], am_noM), (.iload_n 2, 5, true, [], am_noM), (.bipush 12, 7, false, [], am_noM), am_ce0, (.if_icmp .ge 17, 10, false, [24], am_noM), am_ce0, am_ce0, (.iload_n 1, 11, false, [], am_noM), (.iload_n 0, 12, false, [], am_noM), (.iload_n 2, 13, false, [], am_noM), (.ishr, 14, false, [], am_noM), (.iconst 1, 15, false, [], am_noM), (.iand, 16, false, [], am_noM)],
  [(.iadd, 17, false, [], am_noM), (.istore_n 1, 18, false, [], am_noM), (.iinc 2 1, 21, false, [], am_noM), am_ce0, am_ce0, (.goto (-17), 24, false, [4], am_noM), am_ce0, am_ce0, (.iload_n 1, 25, false, [], am_noM), (.ireturn, 26, false, [0], am_noM)]]
def kX12_far : List (List CE) := [[(.iload_n 0, 1, false, [], am_noM), (.iload_n 1, 2, false, [], am_noM), (.if_icmp .le 9, 5, false, [11], am_noM), am_ce0, am_ce0, (.iload_n 0, 6, false, [], am_noM), (.iload_n 1, 7, false, [], am_noM), (.isub, 8, false, [], am_noM), (.goto 6, 11, false, [14], am_noM), am_ce0, am_ce0, (.iload_n 1, 12, false, [], am_noM), (.iload_n 0, 13, false, [], am_noM), (.isub, 14, false, [], am_noM), (.ireturn, 15, false, [0], am_noM)]]
def kX12_standOf : List (List CE) := [[(.aload_n 0, 1, false, [], am_noM), (.getfield 64, 4, false, [12, 30, 6061], am_noM), am_ce0, am_ce0, (.aload_n 0, 5, false, [], am_noM), (.getfield 105, 8, false, [12, 57, 6088], am_noM), am_ce0, am_ce0, (.iload_n 1, 9, false, [], am_noM), (.iaload, 10, false, [], am_noM), (.iaload, 11, false, [], am_noM), (.ireturn, 12, false, [0], am_noM)]]
def kX12_mayFollow : List (List CE) := [[(.aload_n 0, 1, false, [], am_noM), (.getfield 102, 4, false, [12, 56, 6087], am_noM), am_ce0, am_ce0, (.iload_n 2, 5, false, [], am_noM), (.iaload, 6, false, [], am_noM), (.aload_n 0, 7, false, [], am_noM), (.getfield 102, 10, false, [12, 56, 6087], am_noM), am_ce0, am_ce0, (.iload_n 1, 11, false, [], am_noM), (.iaload, 12, false, [], am_noM), (.aload_n 0, 13, false, [], am_noM), (.iload_n 1, 14, false, [], am_noM), (.invokevirtual 389, 17, false, [2, 12, 0, 0, 8014, 8016, 82, 1013, 8017], mX12_takes), am_ce0],
  [am_ce0, (.iadd, 18, false, [], am_noM), (.aload_n 0, 19, false, [], am_noM), (.iload_n 1, 20, false, [], am_noM), (.invokevirtual 428, 23, false, [2, 12, 0, 0, 8077, 8079, 93, 1013, 8080], mX12_standOf), am_ce0, am_ce0, (.aload_n 0, 24, false, [], am_noM), (.iload_n 2, 25, false, [], am_noM), (.invokevirtual 428, 28, false, [2, 12, 0, 0, 8077, 8079, 93, 1013, 8080], mX12_standOf), am_ce0, am_ce0, (.invokestatic 431, 31, false, [0, 2, 0, 0, 8081, 8082, 1013, 8083], mX12_far), am_ce0, am_ce0, (.iadd, 32, false, [], am_noM)],
  [(.if_icmp .lt 7, 35, false, [39], am_noM), am_ce0, am_ce0, (.iconst 1, 36, false, [], am_noM), (.goto 4, 39, false, [40], am_noM), am_ce0, am_ce0, (.iconst 0, 40, false, [], am_noM), (.ireturn, 41, false, [1], am_noM)]]
def kX12_mayBegin : List (List CE) := [[(.aload_n 0, 1, false, [], am_noM), (.getfield 102, 4, false, [12, 56, 6087], am_noM), am_ce0, am_ce0, (.iload_n 2, 5, false, [], am_noM), (.iaload, 6, false, [], am_noM), (.aload_n 0, 7, false, [], am_noM), (.getfield 73, 10, false, [12, 33, 6064], am_noM), am_ce0, am_ce0, (.iload_n 1, 11, false, [], am_noM), (.iaload, 12, false, [], am_noM), (.aload_n 0, 13, false, [], am_noM), (.iload_n 2, 14, false, [], am_noM), (.invokevirtual 428, 17, false, [2, 12, 0, 0, 8077, 8079, 93, 1013, 8080], mX12_standOf), am_ce0],
  [am_ce0, (.invokestatic 431, 20, false, [0, 2, 0, 0, 8081, 8082, 1013, 8083], mX12_far), am_ce0, am_ce0, (.if_icmp .lt 7, 23, false, [27], am_noM), am_ce0, am_ce0, (.iconst 1, 24, false, [], am_noM), (.goto 4, 27, false, [28], am_noM), am_ce0, am_ce0, (.iconst 0, 28, false, [], am_noM), (.ireturn, 29, false, [1], am_noM)]]
def kX12_cellOf : List (List CE) := [[(.iconst 0, 1, false, [], am_noM), (.istore 6, 3, false, [], am_noM), am_ce0, (.iconst 0, 4, false, [], am_noM), (.istore 7, 6, false, [], am_noM), am_ce0, (.iconst 0, 7, false, [], am_noM), (.istore 8, 9, false, [], am_noM), am_ce0, (.iload 8, 11, true, [], am_noM), am_ce0, (.iload_n 3, 12, false, [], am_noM), (.if_icmp .ge 40, 15, false, [52], am_noM), am_ce0, am_ce0, (.iload 8, 17, false, [], am_noM)],
  [am_ce0, (.iload 4, 19, false, [], am_noM), am_ce0, (.if_icmp .ne 6, 22, false, [25], am_noM), am_ce0, am_ce0, (.goto 24, 25, false, [46], am_noM), am_ce0, am_ce0, (.iinc 7 1, 28, false, [], am_noM), am_ce0, am_ce0, (.iload 6, 30, false, [], am_noM), am_ce0, (.aload_n 0, 31, false, [], am_noM), (.aload_n 0, 32, false, [], am_noM)],
  [(.getfield 151, 35, false, [12, 80, 6111], am_noM), am_ce0, am_ce0, (.iload 8, 37, false, [], am_noM), am_ce0, (.iaload, 38, false, [], am_noM), (.iload 7, 40, false, [], am_noM), am_ce0, (.invokevirtual 425, 43, false, [3, 12, 0, 0, 8061, 8063, 89, 1013, 8064], mX12_choose), am_ce0, am_ce0, (.iadd, 44, false, [], am_noM), (.istore 6, 46, false, [], am_noM), am_ce0, (.iinc 8 1, 49, false, [], am_noM), am_ce0],
  [am_ce0, (.goto (-40), 52, false, [9], am_noM), am_ce0, am_ce0, (.iload 5, 54, false, [], am_noM), am_ce0, (.iconst (-1), 55, false, [], am_noM), (.if_icmp .eq 18, 58, false, [73], am_noM), am_ce0, am_ce0, (.iload 6, 60, false, [], am_noM), am_ce0, (.aload_n 0, 61, false, [], am_noM), (.iload 5, 63, false, [], am_noM), am_ce0, (.iload 7, 65, false, [], am_noM)],
  [am_ce0, (.iconst 1, 66, false, [], am_noM), (.iadd, 67, false, [], am_noM), (.invokevirtual 425, 70, false, [3, 12, 0, 0, 8061, 8063, 89, 1013, 8064], mX12_choose), am_ce0, am_ce0, (.iadd, 71, false, [], am_noM), (.istore 6, 73, false, [], am_noM), am_ce0, (.sipush 20475, 76, false, [], am_noM), am_ce0, am_ce0, (.iload_n 1, 77, false, [], am_noM), (.imul, 78, false, [], am_noM), (.aload_n 0, 79, false, [], am_noM), (.getfield 148, 82, false, [12, 79, 6110], am_noM)],
  [am_ce0, am_ce0, (.iload_n 2, 83, false, [], am_noM), (.iaload, 84, false, [], am_noM), (.iadd, 85, false, [], am_noM), (.iload 6, 87, false, [], am_noM), am_ce0, (.iadd, 88, false, [], am_noM), (.ireturn, 89, false, [0], am_noM)]]
def kX12_workOut : List (List CE) := [[(.aload_n 0, 1, false, [], am_noM), (.getfield 145, 4, false, [12, 78, 6109], am_noM), am_ce0, am_ce0, (.aload_n 0, 5, false, [], am_noM), (.iload_n 1, 6, false, [], am_noM), (.iconst 1, 7, false, [], am_noM), (.iadd, 8, false, [], am_noM), (.iload_n 2, 9, false, [], am_noM), (.iload_n 3, 10, false, [], am_noM), (.iconst (-1), 11, false, [], am_noM), (.iconst (-1), 12, false, [], am_noM), (.invokevirtual 434, 15, false, [6, 12, 0, 0, 8069, 8071, 91, 1013, 8072], mX12_cellOf), am_ce0, am_ce0, (.iaload, 16, false, [], am_noM)],
  [(.istore 4, 18, false, [], am_noM), am_ce0, (.iconst 0, 19, false, [], am_noM), (.istore 5, 21, false, [], am_noM), am_ce0, (.iload 5, 23, true, [], am_noM), am_ce0, (.iload_n 3, 24, false, [], am_noM), (.if_icmp .ge 63, 27, false, [87], am_noM), am_ce0, am_ce0, (.aload_n 0, 28, false, [], am_noM), (.aload_n 0, 29, false, [], am_noM), (.getfield 151, 32, false, [12, 80, 6111], am_noM), am_ce0, am_ce0],
  [(.iload 5, 34, false, [], am_noM), am_ce0, (.iaload, 35, false, [], am_noM), (.iload_n 1, 36, false, [], am_noM), (.invokevirtual 438, 39, false, [3, 12, 0, 0, 8073, 8075, 92, 1013, 8076], mX12_mayFollow), am_ce0, am_ce0, (.ifCond .ne 6, 42, false, [45], am_noM), am_ce0, am_ce0, (.goto 39, 45, false, [81], am_noM), am_ce0, am_ce0, (.aload_n 0, 46, false, [], am_noM), (.iload_n 1, 47, false, [], am_noM), (.invokevirtual 392, 50, false, [2, 12, 0, 0, 8018, 8020, 83, 1013, 8021], mX12_worth)],
  [am_ce0, am_ce0, (.aload_n 0, 51, false, [], am_noM), (.getfield 145, 54, false, [12, 78, 6109], am_noM), am_ce0, am_ce0, (.aload_n 0, 55, false, [], am_noM), (.iload_n 1, 56, false, [], am_noM), (.iconst 1, 57, false, [], am_noM), (.iadd, 58, false, [], am_noM), (.iload_n 2, 59, false, [], am_noM), (.iload_n 3, 60, false, [], am_noM), (.iload 5, 62, false, [], am_noM), am_ce0, (.iload_n 1, 63, false, [], am_noM), (.invokevirtual 434, 66, false, [6, 12, 0, 0, 8069, 8071, 91, 1013, 8072], mX12_cellOf)],
  [am_ce0, am_ce0, (.iaload, 67, false, [], am_noM), (.iadd, 68, false, [], am_noM), (.istore 6, 70, false, [], am_noM), am_ce0, (.iload 6, 72, false, [], am_noM), am_ce0, (.iload 4, 74, false, [], am_noM), am_ce0, (.if_icmp .le 7, 77, false, [81], am_noM), am_ce0, am_ce0, (.iload 6, 79, false, [], am_noM), am_ce0, (.istore 4, 81, false, [], am_noM)],
  [am_ce0, (.iinc 5 1, 84, false, [], am_noM), am_ce0, am_ce0, (.goto (-63), 87, false, [21], am_noM), am_ce0, am_ce0, (.iconst 0, 88, false, [], am_noM), (.istore 5, 90, false, [], am_noM), am_ce0, (.iload 5, 92, true, [], am_noM), am_ce0, (.aload_n 0, 93, false, [], am_noM), (.getfield 246, 96, false, [12, 35, 6066], am_noM), am_ce0, am_ce0],
  [(.if_icmp .ge 73, 99, false, [169], am_noM), am_ce0, am_ce0, (.iload_n 2, 100, false, [], am_noM), (.iload 5, 102, false, [], am_noM), am_ce0, (.ishr, 103, false, [], am_noM), (.iconst 1, 104, false, [], am_noM), (.iand, 105, false, [], am_noM), (.ifCond .eq 58, 108, false, [163], am_noM), am_ce0, am_ce0, (.aload_n 0, 109, false, [], am_noM), (.iload 5, 111, false, [], am_noM), am_ce0, (.iload_n 1, 112, false, [], am_noM)],
  [(.invokevirtual 441, 115, false, [3, 12, 0, 0, 8084, 8086, 94, 1013, 8087], mX12_mayBegin), am_ce0, am_ce0, (.ifCond .ne 6, 118, false, [121], am_noM), am_ce0, am_ce0, (.goto 45, 121, false, [163], am_noM), am_ce0, am_ce0, (.aload_n 0, 122, false, [], am_noM), (.iload_n 1, 123, false, [], am_noM), (.invokevirtual 392, 126, false, [2, 12, 0, 0, 8018, 8020, 83, 1013, 8021], mX12_worth), am_ce0, am_ce0, (.aload_n 0, 127, false, [], am_noM), (.getfield 145, 130, false, [12, 78, 6109], am_noM)],
  [am_ce0, am_ce0, (.aload_n 0, 131, false, [], am_noM), (.iload_n 1, 132, false, [], am_noM), (.iconst 1, 133, false, [], am_noM), (.iadd, 134, false, [], am_noM), (.iload_n 2, 135, false, [], am_noM), (.iconst 1, 136, false, [], am_noM), (.iload 5, 138, false, [], am_noM), am_ce0, (.ishl, 139, false, [], am_noM), (.iconst (-1), 140, false, [], am_noM), (.ixor, 141, false, [], am_noM), (.iand, 142, false, [], am_noM), (.iload_n 3, 143, false, [], am_noM), (.iconst (-1), 144, false, [], am_noM)],
  [(.iload_n 1, 145, false, [], am_noM), (.invokevirtual 434, 148, false, [6, 12, 0, 0, 8069, 8071, 91, 1013, 8072], mX12_cellOf), am_ce0, am_ce0, (.iaload, 149, false, [], am_noM), (.iadd, 150, false, [], am_noM), (.istore 6, 152, false, [], am_noM), am_ce0, (.iload 6, 154, false, [], am_noM), am_ce0, (.iload 4, 156, false, [], am_noM), am_ce0, (.if_icmp .le 7, 159, false, [163], am_noM), am_ce0, am_ce0, (.iload 6, 161, false, [], am_noM)],
  [am_ce0, (.istore 4, 163, false, [], am_noM), am_ce0, (.iinc 5 1, 166, false, [], am_noM), am_ce0, am_ce0, (.goto (-76), 169, false, [90], am_noM), am_ce0, am_ce0, (.aload_n 0, 170, false, [], am_noM), (.getfield 145, 173, false, [12, 78, 6109], am_noM), am_ce0, am_ce0, (.aload_n 0, 174, false, [], am_noM), (.iload_n 1, 175, false, [], am_noM), (.iload_n 2, 176, false, [], am_noM)],
  [(.iload_n 3, 177, false, [], am_noM), (.iconst (-1), 178, false, [], am_noM), (.iconst (-1), 179, false, [], am_noM), (.invokevirtual 434, 182, false, [6, 12, 0, 0, 8069, 8071, 91, 1013, 8072], mX12_cellOf), am_ce0, am_ce0, (.iload 4, 184, false, [], am_noM), am_ce0, (.iastore, 185, false, [], am_noM), (.return_, 186, false, [], am_noM)]]
def kX12_goesOn : List (List CE) := [[(.iconst 0, 1, false, [], am_noM), (.istore_n 3, 2, false, [], am_noM), (.iload_n 3, 3, true, [], am_noM), (.iload_n 1, 4, false, [], am_noM), (.if_icmp .ge 39, 7, false, [43], am_noM), am_ce0, am_ce0, (.aload_n 0, 8, false, [], am_noM), (.getfield 151, 11, false, [12, 80, 6111], am_noM), am_ce0, am_ce0, (.iload_n 3, 12, false, [], am_noM), (.iaload, 13, false, [], am_noM), (.iconst 1, 14, false, [], am_noM), (.iadd, 15, false, [], am_noM), (.iload_n 3, 16, false, [], am_noM)],
  [(.iconst 1, 17, false, [], am_noM), (.iadd, 18, false, [], am_noM), (.iload_n 1, 19, false, [], am_noM), (.if_icmp .ge 14, 22, false, [33], am_noM), am_ce0, am_ce0, (.aload_n 0, 23, false, [], am_noM), (.getfield 151, 26, false, [12, 80, 6111], am_noM), am_ce0, am_ce0, (.iload_n 3, 27, false, [], am_noM), (.iconst 1, 28, false, [], am_noM), (.iadd, 29, false, [], am_noM), (.iaload, 30, false, [], am_noM), (.goto 4, 33, false, [34], am_noM), am_ce0],
  [am_ce0, (.iload_n 2, 34, false, [], am_noM), (.if_icmp .ne 9, 37, false, [43], am_noM), am_ce0, am_ce0, (.iinc 3 1, 40, false, [], am_noM), am_ce0, am_ce0, (.goto (-38), 43, false, [2], am_noM), am_ce0, am_ce0, (.iload_n 3, 44, false, [], am_noM), (.iload_n 1, 45, false, [], am_noM), (.if_icmp .ne 5, 48, false, [50], am_noM), am_ce0, am_ce0],
  [(.iconst 0, 49, false, [], am_noM), (.ireturn, 50, false, [1], am_noM), (.aload_n 0, 51, false, [], am_noM), (.getfield 151, 54, false, [12, 80, 6111], am_noM), am_ce0, am_ce0, (.iload_n 3, 55, false, [], am_noM), (.dup2, 56, false, [], am_noM), (.iaload, 57, false, [], am_noM), (.iconst 1, 58, false, [], am_noM), (.iadd, 59, false, [], am_noM), (.iastore, 60, false, [], am_noM), (.iconst 0, 61, false, [], am_noM), (.istore 4, 63, false, [], am_noM), am_ce0, (.iload 4, 65, true, [], am_noM)],
  [am_ce0, (.iload_n 3, 66, false, [], am_noM), (.if_icmp .ge 18, 69, false, [84], am_noM), am_ce0, am_ce0, (.aload_n 0, 70, false, [], am_noM), (.getfield 151, 73, false, [12, 80, 6111], am_noM), am_ce0, am_ce0, (.iload 4, 75, false, [], am_noM), am_ce0, (.iload 4, 77, false, [], am_noM), am_ce0, (.iastore, 78, false, [], am_noM), (.iinc 4 1, 81, false, [], am_noM), am_ce0],
  [am_ce0, (.goto (-18), 84, false, [63], am_noM), am_ce0, am_ce0, (.iconst 1, 85, false, [], am_noM), (.ireturn, 86, false, [1], am_noM)]]
def kX12_fillTable : List (List CE) := [[(.aload_n 0, 1, false, [], am_noM), (.invokevirtual 444, 4, false, [1, 12, 0, 0, 8054, 8056, 88, 1013, 8057], mX12_prepare), am_ce0, am_ce0, (.iconst 0, 5, false, [], am_noM), (.istore_n 1, 6, false, [], am_noM), (.iload_n 1, 7, true, [], am_noM), (.sipush 20475, 10, false, [], am_noM), am_ce0, am_ce0, (.if_icmp .ge 25, 13, false, [35], am_noM), am_ce0, am_ce0, (.aload_n 0, 14, false, [], am_noM), (.getfield 145, 17, false, [12, 78, 6109], am_noM), am_ce0],
  [am_ce0, (.sipush 20475, 20, false, [], am_noM), am_ce0, am_ce0, (.aload_n 0, 21, false, [], am_noM), (.getfield 383, 24, false, [12, 60, 6091], am_noM), am_ce0, am_ce0, (.imul, 25, false, [], am_noM), (.iload_n 1, 26, false, [], am_noM), (.iadd, 27, false, [], am_noM), (.iconst 0, 28, false, [], am_noM), (.iastore, 29, false, [], am_noM), (.iinc 1 1, 32, false, [], am_noM), am_ce0, am_ce0],
  [(.goto (-26), 35, false, [6], am_noM), am_ce0, am_ce0, (.aload_n 0, 36, false, [], am_noM), (.getfield 383, 39, false, [12, 60, 6091], am_noM), am_ce0, am_ce0, (.iconst 1, 40, false, [], am_noM), (.isub, 41, false, [], am_noM), (.istore_n 1, 42, false, [], am_noM), (.iload_n 1, 43, true, [], am_noM), (.ifCond .lt 99, 46, false, [142], am_noM), am_ce0, am_ce0, (.iconst 0, 47, false, [], am_noM), (.istore_n 2, 48, false, [], am_noM)],
  [(.iload_n 2, 49, true, [], am_noM), (.iconst 1, 50, false, [], am_noM), (.aload_n 0, 51, false, [], am_noM), (.getfield 246, 54, false, [12, 35, 6066], am_noM), am_ce0, am_ce0, (.ishl, 55, false, [], am_noM), (.if_icmp .ge 81, 58, false, [136], am_noM), am_ce0, am_ce0, (.aload_n 0, 59, false, [], am_noM), (.getfield 246, 62, false, [12, 35, 6066], am_noM), am_ce0, am_ce0, (.iload_n 2, 63, false, [], am_noM), (.invokestatic 422, 66, false, [0, 1, 0, 0, 8058, 8059, 1013, 8060], mX12_bitsOf)],
  [am_ce0, am_ce0, (.isub, 67, false, [], am_noM), (.istore_n 3, 68, false, [], am_noM), (.iload_n 3, 69, false, [], am_noM), (.iload_n 1, 70, false, [], am_noM), (.if_icmp .le 6, 73, false, [76], am_noM), am_ce0, am_ce0, (.goto 57, 76, false, [130], am_noM), am_ce0, am_ce0, (.iconst 0, 77, false, [], am_noM), (.istore 4, 79, false, [], am_noM), am_ce0, (.iload 4, 81, true, [], am_noM)],
  [am_ce0, (.iload_n 3, 82, false, [], am_noM), (.if_icmp .ge 18, 85, false, [100], am_noM), am_ce0, am_ce0, (.aload_n 0, 86, false, [], am_noM), (.getfield 151, 89, false, [12, 80, 6111], am_noM), am_ce0, am_ce0, (.iload 4, 91, false, [], am_noM), am_ce0, (.iload 4, 93, false, [], am_noM), am_ce0, (.iastore, 94, false, [], am_noM), (.iinc 4 1, 97, false, [], am_noM), am_ce0],
  [am_ce0, (.goto (-18), 100, false, [79], am_noM), am_ce0, am_ce0, (.aload_n 0, 101, false, [], am_noM), (.iload_n 1, 102, false, [], am_noM), (.iload_n 2, 103, false, [], am_noM), (.iload_n 3, 104, false, [], am_noM), (.invokevirtual 447, 107, false, [4, 12, 0, 0, 8065, 8067, 90, 1013, 8068], mX12_workOut), am_ce0, am_ce0, (.iload_n 3, 108, true, [], am_noM), (.ifCond .le 22, 111, false, [130], am_noM), am_ce0, am_ce0, (.aload_n 0, 112, false, [], am_noM)],
  [(.iload_n 3, 113, false, [], am_noM), (.iload_n 1, 114, false, [], am_noM), (.invokevirtual 450, 117, false, [3, 12, 0, 0, 8088, 8090, 95, 1013, 8091], mX12_goesOn), am_ce0, am_ce0, (.ifCond .eq 13, 120, false, [130], am_noM), am_ce0, am_ce0, (.aload_n 0, 121, false, [], am_noM), (.iload_n 1, 122, false, [], am_noM), (.iload_n 2, 123, false, [], am_noM), (.iload_n 3, 124, false, [], am_noM), (.invokevirtual 447, 127, false, [4, 12, 0, 0, 8065, 8067, 90, 1013, 8068], mX12_workOut), am_ce0, am_ce0, (.goto (-20), 130, false, [107], am_noM)],
  [am_ce0, am_ce0, (.iinc 2 1, 133, false, [], am_noM), am_ce0, am_ce0, (.goto (-85), 136, false, [48], am_noM), am_ce0, am_ce0, (.iinc 1 (-1), 139, false, [], am_noM), am_ce0, am_ce0, (.goto (-97), 142, false, [42], am_noM), am_ce0, am_ce0, (.return_, 143, false, [], am_noM)]]
def kX12_cellByMen : List (List CE) := [[(.iconst 0, 1, false, [], am_noM), (.istore_n 2, 2, false, [], am_noM), (.iconst 0, 3, false, [], am_noM), (.istore_n 3, 4, false, [], am_noM), (.iconst 0, 5, false, [], am_noM), (.istore 4, 7, false, [], am_noM), am_ce0, (.iload 4, 9, true, [], am_noM), am_ce0, (.aload_n 0, 10, false, [], am_noM), (.getfield 383, 13, false, [12, 60, 6091], am_noM), am_ce0, am_ce0, (.if_icmp .ge 53, 16, false, [66], am_noM), am_ce0, am_ce0],
  [(.iconst 0, 17, false, [], am_noM), (.istore 5, 19, false, [], am_noM), am_ce0, (.iload 5, 21, true, [], am_noM), am_ce0, (.aload_n 0, 22, false, [], am_noM), (.getfield 246, 25, false, [12, 35, 6066], am_noM), am_ce0, am_ce0, (.if_icmp .ge 35, 28, false, [60], am_noM), am_ce0, am_ce0, (.aload_n 0, 29, false, [], am_noM), (.getfield 154, 32, false, [12, 81, 6112], am_noM), am_ce0, am_ce0],
  [(.iload 5, 34, false, [], am_noM), am_ce0, (.iaload, 35, false, [], am_noM), (.iload 4, 37, false, [], am_noM), am_ce0, (.if_icmp .eq 6, 40, false, [43], am_noM), am_ce0, am_ce0, (.goto 14, 43, false, [54], am_noM), am_ce0, am_ce0, (.aload_n 0, 44, false, [], am_noM), (.getfield 151, 47, false, [12, 80, 6111], am_noM), am_ce0, am_ce0, (.iload_n 3, 48, false, [], am_noM)],
  [(.iload 4, 50, false, [], am_noM), am_ce0, (.iastore, 51, false, [], am_noM), (.iinc 3 1, 54, false, [], am_noM), am_ce0, am_ce0, (.iinc 5 1, 57, false, [], am_noM), am_ce0, am_ce0, (.goto (-38), 60, false, [19], am_noM), am_ce0, am_ce0, (.iinc 4 1, 63, false, [], am_noM), am_ce0, am_ce0, (.goto (-56), 66, false, [7], am_noM)],
  [am_ce0, am_ce0, (.iconst 0, 67, false, [], am_noM), (.istore 4, 69, false, [], am_noM), am_ce0, (.iload 4, 71, true, [], am_noM), am_ce0, (.aload_n 0, 72, false, [], am_noM), (.getfield 246, 75, false, [12, 35, 6066], am_noM), am_ce0, am_ce0, (.if_icmp .ge 27, 78, false, [102], am_noM), am_ce0, am_ce0, (.aload_n 0, 79, false, [], am_noM), (.getfield 154, 82, false, [12, 81, 6112], am_noM)],
  [am_ce0, am_ce0, (.iload 4, 84, false, [], am_noM), am_ce0, (.iaload, 85, false, [], am_noM), (.iconst (-1), 86, false, [], am_noM), (.if_icmp .ne 10, 89, false, [96], am_noM), am_ce0, am_ce0, (.iload_n 2, 90, false, [], am_noM), (.iconst 1, 91, false, [], am_noM), (.iload 4, 93, false, [], am_noM), am_ce0, (.ishl, 94, false, [], am_noM), (.ior, 95, false, [], am_noM), (.istore_n 2, 96, false, [], am_noM)],
  [(.iinc 4 1, 99, false, [], am_noM), am_ce0, am_ce0, (.goto (-30), 102, false, [69], am_noM), am_ce0, am_ce0, (.aload_n 0, 103, false, [], am_noM), (.iload_n 1, 104, false, [], am_noM), (.iload_n 2, 105, false, [], am_noM), (.iload_n 3, 106, false, [], am_noM), (.iconst (-1), 107, false, [], am_noM), (.iconst (-1), 108, false, [], am_noM), (.invokevirtual 434, 111, false, [6, 12, 0, 0, 8069, 8071, 91, 1013, 8072], mX12_cellOf), am_ce0, am_ce0, (.ireturn, 112, false, [0], am_noM)]]
def kX12_made : List (List CE) := [[(.aload_n 0, 1, false, [], am_noM), (.iconst 0, 2, false, [], am_noM), (.putfield 172, 5, false, [12, 0, 6031], am_noM), am_ce0, am_ce0, (.aload_n 0, 6, false, [], am_noM), (.invokevirtual 453, 9, false, [1, 12, 0, 0, 8050, 8052, 87, 1013, 8053], mX12_fillTable), am_ce0, am_ce0, (.iconst 0, 10, false, [], am_noM), (.istore_n 1, 11, false, [], am_noM), (.iload_n 1, 12, true, [], am_noM), (.aload_n 0, 13, false, [], am_noM), (.getfield 246, 16, false, [12, 35, 6066], am_noM), am_ce0, am_ce0],
  [(.if_icmp .ge 16, 19, false, [32], am_noM), am_ce0, am_ce0, (.aload_n 0, 20, false, [], am_noM), (.getfield 154, 23, false, [12, 81, 6112], am_noM), am_ce0, am_ce0, (.iload_n 1, 24, false, [], am_noM), (.iconst (-1), 25, false, [], am_noM), (.iastore, 26, false, [], am_noM), (.iinc 1 1, 29, false, [], am_noM), am_ce0, am_ce0, (.goto (-18), 32, false, [11], am_noM), am_ce0, am_ce0],
  [(.aload_n 0, 33, false, [], am_noM), (.getfield 145, 36, false, [12, 78, 6109], am_noM), am_ce0, am_ce0, (.aload_n 0, 37, false, [], am_noM), (.iconst 0, 38, false, [], am_noM), (.invokevirtual 456, 41, false, [2, 12, 0, 0, 8092, 8094, 96, 1013, 8095], mX12_cellByMen), am_ce0, am_ce0, (.iaload, 42, false, [], am_noM), (.istore_n 1, 43, false, [], am_noM), (.iload_n 1, 44, false, [], am_noM), (.istore_n 2, 45, false, [], am_noM), (.iconst 0, 46, false, [], am_noM), (.istore_n 3, 47, false, [], am_noM), (.iload_n 3, 48, true, [], am_noM)],
  [(.aload_n 0, 49, false, [], am_noM), (.getfield 383, 52, false, [12, 60, 6091], am_noM), am_ce0, am_ce0, (.if_icmp .ge 153, 55, false, [205], am_noM), am_ce0, am_ce0, (.aload_n 0, 56, false, [], am_noM), (.getfield 111, 59, false, [12, 59, 6090], am_noM), am_ce0, am_ce0, (.iload_n 3, 60, false, [], am_noM), (.iconst (-1), 61, false, [], am_noM), (.iastore, 62, false, [], am_noM), (.iconst 0, 63, false, [], am_noM), (.istore 4, 65, false, [], am_noM)],
  [am_ce0, (.iload 4, 67, true, [], am_noM), am_ce0, (.aload_n 0, 68, false, [], am_noM), (.getfield 246, 71, false, [12, 35, 6066], am_noM), am_ce0, am_ce0, (.if_icmp .ge 110, 74, false, [181], am_noM), am_ce0, am_ce0, (.aload_n 0, 75, false, [], am_noM), (.getfield 111, 78, false, [12, 59, 6090], am_noM), am_ce0, am_ce0, (.iload_n 3, 79, false, [], am_noM), (.iaload, 80, false, [], am_noM)],
  [(.iconst (-1), 81, false, [], am_noM), (.if_icmp .ne 100, 84, false, [181], am_noM), am_ce0, am_ce0, (.aload_n 0, 85, false, [], am_noM), (.getfield 154, 88, false, [12, 81, 6112], am_noM), am_ce0, am_ce0, (.iload 4, 90, false, [], am_noM), am_ce0, (.iaload, 91, false, [], am_noM), (.istore 5, 93, false, [], am_noM), am_ce0, (.iload 5, 95, false, [], am_noM), am_ce0, (.iconst (-1), 96, false, [], am_noM)],
  [(.if_icmp .ne 16, 99, false, [112], am_noM), am_ce0, am_ce0, (.aload_n 0, 100, false, [], am_noM), (.iload 4, 102, false, [], am_noM), am_ce0, (.iload_n 3, 103, false, [], am_noM), (.invokevirtual 441, 106, false, [3, 12, 0, 0, 8084, 8086, 94, 1013, 8087], mX12_mayBegin), am_ce0, am_ce0, (.ifCond .ne 19, 109, false, [125], am_noM), am_ce0, am_ce0, (.goto 66, 112, false, [175], am_noM), am_ce0, am_ce0],
  [(.aload_n 0, 113, false, [], am_noM), (.iload 5, 115, false, [], am_noM), am_ce0, (.iload_n 3, 116, false, [], am_noM), (.invokevirtual 438, 119, false, [3, 12, 0, 0, 8073, 8075, 92, 1013, 8076], mX12_mayFollow), am_ce0, am_ce0, (.ifCond .ne 6, 122, false, [125], am_noM), am_ce0, am_ce0, (.goto 53, 125, false, [175], am_noM), am_ce0, am_ce0, (.aload_n 0, 126, false, [], am_noM), (.getfield 154, 129, false, [12, 81, 6112], am_noM), am_ce0],
  [am_ce0, (.iload 4, 131, false, [], am_noM), am_ce0, (.iload_n 3, 132, false, [], am_noM), (.iastore, 133, false, [], am_noM), (.aload_n 0, 134, false, [], am_noM), (.iload_n 3, 135, false, [], am_noM), (.invokevirtual 392, 138, false, [2, 12, 0, 0, 8018, 8020, 83, 1013, 8021], mX12_worth), am_ce0, am_ce0, (.aload_n 0, 139, false, [], am_noM), (.getfield 145, 142, false, [12, 78, 6109], am_noM), am_ce0, am_ce0, (.aload_n 0, 143, false, [], am_noM), (.iload_n 3, 144, false, [], am_noM)],
  [(.iconst 1, 145, false, [], am_noM), (.iadd, 146, false, [], am_noM), (.invokevirtual 456, 149, false, [2, 12, 0, 0, 8092, 8094, 96, 1013, 8095], mX12_cellByMen), am_ce0, am_ce0, (.iaload, 150, false, [], am_noM), (.iadd, 151, false, [], am_noM), (.iload_n 2, 152, false, [], am_noM), (.if_icmp .ne 14, 155, false, [166], am_noM), am_ce0, am_ce0, (.aload_n 0, 156, false, [], am_noM), (.getfield 111, 159, false, [12, 59, 6090], am_noM), am_ce0, am_ce0, (.iload_n 3, 160, false, [], am_noM)],
  [(.iload 4, 162, false, [], am_noM), am_ce0, (.iastore, 163, false, [], am_noM), (.goto 12, 166, false, [175], am_noM), am_ce0, am_ce0, (.aload_n 0, 167, false, [], am_noM), (.getfield 154, 170, false, [12, 81, 6112], am_noM), am_ce0, am_ce0, (.iload 4, 172, false, [], am_noM), am_ce0, (.iload 5, 174, false, [], am_noM), am_ce0, (.iastore, 175, false, [], am_noM), (.iinc 4 1, 178, false, [], am_noM)],
  [am_ce0, am_ce0, (.goto (-113), 181, false, [65], am_noM), am_ce0, am_ce0, (.aload_n 0, 182, false, [], am_noM), (.getfield 111, 185, false, [12, 59, 6090], am_noM), am_ce0, am_ce0, (.iload_n 3, 186, false, [], am_noM), (.iaload, 187, false, [], am_noM), (.iconst (-1), 188, false, [], am_noM), (.if_icmp .eq 11, 191, false, [199], am_noM), am_ce0, am_ce0, (.iload_n 2, 192, false, [], am_noM)],
  [(.aload_n 0, 193, false, [], am_noM), (.iload_n 3, 194, false, [], am_noM), (.invokevirtual 392, 197, false, [2, 12, 0, 0, 8018, 8020, 83, 1013, 8021], mX12_worth), am_ce0, am_ce0, (.isub, 198, false, [], am_noM), (.istore_n 2, 199, false, [], am_noM), (.iinc 3 1, 202, false, [], am_noM), am_ce0, am_ce0, (.goto (-155), 205, false, [47], am_noM), am_ce0, am_ce0, (.aload_n 0, 206, false, [], am_noM), (.iconst 1, 207, false, [], am_noM), (.putfield 386, 210, false, [12, 61, 6092], am_noM)],
  [am_ce0, am_ce0, (.iload_n 1, 211, false, [], am_noM), (.ireturn, 212, false, [0], am_noM)]]
def kX12_who : List (List CE) := [[(.aload_n 0, 1, false, [], am_noM), (.iconst 0, 2, false, [], am_noM), (.putfield 172, 5, false, [12, 0, 6031], am_noM), am_ce0, am_ce0, (.aload_n 0, 6, false, [], am_noM), (.getfield 386, 9, false, [12, 61, 6092], am_noM), am_ce0, am_ce0, (.ifCond .eq 24, 12, false, [33], am_noM), am_ce0, am_ce0, (.iload_n 1, 13, false, [], am_noM), (.ifCond .lt 20, 16, false, [33], am_noM), am_ce0, am_ce0],
  [(.iload_n 1, 17, false, [], am_noM), (.aload_n 0, 18, false, [], am_noM), (.getfield 383, 21, false, [12, 60, 6091], am_noM), am_ce0, am_ce0, (.if_icmp .ge 12, 24, false, [33], am_noM), am_ce0, am_ce0, (.aload_n 0, 25, false, [], am_noM), (.getfield 111, 28, false, [12, 59, 6090], am_noM), am_ce0, am_ce0, (.iload_n 1, 29, false, [], am_noM), (.iaload, 30, false, [], am_noM), (.goto 4, 33, false, [34], am_noM), am_ce0],
  [am_ce0, (.iconst (-1), 34, false, [], am_noM), (.ireturn, 35, false, [0], am_noM)]]
def kX12_balls : List (List CE) := [[(.aload_n 0, 1, false, [], am_noM), (.iconst 0, 2, false, [], am_noM), (.putfield 172, 5, false, [12, 0, 6031], am_noM), am_ce0, am_ce0, (.aload_n 0, 6, false, [], am_noM), (.iload_n 1, 7, false, [], am_noM), (.invokevirtual 230, 10, false, [2, 12, 0, 0, 7095, 7097, 51, 1013, 7098], mX12_isRun), am_ce0, am_ce0, (.ifCond .eq 14, 13, false, [24], am_noM), am_ce0, am_ce0, (.iload_n 2, 14, false, [], am_noM), (.iconst 0, 15, false, [], am_noM), (.sipush 1000, 18, false, [], am_noM)],
  [am_ce0, am_ce0, (.invokestatic 186, 21, false, [0, 3, 0, 0, 7081, 7082, 1013, 7083], mX12_isIn), am_ce0, am_ce0, (.ifCond .ne 5, 24, false, [26], am_noM), am_ce0, am_ce0, (.iconst (-1), 25, false, [], am_noM), (.ireturn, 26, false, [0], am_noM), (.aload_n 0, 27, false, [], am_noM), (.iload_n 1, 28, false, [], am_noM), (.iconst 0, 29, false, [], am_noM), (.invokevirtual 233, 32, false, [3, 12, 0, 0, 7099, 7101, 52, 1013, 7102], mX12_follow), am_ce0, am_ce0],
  [(.aload_n 0, 33, false, [], am_noM), (.getfield 223, 36, false, [12, 26, 6057], am_noM), am_ce0, am_ce0, (.iconst (-1), 37, false, [], am_noM), (.if_icmp .ne 6, 40, false, [43], am_noM), am_ce0, am_ce0, (.bipush (-2), 42, false, [], am_noM), am_ce0, (.ireturn, 43, false, [0], am_noM), (.iconst 0, 44, false, [], am_noM), (.istore_n 3, 45, false, [], am_noM), (.iconst 0, 46, false, [], am_noM), (.istore 4, 48, false, [], am_noM), am_ce0],
  [(.iload 4, 50, true, [], am_noM), am_ce0, (.aload_n 0, 51, false, [], am_noM), (.getfield 383, 54, false, [12, 60, 6091], am_noM), am_ce0, am_ce0, (.if_icmp .ge 87, 57, false, [141], am_noM), am_ce0, am_ce0, (.aload_n 0, 58, false, [], am_noM), (.iload 4, 60, false, [], am_noM), am_ce0, (.iload_n 1, 61, false, [], am_noM), (.invokevirtual 459, 64, false, [3, 12, 0, 0, 8104, 8106, 97, 1013, 8107], mX12_isLetGo), am_ce0, am_ce0],
  [(.ifCond .ne 6, 67, false, [70], am_noM), am_ce0, am_ce0, (.goto 68, 70, false, [135], am_noM), am_ce0, am_ce0, (.iconst 0, 71, false, [], am_noM), (.istore 5, 73, false, [], am_noM), am_ce0, (.iconst 0, 74, false, [], am_noM), (.istore 6, 76, false, [], am_noM), am_ce0, (.iload 6, 78, true, [], am_noM), am_ce0, (.iload 4, 80, false, [], am_noM), am_ce0],
  [(.if_icmp .gt 46, 83, false, [126], am_noM), am_ce0, am_ce0, (.aload_n 0, 84, false, [], am_noM), (.iload 6, 86, false, [], am_noM), am_ce0, (.iload_n 1, 87, false, [], am_noM), (.invokevirtual 459, 90, false, [3, 12, 0, 0, 8104, 8106, 97, 1013, 8107], mX12_isLetGo), am_ce0, am_ce0, (.ifCond .eq 30, 93, false, [120], am_noM), am_ce0, am_ce0, (.aload_n 0, 94, false, [], am_noM), (.getfield 102, 97, false, [12, 56, 6087], am_noM), am_ce0],
  [am_ce0, (.iload 6, 99, false, [], am_noM), am_ce0, (.iaload, 100, false, [], am_noM), (.aload_n 0, 101, false, [], am_noM), (.getfield 223, 104, false, [12, 26, 6057], am_noM), am_ce0, am_ce0, (.iadd, 105, false, [], am_noM), (.iload_n 2, 106, false, [], am_noM), (.iadd, 107, false, [], am_noM), (.aload_n 0, 108, false, [], am_noM), (.getfield 102, 111, false, [12, 56, 6087], am_noM), am_ce0, am_ce0, (.iload 4, 113, false, [], am_noM)],
  [am_ce0, (.iaload, 114, false, [], am_noM), (.if_icmp .le 6, 117, false, [120], am_noM), am_ce0, am_ce0, (.iinc 5 1, 120, false, [], am_noM), am_ce0, am_ce0, (.iinc 6 1, 123, false, [], am_noM), am_ce0, am_ce0, (.goto (-47), 126, false, [76], am_noM), am_ce0, am_ce0, (.iload 5, 128, false, [], am_noM), am_ce0],
  [(.iload_n 3, 129, false, [], am_noM), (.if_icmp .le 6, 132, false, [135], am_noM), am_ce0, am_ce0, (.iload 5, 134, false, [], am_noM), am_ce0, (.istore_n 3, 135, false, [], am_noM), (.iinc 4 1, 138, false, [], am_noM), am_ce0, am_ce0, (.goto (-90), 141, false, [48], am_noM), am_ce0, am_ce0, (.iload_n 3, 142, false, [], am_noM), (.ireturn, 143, false, [0], am_noM)]]
def kX12_isLetGo : List (List CE) := [[(.aload_n 0, 1, false, [], am_noM), (.getfield 61, 4, false, [12, 29, 6060], am_noM), am_ce0, am_ce0, (.aload_n 0, 5, false, [], am_noM), (.getfield 105, 8, false, [12, 57, 6088], am_noM), am_ce0, am_ce0, (.iload_n 1, 9, false, [], am_noM), (.iaload, 10, false, [], am_noM), (.iaload, 11, false, [], am_noM), (.ifCond .ne 22, 14, false, [33], am_noM), am_ce0, am_ce0, (.aload_n 0, 15, false, [], am_noM), (.getfield 67, 18, false, [12, 31, 6062], am_noM)],
  [am_ce0, am_ce0, (.aload_n 0, 19, false, [], am_noM), (.getfield 105, 22, false, [12, 57, 6088], am_noM), am_ce0, am_ce0, (.iload_n 1, 23, false, [], am_noM), (.iaload, 24, false, [], am_noM), (.iaload, 25, false, [], am_noM), (.iload_n 2, 26, false, [], am_noM), (.if_icmp .ne 7, 29, false, [33], am_noM), am_ce0, am_ce0, (.iconst 1, 30, false, [], am_noM), (.goto 4, 33, false, [34], am_noM), am_ce0],
  [am_ce0, (.iconst 0, 34, false, [], am_noM), (.ireturn, 35, false, [1], am_noM)]]
def kX12_fillings : List (List CE) := [[(.aload_n 0, 1, false, [], am_noM), (.iconst 0, 2, false, [], am_noM), (.putfield 172, 5, false, [12, 0, 6031], am_noM), am_ce0, am_ce0, (.iload_n 1, 6, false, [], am_noM), (.ifCond .lt 21, 9, false, [27], am_noM), am_ce0, am_ce0, (.iload_n 1, 10, false, [], am_noM), (.aload_n 0, 11, false, [], am_noM), (.getfield 243, 14, false, [12, 34, 6065], am_noM), am_ce0, am_ce0, (.if_icmp .ge 13, 17, false, [27], am_noM), am_ce0],
  [am_ce0, (.aload_n 0, 18, false, [], am_noM), (.getfield 61, 21, false, [12, 29, 6060], am_noM), am_ce0, am_ce0, (.iload_n 1, 22, false, [], am_noM), (.iaload, 23, false, [], am_noM), (.iconst 1, 24, false, [], am_noM), (.if_icmp .eq 5, 27, false, [29], am_noM), am_ce0, am_ce0, (.iconst (-1), 28, false, [], am_noM), (.ireturn, 29, false, [0], am_noM), (.iconst 0, 30, false, [], am_noM), (.istore_n 2, 31, false, [], am_noM), (.iconst 0, 32, false, [], am_noM)],
  [(.istore_n 3, 33, false, [], am_noM), (.iload_n 3, 34, true, [], am_noM), (.aload_n 0, 35, false, [], am_noM), (.getfield 383, 38, false, [12, 60, 6091], am_noM), am_ce0, am_ce0, (.if_icmp .ge 32, 41, false, [70], am_noM), am_ce0, am_ce0, (.aload_n 0, 42, false, [], am_noM), (.getfield 105, 45, false, [12, 57, 6088], am_noM), am_ce0, am_ce0, (.iload_n 3, 46, false, [], am_noM), (.iaload, 47, false, [], am_noM), (.iload_n 1, 48, false, [], am_noM)],
  [(.if_icmp .eq 6, 51, false, [54], am_noM), am_ce0, am_ce0, (.goto 13, 54, false, [64], am_noM), am_ce0, am_ce0, (.aload_n 0, 55, false, [], am_noM), (.getfield 163, 58, false, [12, 84, 6115], am_noM), am_ce0, am_ce0, (.iload_n 2, 59, false, [], am_noM), (.iload_n 3, 60, false, [], am_noM), (.iastore, 61, false, [], am_noM), (.iinc 2 1, 64, false, [], am_noM), am_ce0, am_ce0],
  [(.iinc 3 1, 67, false, [], am_noM), am_ce0, am_ce0, (.goto (-34), 70, false, [33], am_noM), am_ce0, am_ce0, (.iload_n 2, 71, false, [], am_noM), (.ifCond .ne 7, 74, false, [78], am_noM), am_ce0, am_ce0, (.iconst 0, 75, false, [], am_noM), (.goto 4, 78, false, [79], am_noM), am_ce0, am_ce0, (.iconst (-1), 79, false, [], am_noM), (.istore_n 3, 80, false, [], am_noM)],
  [(.iconst 0, 81, false, [], am_noM), (.istore 4, 83, false, [], am_noM), am_ce0, (.iconst 0, 84, false, [], am_noM), (.istore 5, 86, false, [], am_noM), am_ce0, (.iload 5, 88, true, [], am_noM), am_ce0, (.iload_n 2, 89, false, [], am_noM), (.if_icmp .ge 204, 92, false, [293], am_noM), am_ce0, am_ce0, (.aload_n 0, 93, false, [], am_noM), (.getfield 160, 96, false, [12, 83, 6114], am_noM), am_ce0, am_ce0],
  [(.iload 5, 98, false, [], am_noM), am_ce0, (.iload 5, 100, false, [], am_noM), am_ce0, (.ifCond .ne 7, 103, false, [107], am_noM), am_ce0, am_ce0, (.iconst 0, 104, false, [], am_noM), (.goto 4, 107, false, [108], am_noM), am_ce0, am_ce0, (.iconst (-1), 108, false, [], am_noM), (.iastore, 109, false, [], am_noM), (.iload 5, 111, false, [], am_noM), am_ce0, (.ifCond .le 132, 114, false, [243], am_noM)],
  [am_ce0, am_ce0, (.aload_n 0, 115, false, [], am_noM), (.getfield 102, 118, false, [12, 56, 6087], am_noM), am_ce0, am_ce0, (.aload_n 0, 119, false, [], am_noM), (.getfield 163, 122, false, [12, 84, 6115], am_noM), am_ce0, am_ce0, (.iload 5, 124, false, [], am_noM), am_ce0, (.iaload, 125, false, [], am_noM), (.iaload, 126, false, [], am_noM), (.iload 4, 128, false, [], am_noM), am_ce0],
  [(.isub, 129, false, [], am_noM), (.aload_n 0, 130, false, [], am_noM), (.getfield 70, 133, false, [12, 32, 6063], am_noM), am_ce0, am_ce0, (.iload_n 1, 134, false, [], am_noM), (.iaload, 135, false, [], am_noM), (.if_icmp .lt 108, 138, false, [243], am_noM), am_ce0, am_ce0, (.iconst 0, 139, false, [], am_noM), (.istore 6, 141, false, [], am_noM), am_ce0, (.iload 5, 143, false, [], am_noM), am_ce0, (.iconst 1, 144, false, [], am_noM)],
  [(.isub, 145, false, [], am_noM), (.istore 7, 147, false, [], am_noM), am_ce0, (.iload 7, 149, true, [], am_noM), am_ce0, (.ifCond .lt 94, 152, false, [243], am_noM), am_ce0, am_ce0, (.iload 6, 154, false, [], am_noM), am_ce0, (.aload_n 0, 155, false, [], am_noM), (.getfield 108, 158, false, [12, 58, 6089], am_noM), am_ce0, am_ce0, (.aload_n 0, 159, false, [], am_noM), (.getfield 163, 162, false, [12, 84, 6115], am_noM)],
  [am_ce0, am_ce0, (.iload 7, 164, false, [], am_noM), am_ce0, (.iaload, 165, false, [], am_noM), (.iaload, 166, false, [], am_noM), (.iadd, 167, false, [], am_noM), (.istore 6, 169, false, [], am_noM), am_ce0, (.iload 6, 171, false, [], am_noM), am_ce0, (.aload_n 0, 172, false, [], am_noM), (.getfield 67, 175, false, [12, 31, 6062], am_noM), am_ce0, am_ce0, (.iload_n 1, 176, false, [], am_noM)],
  [(.iaload, 177, false, [], am_noM), (.if_icmp .gt 60, 180, false, [237], am_noM), am_ce0, am_ce0, (.aload_n 0, 181, false, [], am_noM), (.getfield 160, 184, false, [12, 83, 6114], am_noM), am_ce0, am_ce0, (.iload 7, 186, false, [], am_noM), am_ce0, (.iaload, 187, false, [], am_noM), (.iconst (-1), 188, false, [], am_noM), (.if_icmp .eq 49, 191, false, [237], am_noM), am_ce0, am_ce0, (.aload_n 0, 192, false, [], am_noM)],
  [(.getfield 160, 195, false, [12, 83, 6114], am_noM), am_ce0, am_ce0, (.iload 5, 197, false, [], am_noM), am_ce0, (.iaload, 198, false, [], am_noM), (.iconst (-1), 199, false, [], am_noM), (.if_icmp .eq 22, 202, false, [221], am_noM), am_ce0, am_ce0, (.aload_n 0, 203, false, [], am_noM), (.getfield 160, 206, false, [12, 83, 6114], am_noM), am_ce0, am_ce0, (.iload 7, 208, false, [], am_noM), am_ce0],
  [(.iaload, 209, false, [], am_noM), (.iconst 1, 210, false, [], am_noM), (.iadd, 211, false, [], am_noM), (.aload_n 0, 212, false, [], am_noM), (.getfield 160, 215, false, [12, 83, 6114], am_noM), am_ce0, am_ce0, (.iload 5, 217, false, [], am_noM), am_ce0, (.iaload, 218, false, [], am_noM), (.if_icmp .ge 19, 221, false, [237], am_noM), am_ce0, am_ce0, (.aload_n 0, 222, false, [], am_noM), (.getfield 160, 225, false, [12, 83, 6114], am_noM), am_ce0],
  [am_ce0, (.iload 5, 227, false, [], am_noM), am_ce0, (.aload_n 0, 228, false, [], am_noM), (.getfield 160, 231, false, [12, 83, 6114], am_noM), am_ce0, am_ce0, (.iload 7, 233, false, [], am_noM), am_ce0, (.iaload, 234, false, [], am_noM), (.iconst 1, 235, false, [], am_noM), (.iadd, 236, false, [], am_noM), (.iastore, 237, false, [], am_noM), (.iinc 7 (-1), 240, false, [], am_noM), am_ce0, am_ce0],
  [(.goto (-93), 243, false, [147], am_noM), am_ce0, am_ce0, (.aload_n 0, 244, false, [], am_noM), (.getfield 163, 247, false, [12, 84, 6115], am_noM), am_ce0, am_ce0, (.iload 5, 249, false, [], am_noM), am_ce0, (.iaload, 250, false, [], am_noM), (.istore 6, 252, false, [], am_noM), am_ce0, (.aload_n 0, 253, false, [], am_noM), (.getfield 102, 256, false, [12, 56, 6087], am_noM), am_ce0, am_ce0],
  [(.iload 6, 258, false, [], am_noM), am_ce0, (.iaload, 259, false, [], am_noM), (.aload_n 0, 260, false, [], am_noM), (.iload 6, 262, false, [], am_noM), am_ce0, (.invokevirtual 389, 265, false, [2, 12, 0, 0, 8014, 8016, 82, 1013, 8017], mX12_takes), am_ce0, am_ce0, (.iadd, 266, false, [], am_noM), (.iload 4, 268, false, [], am_noM), am_ce0, (.if_icmp .le 19, 271, false, [287], am_noM), am_ce0, am_ce0, (.aload_n 0, 272, false, [], am_noM)],
  [(.getfield 102, 275, false, [12, 56, 6087], am_noM), am_ce0, am_ce0, (.iload 6, 277, false, [], am_noM), am_ce0, (.iaload, 278, false, [], am_noM), (.aload_n 0, 279, false, [], am_noM), (.iload 6, 281, false, [], am_noM), am_ce0, (.invokevirtual 389, 284, false, [2, 12, 0, 0, 8014, 8016, 82, 1013, 8017], mX12_takes), am_ce0, am_ce0, (.iadd, 285, false, [], am_noM), (.istore 4, 287, false, [], am_noM), am_ce0, (.iinc 5 1, 290, false, [], am_noM)],
  [am_ce0, am_ce0, (.goto (-204), 293, false, [86], am_noM), am_ce0, am_ce0, (.iconst 0, 294, false, [], am_noM), (.istore 5, 296, false, [], am_noM), am_ce0, (.iload_n 2, 297, false, [], am_noM), (.iconst 1, 298, false, [], am_noM), (.isub, 299, false, [], am_noM), (.istore 6, 301, false, [], am_noM), am_ce0, (.iload 6, 303, true, [], am_noM), am_ce0, (.ifCond .lt 72, 306, false, [375], am_noM)],
  [am_ce0, am_ce0, (.iload 5, 308, false, [], am_noM), am_ce0, (.aload_n 0, 309, false, [], am_noM), (.getfield 108, 312, false, [12, 58, 6089], am_noM), am_ce0, am_ce0, (.aload_n 0, 313, false, [], am_noM), (.getfield 163, 316, false, [12, 84, 6115], am_noM), am_ce0, am_ce0, (.iload 6, 318, false, [], am_noM), am_ce0, (.iaload, 319, false, [], am_noM), (.iaload, 320, false, [], am_noM)],
  [(.iadd, 321, false, [], am_noM), (.istore 5, 323, false, [], am_noM), am_ce0, (.iload 5, 325, false, [], am_noM), am_ce0, (.aload_n 0, 326, false, [], am_noM), (.getfield 67, 329, false, [12, 31, 6062], am_noM), am_ce0, am_ce0, (.iload_n 1, 330, false, [], am_noM), (.iaload, 331, false, [], am_noM), (.if_icmp .gt 38, 334, false, [369], am_noM), am_ce0, am_ce0, (.aload_n 0, 335, false, [], am_noM), (.getfield 160, 338, false, [12, 83, 6114], am_noM)],
  [am_ce0, am_ce0, (.iload 6, 340, false, [], am_noM), am_ce0, (.iaload, 341, false, [], am_noM), (.iconst (-1), 342, false, [], am_noM), (.if_icmp .eq 27, 345, false, [369], am_noM), am_ce0, am_ce0, (.iload_n 3, 346, false, [], am_noM), (.iconst (-1), 347, false, [], am_noM), (.if_icmp .eq 14, 350, false, [361], am_noM), am_ce0, am_ce0, (.aload_n 0, 351, false, [], am_noM), (.getfield 160, 354, false, [12, 83, 6114], am_noM)],
  [am_ce0, am_ce0, (.iload 6, 356, false, [], am_noM), am_ce0, (.iaload, 357, false, [], am_noM), (.iload_n 3, 358, false, [], am_noM), (.if_icmp .ge 11, 361, false, [369], am_noM), am_ce0, am_ce0, (.aload_n 0, 362, false, [], am_noM), (.getfield 160, 365, false, [12, 83, 6114], am_noM), am_ce0, am_ce0, (.iload 6, 367, false, [], am_noM), am_ce0, (.iaload, 368, false, [], am_noM)],
  [(.istore_n 3, 369, false, [], am_noM), (.iinc 6 (-1), 372, false, [], am_noM), am_ce0, am_ce0, (.goto (-71), 375, false, [301], am_noM), am_ce0, am_ce0, (.iload_n 3, 376, false, [], am_noM), (.iconst (-1), 377, false, [], am_noM), (.if_icmp .ne 8, 380, false, [385], am_noM), am_ce0, am_ce0, (.bipush (-2), 382, false, [], am_noM), am_ce0, (.goto 4, 385, false, [386], am_noM), am_ce0],
  [am_ce0, (.iload_n 3, 386, false, [], am_noM), (.ireturn, 387, false, [0], am_noM)]]
def kX12_takeTicks : List (List CE) := [[(.aload_n 0, 1, false, [], am_noM), (.getfield 176, 4, false, [12, 2, 6033], am_noM), am_ce0, am_ce0, (.istore_n 1, 5, false, [], am_noM), (.aload_n 0, 6, false, [], am_noM), (.iconst 0, 7, false, [], am_noM), (.putfield 176, 10, false, [12, 2, 6033], am_noM), am_ce0, am_ce0, (.aload_n 0, 11, false, [], am_noM), (.iload_n 1, 12, false, [], am_noM), (.iconst 2, 13, false, [], am_noM), (.idiv, 14, false, [], am_noM), (.putfield 462, 17, false, [12, 87, 6118], am_noM), am_ce0],
  [am_ce0, (.iload_n 1, 18, false, [], am_noM), (.bipush 20, 20, false, [], am_noM), am_ce0, (.if_icmp .gt 9, 23, false, [29], am_noM), am_ce0, am_ce0, (.iload_n 1, 24, false, [], am_noM), (.iconst 2, 25, false, [], am_noM), (.irem, 26, false, [], am_noM), (.ifCond .eq 5, 29, false, [31], am_noM), am_ce0, am_ce0, (.iconst 0, 30, false, [], am_noM), (.ireturn, 31, false, [1], am_noM), (.iconst 0, 32, false, [], am_noM)],
  [(.istore_n 2, 33, false, [], am_noM), (.iload_n 2, 34, true, [], am_noM), (.aload_n 0, 35, false, [], am_noM), (.getfield 462, 38, false, [12, 87, 6118], am_noM), am_ce0, am_ce0, (.if_icmp .ge 61, 41, false, [99], am_noM), am_ce0, am_ce0, (.aload_n 0, 42, false, [], am_noM), (.getfield 166, 45, false, [12, 85, 6116], am_noM), am_ce0, am_ce0, (.iload_n 2, 46, false, [], am_noM), (.sipush 256, 49, false, [], am_noM), am_ce0],
  [am_ce0, (.aload_n 0, 50, false, [], am_noM), (.getfield 7, 53, false, [12, 1, 6032], am_noM), am_ce0, am_ce0, (.iconst 2, 54, false, [], am_noM), (.iload_n 2, 55, false, [], am_noM), (.imul, 56, false, [], am_noM), (.iaload, 57, false, [], am_noM), (.imul, 58, false, [], am_noM), (.aload_n 0, 59, false, [], am_noM), (.getfield 7, 62, false, [12, 1, 6032], am_noM), am_ce0, am_ce0, (.iconst 2, 63, false, [], am_noM), (.iload_n 2, 64, false, [], am_noM)],
  [(.imul, 65, false, [], am_noM), (.iconst 1, 66, false, [], am_noM), (.iadd, 67, false, [], am_noM), (.iaload, 68, false, [], am_noM), (.iadd, 69, false, [], am_noM), (.iastore, 70, false, [], am_noM), (.iload_n 2, 71, false, [], am_noM), (.ifCond .le 22, 74, false, [93], am_noM), am_ce0, am_ce0, (.aload_n 0, 75, false, [], am_noM), (.getfield 166, 78, false, [12, 85, 6116], am_noM), am_ce0, am_ce0, (.iload_n 2, 79, false, [], am_noM), (.iaload, 80, false, [], am_noM)],
  [(.aload_n 0, 81, false, [], am_noM), (.getfield 166, 84, false, [12, 85, 6116], am_noM), am_ce0, am_ce0, (.iload_n 2, 85, false, [], am_noM), (.iconst 1, 86, false, [], am_noM), (.isub, 87, false, [], am_noM), (.iaload, 88, false, [], am_noM), (.if_icmp .gt 5, 91, false, [93], am_noM), am_ce0, am_ce0, (.iconst 0, 92, false, [], am_noM), (.ireturn, 93, false, [1], am_noM), (.iinc 2 1, 96, false, [], am_noM), am_ce0, am_ce0],
  [(.goto (-63), 99, false, [33], am_noM), am_ce0, am_ce0, (.iconst 1, 100, false, [], am_noM), (.ireturn, 101, false, [1], am_noM)]]
def kX12_err : List (List CE) := [[(.iconst 0, 1, false, [], am_noM), (.istore_n 1, 2, false, [], am_noM), (.iconst 0, 3, false, [], am_noM), (.istore_n 2, 4, false, [], am_noM), (.iload_n 2, 5, true, [], am_noM), (.aload_n 0, 6, false, [], am_noM), (.getfield 462, 9, false, [12, 87, 6118], am_noM), am_ce0, am_ce0, (.if_icmp .lt 11, 12, false, [20], am_noM), am_ce0, am_ce0, (.iload_n 2, 13, false, [], am_noM), (.aload_n 0, 14, false, [], am_noM), (.getfield 217, 17, false, [12, 25, 6056], am_noM), am_ce0],
  [am_ce0, (.if_icmp .ge 48, 20, false, [65], am_noM), am_ce0, am_ce0, (.iload_n 1, 21, false, [], am_noM), (.iload_n 2, 22, false, [], am_noM), (.aload_n 0, 23, false, [], am_noM), (.getfield 462, 26, false, [12, 87, 6118], am_noM), am_ce0, am_ce0, (.if_icmp .ge 29, 29, false, [55], am_noM), am_ce0, am_ce0, (.iload_n 2, 30, false, [], am_noM), (.aload_n 0, 31, false, [], am_noM), (.getfield 217, 34, false, [12, 25, 6056], am_noM)],
  [am_ce0, am_ce0, (.if_icmp .ge 21, 37, false, [55], am_noM), am_ce0, am_ce0, (.aload_n 0, 38, false, [], am_noM), (.getfield 166, 41, false, [12, 85, 6116], am_noM), am_ce0, am_ce0, (.iload_n 2, 42, false, [], am_noM), (.iaload, 43, false, [], am_noM), (.aload_n 0, 44, false, [], am_noM), (.getfield 43, 47, false, [12, 19, 6050], am_noM), am_ce0, am_ce0, (.iload_n 2, 48, false, [], am_noM)],
  [(.iaload, 49, false, [], am_noM), (.invokestatic 431, 52, false, [0, 2, 0, 0, 8081, 8082, 1013, 8083], mX12_far), am_ce0, am_ce0, (.goto 5, 55, false, [57], am_noM), am_ce0, am_ce0, (.bipush 100, 57, false, [], am_noM), am_ce0, (.iadd, 58, false, [], am_noM), (.istore_n 1, 59, false, [], am_noM), (.iinc 2 1, 62, false, [], am_noM), am_ce0, am_ce0, (.goto (-58), 65, false, [4], am_noM), am_ce0],
  [am_ce0, (.iload_n 1, 66, false, [], am_noM), (.ireturn, 67, false, [0], am_noM)]]
def kX12_lay : List (List CE) := [[(.aload_n 0, 1, false, [], am_noM), (.iconst 0, 2, false, [], am_noM), (.putfield 172, 5, false, [12, 0, 6031], am_noM), am_ce0, am_ce0, (.aload_n 0, 6, false, [], am_noM), (.invokevirtual 465, 9, false, [1, 12, 0, 0, 8116, 8118, 98, 1013, 8119], mX12_takeTicks), am_ce0, am_ce0, (.ifCond .eq 19, 12, false, [28], am_noM), am_ce0, am_ce0, (.iload_n 1, 13, false, [], am_noM), (.iconst 1, 14, false, [], am_noM), (.iconst 4, 15, false, [], am_noM), (.invokestatic 186, 18, false, [0, 3, 0, 0, 7081, 7082, 1013, 7083], mX12_isIn)],
  [am_ce0, am_ce0, (.ifCond .eq 10, 21, false, [28], am_noM), am_ce0, am_ce0, (.aload_n 0, 22, false, [], am_noM), (.getfield 183, 25, false, [12, 13, 6044], am_noM), am_ce0, am_ce0, (.ifCond .ne 5, 28, false, [30], am_noM), am_ce0, am_ce0, (.iconst (-1), 29, false, [], am_noM), (.ireturn, 30, false, [0], am_noM), (.aload_n 0, 31, false, [], am_noM), (.getfield 183, 34, false, [12, 13, 6044], am_noM)],
  [am_ce0, am_ce0, (.bipush 8, 36, false, [], am_noM), am_ce0, (.if_icmp .ge 10, 39, false, [46], am_noM), am_ce0, am_ce0, (.aload_n 0, 40, false, [], am_noM), (.getfield 183, 43, false, [12, 13, 6044], am_noM), am_ce0, am_ce0, (.goto 5, 46, false, [48], am_noM), am_ce0, am_ce0, (.bipush 8, 48, false, [], am_noM), am_ce0],
  [(.istore_n 2, 49, false, [], am_noM), (.iconst 1, 50, false, [], am_noM), (.istore_n 3, 51, false, [], am_noM), (.iconst 0, 52, false, [], am_noM), (.istore 4, 54, false, [], am_noM), am_ce0, (.iload 4, 56, true, [], am_noM), am_ce0, (.iload_n 1, 57, false, [], am_noM), (.if_icmp .ge 13, 60, false, [70], am_noM), am_ce0, am_ce0, (.iload_n 3, 61, false, [], am_noM), (.iload_n 2, 62, false, [], am_noM), (.imul, 63, false, [], am_noM), (.istore_n 3, 64, false, [], am_noM)],
  [(.iinc 4 1, 67, false, [], am_noM), am_ce0, am_ce0, (.goto (-13), 70, false, [54], am_noM), am_ce0, am_ce0, (.iconst (-1), 71, false, [], am_noM), (.istore 4, 73, false, [], am_noM), am_ce0, (.aload_n 0, 74, false, [], am_noM), (.getfield 28, 77, false, [12, 8, 6039], am_noM), am_ce0, am_ce0, (.iconst 4, 78, false, [], am_noM), (.iload_n 1, 79, false, [], am_noM), (.iastore, 80, false, [], am_noM)],
  [(.iconst 0, 81, false, [], am_noM), (.istore 5, 83, false, [], am_noM), am_ce0, (.iload 5, 85, true, [], am_noM), am_ce0, (.iload_n 3, 86, false, [], am_noM), (.if_icmp .ge 141, 89, false, [227], am_noM), am_ce0, am_ce0, (.iload 5, 91, false, [], am_noM), am_ce0, (.istore 6, 93, false, [], am_noM), am_ce0, (.iload_n 1, 94, false, [], am_noM), (.iconst 1, 95, false, [], am_noM), (.isub, 96, false, [], am_noM)],
  [(.istore 7, 98, false, [], am_noM), am_ce0, (.iload 7, 100, true, [], am_noM), am_ce0, (.ifCond .lt 57, 103, false, [157], am_noM), am_ce0, am_ce0, (.aload_n 0, 104, false, [], am_noM), (.getfield 31, 107, false, [12, 9, 6040], am_noM), am_ce0, am_ce0, (.bipush 48, 109, false, [], am_noM), am_ce0, (.iload 7, 111, false, [], am_noM), am_ce0, (.iadd, 112, false, [], am_noM)],
  [(.iload 6, 114, false, [], am_noM), am_ce0, (.iload_n 2, 115, false, [], am_noM), (.irem, 116, false, [], am_noM), (.iastore, 117, false, [], am_noM), (.aload_n 0, 118, false, [], am_noM), (.getfield 34, 121, false, [12, 10, 6041], am_noM), am_ce0, am_ce0, (.bipush 48, 123, false, [], am_noM), am_ce0, (.iload 7, 125, false, [], am_noM), am_ce0, (.iadd, 126, false, [], am_noM), (.iload 7, 128, false, [], am_noM), am_ce0],
  [(.iload_n 1, 129, false, [], am_noM), (.iconst 1, 130, false, [], am_noM), (.isub, 131, false, [], am_noM), (.if_icmp .ne 9, 134, false, [140], am_noM), am_ce0, am_ce0, (.sipush 255, 137, false, [], am_noM), am_ce0, am_ce0, (.goto 7, 140, false, [144], am_noM), am_ce0, am_ce0, (.iload 7, 142, false, [], am_noM), am_ce0, (.iconst 1, 143, false, [], am_noM), (.iadd, 144, false, [], am_noM)],
  [(.iastore, 145, false, [], am_noM), (.iload 6, 147, false, [], am_noM), am_ce0, (.iload_n 2, 148, false, [], am_noM), (.idiv, 149, false, [], am_noM), (.istore 6, 151, false, [], am_noM), am_ce0, (.iinc 7 (-1), 154, false, [], am_noM), am_ce0, am_ce0, (.goto (-56), 157, false, [98], am_noM), am_ce0, am_ce0, (.aload_n 0, 158, false, [], am_noM), (.iconst 4, 159, false, [], am_noM), (.iconst 0, 160, false, [], am_noM)],
  [(.invokevirtual 233, 163, false, [3, 12, 0, 0, 7099, 7101, 52, 1013, 7102], mX12_follow), am_ce0, am_ce0, (.aload_n 0, 164, false, [], am_noM), (.invokevirtual 468, 167, false, [1, 12, 0, 0, 8120, 8122, 99, 1013, 8123], mX12_err), am_ce0, am_ce0, (.istore 7, 169, false, [], am_noM), am_ce0, (.iload 4, 171, false, [], am_noM), am_ce0, (.iconst (-1), 172, false, [], am_noM), (.if_icmp .eq 13, 175, false, [185], am_noM), am_ce0, am_ce0, (.iload 7, 177, false, [], am_noM)],
  [am_ce0, (.iload 4, 179, false, [], am_noM), am_ce0, (.if_icmp .lt 6, 182, false, [185], am_noM), am_ce0, am_ce0, (.goto 39, 185, false, [221], am_noM), am_ce0, am_ce0, (.iload 7, 187, false, [], am_noM), am_ce0, (.istore 4, 189, false, [], am_noM), am_ce0, (.iconst 0, 190, false, [], am_noM), (.istore 8, 192, false, [], am_noM), am_ce0],
  [(.iload 8, 194, true, [], am_noM), am_ce0, (.iload_n 1, 195, false, [], am_noM), (.if_icmp .ge 26, 198, false, [221], am_noM), am_ce0, am_ce0, (.aload_n 0, 199, false, [], am_noM), (.getfield 169, 202, false, [12, 86, 6117], am_noM), am_ce0, am_ce0, (.iload 8, 204, false, [], am_noM), am_ce0, (.aload_n 0, 205, false, [], am_noM), (.getfield 31, 208, false, [12, 9, 6040], am_noM), am_ce0, am_ce0],
  [(.bipush 48, 210, false, [], am_noM), am_ce0, (.iload 8, 212, false, [], am_noM), am_ce0, (.iadd, 213, false, [], am_noM), (.iaload, 214, false, [], am_noM), (.iastore, 215, false, [], am_noM), (.iinc 8 1, 218, false, [], am_noM), am_ce0, am_ce0, (.goto (-26), 221, false, [192], am_noM), am_ce0, am_ce0, (.iinc 5 1, 224, false, [], am_noM), am_ce0, am_ce0],
  [(.goto (-141), 227, false, [83], am_noM), am_ce0, am_ce0, (.aload_n 0, 228, false, [], am_noM), (.iload_n 1, 229, false, [], am_noM), (.putfield 471, 232, false, [12, 88, 6119], am_noM), am_ce0, am_ce0, (.iload 4, 234, false, [], am_noM), am_ce0, (.ireturn, 235, false, [0], am_noM)]]
def kX12_laid : List (List CE) := [[(.aload_n 0, 1, false, [], am_noM), (.iconst 0, 2, false, [], am_noM), (.putfield 172, 5, false, [12, 0, 6031], am_noM), am_ce0, am_ce0, (.iload_n 1, 6, false, [], am_noM), (.ifCond .lt 20, 9, false, [26], am_noM), am_ce0, am_ce0, (.iload_n 1, 10, false, [], am_noM), (.aload_n 0, 11, false, [], am_noM), (.getfield 471, 14, false, [12, 88, 6119], am_noM), am_ce0, am_ce0, (.if_icmp .ge 12, 17, false, [26], am_noM), am_ce0],
  [am_ce0, (.aload_n 0, 18, false, [], am_noM), (.getfield 169, 21, false, [12, 86, 6117], am_noM), am_ce0, am_ce0, (.iload_n 1, 22, false, [], am_noM), (.iaload, 23, false, [], am_noM), (.goto 4, 26, false, [27], am_noM), am_ce0, am_ce0, (.iconst (-1), 27, false, [], am_noM), (.ireturn, 28, false, [0], am_noM)]]
def kX12_explains : List (List CE) := [[(.iconst 0, 1, false, [], am_noM), (.istore_n 1, 2, false, [], am_noM), (.iload_n 1, 3, true, [], am_noM), (.aload_n 0, 4, false, [], am_noM), (.getfield 462, 7, false, [12, 87, 6118], am_noM), am_ce0, am_ce0, (.if_icmp .ge 50, 10, false, [57], am_noM), am_ce0, am_ce0, (.iconst 0, 11, false, [], am_noM), (.istore_n 2, 12, false, [], am_noM), (.iconst 0, 13, false, [], am_noM), (.istore_n 3, 14, false, [], am_noM), (.iload_n 3, 15, true, [], am_noM), (.aload_n 0, 16, false, [], am_noM)],
  [(.getfield 217, 19, false, [12, 25, 6056], am_noM), am_ce0, am_ce0, (.if_icmp .ge 26, 22, false, [45], am_noM), am_ce0, am_ce0, (.aload_n 0, 23, false, [], am_noM), (.getfield 43, 26, false, [12, 19, 6050], am_noM), am_ce0, am_ce0, (.iload_n 3, 27, false, [], am_noM), (.iaload, 28, false, [], am_noM), (.aload_n 0, 29, false, [], am_noM), (.getfield 166, 32, false, [12, 85, 6116], am_noM), am_ce0, am_ce0],
  [(.iload_n 1, 33, false, [], am_noM), (.iaload, 34, false, [], am_noM), (.if_icmp .ne 5, 37, false, [39], am_noM), am_ce0, am_ce0, (.iconst 1, 38, false, [], am_noM), (.istore_n 2, 39, false, [], am_noM), (.iinc 3 1, 42, false, [], am_noM), am_ce0, am_ce0, (.goto (-28), 45, false, [14], am_noM), am_ce0, am_ce0, (.iload_n 2, 46, false, [], am_noM), (.ifCond .ne 5, 49, false, [51], am_noM), am_ce0],
  [am_ce0, (.iconst 0, 50, false, [], am_noM), (.ireturn, 51, false, [1], am_noM), (.iinc 1 1, 54, false, [], am_noM), am_ce0, am_ce0, (.goto (-52), 57, false, [2], am_noM), am_ce0, am_ce0, (.iconst 1, 58, false, [], am_noM), (.ireturn, 59, false, [1], am_noM)]]
def kX12_worn : List (List CE) := [[(.aload_n 0, 1, false, [], am_noM), (.iconst 0, 2, false, [], am_noM), (.putfield 172, 5, false, [12, 0, 6031], am_noM), am_ce0, am_ce0, (.aload_n 0, 6, false, [], am_noM), (.invokevirtual 465, 9, false, [1, 12, 0, 0, 8116, 8118, 98, 1013, 8119], mX12_takeTicks), am_ce0, am_ce0, (.ifCond .eq 11, 12, false, [20], am_noM), am_ce0, am_ce0, (.aload_n 0, 13, false, [], am_noM), (.iload_n 1, 14, false, [], am_noM), (.invokevirtual 230, 17, false, [2, 12, 0, 0, 7095, 7097, 51, 1013, 7098], mX12_isRun), am_ce0],
  [am_ce0, (.ifCond .ne 5, 20, false, [22], am_noM), am_ce0, am_ce0, (.iconst (-1), 21, false, [], am_noM), (.ireturn, 22, false, [0], am_noM), (.bipush (-2), 24, false, [], am_noM), am_ce0, (.istore_n 2, 25, false, [], am_noM), (.iconst 0, 26, false, [], am_noM), (.istore_n 3, 27, false, [], am_noM), (.iload_n 3, 28, true, [], am_noM), (.iconst 1, 29, false, [], am_noM), (.aload_n 0, 30, false, [], am_noM), (.getfield 28, 33, false, [12, 8, 6039], am_noM), am_ce0],
  [am_ce0, (.iload_n 1, 34, false, [], am_noM), (.iaload, 35, false, [], am_noM), (.ishl, 36, false, [], am_noM), (.if_icmp .ge 115, 39, false, [151], am_noM), am_ce0, am_ce0, (.iload_n 2, 40, false, [], am_noM), (.ifCond .ge 7, 43, false, [47], am_noM), am_ce0, am_ce0, (.iconst 0, 44, false, [], am_noM), (.goto 6, 47, false, [50], am_noM), am_ce0, am_ce0, (.iload_n 3, 48, false, [], am_noM)],
  [(.iload_n 2, 49, false, [], am_noM), (.ixor, 50, false, [], am_noM), (.istore 4, 52, false, [], am_noM), am_ce0, (.iload_n 2, 53, false, [], am_noM), (.ifCond .lt 39, 56, false, [92], am_noM), am_ce0, am_ce0, (.iload_n 3, 57, false, [], am_noM), (.invokestatic 422, 60, false, [0, 1, 0, 0, 8058, 8059, 1013, 8060], mX12_bitsOf), am_ce0, am_ce0, (.iload_n 2, 61, false, [], am_noM), (.invokestatic 422, 64, false, [0, 1, 0, 0, 8058, 8059, 1013, 8060], mX12_bitsOf), am_ce0, am_ce0],
  [(.if_icmp .gt 81, 67, false, [145], am_noM), am_ce0, am_ce0, (.iload_n 3, 68, false, [], am_noM), (.invokestatic 422, 71, false, [0, 1, 0, 0, 8058, 8059, 1013, 8060], mX12_bitsOf), am_ce0, am_ce0, (.iload_n 2, 72, false, [], am_noM), (.invokestatic 422, 75, false, [0, 1, 0, 0, 8058, 8059, 1013, 8060], mX12_bitsOf), am_ce0, am_ce0, (.if_icmp .ne 17, 78, false, [92], am_noM), am_ce0, am_ce0, (.iload_n 3, 79, false, [], am_noM), (.iload 4, 81, false, [], am_noM)],
  [am_ce0, (.iload 4, 83, false, [], am_noM), am_ce0, (.ineg, 84, false, [], am_noM), (.iand, 85, false, [], am_noM), (.iand, 86, false, [], am_noM), (.ifCond .ne 6, 89, false, [92], am_noM), am_ce0, am_ce0, (.goto 56, 92, false, [145], am_noM), am_ce0, am_ce0, (.iconst 0, 93, false, [], am_noM), (.istore 5, 95, false, [], am_noM), am_ce0, (.iload 5, 97, true, [], am_noM)],
  [am_ce0, (.aload_n 0, 98, false, [], am_noM), (.getfield 28, 101, false, [12, 8, 6039], am_noM), am_ce0, am_ce0, (.iload_n 1, 102, false, [], am_noM), (.iaload, 103, false, [], am_noM), (.if_icmp .ge 27, 106, false, [130], am_noM), am_ce0, am_ce0, (.aload_n 0, 107, false, [], am_noM), (.getfield 40, 110, false, [12, 12, 6043], am_noM), am_ce0, am_ce0, (.bipush 12, 112, false, [], am_noM), am_ce0],
  [(.iload_n 1, 113, false, [], am_noM), (.imul, 114, false, [], am_noM), (.iload 5, 116, false, [], am_noM), am_ce0, (.iadd, 117, false, [], am_noM), (.iload_n 3, 118, false, [], am_noM), (.iload 5, 120, false, [], am_noM), am_ce0, (.ishr, 121, false, [], am_noM), (.iconst 1, 122, false, [], am_noM), (.iand, 123, false, [], am_noM), (.iastore, 124, false, [], am_noM), (.iinc 5 1, 127, false, [], am_noM), am_ce0, am_ce0, (.goto (-32), 130, false, [95], am_noM)],
  [am_ce0, am_ce0, (.aload_n 0, 131, false, [], am_noM), (.iload_n 1, 132, false, [], am_noM), (.iconst 0, 133, false, [], am_noM), (.invokevirtual 233, 136, false, [3, 12, 0, 0, 7099, 7101, 52, 1013, 7102], mX12_follow), am_ce0, am_ce0, (.aload_n 0, 137, false, [], am_noM), (.invokevirtual 474, 140, false, [1, 12, 0, 0, 8132, 8134, 100, 1013, 8135], mX12_explains), am_ce0, am_ce0, (.ifCond .eq 5, 143, false, [145], am_noM), am_ce0, am_ce0, (.iload_n 3, 144, false, [], am_noM)],
  [(.istore_n 2, 145, false, [], am_noM), (.iinc 3 1, 148, false, [], am_noM), am_ce0, am_ce0, (.goto (-121), 151, false, [27], am_noM), am_ce0, am_ce0, (.iconst 0, 152, false, [], am_noM), (.istore_n 3, 153, false, [], am_noM), (.iload_n 3, 154, true, [], am_noM), (.bipush 12, 156, false, [], am_noM), am_ce0, (.if_icmp .ge 21, 159, false, [177], am_noM), am_ce0, am_ce0, (.aload_n 0, 160, false, [], am_noM)],
  [(.getfield 40, 163, false, [12, 12, 6043], am_noM), am_ce0, am_ce0, (.bipush 12, 165, false, [], am_noM), am_ce0, (.iload_n 1, 166, false, [], am_noM), (.imul, 167, false, [], am_noM), (.iload_n 3, 168, false, [], am_noM), (.iadd, 169, false, [], am_noM), (.iconst 0, 170, false, [], am_noM), (.iastore, 171, false, [], am_noM), (.iinc 3 1, 174, false, [], am_noM), am_ce0, am_ce0, (.goto (-21), 177, false, [153], am_noM), am_ce0],
  [am_ce0, (.iload_n 2, 178, false, [], am_noM), (.ireturn, 179, false, [0], am_noM)]]
def kX12_count : List (List CE) := [[(.aload_n 0, 1, false, [], am_noM), (.iconst 0, 2, false, [], am_noM), (.putfield 172, 5, false, [12, 0, 6031], am_noM), am_ce0, am_ce0, (.iconst 0, 6, false, [], am_noM), (.istore_n 2, 7, false, [], am_noM), (.iconst 0, 8, false, [], am_noM), (.istore_n 3, 9, false, [], am_noM), (.iload_n 3, 10, true, [], am_noM), (.iconst 4, 11, false, [], am_noM), (.if_icmp .ge 21, 14, false, [32], am_noM), am_ce0, am_ce0, (.aload_n 0, 15, false, [], am_noM), (.getfield 28, 18, false, [12, 8, 6039], am_noM)],
  [am_ce0, am_ce0, (.iload_n 3, 19, false, [], am_noM), (.iaload, 20, false, [], am_noM), (.ifCond .le 6, 23, false, [26], am_noM), am_ce0, am_ce0, (.iinc 2 1, 26, false, [], am_noM), am_ce0, am_ce0, (.iinc 3 1, 29, false, [], am_noM), am_ce0, am_ce0, (.goto (-20), 32, false, [9], am_noM), am_ce0, am_ce0],
  [(.iload_n 1, 33, false, [], am_noM), (.tableswitch 66 0 5 #[39, 44, 46, 51, 56, 61], 72, false, [99, 0, 72, 1, 77, 2, 79, 3, 84, 4, 89, 5, 94], am_noM), am_ce0, am_ce0, am_ce0, am_ce0, am_ce0, am_ce0, am_ce0, am_ce0, am_ce0, am_ce0, am_ce0, am_ce0, am_ce0, am_ce0],
  [am_ce0, am_ce0, am_ce0, am_ce0, am_ce0, am_ce0, am_ce0, am_ce0, am_ce0, am_ce0, am_ce0, am_ce0, am_ce0, am_ce0, am_ce0, am_ce0],
  [am_ce0, am_ce0, am_ce0, am_ce0, am_ce0, am_ce0, am_ce0, am_ce0, (.aload_n 0, 73, false, [], am_noM), (.getfield 183, 76, false, [12, 13, 6044], am_noM), am_ce0, am_ce0, (.ireturn, 77, false, [0], am_noM), (.iload_n 2, 78, false, [], am_noM), (.ireturn, 79, false, [0], am_noM), (.aload_n 0, 80, false, [], am_noM)],
  [(.getfield 243, 83, false, [12, 34, 6065], am_noM), am_ce0, am_ce0, (.ireturn, 84, false, [0], am_noM), (.aload_n 0, 85, false, [], am_noM), (.getfield 246, 88, false, [12, 35, 6066], am_noM), am_ce0, am_ce0, (.ireturn, 89, false, [0], am_noM), (.aload_n 0, 90, false, [], am_noM), (.getfield 383, 93, false, [12, 60, 6091], am_noM), am_ce0, am_ce0, (.ireturn, 94, false, [0], am_noM), (.aload_n 0, 95, false, [], am_noM), (.getfield 176, 98, false, [12, 2, 6033], am_noM)],
  [am_ce0, am_ce0, (.ireturn, 99, false, [0], am_noM), (.iconst (-1), 100, false, [], am_noM), (.ireturn, 101, false, [0], am_noM)]]
def kL_knock : List (List CE) := [[(.aload_n 3, 1, false, [], am_noM), (.iconst 0, 2, false, [], am_noM), (.aload_n 0, 3, false, [], am_noM), (.iload_n 1, 4, false, [], am_noM), (.iload_n 2, 5, false, [], am_noM), (.invokevirtual 7, 8, false, [3, 11, 0, 0, 5166, 5167, 5168, 1001, 5169], mX11_knock), am_ce0, am_ce0, (.i2l, 9, false, [], am_noM), (.lastore, 10, false, [], am_noM), (.goto 7, 13, false, [17], am_noM), am_ce0, am_ce0, (.astore 4, 15, false, [], am_noM), am_ce0, (.iconst 1, 16, false, [], am_noM)],
  [(.ireturn, 17, false, [0], am_noM), (.iconst 0, 18, false, [], am_noM), (.ireturn, 19, false, [0], am_noM)]]
def kL_event : List (List CE) := [[(.aload_n 3, 1, false, [], am_noM), (.iconst 0, 2, false, [], am_noM), (.aload_n 0, 3, false, [], am_noM), (.iload_n 1, 4, false, [], am_noM), (.iload_n 2, 5, false, [], am_noM), (.invokevirtual 15, 8, false, [3, 11, 0, 0, 6002, 6003, 6004, 1001, 6005], mX11_event), am_ce0, am_ce0, (.i2l, 9, false, [], am_noM), (.lastore, 10, false, [], am_noM), (.goto 7, 13, false, [17], am_noM), am_ce0, am_ce0, (.astore 4, 15, false, [], am_noM), am_ce0, (.iconst 1, 16, false, [], am_noM)],
  [(.ireturn, 17, false, [0], am_noM), (.iconst 0, 18, false, [], am_noM), (.ireturn, 19, false, [0], am_noM)]]
def kL_sound : List (List CE) := [[(.aload_n 3, 1, false, [], am_noM), (.iconst 0, 2, false, [], am_noM), (.aload_n 0, 3, false, [], am_noM), (.iload_n 1, 4, false, [], am_noM), (.iload_n 2, 5, false, [], am_noM), (.invokevirtual 18, 8, false, [3, 11, 0, 0, 6015, 6016, 6017, 1001, 6018], mX11_sound), am_ce0, am_ce0, (.i2l, 9, false, [], am_noM), (.lastore, 10, false, [], am_noM), (.goto 7, 13, false, [17], am_noM), am_ce0, am_ce0, (.astore 4, 15, false, [], am_noM), am_ce0, (.iconst 1, 16, false, [], am_noM)],
  [(.ireturn, 17, false, [0], am_noM), (.iconst 0, 18, false, [], am_noM), (.ireturn, 19, false, [0], am_noM)]]
def kL_law : List (List CE) := [[(.new 8, 3, false, [11, 12, 1024, 1025, 1001], am_noM), am_ce0, am_ce0, (.dup, 4, false, [], am_noM), (.invokespecial 21, 7, false, [0, 1, 165, 4122, 1026, 1027, 1001, 1028], mX11_init), am_ce0, am_ce0, (.astore_n 1, 8, false, [], am_noM), (.new 22, 11, false, [12, 89, 6024, 6025, 1013], am_noM), am_ce0, am_ce0, (.dup, 12, false, [], am_noM), (.invokespecial 24, 15, false, [0, 1, 53, 515402, 6026, 6027, 1013, 6028], mX12_init), am_ce0, am_ce0, (.astore_n 2, 16, false, [], am_noM)],
  [(.iconst 1, 17, false, [], am_noM), (.newarray .long, 19, false, [116, 1, 7060], am_noM), am_ce0, (.astore_n 3, 20, false, [], am_noM), (.iconst 0, 21, false, [], am_noM), (.istore 4, 23, false, [], am_noM), am_ce0, (.iload 4, 25, true, [], am_noM), am_ce0, (.aload_n 0, 26, false, [], am_noM), (.arraylength, 27, false, [], am_noM), (.bipush 6, 29, false, [], am_noM), am_ce0, (.isub, 30, false, [], am_noM), (.if_icmp .gt 919, 33, false, [949], am_noM), am_ce0],
  [am_ce0, (.aload_n 0, 34, false, [], am_noM), (.iload 4, 36, false, [], am_noM), am_ce0, (.iaload, 37, false, [], am_noM), (.bipush 31, 39, false, [], am_noM), am_ce0, (.iand, 40, false, [], am_noM), (.tableswitch 903 0 21 #[104, 177, 202, 275, 300, 349, 417, 478, 503, 516, 529, 597, 610, 678, 703, 716, 741, 778, 803, 828, 853, 878], 144, false, [943, 0, 144, 1, 217, 2, 242, 3, 315, 4, 340, 5, 389, 6, 457, 7, 518, 8, 543, 9, 556, 10, 569, 11, 637, 12, 650, 13, 718, 14, 743, 15, 756, 16, 781, 17, 818, 18, 843, 19, 868, 20, 893, 21, 918], am_noM), am_ce0, am_ce0, am_ce0, am_ce0, am_ce0, am_ce0, am_ce0],
  [am_ce0, am_ce0, am_ce0, am_ce0, am_ce0, am_ce0, am_ce0, am_ce0, am_ce0, am_ce0, am_ce0, am_ce0, am_ce0, am_ce0, am_ce0, am_ce0],
  [am_ce0, am_ce0, am_ce0, am_ce0, am_ce0, am_ce0, am_ce0, am_ce0, am_ce0, am_ce0, am_ce0, am_ce0, am_ce0, am_ce0, am_ce0, am_ce0],
  [am_ce0, am_ce0, am_ce0, am_ce0, am_ce0, am_ce0, am_ce0, am_ce0, am_ce0, am_ce0, am_ce0, am_ce0, am_ce0, am_ce0, am_ce0, am_ce0],
  [am_ce0, am_ce0, am_ce0, am_ce0, am_ce0, am_ce0, am_ce0, am_ce0, am_ce0, am_ce0, am_ce0, am_ce0, am_ce0, am_ce0, am_ce0, am_ce0],
  [am_ce0, am_ce0, am_ce0, am_ce0, am_ce0, am_ce0, am_ce0, am_ce0, am_ce0, am_ce0, am_ce0, am_ce0, am_ce0, am_ce0, am_ce0, am_ce0],
  [am_ce0, am_ce0, am_ce0, am_ce0, am_ce0, am_ce0, am_ce0, am_ce0, am_ce0, am_ce0, am_ce0, am_ce0, am_ce0, am_ce0, am_ce0, am_ce0],
  [(.aload_n 1, 145, false, [], am_noM), (.aload_n 0, 146, false, [], am_noM), (.iload 4, 148, false, [], am_noM), am_ce0, (.iconst 1, 149, false, [], am_noM), (.iadd, 150, false, [], am_noM), (.iaload, 151, false, [], am_noM), (.aload_n 0, 152, false, [], am_noM), (.iload 4, 154, false, [], am_noM), am_ce0, (.iconst 2, 155, false, [], am_noM), (.iadd, 156, false, [], am_noM), (.iaload, 157, false, [], am_noM), (.aload_n 0, 158, false, [], am_noM), (.iload 4, 160, false, [], am_noM), am_ce0],
  [(.iconst 3, 161, false, [], am_noM), (.iadd, 162, false, [], am_noM), (.iaload, 163, false, [], am_noM), (.aload_n 0, 164, false, [], am_noM), (.iload 4, 166, false, [], am_noM), am_ce0, (.iconst 4, 167, false, [], am_noM), (.iadd, 168, false, [], am_noM), (.iaload, 169, false, [], am_noM), (.aload_n 0, 170, false, [], am_noM), (.iload 4, 172, false, [], am_noM), am_ce0, (.iconst 5, 173, false, [], am_noM), (.iadd, 174, false, [], am_noM), (.iaload, 175, false, [], am_noM), (.invokevirtual 25, 178, false, [6, 11, 0, 0, 2237, 2238, 2239, 1001, 3000], mX11_feed)],
  [am_ce0, am_ce0, (.aload_n 2, 179, false, [], am_noM), (.aload_n 0, 180, false, [], am_noM), (.iload 4, 182, false, [], am_noM), am_ce0, (.iconst 1, 183, false, [], am_noM), (.iadd, 184, false, [], am_noM), (.iaload, 185, false, [], am_noM), (.aload_n 0, 186, false, [], am_noM), (.iload 4, 188, false, [], am_noM), am_ce0, (.iconst 2, 189, false, [], am_noM), (.iadd, 190, false, [], am_noM), (.iaload, 191, false, [], am_noM), (.aload_n 0, 192, false, [], am_noM)],
  [(.iload 4, 194, false, [], am_noM), am_ce0, (.iconst 3, 195, false, [], am_noM), (.iadd, 196, false, [], am_noM), (.iaload, 197, false, [], am_noM), (.aload_n 0, 198, false, [], am_noM), (.iload 4, 200, false, [], am_noM), am_ce0, (.iconst 4, 201, false, [], am_noM), (.iadd, 202, false, [], am_noM), (.iaload, 203, false, [], am_noM), (.aload_n 0, 204, false, [], am_noM), (.iload 4, 206, false, [], am_noM), am_ce0, (.iconst 5, 207, false, [], am_noM), (.iadd, 208, false, [], am_noM)],
  [(.iaload, 209, false, [], am_noM), (.invokevirtual 29, 212, false, [6, 12, 0, 0, 7065, 7066, 7067, 1013, 7068], mX12_feed), am_ce0, am_ce0, (.if_icmp .eq 731, 215, false, [943], am_noM), am_ce0, am_ce0, (.iconst 0, 216, false, [], am_noM), (.ireturn, 217, false, [1], am_noM), (.aload_n 1, 218, false, [], am_noM), (.aload_n 0, 219, false, [], am_noM), (.iload 4, 221, false, [], am_noM), am_ce0, (.iconst 1, 222, false, [], am_noM), (.iadd, 223, false, [], am_noM), (.iaload, 224, false, [], am_noM)],
  [(.invokevirtual 30, 227, false, [2, 11, 0, 0, 3009, 3010, 3011, 1001, 3012], mX11_end), am_ce0, am_ce0, (.aload_n 2, 228, false, [], am_noM), (.aload_n 0, 229, false, [], am_noM), (.iload 4, 231, false, [], am_noM), am_ce0, (.iconst 1, 232, false, [], am_noM), (.iadd, 233, false, [], am_noM), (.iaload, 234, false, [], am_noM), (.invokevirtual 34, 237, false, [2, 12, 0, 0, 7073, 7074, 7075, 1013, 7076], mX12_end), am_ce0, am_ce0, (.if_icmp .eq 706, 240, false, [943], am_noM), am_ce0, am_ce0],
  [(.iconst 0, 241, false, [], am_noM), (.ireturn, 242, false, [1], am_noM), (.aload_n 1, 243, false, [], am_noM), (.aload_n 0, 244, false, [], am_noM), (.iload 4, 246, false, [], am_noM), am_ce0, (.iconst 1, 247, false, [], am_noM), (.iadd, 248, false, [], am_noM), (.iaload, 249, false, [], am_noM), (.aload_n 0, 250, false, [], am_noM), (.iload 4, 252, false, [], am_noM), am_ce0, (.iconst 2, 253, false, [], am_noM), (.iadd, 254, false, [], am_noM), (.iaload, 255, false, [], am_noM), (.aload_n 0, 256, false, [], am_noM)],
  [(.iload 4, 258, false, [], am_noM), am_ce0, (.iconst 3, 259, false, [], am_noM), (.iadd, 260, false, [], am_noM), (.iaload, 261, false, [], am_noM), (.aload_n 0, 262, false, [], am_noM), (.iload 4, 264, false, [], am_noM), am_ce0, (.iconst 4, 265, false, [], am_noM), (.iadd, 266, false, [], am_noM), (.iaload, 267, false, [], am_noM), (.aload_n 0, 268, false, [], am_noM), (.iload 4, 270, false, [], am_noM), am_ce0, (.iconst 5, 271, false, [], am_noM), (.iadd, 272, false, [], am_noM)],
  [(.iaload, 273, false, [], am_noM), (.invokevirtual 35, 276, false, [6, 11, 1, 5, 3017, 3018, 3019, 1001, 3020], mX11_board), am_ce0, am_ce0, (.aload_n 2, 277, false, [], am_noM), (.aload_n 0, 278, false, [], am_noM), (.iload 4, 280, false, [], am_noM), am_ce0, (.iconst 1, 281, false, [], am_noM), (.iadd, 282, false, [], am_noM), (.iaload, 283, false, [], am_noM), (.aload_n 0, 284, false, [], am_noM), (.iload 4, 286, false, [], am_noM), am_ce0, (.iconst 2, 287, false, [], am_noM), (.iadd, 288, false, [], am_noM)],
  [(.iaload, 289, false, [], am_noM), (.aload_n 0, 290, false, [], am_noM), (.iload 4, 292, false, [], am_noM), am_ce0, (.iconst 3, 293, false, [], am_noM), (.iadd, 294, false, [], am_noM), (.iaload, 295, false, [], am_noM), (.aload_n 0, 296, false, [], am_noM), (.iload 4, 298, false, [], am_noM), am_ce0, (.iconst 4, 299, false, [], am_noM), (.iadd, 300, false, [], am_noM), (.iaload, 301, false, [], am_noM), (.aload_n 0, 302, false, [], am_noM), (.iload 4, 304, false, [], am_noM), am_ce0],
  [(.iconst 5, 305, false, [], am_noM), (.iadd, 306, false, [], am_noM), (.iaload, 307, false, [], am_noM), (.invokevirtual 38, 310, false, [6, 12, 0, 0, 7077, 7078, 7079, 1013, 7080], mX12_board), am_ce0, am_ce0, (.if_icmp .eq 633, 313, false, [943], am_noM), am_ce0, am_ce0, (.iconst 0, 314, false, [], am_noM), (.ireturn, 315, false, [1], am_noM), (.aload_n 1, 316, false, [], am_noM), (.aload_n 0, 317, false, [], am_noM), (.iload 4, 319, false, [], am_noM), am_ce0, (.iconst 1, 320, false, [], am_noM)],
  [(.iadd, 321, false, [], am_noM), (.iaload, 322, false, [], am_noM), (.invokevirtual 39, 325, false, [2, 11, 0, 0, 3054, 3055, 3056, 1001, 3057], mX11_run), am_ce0, am_ce0, (.aload_n 2, 326, false, [], am_noM), (.aload_n 0, 327, false, [], am_noM), (.iload 4, 329, false, [], am_noM), am_ce0, (.iconst 1, 330, false, [], am_noM), (.iadd, 331, false, [], am_noM), (.iaload, 332, false, [], am_noM), (.invokevirtual 43, 335, false, [2, 12, 0, 0, 7084, 7085, 7086, 1013, 7087], mX12_run), am_ce0, am_ce0, (.if_icmp .eq 608, 338, false, [943], am_noM)],
  [am_ce0, am_ce0, (.iconst 0, 339, false, [], am_noM), (.ireturn, 340, false, [1], am_noM), (.aload_n 1, 341, false, [], am_noM), (.aload_n 0, 342, false, [], am_noM), (.iload 4, 344, false, [], am_noM), am_ce0, (.iconst 1, 345, false, [], am_noM), (.iadd, 346, false, [], am_noM), (.iaload, 347, false, [], am_noM), (.aload_n 0, 348, false, [], am_noM), (.iload 4, 350, false, [], am_noM), am_ce0, (.iconst 2, 351, false, [], am_noM), (.iadd, 352, false, [], am_noM)],
  [(.iaload, 353, false, [], am_noM), (.aload_n 0, 354, false, [], am_noM), (.iload 4, 356, false, [], am_noM), am_ce0, (.iconst 3, 357, false, [], am_noM), (.iadd, 358, false, [], am_noM), (.iaload, 359, false, [], am_noM), (.invokevirtual 44, 362, false, [4, 11, 0, 0, 3079, 3080, 3081, 1001, 3082], mX11_fall), am_ce0, am_ce0, (.aload_n 2, 363, false, [], am_noM), (.aload_n 0, 364, false, [], am_noM), (.iload 4, 366, false, [], am_noM), am_ce0, (.iconst 1, 367, false, [], am_noM), (.iadd, 368, false, [], am_noM)],
  [(.iaload, 369, false, [], am_noM), (.aload_n 0, 370, false, [], am_noM), (.iload 4, 372, false, [], am_noM), am_ce0, (.iconst 2, 373, false, [], am_noM), (.iadd, 374, false, [], am_noM), (.iaload, 375, false, [], am_noM), (.aload_n 0, 376, false, [], am_noM), (.iload 4, 378, false, [], am_noM), am_ce0, (.iconst 3, 379, false, [], am_noM), (.iadd, 380, false, [], am_noM), (.iaload, 381, false, [], am_noM), (.invokevirtual 48, 384, false, [4, 12, 0, 0, 7091, 7092, 7093, 1013, 7094], mX12_fall), am_ce0, am_ce0],
  [(.if_icmp .eq 559, 387, false, [943], am_noM), am_ce0, am_ce0, (.iconst 0, 388, false, [], am_noM), (.ireturn, 389, false, [1], am_noM), (.aload_n 1, 390, false, [], am_noM), (.aload_n 0, 391, false, [], am_noM), (.iload 4, 393, false, [], am_noM), am_ce0, (.iconst 1, 394, false, [], am_noM), (.iadd, 395, false, [], am_noM), (.iaload, 396, false, [], am_noM), (.aload_n 0, 397, false, [], am_noM), (.iload 4, 399, false, [], am_noM), am_ce0, (.iconst 2, 400, false, [], am_noM)],
  [(.iadd, 401, false, [], am_noM), (.iaload, 402, false, [], am_noM), (.aload_n 3, 403, false, [], am_noM), (.invokestatic 49, 406, false, [9, 4], mL_knock), am_ce0, am_ce0, (.istore 5, 408, false, [], am_noM), am_ce0, (.aload_n 2, 409, false, [], am_noM), (.aload_n 0, 410, false, [], am_noM), (.iload 4, 412, false, [], am_noM), am_ce0, (.iconst 1, 413, false, [], am_noM), (.iadd, 414, false, [], am_noM), (.iaload, 415, false, [], am_noM), (.aload_n 0, 416, false, [], am_noM)],
  [(.iload 4, 418, false, [], am_noM), am_ce0, (.iconst 2, 419, false, [], am_noM), (.iadd, 420, false, [], am_noM), (.iaload, 421, false, [], am_noM), (.invokevirtual 54, 424, false, [3, 12, 0, 0, 7115, 7116, 7117, 1013, 7118], mX12_knock), am_ce0, am_ce0, (.istore 6, 426, false, [], am_noM), am_ce0, (.aload_n 2, 427, false, [], am_noM), (.invokevirtual 55, 430, false, [1, 12, 0, 0, 7061, 7062, 7063, 1013, 7064], mX12_thrown), am_ce0, am_ce0, (.iload 5, 432, false, [], am_noM), am_ce0],
  [(.if_icmp .eq 5, 435, false, [437], am_noM), am_ce0, am_ce0, (.iconst 0, 436, false, [], am_noM), (.ireturn, 437, false, [1], am_noM), (.iload 5, 439, false, [], am_noM), am_ce0, (.ifCond .ne 15, 442, false, [454], am_noM), am_ce0, am_ce0, (.aload_n 3, 443, false, [], am_noM), (.iconst 0, 444, false, [], am_noM), (.laload, 445, false, [], am_noM), (.iload 6, 447, false, [], am_noM), am_ce0, (.i2l, 448, false, [], am_noM)],
  [(.lcmp, 449, false, [], am_noM), (.ifCond .eq 5, 452, false, [454], am_noM), am_ce0, am_ce0, (.iconst 0, 453, false, [], am_noM), (.ireturn, 454, false, [1], am_noM), (.goto 489, 457, false, [943], am_noM), am_ce0, am_ce0, (.aload_n 1, 458, false, [], am_noM), (.aload_n 0, 459, false, [], am_noM), (.iload 4, 461, false, [], am_noM), am_ce0, (.iconst 1, 462, false, [], am_noM), (.iadd, 463, false, [], am_noM), (.iaload, 464, false, [], am_noM)],
  [(.aload_n 0, 465, false, [], am_noM), (.iload 4, 467, false, [], am_noM), am_ce0, (.iconst 2, 468, false, [], am_noM), (.iadd, 469, false, [], am_noM), (.iaload, 470, false, [], am_noM), (.aload_n 0, 471, false, [], am_noM), (.iload 4, 473, false, [], am_noM), am_ce0, (.iconst 3, 474, false, [], am_noM), (.iadd, 475, false, [], am_noM), (.iaload, 476, false, [], am_noM), (.aload_n 0, 477, false, [], am_noM), (.iload 4, 479, false, [], am_noM), am_ce0, (.iconst 4, 480, false, [], am_noM)],
  [(.iadd, 481, false, [], am_noM), (.iaload, 482, false, [], am_noM), (.invokevirtual 59, 485, false, [5, 11, 0, 0, 3137, 3138, 3139, 1001, 3140], mX11_machine), am_ce0, am_ce0, (.aload_n 2, 486, false, [], am_noM), (.aload_n 0, 487, false, [], am_noM), (.iload 4, 489, false, [], am_noM), am_ce0, (.iconst 1, 490, false, [], am_noM), (.iadd, 491, false, [], am_noM), (.iaload, 492, false, [], am_noM), (.aload_n 0, 493, false, [], am_noM), (.iload 4, 495, false, [], am_noM), am_ce0, (.iconst 2, 496, false, [], am_noM)],
  [(.iadd, 497, false, [], am_noM), (.iaload, 498, false, [], am_noM), (.aload_n 0, 499, false, [], am_noM), (.iload 4, 501, false, [], am_noM), am_ce0, (.iconst 3, 502, false, [], am_noM), (.iadd, 503, false, [], am_noM), (.iaload, 504, false, [], am_noM), (.aload_n 0, 505, false, [], am_noM), (.iload 4, 507, false, [], am_noM), am_ce0, (.iconst 4, 508, false, [], am_noM), (.iadd, 509, false, [], am_noM), (.iaload, 510, false, [], am_noM), (.invokevirtual 63, 513, false, [5, 12, 0, 0, 7123, 7124, 7125, 1013, 7126], mX12_machine), am_ce0],
  [am_ce0, (.if_icmp .eq 430, 516, false, [943], am_noM), am_ce0, am_ce0, (.iconst 0, 517, false, [], am_noM), (.ireturn, 518, false, [1], am_noM), (.aload_n 1, 519, false, [], am_noM), (.aload_n 0, 520, false, [], am_noM), (.iload 4, 522, false, [], am_noM), am_ce0, (.iconst 1, 523, false, [], am_noM), (.iadd, 524, false, [], am_noM), (.iaload, 525, false, [], am_noM), (.invokevirtual 64, 528, false, [2, 11, 0, 0, 3149, 3150, 3151, 1001, 3152], mX11_man), am_ce0, am_ce0],
  [(.aload_n 2, 529, false, [], am_noM), (.aload_n 0, 530, false, [], am_noM), (.iload 4, 532, false, [], am_noM), am_ce0, (.iconst 1, 533, false, [], am_noM), (.iadd, 534, false, [], am_noM), (.iaload, 535, false, [], am_noM), (.invokevirtual 67, 538, false, [2, 12, 0, 0, 7127, 7128, 7129, 1013, 7130], mX12_man), am_ce0, am_ce0, (.if_icmp .eq 405, 541, false, [943], am_noM), am_ce0, am_ce0, (.iconst 0, 542, false, [], am_noM), (.ireturn, 543, false, [1], am_noM), (.aload_n 1, 544, false, [], am_noM)],
  [(.invokevirtual 68, 547, false, [1, 11, 0, 0, 3157, 3158, 3159, 1001, 3160], mX11_score), am_ce0, am_ce0, (.aload_n 2, 548, false, [], am_noM), (.invokevirtual 71, 551, false, [1, 12, 0, 0, 7131, 7132, 7133, 1013, 7134], mX12_score), am_ce0, am_ce0, (.if_icmp .eq 392, 554, false, [943], am_noM), am_ce0, am_ce0, (.iconst 0, 555, false, [], am_noM), (.ireturn, 556, false, [1], am_noM), (.aload_n 1, 557, false, [], am_noM), (.invokevirtual 72, 560, false, [1, 11, 0, 0, 4132, 4133, 4134, 1001, 4135], mX11_fault), am_ce0, am_ce0],
  [(.aload_n 2, 561, false, [], am_noM), (.invokevirtual 75, 564, false, [1, 12, 0, 0, 8006, 8007, 8008, 1013, 8009], mX12_fault), am_ce0, am_ce0, (.if_icmp .eq 379, 567, false, [943], am_noM), am_ce0, am_ce0, (.iconst 0, 568, false, [], am_noM), (.ireturn, 569, false, [1], am_noM), (.aload_n 1, 570, false, [], am_noM), (.aload_n 0, 571, false, [], am_noM), (.iload 4, 573, false, [], am_noM), am_ce0, (.iconst 1, 574, false, [], am_noM), (.iadd, 575, false, [], am_noM), (.iaload, 576, false, [], am_noM)],
  [(.aload_n 0, 577, false, [], am_noM), (.iload 4, 579, false, [], am_noM), am_ce0, (.iconst 2, 580, false, [], am_noM), (.iadd, 581, false, [], am_noM), (.iaload, 582, false, [], am_noM), (.aload_n 3, 583, false, [], am_noM), (.invokestatic 76, 586, false, [9, 4], mL_event), am_ce0, am_ce0, (.istore 5, 588, false, [], am_noM), am_ce0, (.aload_n 2, 589, false, [], am_noM), (.aload_n 0, 590, false, [], am_noM), (.iload 4, 592, false, [], am_noM), am_ce0],
  [(.iconst 1, 593, false, [], am_noM), (.iadd, 594, false, [], am_noM), (.iaload, 595, false, [], am_noM), (.aload_n 0, 596, false, [], am_noM), (.iload 4, 598, false, [], am_noM), am_ce0, (.iconst 2, 599, false, [], am_noM), (.iadd, 600, false, [], am_noM), (.iaload, 601, false, [], am_noM), (.invokevirtual 78, 604, false, [3, 12, 0, 0, 8010, 8011, 8012, 1013, 8013], mX12_event), am_ce0, am_ce0, (.istore 6, 606, false, [], am_noM), am_ce0, (.aload_n 2, 607, false, [], am_noM), (.invokevirtual 55, 610, false, [1, 12, 0, 0, 7061, 7062, 7063, 1013, 7064], mX12_thrown)],
  [am_ce0, am_ce0, (.iload 5, 612, false, [], am_noM), am_ce0, (.if_icmp .eq 5, 615, false, [617], am_noM), am_ce0, am_ce0, (.iconst 0, 616, false, [], am_noM), (.ireturn, 617, false, [1], am_noM), (.iload 5, 619, false, [], am_noM), am_ce0, (.ifCond .ne 15, 622, false, [634], am_noM), am_ce0, am_ce0, (.aload_n 3, 623, false, [], am_noM), (.iconst 0, 624, false, [], am_noM)],
  [(.laload, 625, false, [], am_noM), (.iload 6, 627, false, [], am_noM), am_ce0, (.i2l, 628, false, [], am_noM), (.lcmp, 629, false, [], am_noM), (.ifCond .eq 5, 632, false, [634], am_noM), am_ce0, am_ce0, (.iconst 0, 633, false, [], am_noM), (.ireturn, 634, false, [1], am_noM), (.goto 309, 637, false, [943], am_noM), am_ce0, am_ce0, (.aload_n 1, 638, false, [], am_noM), (.invokevirtual 79, 641, false, [1, 11, 0, 0, 4136, 4137, 4138, 1001, 4139], mX11_night), am_ce0],
  [am_ce0, (.aload_n 2, 642, false, [], am_noM), (.invokevirtual 82, 645, false, [1, 12, 0, 0, 8022, 8023, 8024, 1013, 8025], mX12_night), am_ce0, am_ce0, (.if_icmp .eq 298, 648, false, [943], am_noM), am_ce0, am_ce0, (.iconst 0, 649, false, [], am_noM), (.ireturn, 650, false, [1], am_noM), (.aload_n 1, 651, false, [], am_noM), (.aload_n 0, 652, false, [], am_noM), (.iload 4, 654, false, [], am_noM), am_ce0, (.iconst 1, 655, false, [], am_noM), (.iadd, 656, false, [], am_noM)],
  [(.iaload, 657, false, [], am_noM), (.aload_n 0, 658, false, [], am_noM), (.iload 4, 660, false, [], am_noM), am_ce0, (.iconst 2, 661, false, [], am_noM), (.iadd, 662, false, [], am_noM), (.iaload, 663, false, [], am_noM), (.aload_n 3, 664, false, [], am_noM), (.invokestatic 83, 667, false, [9, 4], mL_sound), am_ce0, am_ce0, (.istore 5, 669, false, [], am_noM), am_ce0, (.aload_n 2, 670, false, [], am_noM), (.aload_n 0, 671, false, [], am_noM), (.iload 4, 673, false, [], am_noM)],
  [am_ce0, (.iconst 1, 674, false, [], am_noM), (.iadd, 675, false, [], am_noM), (.iaload, 676, false, [], am_noM), (.aload_n 0, 677, false, [], am_noM), (.iload 4, 679, false, [], am_noM), am_ce0, (.iconst 2, 680, false, [], am_noM), (.iadd, 681, false, [], am_noM), (.iaload, 682, false, [], am_noM), (.invokevirtual 85, 685, false, [3, 12, 0, 0, 8038, 8039, 8040, 1013, 8041], mX12_sound), am_ce0, am_ce0, (.istore 6, 687, false, [], am_noM), am_ce0, (.aload_n 2, 688, false, [], am_noM)],
  [(.invokevirtual 55, 691, false, [1, 12, 0, 0, 7061, 7062, 7063, 1013, 7064], mX12_thrown), am_ce0, am_ce0, (.iload 5, 693, false, [], am_noM), am_ce0, (.if_icmp .eq 5, 696, false, [698], am_noM), am_ce0, am_ce0, (.iconst 0, 697, false, [], am_noM), (.ireturn, 698, false, [1], am_noM), (.iload 5, 700, false, [], am_noM), am_ce0, (.ifCond .ne 15, 703, false, [715], am_noM), am_ce0, am_ce0, (.aload_n 3, 704, false, [], am_noM)],
  [(.iconst 0, 705, false, [], am_noM), (.laload, 706, false, [], am_noM), (.iload 6, 708, false, [], am_noM), am_ce0, (.i2l, 709, false, [], am_noM), (.lcmp, 710, false, [], am_noM), (.ifCond .eq 5, 713, false, [715], am_noM), am_ce0, am_ce0, (.iconst 0, 714, false, [], am_noM), (.ireturn, 715, false, [1], am_noM), (.goto 228, 718, false, [943], am_noM), am_ce0, am_ce0, (.aload_n 1, 719, false, [], am_noM), (.aload_n 0, 720, false, [], am_noM)],
  [(.iload 4, 722, false, [], am_noM), am_ce0, (.iconst 1, 723, false, [], am_noM), (.iadd, 724, false, [], am_noM), (.iaload, 725, false, [], am_noM), (.invokevirtual 86, 728, false, [2, 11, 0, 0, 4204, 4205, 4206, 1001, 4207], mX11_told), am_ce0, am_ce0, (.aload_n 2, 729, false, [], am_noM), (.aload_n 0, 730, false, [], am_noM), (.iload 4, 732, false, [], am_noM), am_ce0, (.iconst 1, 733, false, [], am_noM), (.iadd, 734, false, [], am_noM), (.iaload, 735, false, [], am_noM), (.invokevirtual 89, 738, false, [2, 12, 0, 0, 8042, 8043, 8044, 1013, 8045], mX12_told)],
  [am_ce0, am_ce0, (.if_icmp .eq 205, 741, false, [943], am_noM), am_ce0, am_ce0, (.iconst 0, 742, false, [], am_noM), (.ireturn, 743, false, [1], am_noM), (.aload_n 1, 744, false, [], am_noM), (.invokevirtual 90, 747, false, [1, 11, 0, 0, 4208, 4209, 4210, 1001, 4211], mX11_made), am_ce0, am_ce0, (.aload_n 2, 748, false, [], am_noM), (.invokevirtual 93, 751, false, [1, 12, 0, 0, 8046, 8047, 8048, 1013, 8049], mX12_made), am_ce0, am_ce0, (.if_icmp .eq 192, 754, false, [943], am_noM)],
  [am_ce0, am_ce0, (.iconst 0, 755, false, [], am_noM), (.ireturn, 756, false, [1], am_noM), (.aload_n 1, 757, false, [], am_noM), (.aload_n 0, 758, false, [], am_noM), (.iload 4, 760, false, [], am_noM), am_ce0, (.iconst 1, 761, false, [], am_noM), (.iadd, 762, false, [], am_noM), (.iaload, 763, false, [], am_noM), (.invokevirtual 94, 766, false, [2, 11, 0, 0, 5036, 5037, 5038, 1001, 5039], mX11_who), am_ce0, am_ce0, (.aload_n 2, 767, false, [], am_noM), (.aload_n 0, 768, false, [], am_noM)],
  [(.iload 4, 770, false, [], am_noM), am_ce0, (.iconst 1, 771, false, [], am_noM), (.iadd, 772, false, [], am_noM), (.iaload, 773, false, [], am_noM), (.invokevirtual 97, 776, false, [2, 12, 0, 0, 8096, 8097, 8098, 1013, 8099], mX12_who), am_ce0, am_ce0, (.if_icmp .eq 167, 779, false, [943], am_noM), am_ce0, am_ce0, (.iconst 0, 780, false, [], am_noM), (.ireturn, 781, false, [1], am_noM), (.aload_n 1, 782, false, [], am_noM), (.aload_n 0, 783, false, [], am_noM), (.iload 4, 785, false, [], am_noM)],
  [am_ce0, (.iconst 1, 786, false, [], am_noM), (.iadd, 787, false, [], am_noM), (.iaload, 788, false, [], am_noM), (.aload_n 0, 789, false, [], am_noM), (.iload 4, 791, false, [], am_noM), am_ce0, (.iconst 2, 792, false, [], am_noM), (.iadd, 793, false, [], am_noM), (.iaload, 794, false, [], am_noM), (.invokevirtual 98, 797, false, [3, 11, 0, 0, 5044, 5045, 5046, 1001, 5047], mX11_balls), am_ce0, am_ce0, (.aload_n 2, 798, false, [], am_noM), (.aload_n 0, 799, false, [], am_noM), (.iload 4, 801, false, [], am_noM)],
  [am_ce0, (.iconst 1, 802, false, [], am_noM), (.iadd, 803, false, [], am_noM), (.iaload, 804, false, [], am_noM), (.aload_n 0, 805, false, [], am_noM), (.iload 4, 807, false, [], am_noM), am_ce0, (.iconst 2, 808, false, [], am_noM), (.iadd, 809, false, [], am_noM), (.iaload, 810, false, [], am_noM), (.invokevirtual 101, 813, false, [3, 12, 0, 0, 8100, 8101, 8102, 1013, 8103], mX12_balls), am_ce0, am_ce0, (.if_icmp .eq 130, 816, false, [943], am_noM), am_ce0, am_ce0],
  [(.iconst 0, 817, false, [], am_noM), (.ireturn, 818, false, [1], am_noM), (.aload_n 1, 819, false, [], am_noM), (.aload_n 0, 820, false, [], am_noM), (.iload 4, 822, false, [], am_noM), am_ce0, (.iconst 1, 823, false, [], am_noM), (.iadd, 824, false, [], am_noM), (.iaload, 825, false, [], am_noM), (.invokevirtual 102, 828, false, [2, 11, 0, 0, 5060, 5061, 5062, 1001, 5063], mX11_fillings), am_ce0, am_ce0, (.aload_n 2, 829, false, [], am_noM), (.aload_n 0, 830, false, [], am_noM), (.iload 4, 832, false, [], am_noM), am_ce0],
  [(.iconst 1, 833, false, [], am_noM), (.iadd, 834, false, [], am_noM), (.iaload, 835, false, [], am_noM), (.invokevirtual 105, 838, false, [2, 12, 0, 0, 8108, 8109, 8110, 1013, 8111], mX12_fillings), am_ce0, am_ce0, (.if_icmp .eq 105, 841, false, [943], am_noM), am_ce0, am_ce0, (.iconst 0, 842, false, [], am_noM), (.ireturn, 843, false, [1], am_noM), (.aload_n 1, 844, false, [], am_noM), (.aload_n 0, 845, false, [], am_noM), (.iload 4, 847, false, [], am_noM), am_ce0, (.iconst 1, 848, false, [], am_noM)],
  [(.iadd, 849, false, [], am_noM), (.iaload, 850, false, [], am_noM), (.invokevirtual 106, 853, false, [2, 11, 0, 0, 5072, 5073, 5074, 1001, 5075], mX11_lay), am_ce0, am_ce0, (.aload_n 2, 854, false, [], am_noM), (.aload_n 0, 855, false, [], am_noM), (.iload 4, 857, false, [], am_noM), am_ce0, (.iconst 1, 858, false, [], am_noM), (.iadd, 859, false, [], am_noM), (.iaload, 860, false, [], am_noM), (.invokevirtual 109, 863, false, [2, 12, 0, 0, 8112, 8113, 8114, 1013, 8115], mX12_lay), am_ce0, am_ce0, (.if_icmp .eq 80, 866, false, [943], am_noM)],
  [am_ce0, am_ce0, (.iconst 0, 867, false, [], am_noM), (.ireturn, 868, false, [1], am_noM), (.aload_n 1, 869, false, [], am_noM), (.aload_n 0, 870, false, [], am_noM), (.iload 4, 872, false, [], am_noM), am_ce0, (.iconst 1, 873, false, [], am_noM), (.iadd, 874, false, [], am_noM), (.iaload, 875, false, [], am_noM), (.invokevirtual 110, 878, false, [2, 11, 0, 0, 5129, 5130, 5131, 1001, 5132], mX11_laid), am_ce0, am_ce0, (.aload_n 2, 879, false, [], am_noM), (.aload_n 0, 880, false, [], am_noM)],
  [(.iload 4, 882, false, [], am_noM), am_ce0, (.iconst 1, 883, false, [], am_noM), (.iadd, 884, false, [], am_noM), (.iaload, 885, false, [], am_noM), (.invokevirtual 113, 888, false, [2, 12, 0, 0, 8124, 8125, 8126, 1013, 8127], mX12_laid), am_ce0, am_ce0, (.if_icmp .eq 55, 891, false, [943], am_noM), am_ce0, am_ce0, (.iconst 0, 892, false, [], am_noM), (.ireturn, 893, false, [1], am_noM), (.aload_n 1, 894, false, [], am_noM), (.aload_n 0, 895, false, [], am_noM), (.iload 4, 897, false, [], am_noM)],
  [am_ce0, (.iconst 1, 898, false, [], am_noM), (.iadd, 899, false, [], am_noM), (.iaload, 900, false, [], am_noM), (.invokevirtual 114, 903, false, [2, 11, 0, 0, 5137, 5138, 5139, 1001, 5140], mX11_worn), am_ce0, am_ce0, (.aload_n 2, 904, false, [], am_noM), (.aload_n 0, 905, false, [], am_noM), (.iload 4, 907, false, [], am_noM), am_ce0, (.iconst 1, 908, false, [], am_noM), (.iadd, 909, false, [], am_noM), (.iaload, 910, false, [], am_noM), (.invokevirtual 117, 913, false, [2, 12, 0, 0, 8128, 8129, 8130, 1013, 8131], mX12_worn), am_ce0],
  [am_ce0, (.if_icmp .eq 30, 916, false, [943], am_noM), am_ce0, am_ce0, (.iconst 0, 917, false, [], am_noM), (.ireturn, 918, false, [1], am_noM), (.aload_n 1, 919, false, [], am_noM), (.aload_n 0, 920, false, [], am_noM), (.iload 4, 922, false, [], am_noM), am_ce0, (.iconst 1, 923, false, [], am_noM), (.iadd, 924, false, [], am_noM), (.iaload, 925, false, [], am_noM), (.invokevirtual 118, 928, false, [2, 11, 0, 0, 5154, 5155, 5156, 1001, 5157], mX11_count), am_ce0, am_ce0],
  [(.aload_n 2, 929, false, [], am_noM), (.aload_n 0, 930, false, [], am_noM), (.iload 4, 932, false, [], am_noM), am_ce0, (.iconst 1, 933, false, [], am_noM), (.iadd, 934, false, [], am_noM), (.iaload, 935, false, [], am_noM), (.invokevirtual 121, 938, false, [2, 12, 0, 0, 8136, 8137, 8138, 1013, 8139], mX12_count), am_ce0, am_ce0, (.if_icmp .eq 5, 941, false, [943], am_noM), am_ce0, am_ce0, (.iconst 0, 942, false, [], am_noM), (.ireturn, 943, false, [1], am_noM), (.iinc 4 6, 946, false, [], am_noM)],
  [am_ce0, am_ce0, (.goto (-923), 949, false, [23], am_noM), am_ce0, am_ce0, (.iconst 1, 950, false, [], am_noM), (.ireturn, 951, false, [1], am_noM)]]
end
section
/-! The code tables fit (printed by wip/whole/gen15.py). -/
set_option maxRecDepth 100000 in
theorem vX0_init : ∀ pc, am_chk mX0_init pc (am_lk am_ce0 kX0_init pc) = true := am_vld_ok (n := 35) (by decide +kernel)
set_option maxRecDepth 100000 in
theorem vX0_letGoOn : ∀ pc, am_chk mX0_letGoOn pc (am_lk am_ce0 kX0_letGoOn pc) = true := am_vld_ok (n := 13) (by decide +kernel)
set_option maxRecDepth 100000 in
theorem vX0_put : ∀ pc, am_chk mX0_put pc (am_lk am_ce0 kX0_put pc) = true := am_vld_ok (n := 26) (by decide +kernel)
set_option maxRecDepth 100000 in
theorem vX0_rollsOver : ∀ pc, am_chk mX0_rollsOver pc (am_lk am_ce0 kX0_rollsOver pc) = true := am_vld_ok (n := 83) (by decide +kernel)
set_option maxRecDepth 100000 in
theorem vX0_fallsOff : ∀ pc, am_chk mX0_fallsOff pc (am_lk am_ce0 kX0_fallsOff pc) = true := am_vld_ok (n := 56) (by decide +kernel)
set_option maxRecDepth 100000 in
theorem vX0_isAtRest : ∀ pc, am_chk mX0_isAtRest pc (am_lk am_ce0 kX0_isAtRest pc) = true := am_vld_ok (n := 13) (by decide +kernel)
set_option maxRecDepth 100000 in
theorem vX0_overtook : ∀ pc, am_chk mX0_overtook pc (am_lk am_ce0 kX0_overtook pc) = true := am_vld_ok (n := 28) (by decide +kernel)
set_option maxRecDepth 100000 in
theorem vX0_stayedWith : ∀ pc, am_chk mX0_stayedWith pc (am_lk am_ce0 kX0_stayedWith pc) = true := am_vld_ok (n := 60) (by decide +kernel)
set_option maxRecDepth 100000 in
theorem vX1_init : ∀ pc, am_chk mX1_init pc (am_lk am_ce0 kX1_init pc) = true := am_vld_ok (n := 35) (by decide +kernel)
set_option maxRecDepth 100000 in
theorem vX2_init : ∀ pc, am_chk mX2_init pc (am_lk am_ce0 kX2_init pc) = true := am_vld_ok (n := 105) (by decide +kernel)
set_option maxRecDepth 100000 in
theorem vX2_laidAt : ∀ pc, am_chk mX2_laidAt pc (am_lk am_ce0 kX2_laidAt pc) = true := am_vld_ok (n := 28) (by decide +kernel)
set_option maxRecDepth 100000 in
theorem vX2_layLikest : ∀ pc, am_chk mX2_layLikest pc (am_lk am_ce0 kX2_layLikest pc) = true := am_vld_ok (n := 49) (by decide +kernel)
set_option maxRecDepth 100000 in
theorem vX2_explain : ∀ pc, am_chk mX2_explain pc (am_lk am_ce0 kX2_explain pc) = true := am_vld_ok (n := 30) (by decide +kernel)
set_option maxRecDepth 100000 in
theorem vX2_begin : ∀ pc, am_chk mX2_begin pc (am_lk am_ce0 kX2_begin pc) = true := am_vld_ok (n := 60) (by decide +kernel)
set_option maxRecDepth 100000 in
theorem vX2_store : ∀ pc, am_chk mX2_store pc (am_lk am_ce0 kX2_store pc) = true := am_vld_ok (n := 57) (by decide +kernel)
set_option maxRecDepth 100000 in
theorem vX2_load : ∀ pc, am_chk mX2_load pc (am_lk am_ce0 kX2_load pc) = true := am_vld_ok (n := 36) (by decide +kernel)
set_option maxRecDepth 100000 in
theorem vX2_rollToEnd : ∀ pc, am_chk mX2_rollToEnd pc (am_lk am_ce0 kX2_rollToEnd pc) = true := am_vld_ok (n := 63) (by decide +kernel)
set_option maxRecDepth 100000 in
theorem vX2_glideToEnd : ∀ pc, am_chk mX2_glideToEnd pc (am_lk am_ce0 kX2_glideToEnd pc) = true := am_vld_ok (n := 83) (by decide +kernel)
set_option maxRecDepth 100000 in
theorem vX2_layOn : ∀ pc, am_chk mX2_layOn pc (am_lk am_ce0 kX2_layOn pc) = true := am_vld_ok (n := 139) (by decide +kernel)
set_option maxRecDepth 100000 in
theorem vX2_passes : ∀ pc, am_chk mX2_passes pc (am_lk am_ce0 kX2_passes pc) = true := am_vld_ok (n := 209) (by decide +kernel)
set_option maxRecDepth 100000 in
theorem vX2_leastPossible : ∀ pc, am_chk mX2_leastPossible pc (am_lk am_ce0 kX2_leastPossible pc) = true := am_vld_ok (n := 48) (by decide +kernel)
set_option maxRecDepth 100000 in
theorem vX2_judge : ∀ pc, am_chk mX2_judge pc (am_lk am_ce0 kX2_judge pc) = true := am_vld_ok (n := 93) (by decide +kernel)
set_option maxRecDepth 100000 in
theorem vX2_wearOn : ∀ pc, am_chk mX2_wearOn pc (am_lk am_ce0 kX2_wearOn pc) = true := am_vld_ok (n := 199) (by decide +kernel)
set_option maxRecDepth 100000 in
theorem vX2_leave : ∀ pc, am_chk mX2_leave pc (am_lk am_ce0 kX2_leave pc) = true := am_vld_ok (n := 167) (by decide +kernel)
set_option maxRecDepth 100000 in
theorem vX3_init : ∀ pc, am_chk mX3_init pc (am_lk am_ce0 kX3_init pc) = true := am_vld_ok (n := 130) (by decide +kernel)
set_option maxRecDepth 100000 in
theorem vX3_forget : ∀ pc, am_chk mX3_forget pc (am_lk am_ce0 kX3_forget pc) = true := am_vld_ok (n := 9) (by decide +kernel)
set_option maxRecDepth 100000 in
theorem vX3_add : ∀ pc, am_chk mX3_add pc (am_lk am_ce0 kX3_add pc) = true := am_vld_ok (n := 44) (by decide +kernel)
set_option maxRecDepth 100000 in
theorem vX3_doerOf : ∀ pc, am_chk mX3_doerOf pc (am_lk am_ce0 kX3_doerOf pc) = true := am_vld_ok (n := 21) (by decide +kernel)
set_option maxRecDepth 100000 in
theorem vX3_makeMost : ∀ pc, am_chk mX3_makeMost pc (am_lk am_ce0 kX3_makeMost pc) = true := am_vld_ok (n := 143) (by decide +kernel)
set_option maxRecDepth 100000 in
theorem vX3_costOf : ∀ pc, am_chk mX3_costOf pc (am_lk am_ce0 kX3_costOf pc) = true := am_vld_ok (n := 148) (by decide +kernel)
set_option maxRecDepth 100000 in
theorem vX3_assignAll : ∀ pc, am_chk mX3_assignAll pc (am_lk am_ce0 kX3_assignAll pc) = true := am_vld_ok (n := 54) (by decide +kernel)
set_option maxRecDepth 100000 in
theorem vX3_assignRow : ∀ pc, am_chk mX3_assignRow pc (am_lk am_ce0 kX3_assignRow pc) = true := am_vld_ok (n := 105) (by decide +kernel)
set_option maxRecDepth 100000 in
theorem vX3_relax : ∀ pc, am_chk mX3_relax pc (am_lk am_ce0 kX3_relax pc) = true := am_vld_ok (n := 76) (by decide +kernel)
set_option maxRecDepth 100000 in
theorem vX3_nearest : ∀ pc, am_chk mX3_nearest pc (am_lk am_ce0 kX3_nearest pc) = true := am_vld_ok (n := 51) (by decide +kernel)
set_option maxRecDepth 100000 in
theorem vX3_lower : ∀ pc, am_chk mX3_lower pc (am_lk am_ce0 kX3_lower pc) = true := am_vld_ok (n := 90) (by decide +kernel)
set_option maxRecDepth 100000 in
theorem vX3_flip : ∀ pc, am_chk mX3_flip pc (am_lk am_ce0 kX3_flip pc) = true := am_vld_ok (n := 95) (by decide +kernel)
set_option maxRecDepth 100000 in
theorem vX3_chooseFirst : ∀ pc, am_chk mX3_chooseFirst pc (am_lk am_ce0 kX3_chooseFirst pc) = true := am_vld_ok (n := 123) (by decide +kernel)
set_option maxRecDepth 100000 in
theorem vX3_isFree : ∀ pc, am_chk mX3_isFree pc (am_lk am_ce0 kX3_isFree pc) = true := am_vld_ok (n := 31) (by decide +kernel)
set_option maxRecDepth 100000 in
theorem vX3_canDoNext : ∀ pc, am_chk mX3_canDoNext pc (am_lk am_ce0 kX3_canDoNext pc) = true := am_vld_ok (n := 134) (by decide +kernel)
set_option maxRecDepth 100000 in
theorem vX3_reaches : ∀ pc, am_chk mX3_reaches pc (am_lk am_ce0 kX3_reaches pc) = true := am_vld_ok (n := 189) (by decide +kernel)
set_option maxRecDepth 100000 in
theorem vX4_init : ∀ pc, am_chk mX4_init pc (am_lk am_ce0 kX4_init pc) = true := am_vld_ok (n := 60) (by decide +kernel)
set_option maxRecDepth 100000 in
theorem vX4_follow : ∀ pc, am_chk mX4_follow pc (am_lk am_ce0 kX4_follow pc) = true := am_vld_ok (n := 167) (by decide +kernel)
set_option maxRecDepth 100000 in
theorem vX4_hear : ∀ pc, am_chk mX4_hear pc (am_lk am_ce0 kX4_hear pc) = true := am_vld_ok (n := 61) (by decide +kernel)
set_option maxRecDepth 100000 in
theorem vX4_answer : ∀ pc, am_chk mX4_answer pc (am_lk am_ce0 kX4_answer pc) = true := am_vld_ok (n := 48) (by decide +kernel)
set_option maxRecDepth 100000 in
theorem vX4_knockAt : ∀ pc, am_chk mX4_knockAt pc (am_lk am_ce0 kX4_knockAt pc) = true := am_vld_ok (n := 46) (by decide +kernel)
set_option maxRecDepth 100000 in
theorem vX5_init : ∀ pc, am_chk mX5_init pc (am_lk am_ce0 kX5_init pc) = true := am_vld_ok (n := 42) (by decide +kernel)
set_option maxRecDepth 100000 in
theorem vX5_add : ∀ pc, am_chk mX5_add pc (am_lk am_ce0 kX5_add pc) = true := am_vld_ok (n := 76) (by decide +kernel)
set_option maxRecDepth 100000 in
theorem vX5_is : ∀ pc, am_chk mX5_is pc (am_lk am_ce0 kX5_is pc) = true := am_vld_ok (n := 24) (by decide +kernel)
set_option maxRecDepth 100000 in
theorem vX5_kindOf : ∀ pc, am_chk mX5_kindOf pc (am_lk am_ce0 kX5_kindOf pc) = true := am_vld_ok (n := 19) (by decide +kernel)
set_option maxRecDepth 100000 in
theorem vX5_placeOf : ∀ pc, am_chk mX5_placeOf pc (am_lk am_ce0 kX5_placeOf pc) = true := am_vld_ok (n := 19) (by decide +kernel)
set_option maxRecDepth 100000 in
theorem vX5_firstOf : ∀ pc, am_chk mX5_firstOf pc (am_lk am_ce0 kX5_firstOf pc) = true := am_vld_ok (n := 19) (by decide +kernel)
set_option maxRecDepth 100000 in
theorem vX5_secondOf : ∀ pc, am_chk mX5_secondOf pc (am_lk am_ce0 kX5_secondOf pc) = true := am_vld_ok (n := 19) (by decide +kernel)
set_option maxRecDepth 100000 in
theorem vX5_leastNumber : ∀ pc, am_chk mX5_leastNumber pc (am_lk am_ce0 kX5_leastNumber pc) = true := am_vld_ok (n := 21) (by decide +kernel)
set_option maxRecDepth 100000 in
theorem vX5_mostNumber : ∀ pc, am_chk mX5_mostNumber pc (am_lk am_ce0 kX5_mostNumber pc) = true := am_vld_ok (n := 49) (by decide +kernel)
set_option maxRecDepth 100000 in
theorem vX5_takes : ∀ pc, am_chk mX5_takes pc (am_lk am_ce0 kX5_takes pc) = true := am_vld_ok (n := 40) (by decide +kernel)
set_option maxRecDepth 100000 in
theorem vX5_strength : ∀ pc, am_chk mX5_strength pc (am_lk am_ce0 kX5_strength pc) = true := am_vld_ok (n := 21) (by decide +kernel)
set_option maxRecDepth 100000 in
theorem vX5_ballsNeeded : ∀ pc, am_chk mX5_ballsNeeded pc (am_lk am_ce0 kX5_ballsNeeded pc) = true := am_vld_ok (n := 94) (by decide +kernel)
set_option maxRecDepth 100000 in
theorem vX5_letsGo : ∀ pc, am_chk mX5_letsGo pc (am_lk am_ce0 kX5_letsGo pc) = true := am_vld_ok (n := 32) (by decide +kernel)
set_option maxRecDepth 100000 in
theorem vX5_fillingsNeeded : ∀ pc, am_chk mX5_fillingsNeeded pc (am_lk am_ce0 kX5_fillingsNeeded pc) = true := am_vld_ok (n := 158) (by decide +kernel)
set_option maxRecDepth 100000 in
theorem vX6_init : ∀ pc, am_chk mX6_init pc (am_lk am_ce0 kX6_init pc) = true := am_vld_ok (n := 115) (by decide +kernel)
set_option maxRecDepth 100000 in
theorem vX6_goThrough : ∀ pc, am_chk mX6_goThrough pc (am_lk am_ce0 kX6_goThrough pc) = true := am_vld_ok (n := 129) (by decide +kernel)
set_option maxRecDepth 100000 in
theorem vX6_rollAll : ∀ pc, am_chk mX6_rollAll pc (am_lk am_ce0 kX6_rollAll pc) = true := am_vld_ok (n := 76) (by decide +kernel)
end
section
/-! The code tables fit (printed by wip/whole/gen15.py). -/
set_option maxRecDepth 100000 in
theorem vX6_roll : ∀ pc, am_chk mX6_roll pc (am_lk am_ce0 kX6_roll pc) = true := am_vld_ok (n := 125) (by decide +kernel)
set_option maxRecDepth 100000 in
theorem vX6_bumpAll : ∀ pc, am_chk mX6_bumpAll pc (am_lk am_ce0 kX6_bumpAll pc) = true := am_vld_ok (n := 144) (by decide +kernel)
set_option maxRecDepth 100000 in
theorem vX6_allAreAlike : ∀ pc, am_chk mX6_allAreAlike pc (am_lk am_ce0 kX6_allAreAlike pc) = true := am_vld_ok (n := 83) (by decide +kernel)
set_option maxRecDepth 100000 in
theorem vX6_use : ∀ pc, am_chk mX6_use pc (am_lk am_ce0 kX6_use pc) = true := am_vld_ok (n := 143) (by decide +kernel)
set_option maxRecDepth 100000 in
theorem vX6_hear : ∀ pc, am_chk mX6_hear pc (am_lk am_ce0 kX6_hear pc) = true := am_vld_ok (n := 86) (by decide +kernel)
set_option maxRecDepth 100000 in
theorem vX6_soundAt : ∀ pc, am_chk mX6_soundAt pc (am_lk am_ce0 kX6_soundAt pc) = true := am_vld_ok (n := 47) (by decide +kernel)
set_option maxRecDepth 100000 in
theorem vX7_init : ∀ pc, am_chk mX7_init pc (am_lk am_ce0 kX7_init pc) = true := am_vld_ok (n := 35) (by decide +kernel)
set_option maxRecDepth 100000 in
theorem vX7_isTold : ∀ pc, am_chk mX7_isTold pc (am_lk am_ce0 kX7_isTold pc) = true := am_vld_ok (n := 91) (by decide +kernel)
set_option maxRecDepth 100000 in
theorem vX7_leadsOn : ∀ pc, am_chk mX7_leadsOn pc (am_lk am_ce0 kX7_leadsOn pc) = true := am_vld_ok (n := 23) (by decide +kernel)
set_option maxRecDepth 100000 in
theorem vX7_build : ∀ pc, am_chk mX7_build pc (am_lk am_ce0 kX7_build pc) = true := am_vld_ok (n := 92) (by decide +kernel)
set_option maxRecDepth 100000 in
theorem vX7_boardAt : ∀ pc, am_chk mX7_boardAt pc (am_lk am_ce0 kX7_boardAt pc) = true := am_vld_ok (n := 29) (by decide +kernel)
set_option maxRecDepth 100000 in
theorem vX7_leadsTo : ∀ pc, am_chk mX7_leadsTo pc (am_lk am_ce0 kX7_leadsTo pc) = true := am_vld_ok (n := 46) (by decide +kernel)
set_option maxRecDepth 100000 in
theorem vX7_carryOn : ∀ pc, am_chk mX7_carryOn pc (am_lk am_ce0 kX7_carryOn pc) = true := am_vld_ok (n := 91) (by decide +kernel)
set_option maxRecDepth 100000 in
theorem vX8_init : ∀ pc, am_chk mX8_init pc (am_lk am_ce0 kX8_init pc) = true := am_vld_ok (n := 39) (by decide +kernel)
set_option maxRecDepth 100000 in
theorem vX8_clear : ∀ pc, am_chk mX8_clear pc (am_lk am_ce0 kX8_clear pc) = true := am_vld_ok (n := 11) (by decide +kernel)
set_option maxRecDepth 100000 in
theorem vX8_is : ∀ pc, am_chk mX8_is pc (am_lk am_ce0 kX8_is pc) = true := am_vld_ok (n := 24) (by decide +kernel)
set_option maxRecDepth 100000 in
theorem vX8_tickOf : ∀ pc, am_chk mX8_tickOf pc (am_lk am_ce0 kX8_tickOf pc) = true := am_vld_ok (n := 19) (by decide +kernel)
set_option maxRecDepth 100000 in
theorem vX8_machineOf : ∀ pc, am_chk mX8_machineOf pc (am_lk am_ce0 kX8_machineOf pc) = true := am_vld_ok (n := 19) (by decide +kernel)
set_option maxRecDepth 100000 in
theorem vX8_numberOf : ∀ pc, am_chk mX8_numberOf pc (am_lk am_ce0 kX8_numberOf pc) = true := am_vld_ok (n := 19) (by decide +kernel)
set_option maxRecDepth 100000 in
theorem vX8_add : ∀ pc, am_chk mX8_add pc (am_lk am_ce0 kX8_add pc) = true := am_vld_ok (n := 63) (by decide +kernel)
set_option maxRecDepth 100000 in
theorem vX8_addAll : ∀ pc, am_chk mX8_addAll pc (am_lk am_ce0 kX8_addAll pc) = true := am_vld_ok (n := 61) (by decide +kernel)
set_option maxRecDepth 100000 in
theorem vX8_repeat : ∀ pc, am_chk mX8_repeat pc (am_lk am_ce0 kX8_repeat pc) = true := am_vld_ok (n := 65) (by decide +kernel)
set_option maxRecDepth 100000 in
theorem vX8_lastTick : ∀ pc, am_chk mX8_lastTick pc (am_lk am_ce0 kX8_lastTick pc) = true := am_vld_ok (n := 30) (by decide +kernel)
set_option maxRecDepth 100000 in
theorem vX8_becomes : ∀ pc, am_chk mX8_becomes pc (am_lk am_ce0 kX8_becomes pc) = true := am_vld_ok (n := 32) (by decide +kernel)
set_option maxRecDepth 100000 in
theorem vX8_sink : ∀ pc, am_chk mX8_sink pc (am_lk am_ce0 kX8_sink pc) = true := am_vld_ok (n := 52) (by decide +kernel)
set_option maxRecDepth 100000 in
theorem vX8_swap : ∀ pc, am_chk mX8_swap pc (am_lk am_ce0 kX8_swap pc) = true := am_vld_ok (n := 29) (by decide +kernel)
set_option maxRecDepth 100000 in
theorem vX9_init : ∀ pc, am_chk mX9_init pc (am_lk am_ce0 kX9_init pc) = true := am_vld_ok (n := 117) (by decide +kernel)
set_option maxRecDepth 100000 in
theorem vX9_understands : ∀ pc, am_chk mX9_understands pc (am_lk am_ce0 kX9_understands pc) = true := am_vld_ok (n := 231) (by decide +kernel)
set_option maxRecDepth 100000 in
theorem vX9_begin : ∀ pc, am_chk mX9_begin pc (am_lk am_ce0 kX9_begin pc) = true := am_vld_ok (n := 40) (by decide +kernel)
set_option maxRecDepth 100000 in
theorem vX9_fail : ∀ pc, am_chk mX9_fail pc (am_lk am_ce0 kX9_fail pc) = true := am_vld_ok (n := 18) (by decide +kernel)
set_option maxRecDepth 100000 in
theorem vX9_readUse : ∀ pc, am_chk mX9_readUse pc (am_lk am_ce0 kX9_readUse pc) = true := am_vld_ok (n := 118) (by decide +kernel)
set_option maxRecDepth 100000 in
theorem vX9_readTimes : ∀ pc, am_chk mX9_readTimes pc (am_lk am_ce0 kX9_readTimes pc) = true := am_vld_ok (n := 105) (by decide +kernel)
set_option maxRecDepth 100000 in
theorem vX9_readPlay : ∀ pc, am_chk mX9_readPlay pc (am_lk am_ce0 kX9_readPlay pc) = true := am_vld_ok (n := 95) (by decide +kernel)
set_option maxRecDepth 100000 in
theorem vX9_readStorm : ∀ pc, am_chk mX9_readStorm pc (am_lk am_ce0 kX9_readStorm pc) = true := am_vld_ok (n := 131) (by decide +kernel)
set_option maxRecDepth 100000 in
theorem vX9_close : ∀ pc, am_chk mX9_close pc (am_lk am_ce0 kX9_close pc) = true := am_vld_ok (n := 104) (by decide +kernel)
set_option maxRecDepth 100000 in
theorem vX9_stormAt : ∀ pc, am_chk mX9_stormAt pc (am_lk am_ce0 kX9_stormAt pc) = true := am_vld_ok (n := 21) (by decide +kernel)
set_option maxRecDepth 100000 in
theorem vX9_findStorm : ∀ pc, am_chk mX9_findStorm pc (am_lk am_ce0 kX9_findStorm pc) = true := am_vld_ok (n := 45) (by decide +kernel)
set_option maxRecDepth 100000 in
theorem vX9_isName : ∀ pc, am_chk mX9_isName pc (am_lk am_ce0 kX9_isName pc) = true := am_vld_ok (n := 96) (by decide +kernel)
set_option maxRecDepth 100000 in
theorem vX9_readWord : ∀ pc, am_chk mX9_readWord pc (am_lk am_ce0 kX9_readWord pc) = true := am_vld_ok (n := 29) (by decide +kernel)
set_option maxRecDepth 100000 in
theorem vX9_readSemicolon : ∀ pc, am_chk mX9_readSemicolon pc (am_lk am_ce0 kX9_readSemicolon pc) = true := am_vld_ok (n := 29) (by decide +kernel)
set_option maxRecDepth 100000 in
theorem vX9_readNumber : ∀ pc, am_chk mX9_readNumber pc (am_lk am_ce0 kX9_readNumber pc) = true := am_vld_ok (n := 63) (by decide +kernel)
set_option maxRecDepth 100000 in
theorem vX10_init : ∀ pc, am_chk mX10_init pc (am_lk am_ce0 kX10_init pc) = true := am_vld_ok (n := 57) (by decide +kernel)
set_option maxRecDepth 100000 in
theorem vX10_take : ∀ pc, am_chk mX10_take pc (am_lk am_ce0 kX10_take pc) = true := am_vld_ok (n := 44) (by decide +kernel)
set_option maxRecDepth 100000 in
theorem vX10_put : ∀ pc, am_chk mX10_put pc (am_lk am_ce0 kX10_put pc) = true := am_vld_ok (n := 57) (by decide +kernel)
set_option maxRecDepth 100000 in
theorem vX10_cut : ∀ pc, am_chk mX10_cut pc (am_lk am_ce0 kX10_cut pc) = true := am_vld_ok (n := 21) (by decide +kernel)
set_option maxRecDepth 100000 in
theorem vX10_clear : ∀ pc, am_chk mX10_clear pc (am_lk am_ce0 kX10_clear pc) = true := am_vld_ok (n := 6) (by decide +kernel)
set_option maxRecDepth 100000 in
theorem vX10_byteAt : ∀ pc, am_chk mX10_byteAt pc (am_lk am_ce0 kX10_byteAt pc) = true := am_vld_ok (n := 30) (by decide +kernel)
set_option maxRecDepth 100000 in
theorem vX10_readTicks : ∀ pc, am_chk mX10_readTicks pc (am_lk am_ce0 kX10_readTicks pc) = true := am_vld_ok (n := 98) (by decide +kernel)
set_option maxRecDepth 100000 in
theorem vX10_tickAt : ∀ pc, am_chk mX10_tickAt pc (am_lk am_ce0 kX10_tickAt pc) = true := am_vld_ok (n := 29) (by decide +kernel)
set_option maxRecDepth 100000 in
theorem vX10_rewind : ∀ pc, am_chk mX10_rewind pc (am_lk am_ce0 kX10_rewind pc) = true := am_vld_ok (n := 6) (by decide +kernel)
set_option maxRecDepth 100000 in
theorem vX10_nextToken : ∀ pc, am_chk mX10_nextToken pc (am_lk am_ce0 kX10_nextToken pc) = true := am_vld_ok (n := 122) (by decide +kernel)
set_option maxRecDepth 100000 in
theorem vX10_readLettersAndDigits : ∀ pc, am_chk mX10_readLettersAndDigits pc (am_lk am_ce0 kX10_readLettersAndDigits pc) = true := am_vld_ok (n := 167) (by decide +kernel)
set_option maxRecDepth 100000 in
theorem vX10_isBlank : ∀ pc, am_chk mX10_isBlank pc (am_lk am_ce0 kX10_isBlank pc) = true := am_vld_ok (n := 18) (by decide +kernel)
set_option maxRecDepth 100000 in
theorem vX10_isLetter : ∀ pc, am_chk mX10_isLetter pc (am_lk am_ce0 kX10_isLetter pc) = true := am_vld_ok (n := 18) (by decide +kernel)
set_option maxRecDepth 100000 in
theorem vX10_isDigit : ∀ pc, am_chk mX10_isDigit pc (am_lk am_ce0 kX10_isDigit pc) = true := am_vld_ok (n := 18) (by decide +kernel)
set_option maxRecDepth 100000 in
theorem vX10_isWord : ∀ pc, am_chk mX10_isWord pc (am_lk am_ce0 kX10_isWord pc) = true := am_vld_ok (n := 64) (by decide +kernel)
set_option maxRecDepth 100000 in
theorem vX10_isWordAt : ∀ pc, am_chk mX10_isWordAt pc (am_lk am_ce0 kX10_isWordAt pc) = true := am_vld_ok (n := 64) (by decide +kernel)
set_option maxRecDepth 100000 in
theorem vX11_init : ∀ pc, am_chk mX11_init pc (am_lk am_ce0 kX11_init pc) = true := am_vld_ok (n := 152) (by decide +kernel)
set_option maxRecDepth 100000 in
theorem vX11_feed : ∀ pc, am_chk mX11_feed pc (am_lk am_ce0 kX11_feed pc) = true := am_vld_ok (n := 15) (by decide +kernel)
set_option maxRecDepth 100000 in
theorem vX11_end : ∀ pc, am_chk mX11_end pc (am_lk am_ce0 kX11_end pc) = true := am_vld_ok (n := 9) (by decide +kernel)
set_option maxRecDepth 100000 in
theorem vX11_board : ∀ pc, am_chk mX11_board pc (am_lk am_ce0 kX11_board pc) = true := am_vld_ok (n := 123) (by decide +kernel)
set_option maxRecDepth 100000 in
theorem vX11_run : ∀ pc, am_chk mX11_run pc (am_lk am_ce0 kX11_run pc) = true := am_vld_ok (n := 62) (by decide +kernel)
set_option maxRecDepth 100000 in
theorem vX11_fall : ∀ pc, am_chk mX11_fall pc (am_lk am_ce0 kX11_fall pc) = true := am_vld_ok (n := 43) (by decide +kernel)
set_option maxRecDepth 100000 in
theorem vX11_knock : ∀ pc, am_chk mX11_knock pc (am_lk am_ce0 kX11_knock pc) = true := am_vld_ok (n := 46) (by decide +kernel)
set_option maxRecDepth 100000 in
theorem vX11_machine : ∀ pc, am_chk mX11_machine pc (am_lk am_ce0 kX11_machine pc) = true := am_vld_ok (n := 64) (by decide +kernel)
set_option maxRecDepth 100000 in
theorem vX11_man : ∀ pc, am_chk mX11_man pc (am_lk am_ce0 kX11_man pc) = true := am_vld_ok (n := 23) (by decide +kernel)
set_option maxRecDepth 100000 in
theorem vX11_score : ∀ pc, am_chk mX11_score pc (am_lk am_ce0 kX11_score pc) = true := am_vld_ok (n := 69) (by decide +kernel)
set_option maxRecDepth 100000 in
theorem vX11_fault : ∀ pc, am_chk mX11_fault pc (am_lk am_ce0 kX11_fault pc) = true := am_vld_ok (n := 8) (by decide +kernel)
set_option maxRecDepth 100000 in
theorem vX11_event : ∀ pc, am_chk mX11_event pc (am_lk am_ce0 kX11_event pc) = true := am_vld_ok (n := 124) (by decide +kernel)
set_option maxRecDepth 100000 in
theorem vX11_night : ∀ pc, am_chk mX11_night pc (am_lk am_ce0 kX11_night pc) = true := am_vld_ok (n := 27) (by decide +kernel)
set_option maxRecDepth 100000 in
theorem vX11_sound : ∀ pc, am_chk mX11_sound pc (am_lk am_ce0 kX11_sound pc) = true := am_vld_ok (n := 46) (by decide +kernel)
set_option maxRecDepth 100000 in
theorem vX11_told : ∀ pc, am_chk mX11_told pc (am_lk am_ce0 kX11_told pc) = true := am_vld_ok (n := 78) (by decide +kernel)
set_option maxRecDepth 100000 in
theorem vX11_made : ∀ pc, am_chk mX11_made pc (am_lk am_ce0 kX11_made pc) = true := am_vld_ok (n := 16) (by decide +kernel)
end
section
/-! The code tables fit (printed by wip/whole/gen15.py). -/
set_option maxRecDepth 100000 in
theorem vX11_who : ∀ pc, am_chk mX11_who pc (am_lk am_ce0 kX11_who pc) = true := am_vld_ok (n := 30) (by decide +kernel)
set_option maxRecDepth 100000 in
theorem vX11_balls : ∀ pc, am_chk mX11_balls pc (am_lk am_ce0 kX11_balls pc) = true := am_vld_ok (n := 68) (by decide +kernel)
set_option maxRecDepth 100000 in
theorem vX11_fillings : ∀ pc, am_chk mX11_fillings pc (am_lk am_ce0 kX11_fillings pc) = true := am_vld_ok (n := 29) (by decide +kernel)
set_option maxRecDepth 100000 in
theorem vX11_lay : ∀ pc, am_chk mX11_lay pc (am_lk am_ce0 kX11_lay pc) = true := am_vld_ok (n := 58) (by decide +kernel)
set_option maxRecDepth 100000 in
theorem vX11_laid : ∀ pc, am_chk mX11_laid pc (am_lk am_ce0 kX11_laid pc) = true := am_vld_ok (n := 9) (by decide +kernel)
set_option maxRecDepth 100000 in
theorem vX11_worn : ∀ pc, am_chk mX11_worn pc (am_lk am_ce0 kX11_worn pc) = true := am_vld_ok (n := 44) (by decide +kernel)
set_option maxRecDepth 100000 in
theorem vX11_count : ∀ pc, am_chk mX11_count pc (am_lk am_ce0 kX11_count pc) = true := am_vld_ok (n := 84) (by decide +kernel)
set_option maxRecDepth 100000 in
theorem vX11_within : ∀ pc, am_chk mX11_within pc (am_lk am_ce0 kX11_within pc) = true := am_vld_ok (n := 16) (by decide +kernel)
set_option maxRecDepth 100000 in
theorem vX11_pathOf : ∀ pc, am_chk mX11_pathOf pc (am_lk am_ce0 kX11_pathOf pc) = true := am_vld_ok (n := 35) (by decide +kernel)
set_option maxRecDepth 100000 in
theorem vX11_runsThatAre : ∀ pc, am_chk mX11_runsThatAre pc (am_lk am_ce0 kX11_runsThatAre pc) = true := am_vld_ok (n := 28) (by decide +kernel)
set_option maxRecDepth 100000 in
theorem vX11_canStand : ∀ pc, am_chk mX11_canStand pc (am_lk am_ce0 kX11_canStand pc) = true := am_vld_ok (n := 88) (by decide +kernel)
set_option maxRecDepth 100000 in
theorem vX12_init : ∀ pc, am_chk mX12_init pc (am_lk am_ce0 kX12_init pc) = true := am_vld_ok (n := 431) (by decide +kernel)
set_option maxRecDepth 100000 in
theorem vX12_thrown : ∀ pc, am_chk mX12_thrown pc (am_lk am_ce0 kX12_thrown pc) = true := am_vld_ok (n := 5) (by decide +kernel)
set_option maxRecDepth 100000 in
theorem vX12_refuse : ∀ pc, am_chk mX12_refuse pc (am_lk am_ce0 kX12_refuse pc) = true := am_vld_ok (n := 7) (by decide +kernel)
set_option maxRecDepth 100000 in
theorem vX12_come : ∀ pc, am_chk mX12_come pc (am_lk am_ce0 kX12_come pc) = true := am_vld_ok (n := 40) (by decide +kernel)
set_option maxRecDepth 100000 in
theorem vX12_feed : ∀ pc, am_chk mX12_feed pc (am_lk am_ce0 kX12_feed pc) = true := am_vld_ok (n := 52) (by decide +kernel)
set_option maxRecDepth 100000 in
theorem vX12_end : ∀ pc, am_chk mX12_end pc (am_lk am_ce0 kX12_end pc) = true := am_vld_ok (n := 26) (by decide +kernel)
set_option maxRecDepth 100000 in
theorem vX12_isIn : ∀ pc, am_chk mX12_isIn pc (am_lk am_ce0 kX12_isIn pc) = true := am_vld_ok (n := 16) (by decide +kernel)
set_option maxRecDepth 100000 in
theorem vX12_board : ∀ pc, am_chk mX12_board pc (am_lk am_ce0 kX12_board pc) = true := am_vld_ok (n := 138) (by decide +kernel)
set_option maxRecDepth 100000 in
theorem vX12_isSlot : ∀ pc, am_chk mX12_isSlot pc (am_lk am_ce0 kX12_isSlot pc) = true := am_vld_ok (n := 15) (by decide +kernel)
set_option maxRecDepth 100000 in
theorem vX12_isRun : ∀ pc, am_chk mX12_isRun pc (am_lk am_ce0 kX12_isRun pc) = true := am_vld_ok (n := 22) (by decide +kernel)
set_option maxRecDepth 100000 in
theorem vX12_run : ∀ pc, am_chk mX12_run pc (am_lk am_ce0 kX12_run pc) = true := am_vld_ok (n := 220) (by decide +kernel)
set_option maxRecDepth 100000 in
theorem vX12_lengthAt : ∀ pc, am_chk mX12_lengthAt pc (am_lk am_ce0 kX12_lengthAt pc) = true := am_vld_ok (n := 20) (by decide +kernel)
set_option maxRecDepth 100000 in
theorem vX12_nextOf : ∀ pc, am_chk mX12_nextOf pc (am_lk am_ce0 kX12_nextOf pc) = true := am_vld_ok (n := 35) (by decide +kernel)
set_option maxRecDepth 100000 in
theorem vX12_step : ∀ pc, am_chk mX12_step pc (am_lk am_ce0 kX12_step pc) = true := am_vld_ok (n := 300) (by decide +kernel)
set_option maxRecDepth 100000 in
theorem vX12_follow : ∀ pc, am_chk mX12_follow pc (am_lk am_ce0 kX12_follow pc) = true := am_vld_ok (n := 156) (by decide +kernel)
set_option maxRecDepth 100000 in
theorem vX12_fall : ∀ pc, am_chk mX12_fall pc (am_lk am_ce0 kX12_fall pc) = true := am_vld_ok (n := 139) (by decide +kernel)
set_option maxRecDepth 100000 in
theorem vX12_knock : ∀ pc, am_chk mX12_knock pc (am_lk am_ce0 kX12_knock pc) = true := am_vld_ok (n := 65) (by decide +kernel)
set_option maxRecDepth 100000 in
theorem vX12_machine : ∀ pc, am_chk mX12_machine pc (am_lk am_ce0 kX12_machine pc) = true := am_vld_ok (n := 166) (by decide +kernel)
set_option maxRecDepth 100000 in
theorem vX12_man : ∀ pc, am_chk mX12_man pc (am_lk am_ce0 kX12_man pc) = true := am_vld_ok (n := 52) (by decide +kernel)
set_option maxRecDepth 100000 in
theorem vX12_byteAt : ∀ pc, am_chk mX12_byteAt pc (am_lk am_ce0 kX12_byteAt pc) = true := am_vld_ok (n := 19) (by decide +kernel)
set_option maxRecDepth 100000 in
theorem vX12_isDigit : ∀ pc, am_chk mX12_isDigit pc (am_lk am_ce0 kX12_isDigit pc) = true := am_vld_ok (n := 18) (by decide +kernel)
set_option maxRecDepth 100000 in
theorem vX12_isLetter : ∀ pc, am_chk mX12_isLetter pc (am_lk am_ce0 kX12_isLetter pc) = true := am_vld_ok (n := 18) (by decide +kernel)
set_option maxRecDepth 100000 in
theorem vX12_go : ∀ pc, am_chk mX12_go pc (am_lk am_ce0 kX12_go pc) = true := am_vld_ok (n := 356) (by decide +kernel)
set_option maxRecDepth 100000 in
theorem vX12_spelt : ∀ pc, am_chk mX12_spelt pc (am_lk am_ce0 kX12_spelt pc) = true := am_vld_ok (n := 82) (by decide +kernel)
set_option maxRecDepth 100000 in
theorem vX12_isKey : ∀ pc, am_chk mX12_isKey pc (am_lk am_ce0 kX12_isKey pc) = true := am_vld_ok (n := 23) (by decide +kernel)
set_option maxRecDepth 100000 in
theorem vX12_isAt : ∀ pc, am_chk mX12_isAt pc (am_lk am_ce0 kX12_isAt pc) = true := am_vld_ok (n := 15) (by decide +kernel)
set_option maxRecDepth 100000 in
theorem vX12_isUse : ∀ pc, am_chk mX12_isUse pc (am_lk am_ce0 kX12_isUse pc) = true := am_vld_ok (n := 16) (by decide +kernel)
set_option maxRecDepth 100000 in
theorem vX12_isWith : ∀ pc, am_chk mX12_isWith pc (am_lk am_ce0 kX12_isWith pc) = true := am_vld_ok (n := 17) (by decide +kernel)
set_option maxRecDepth 100000 in
theorem vX12_isEnd : ∀ pc, am_chk mX12_isEnd pc (am_lk am_ce0 kX12_isEnd pc) = true := am_vld_ok (n := 16) (by decide +kernel)
set_option maxRecDepth 100000 in
theorem vX12_isStorm : ∀ pc, am_chk mX12_isStorm pc (am_lk am_ce0 kX12_isStorm pc) = true := am_vld_ok (n := 18) (by decide +kernel)
set_option maxRecDepth 100000 in
theorem vX12_isTimes : ∀ pc, am_chk mX12_isTimes pc (am_lk am_ce0 kX12_isTimes pc) = true := am_vld_ok (n := 18) (by decide +kernel)
set_option maxRecDepth 100000 in
theorem vX12_isEvery : ∀ pc, am_chk mX12_isEvery pc (am_lk am_ce0 kX12_isEvery pc) = true := am_vld_ok (n := 18) (by decide +kernel)
set_option maxRecDepth 100000 in
theorem vX12_isPlay : ∀ pc, am_chk mX12_isPlay pc (am_lk am_ce0 kX12_isPlay pc) = true := am_vld_ok (n := 17) (by decide +kernel)
set_option maxRecDepth 100000 in
theorem vX12_isName : ∀ pc, am_chk mX12_isName pc (am_lk am_ce0 kX12_isName pc) = true := am_vld_ok (n := 70) (by decide +kernel)
set_option maxRecDepth 100000 in
theorem vX12_bad : ∀ pc, am_chk mX12_bad pc (am_lk am_ce0 kX12_bad pc) = true := am_vld_ok (n := 27) (by decide +kernel)
set_option maxRecDepth 100000 in
theorem vX12_readNumber : ∀ pc, am_chk mX12_readNumber pc (am_lk am_ce0 kX12_readNumber pc) = true := am_vld_ok (n := 40) (by decide +kernel)
set_option maxRecDepth 100000 in
theorem vX12_readEnd : ∀ pc, am_chk mX12_readEnd pc (am_lk am_ce0 kX12_readEnd pc) = true := am_vld_ok (n := 22) (by decide +kernel)
set_option maxRecDepth 100000 in
theorem vX12_clear : ∀ pc, am_chk mX12_clear pc (am_lk am_ce0 kX12_clear pc) = true := am_vld_ok (n := 15) (by decide +kernel)
set_option maxRecDepth 100000 in
theorem vX12_put : ∀ pc, am_chk mX12_put pc (am_lk am_ce0 kX12_put pc) = true := am_vld_ok (n := 75) (by decide +kernel)
set_option maxRecDepth 100000 in
theorem vX12_pour : ∀ pc, am_chk mX12_pour pc (am_lk am_ce0 kX12_pour pc) = true := am_vld_ok (n := 80) (by decide +kernel)
set_option maxRecDepth 100000 in
theorem vX12_readUse : ∀ pc, am_chk mX12_readUse pc (am_lk am_ce0 kX12_readUse pc) = true := am_vld_ok (n := 154) (by decide +kernel)
set_option maxRecDepth 100000 in
theorem vX12_stormOf : ∀ pc, am_chk mX12_stormOf pc (am_lk am_ce0 kX12_stormOf pc) = true := am_vld_ok (n := 31) (by decide +kernel)
set_option maxRecDepth 100000 in
theorem vX12_readPlay : ∀ pc, am_chk mX12_readPlay pc (am_lk am_ce0 kX12_readPlay pc) = true := am_vld_ok (n := 121) (by decide +kernel)
set_option maxRecDepth 100000 in
theorem vX12_readTimes : ∀ pc, am_chk mX12_readTimes pc (am_lk am_ce0 kX12_readTimes pc) = true := am_vld_ok (n := 122) (by decide +kernel)
set_option maxRecDepth 100000 in
theorem vX12_endTimes : ∀ pc, am_chk mX12_endTimes pc (am_lk am_ce0 kX12_endTimes pc) = true := am_vld_ok (n := 73) (by decide +kernel)
set_option maxRecDepth 100000 in
theorem vX12_readStorm : ∀ pc, am_chk mX12_readStorm pc (am_lk am_ce0 kX12_readStorm pc) = true := am_vld_ok (n := 90) (by decide +kernel)
set_option maxRecDepth 100000 in
theorem vX12_readPiece : ∀ pc, am_chk mX12_readPiece pc (am_lk am_ce0 kX12_readPiece pc) = true := am_vld_ok (n := 160) (by decide +kernel)
set_option maxRecDepth 100000 in
theorem vX12_score : ∀ pc, am_chk mX12_score pc (am_lk am_ce0 kX12_score pc) = true := am_vld_ok (n := 261) (by decide +kernel)
set_option maxRecDepth 100000 in
theorem vX12_fault : ∀ pc, am_chk mX12_fault pc (am_lk am_ce0 kX12_fault pc) = true := am_vld_ok (n := 10) (by decide +kernel)
set_option maxRecDepth 100000 in
theorem vX12_takes : ∀ pc, am_chk mX12_takes pc (am_lk am_ce0 kX12_takes pc) = true := am_vld_ok (n := 44) (by decide +kernel)
set_option maxRecDepth 100000 in
theorem vX12_worth : ∀ pc, am_chk mX12_worth pc (am_lk am_ce0 kX12_worth pc) = true := am_vld_ok (n := 32) (by decide +kernel)
end
section
/-! The code tables fit (printed by wip/whole/gen15.py). -/
set_option maxRecDepth 100000 in
theorem vX12_event : ∀ pc, am_chk mX12_event pc (am_lk am_ce0 kX12_event pc) = true := am_vld_ok (n := 97) (by decide +kernel)
set_option maxRecDepth 100000 in
theorem vX12_hear : ∀ pc, am_chk mX12_hear pc (am_lk am_ce0 kX12_hear pc) = true := am_vld_ok (n := 71) (by decide +kernel)
set_option maxRecDepth 100000 in
theorem vX12_rollAll : ∀ pc, am_chk mX12_rollAll pc (am_lk am_ce0 kX12_rollAll pc) = true := am_vld_ok (n := 445) (by decide +kernel)
set_option maxRecDepth 100000 in
theorem vX12_use : ∀ pc, am_chk mX12_use pc (am_lk am_ce0 kX12_use pc) = true := am_vld_ok (n := 145) (by decide +kernel)
set_option maxRecDepth 100000 in
theorem vX12_night : ∀ pc, am_chk mX12_night pc (am_lk am_ce0 kX12_night pc) = true := am_vld_ok (n := 111) (by decide +kernel)
set_option maxRecDepth 100000 in
theorem vX12_sound : ∀ pc, am_chk mX12_sound pc (am_lk am_ce0 kX12_sound pc) = true := am_vld_ok (n := 65) (by decide +kernel)
set_option maxRecDepth 100000 in
theorem vX12_told : ∀ pc, am_chk mX12_told pc (am_lk am_ce0 kX12_told pc) = true := am_vld_ok (n := 67) (by decide +kernel)
set_option maxRecDepth 100000 in
theorem vX12_choose : ∀ pc, am_chk mX12_choose pc (am_lk am_ce0 kX12_choose pc) = true := am_vld_ok (n := 12) (by decide +kernel)
set_option maxRecDepth 100000 in
theorem vX12_prepare : ∀ pc, am_chk mX12_prepare pc (am_lk am_ce0 kX12_prepare pc) = true := am_vld_ok (n := 134) (by decide +kernel)
set_option maxRecDepth 100000 in
theorem vX12_bitsOf : ∀ pc, am_chk mX12_bitsOf pc (am_lk am_ce0 kX12_bitsOf pc) = true := am_vld_ok (n := 26) (by decide +kernel)
set_option maxRecDepth 100000 in
theorem vX12_far : ∀ pc, am_chk mX12_far pc (am_lk am_ce0 kX12_far pc) = true := am_vld_ok (n := 15) (by decide +kernel)
set_option maxRecDepth 100000 in
theorem vX12_standOf : ∀ pc, am_chk mX12_standOf pc (am_lk am_ce0 kX12_standOf pc) = true := am_vld_ok (n := 12) (by decide +kernel)
set_option maxRecDepth 100000 in
theorem vX12_mayFollow : ∀ pc, am_chk mX12_mayFollow pc (am_lk am_ce0 kX12_mayFollow pc) = true := am_vld_ok (n := 41) (by decide +kernel)
set_option maxRecDepth 100000 in
theorem vX12_mayBegin : ∀ pc, am_chk mX12_mayBegin pc (am_lk am_ce0 kX12_mayBegin pc) = true := am_vld_ok (n := 29) (by decide +kernel)
set_option maxRecDepth 100000 in
theorem vX12_cellOf : ∀ pc, am_chk mX12_cellOf pc (am_lk am_ce0 kX12_cellOf pc) = true := am_vld_ok (n := 89) (by decide +kernel)
set_option maxRecDepth 100000 in
theorem vX12_workOut : ∀ pc, am_chk mX12_workOut pc (am_lk am_ce0 kX12_workOut pc) = true := am_vld_ok (n := 186) (by decide +kernel)
set_option maxRecDepth 100000 in
theorem vX12_goesOn : ∀ pc, am_chk mX12_goesOn pc (am_lk am_ce0 kX12_goesOn pc) = true := am_vld_ok (n := 86) (by decide +kernel)
set_option maxRecDepth 100000 in
theorem vX12_fillTable : ∀ pc, am_chk mX12_fillTable pc (am_lk am_ce0 kX12_fillTable pc) = true := am_vld_ok (n := 143) (by decide +kernel)
set_option maxRecDepth 100000 in
theorem vX12_cellByMen : ∀ pc, am_chk mX12_cellByMen pc (am_lk am_ce0 kX12_cellByMen pc) = true := am_vld_ok (n := 112) (by decide +kernel)
set_option maxRecDepth 100000 in
theorem vX12_made : ∀ pc, am_chk mX12_made pc (am_lk am_ce0 kX12_made pc) = true := am_vld_ok (n := 212) (by decide +kernel)
set_option maxRecDepth 100000 in
theorem vX12_who : ∀ pc, am_chk mX12_who pc (am_lk am_ce0 kX12_who pc) = true := am_vld_ok (n := 35) (by decide +kernel)
set_option maxRecDepth 100000 in
theorem vX12_balls : ∀ pc, am_chk mX12_balls pc (am_lk am_ce0 kX12_balls pc) = true := am_vld_ok (n := 143) (by decide +kernel)
set_option maxRecDepth 100000 in
theorem vX12_isLetGo : ∀ pc, am_chk mX12_isLetGo pc (am_lk am_ce0 kX12_isLetGo pc) = true := am_vld_ok (n := 35) (by decide +kernel)
set_option maxRecDepth 100000 in
theorem vX12_fillings : ∀ pc, am_chk mX12_fillings pc (am_lk am_ce0 kX12_fillings pc) = true := am_vld_ok (n := 387) (by decide +kernel)
set_option maxRecDepth 100000 in
theorem vX12_takeTicks : ∀ pc, am_chk mX12_takeTicks pc (am_lk am_ce0 kX12_takeTicks pc) = true := am_vld_ok (n := 101) (by decide +kernel)
set_option maxRecDepth 100000 in
theorem vX12_err : ∀ pc, am_chk mX12_err pc (am_lk am_ce0 kX12_err pc) = true := am_vld_ok (n := 67) (by decide +kernel)
set_option maxRecDepth 100000 in
theorem vX12_lay : ∀ pc, am_chk mX12_lay pc (am_lk am_ce0 kX12_lay pc) = true := am_vld_ok (n := 235) (by decide +kernel)
set_option maxRecDepth 100000 in
theorem vX12_laid : ∀ pc, am_chk mX12_laid pc (am_lk am_ce0 kX12_laid pc) = true := am_vld_ok (n := 28) (by decide +kernel)
set_option maxRecDepth 100000 in
theorem vX12_explains : ∀ pc, am_chk mX12_explains pc (am_lk am_ce0 kX12_explains pc) = true := am_vld_ok (n := 59) (by decide +kernel)
set_option maxRecDepth 100000 in
theorem vX12_worn : ∀ pc, am_chk mX12_worn pc (am_lk am_ce0 kX12_worn pc) = true := am_vld_ok (n := 179) (by decide +kernel)
set_option maxRecDepth 100000 in
theorem vX12_count : ∀ pc, am_chk mX12_count pc (am_lk am_ce0 kX12_count pc) = true := am_vld_ok (n := 101) (by decide +kernel)
set_option maxRecDepth 100000 in
theorem vL_knock : ∀ pc, am_chk mL_knock pc (am_lk am_ce0 kL_knock pc) = true := am_vld_ok (n := 19) (by decide +kernel)
set_option maxRecDepth 100000 in
theorem vL_event : ∀ pc, am_chk mL_event pc (am_lk am_ce0 kL_event pc) = true := am_vld_ok (n := 19) (by decide +kernel)
set_option maxRecDepth 100000 in
theorem vL_sound : ∀ pc, am_chk mL_sound pc (am_lk am_ce0 kL_sound pc) = true := am_vld_ok (n := 19) (by decide +kernel)
end
section
/-! Numbers, frames, the state behind the constructors. -/
theorem zI_toInt {a : Int} (h1 : -2147483648 ≤ a) (h2 : a < 2147483648) : (zI a).toInt = a := Int32.toInt_ofInt_of_le (by omega) (by omega)
theorem zI_add (a b : Int) : zI a + zI b = zI (a + b) := (Int32.ofInt_add a b).symm
theorem zI_sub (a b : Int) : zI a - zI b = zI (a - b) := (Int32.ofInt_sub a b).symm
theorem zI_mul (a b : Int) : zI a * zI b = zI (a * b) := (Int32.ofInt_mul a b).symm
theorem zI_neg (a : Int) : -zI a = zI (-a) := (Int32.ofInt_neg a).symm
theorem zI_self (x : Int32) : zI x.toInt = x := Int32.ofInt_toInt x
theorem zI_rng (x : Int32) : -2147483648 ≤ x.toInt ∧ x.toInt < 2147483648 := ⟨Int32.le_toInt x, Int32.toInt_lt x⟩
theorem zI_ex (x : Int32) : ∃ a : Int, x = zI a ∧ -2147483648 ≤ a ∧ a < 2147483648 := ⟨x.toInt, (zI_self x).symm, zI_rng x⟩
theorem zI_inj {a b : Int} (h1 : -2147483648 ≤ a) (h2 : a < 2147483648) (h3 : -2147483648 ≤ b) (h4 : b < 2147483648) (h : zI a = zI b) : a = b := by
  have := congrArg Int32.toInt h
  rwa [zI_toInt h1 h2, zI_toInt h3 h4] at this
theorem zI_ne {a b : Int} (h1 : -2147483648 ≤ a) (h2 : a < 2147483648) (h3 : -2147483648 ≤ b) (h4 : b < 2147483648) (h : a ≠ b) : zI a ≠ zI b := fun q => h (zI_inj h1 h2 h3 h4 q)
theorem zI_of_toInt {x : Int32} {a : Int} (h : x.toInt = a) : x = zI a := by rw [← h, zI_self]
theorem zI_div {a b : Int} (h1 : -2147483648 < a) (h2 : a < 2147483648) (h3 : 0 < b) (h4 : b < 2147483648) : zI a / zI b = zI (a.tdiv b) := by
  refine zI_of_toInt ?_
  rw [Int32.toInt_div_of_ne_left _ _ (fun q => by have := congrArg Int32.toInt q; rw [zI_toInt (by omega) h2] at this; have e9 : Int32.minValue.toInt = -2147483648 := (by decide); omega), zI_toInt (by omega) h2, zI_toInt (by omega) h4]
theorem zI_divN {a b : Int} (h1 : 0 ≤ a) (h2 : a < 2147483648) (h3 : 0 < b) (h4 : b < 2147483648) : zI a / zI b = zI (a / b) := by
  rw [zI_div (by omega) h2 h3 h4, Int.tdiv_eq_ediv_of_nonneg h1]
theorem zI_remN {a b : Int} (h1 : 0 ≤ a) (h2 : a < 2147483648) (h3 : 0 < b) (h4 : b < 2147483648) : zI a - zI a / zI b * zI b = zI (a % b) := by
  rw [zI_divN h1 h2 h3 h4, zI_mul, zI_sub, Int.emod_def, Int.mul_comm]
theorem am_max_z {a b : Int} (h1 : -2147483648 ≤ a) (h2 : a < 2147483648) (h3 : -2147483648 ≤ b) (h4 : b < 2147483648) : am_max (zI a) (zI b) = zI (max a b) := by
  unfold am_max
  split
  · next h => rw [Int32.lt_iff_toInt_lt, zI_toInt (by omega) (by omega), zI_toInt (by omega) (by omega)] at h; congr 1; omega
  · next h => rw [Int32.lt_iff_toInt_lt, zI_toInt (by omega) (by omega), zI_toInt (by omega) (by omega)] at h; congr 1; omega
theorem am_min_z {a b : Int} (h1 : -2147483648 ≤ a) (h2 : a < 2147483648) (h3 : -2147483648 ≤ b) (h4 : b < 2147483648) : am_min (zI a) (zI b) = zI (min a b) := by
  unfold am_min
  split
  · next h => rw [Int32.lt_iff_toInt_lt, zI_toInt (by omega) (by omega), zI_toInt (by omega) (by omega)] at h; congr 1; omega
  · next h => rw [Int32.lt_iff_toInt_lt, zI_toInt (by omega) (by omega), zI_toInt (by omega) (by omega)] at h; congr 1; omega
theorem am_abs_z {a : Int} (h1 : -2147483648 < a) (h2 : a < 2147483648) : am_abs (zI a) = zI (a.natAbs : Int) := by
  unfold am_abs
  rw [show (0 : Int32) = zI 0 from rfl, zI_sub]
  split
  · next h => rw [Int32.le_iff_toInt_le, zI_toInt (by omega) (by omega), zI_toInt (by omega) (by omega)] at h; congr 1; omega
  · next h => rw [Int32.le_iff_toInt_le, zI_toInt (by omega) (by omega), zI_toInt (by omega) (by omega)] at h; congr 1; omega
theorem up3_a {α : Type} (f : Nat → Nat → Nat → α) (v i j : Nat) (x : α) (v' i' j' : Nat) : up3 f v i j x v' i' j' = if v' = v ∧ i' = i ∧ j' = j then x else f v' i' j' := rfl
theorem up3_s {α : Type} (f : Nat → Nat → Nat → α) (v i j : Nat) (x : α) : up3 f v i j x v i j = x := by simp [up3]
theorem up3_v {α : Type} (f : Nat → Nat → Nat → α) {v i j : Nat} {x : α} {v' : Nat} (h : v' ≠ v) : up3 f v i j x v' = f v' := by
  funext i' j'
  simp [up3, h]
theorem up3_i {α : Type} (f : Nat → Nat → Nat → α) {v i j : Nat} {x : α} {v' i' : Nat} (h : i' ≠ i) : up3 f v i j x v' i' = f v' i' := by
  funext j'
  simp [up3, h]
theorem up3_j {α : Type} (f : Nat → Nat → Nat → α) {v i j : Nat} {x : α} {v' i' j' : Nat} (h : j' ≠ j) : up3 f v i j x v' i' j' = f v' i' j' := by
  simp [up3, h]
/-- nothing but what P tells has changed -/
def FrI (P : Nat → Nat → Bool) (I I' : II) : Prop := ∀ v i, P v i = false → I' v i = I v i
theorem FrI.rf {P : Nat → Nat → Bool} {I : II} : FrI P I I := fun _ _ _ => rfl
theorem FrI.up {P : Nat → Nat → Bool} {I I' : II} (h : FrI P I I') {v i j : Nat} {x : Int32} (hP : P v i = true) : FrI P I (up3 I' v i j x) := by
  intro v' i' hq
  rw [← h v' i' hq]
  by_cases e : v' = v
  · subst e
    have : i' ≠ i := fun q => by subst q; rw [hP] at hq; cases hq
    exact up3_i _ this
  · rw [up3_v _ e]
theorem FrI.tr {P : Nat → Nat → Bool} {I I' I2 : II} (h : FrI P I I') (h2 : FrI P I' I2) : FrI P I I2 := fun v i hq => (h2 v i hq).trans (h v i hq)
theorem FrI.mono {P P2 : Nat → Nat → Bool} {I I' : II} (h : FrI P I I') (hp : ∀ v i, P2 v i = false → P v i = false) : FrI P2 I I' := fun v i hq => h v i (hp v i hq)
/-- the variables of a list, of single things -/
def V0 (l : List Nat) : Nat → Nat → Bool := fun v _ => l.elem v
/-- the variables of a list, of the thing p -/
def V1 (l : List Nat) (p : Nat) : Nat → Nat → Bool := fun v i => l.elem v && i == p
/-- behind the constructors -/
def am_iniM : Nat → Nat → Nat → Bool := fun c i _ => cond (Nat.beq c 1) false (cond (Nat.beq c 1000) (!(Nat.beq i 1)) true)
abbrev GM (gc : Nat → Nat) : GG := (am_iniM, gc)
def am_cntT : List (List Nat) := [[27, 0, 1, 1, 2, 1, 1, 4, 10, 1, 1, 1, 1]]
def bt (w : Int32) (s : Int) : Int32 := (w.toUInt32 >>> ((zI s).toUInt32 &&& Int32.toUInt32 31)).toInt32 &&& zI 255
theorem bt_rng (w : Int32) (s : Int) : 0 ≤ (bt w s).toInt ∧ (bt w s).toInt ≤ 255 := by
  obtain ⟨j, hj, e⟩ := pk_andE (w.toUInt32 >>> ((zI s).toUInt32 &&& Int32.toUInt32 31)).toInt32 (m := zI 255) 8 (by decide +kernel)
  unfold bt
  rw [e, nI_toInt (by omega)]
  omega
end
section
/-! The tape of the class: put, take, cut, clear, byteAt, rewind. -/
/-- four bytes come -/
def tk4 (f : Nat → Int32) (s : Nat) (w : Int32) : Nat → Int32 := fun j => if j = s then bt w 24 else if j = s + 1 then bt w 16 else if j = s + 2 then bt w 8 else if j = s + 3 then bt w 0 else f j
theorem put_it {Γ : AMG} {Q : QQ} {d : Nat} {n x2 : Int32} {I : II} {Lg : LJ} {R : RR} {gc : Nat → Nat} {s sz : Int} (hx : x2 = zI s) (hsz : I 39 0 0 = zI sz) (h0 : 0 ≤ sz) (h1 : sz < 640) (hs0 : 0 ≤ s) (hs1 : s ≤ 24)
    (h : ∀ (x2 : Int32) (I' : II), x2 = zI (s - 8) → I' 39 0 0 = zI (sz + 1) → FrI (V0 [123, 39]) I I' → (I' 123 0 = fun j => if j = sz.toNat then bt n s else I 123 0 j) → am_J Γ mX10_put Q d 0 0 3 [some (vR 10 0), some (vI n), some (vI x2)] [] I' Lg R (GM gc)) :
    am_J Γ mX10_put Q d 0 0 3 [some (vR 10 0), some (vI n), some (vI x2)] [] I Lg R (GM gc) := by
  subst hx
  refine am_go vX10_put 40 ?_
  refine And.intro (fun c => ?_) (fun _ => ?_)
  · exact absurd c (by rw [zI_toInt (by omega) (by omega)]; omega)
  refine And.intro (fun c => ?_) (fun _ => ?_)
  · exact absurd c (by rw [hsz, zI_toInt (by omega) (by omega)]; omega)
  refine And.intro (fun c => ?_) (fun _ => ?_)
  · exact absurd c (by rw [hsz, zI_toInt (by omega) (by omega), zI_toInt (by omega) (by omega)]; omega)
  refine And.intro (by rw [hsz, zI_toInt (by omega) (by omega)]; omega) ?_
  refine h _ _ ?_ ?_ ((FrI.rf.up rfl).up rfl) ?_
  · rw [zI_add]; congr 1
  · simp only [up3_s]
    rw [up3_v _ (by decide), hsz, zI_add]
  · rw [up3_v _ (by decide), hsz, zI_toInt (by omega) (by omega)]
    funext j
    simp only [up3_a, true_and]
    rfl
set_option maxRecDepth 100000 in
theorem s_put {Γ : AMG} {Q : QQ} {d : Nat} {n : Int32} {I : II} {Lg : LJ} {R : RR} {gc : Nat → Nat} {sz : Int} (hsz : I 39 0 0 = zI sz) (h0 : 0 ≤ sz) (h1 : sz ≤ 636)
    (h : ∀ (I' : II), I' 39 0 0 = zI (sz + 4) → FrI (V0 [123, 39]) I I' → I' 123 0 = tk4 (I 123 0) sz.toNat n → Q none I' Lg R (GM gc)) :
    am_Sp Γ d 0 0 mX10_put [vR 10 0, vI n] I Lg R (GM gc) Q := by
  refine am_run vX10_put 10 _ rfl rfl rfl rfl ?_
  refine put_it (s := 24) rfl hsz h0 (by omega) (by omega) (by omega) (fun x2 I1 e1 z1 f1 b1 => ?_)
  refine put_it (s := 16) e1 z1 (by omega) (by omega) (by omega) (by omega) (fun x2 I2 e2 z2 f2 b2 => ?_)
  refine put_it (s := 8) e2 z2 (by omega) (by omega) (by omega) (by omega) (fun x2 I3 e3 z3 f3 b3 => ?_)
  refine put_it (s := 0) e3 z3 (by omega) (by omega) (by omega) (by omega) (fun x2 I4 e4 z4 f4 b4 => ?_)
  subst e4
  refine am_go vX10_put 10 ?_
  refine And.intro (fun c => ?_) (fun c => ?_)
  · refine h I4 (by rw [z4]; congr 1; omega) (((f1.tr f2).tr f3).tr f4) ?_
    rw [b4, b3, b2, b1]
    funext j
    unfold tk4
    have e1 : (sz + 1 + 1 + 1).toNat = sz.toNat + 3 := by omega
    have e2 : (sz + 1 + 1).toNat = sz.toNat + 2 := by omega
    have e3 : (sz + 1).toNat = sz.toNat + 1 := by omega
    rw [e1, e2, e3]
    by_cases q0 : j = sz.toNat
    · simp [q0]
    · by_cases q1 : j = sz.toNat + 1
      · simp [q1]
      · by_cases q2 : j = sz.toNat + 2
        · simp [q2]
        · simp [q0, q1, q2]
  · exact absurd c (by rw [zI_toInt (by omega) (by omega)]; omega)
set_option maxRecDepth 100000 in
theorem s_clear {Γ : AMG} {Q : QQ} {d : Nat} {I : II} {Lg : LJ} {R : RR} {gc : Nat → Nat} (h : Q none (up3 I 39 0 0 (zI 0)) Lg R (GM gc)) : am_Sp Γ d 0 0 mX10_clear [vR 10 0] I Lg R (GM gc) Q := by
  refine am_run vX10_clear 10 _ rfl rfl rfl rfl ?_
  exact h
set_option maxRecDepth 100000 in
theorem s_take {Γ : AMG} {Q : QQ} {d : Nat} {a b c e g : Int32} {I : II} {Lg : LJ} {R : RR} {gc : Nat → Nat} {sz : Int} (hsz : I 39 0 0 = zI sz) (h0 : 0 ≤ sz) (h1 : sz ≤ 640)
    (hN : 620 < sz → Q (some (vI (zI (-1)))) I Lg R (GM gc))
    (h : sz ≤ 620 → ∀ (I' : II), I' 39 0 0 = zI (sz + 20) → FrI (V0 [123, 39]) I I' → I' 123 0 = tk4 (tk4 (tk4 (tk4 (tk4 (I 123 0) sz.toNat a) (sz.toNat + 4) b) (sz.toNat + 8) c) (sz.toNat + 12) e) (sz.toNat + 16) g → Q (some (vI (zI (sz + 20)))) I' Lg R (GM gc)) :
    am_Sp Γ (d + 1) 0 0 mX10_take [vR 10 0, vI a, vI b, vI c, vI e, vI g] I Lg R (GM gc) Q := by
  refine am_run vX10_take 40 _ rfl rfl rfl rfl ?_
  refine And.intro (fun q => ?_) (fun q => ?_)
  · rw [hsz, zI_toInt (by omega) (by omega), zI_toInt (by omega) (by omega)] at q
    refine s_put hsz h0 (by omega) (fun I1 z1 f1 b1 => ?_)
    refine s_put z1 (by omega) (by omega) (fun I2 z2 f2 b2 => ?_)
    refine s_put z2 (by omega) (by omega) (fun I3 z3 f3 b3 => ?_)
    refine s_put z3 (by omega) (by omega) (fun I4 z4 f4 b4 => ?_)
    refine s_put z4 (by omega) (by omega) (fun I5 z5 f5 b5 => ?_)
    have e5 : sz + 4 + 4 + 4 + 4 + 4 = sz + 20 := by omega
    rw [e5] at z5
    have key := h q I5 z5 ((((f1.tr f2).tr f3).tr f4).tr f5) (by
      rw [b5, b4, b3, b2, b1, show (sz + 4 + 4 + 4 + 4).toNat = sz.toNat + 16 by omega, show (sz + 4 + 4 + 4).toNat = sz.toNat + 12 by omega, show (sz + 4 + 4).toNat = sz.toNat + 8 by omega, show (sz + 4).toNat = sz.toNat + 4 by omega])
    rw [← z5] at key
    exact key
  · rw [hsz, zI_toInt (by omega) (by omega), zI_toInt (by omega) (by omega)] at q
    exact hN q
set_option maxRecDepth 100000 in
theorem s_cut {Γ : AMG} {Q : QQ} {d : Nat} {n : Int32} {I : II} {Lg : LJ} {R : RR} {gc : Nat → Nat} {sz : Int} (hsz : I 39 0 0 = zI sz) (h0 : 0 ≤ sz) (h1 : sz ≤ 640)
    (hN : (n.toInt < 0 ∨ sz < n.toInt) → Q (some (vI (zI 0))) I Lg R (GM gc))
    (h : 0 ≤ n.toInt → n.toInt ≤ sz → Q (some (vI (zI 1))) (up3 I 39 0 0 n) Lg R (GM gc)) :
    am_Sp Γ d 0 0 mX10_cut [vR 10 0, vI n] I Lg R (GM gc) Q := by
  refine am_run vX10_cut 40 _ rfl rfl rfl rfl ?_
  refine And.intro (fun q => ?_) (fun q => ?_)
  · exact ⟨Or.inl rfl, hN (Or.inl q)⟩
  · refine And.intro (fun q2 => ?_) (fun q2 => ?_)
    · rw [hsz, zI_toInt (by omega) (by omega)] at q2
      exact ⟨Or.inr rfl, h q q2⟩
    · rw [hsz, zI_toInt (by omega) (by omega)] at q2
      exact ⟨Or.inl rfl, hN (Or.inr q2)⟩
end
section
/-! The tape of the reference: come, feed, end; the class's feed and end. -/
theorem come_it {Γ : AMG} {Q : QQ} {d : Nat} {n x2 : Int32} {I : II} {Lg : LJ} {R : RR} {gc : Nat → Nat} {s sz : Int} (hx : x2 = zI s) (hsz : I 48 0 0 = zI sz) (h0 : 0 ≤ sz) (h1 : sz < 640) (hs0 : 0 ≤ s) (hs1 : s ≤ 24)
    (h : ∀ (x2 : Int32) (I' : II), x2 = zI (s - 8) → I' 48 0 0 = zI (sz + 1) → FrI (V0 [125, 48]) I I' → (I' 125 0 = fun j => if j = sz.toNat then bt n s else I 125 0 j) → am_J Γ mX12_come Q d 0 0 3 [some (vR 12 0), some (vI n), some (vI x2)] [] I' Lg R (GM gc)) :
    am_J Γ mX12_come Q d 0 0 3 [some (vR 12 0), some (vI n), some (vI x2)] [] I Lg R (GM gc) := by
  subst hx
  refine am_go vX12_come 40 ?_
  refine And.intro (fun c => ?_) (fun _ => ?_)
  · exact absurd c (by rw [zI_toInt (by omega) (by omega)]; omega)
  refine And.intro (by rw [hsz, zI_toInt (by omega) (by omega)]; omega) ?_
  refine h _ _ ?_ ?_ ((FrI.rf.up rfl).up rfl) ?_
  · rw [zI_add]; congr 1
  · simp only [up3_s]
    rw [up3_v _ (by decide), hsz, zI_add]
  · rw [up3_v _ (by decide), hsz, zI_toInt (by omega) (by omega)]
    funext j
    simp only [up3_a, true_and]
    rfl
set_option maxRecDepth 100000 in
theorem s_come {Γ : AMG} {Q : QQ} {d : Nat} {n : Int32} {I : II} {Lg : LJ} {R : RR} {gc : Nat → Nat} {sz : Int} (hsz : I 48 0 0 = zI sz) (h0 : 0 ≤ sz) (h1 : sz ≤ 636)
    (h : ∀ (I' : II), I' 48 0 0 = zI (sz + 4) → FrI (V0 [125, 48]) I I' → I' 125 0 = tk4 (I 125 0) sz.toNat n → Q none I' Lg R (GM gc)) :
    am_Sp Γ d 0 0 mX12_come [vR 12 0, vI n] I Lg R (GM gc) Q := by
  refine am_run vX12_come 10 _ rfl rfl rfl rfl ?_
  refine come_it (s := 24) rfl hsz h0 (by omega) (by omega) (by omega) (fun x2 I1 e1 z1 f1 b1 => ?_)
  refine come_it (s := 16) e1 z1 (by omega) (by omega) (by omega) (by omega) (fun x2 I2 e2 z2 f2 b2 => ?_)
  refine come_it (s := 8) e2 z2 (by omega) (by omega) (by omega) (by omega) (fun x2 I3 e3 z3 f3 b3 => ?_)
  refine come_it (s := 0) e3 z3 (by omega) (by omega) (by omega) (by omega) (fun x2 I4 e4 z4 f4 b4 => ?_)
  subst e4
  refine am_go vX12_come 10 ?_
  refine And.intro (fun c => ?_) (fun c => ?_)
  · refine h I4 (by rw [z4]; congr 1; omega) (((f1.tr f2).tr f3).tr f4) ?_
    rw [b4, b3, b2, b1]
    funext j
    unfold tk4
    have e1 : (sz + 1 + 1 + 1).toNat = sz.toNat + 3 := by omega
    have e2 : (sz + 1 + 1).toNat = sz.toNat + 2 := by omega
    have e3 : (sz + 1).toNat = sz.toNat + 1 := by omega
    rw [e1, e2, e3]
    by_cases q0 : j = sz.toNat
    · simp [q0]
    · by_cases q1 : j = sz.toNat + 1
      · simp [q1]
      · by_cases q2 : j = sz.toNat + 2
        · simp [q2]
        · simp [q0, q1, q2]
  · exact absurd c (by rw [zI_toInt (by omega) (by omega)]; omega)
set_option maxRecDepth 100000 in
theorem s_mfeed {Γ : AMG} {Q : QQ} {d : Nat} {a b c e g : Int32} {I : II} {Lg : LJ} {R : RR} {gc : Nat → Nat} {sz : Int} (hsz : I 48 0 0 = zI sz) (h0 : 0 ≤ sz) (h1 : sz ≤ 640)
    (hN : 620 < sz → Q (some (vI (zI (-1)))) (up3 I 47 0 0 (zI 0)) Lg R (GM gc))
    (h : sz ≤ 620 → ∀ (I' : II), I' 47 0 0 = zI 0 → I' 48 0 0 = zI (sz + 20) → FrI (V0 [125, 48, 47]) I I' → I' 125 0 = tk4 (tk4 (tk4 (tk4 (tk4 (I 125 0) sz.toNat a) (sz.toNat + 4) b) (sz.toNat + 8) c) (sz.toNat + 12) e) (sz.toNat + 16) g → Q (some (vI (zI (sz + 20)))) I' Lg R (GM gc)) :
    am_Sp Γ (d + 1) 0 0 mX12_feed [vR 12 0, vI a, vI b, vI c, vI e, vI g] I Lg R (GM gc) Q := by
  refine am_run vX12_feed 40 _ rfl rfl rfl rfl ?_
  have hs0 : up3 I 47 0 0 (zI 0) 48 0 0 = zI sz := by rw [up3_v _ (by decide), hsz]
  refine And.intro (fun q => ?_) (fun q => ?_)
  · rw [hs0, zI_add, zI_toInt (by omega) (by omega), zI_toInt (by omega) (by omega)] at q
    refine s_come hs0 h0 (by omega) (fun I1 z1 f1 b1 => ?_)
    refine s_come z1 (by omega) (by omega) (fun I2 z2 f2 b2 => ?_)
    refine s_come z2 (by omega) (by omega) (fun I3 z3 f3 b3 => ?_)
    refine s_come z3 (by omega) (by omega) (fun I4 z4 f4 b4 => ?_)
    refine s_come z4 (by omega) (by omega) (fun I5 z5 f5 b5 => ?_)
    have e5 : sz + 4 + 4 + 4 + 4 + 4 = sz + 20 := by omega
    rw [e5] at z5
    have f := ((((f1.tr f2).tr f3).tr f4).tr f5)
    have key := h (by omega) I5 (by rw [f 47 0 rfl, up3_s]) z5 ((FrI.rf.up (P := V0 [125, 48, 47]) rfl).tr (f.mono (fun v i hq => by simp [V0] at hq ⊢; omega))) (by
      rw [b5, b4, b3, b2, b1, show (sz + 4 + 4 + 4 + 4).toNat = sz.toNat + 16 by omega, show (sz + 4 + 4 + 4).toNat = sz.toNat + 12 by omega, show (sz + 4 + 4).toNat = sz.toNat + 8 by omega, show (sz + 4).toNat = sz.toNat + 4 by omega, up3_v _ (by decide)])
    rw [← z5] at key
    exact key
  · rw [hs0, zI_add, zI_toInt (by omega) (by omega), zI_toInt (by omega) (by omega)] at q
    exact hN (by omega)
set_option maxRecDepth 100000 in
theorem s_mend {Γ : AMG} {Q : QQ} {d : Nat} {n : Int32} {I : II} {Lg : LJ} {R : RR} {gc : Nat → Nat} {sz : Int} (hsz : I 48 0 0 = zI sz) (h0 : 0 ≤ sz) (h1 : sz ≤ 640)
    (hN : (n.toInt < 0 ∨ sz < n.toInt) → Q (some (vI (zI 0))) (up3 I 47 0 0 (zI 0)) Lg R (GM gc))
    (h : 0 ≤ n.toInt → n.toInt ≤ sz → Q (some (vI (zI 1))) (up3 (up3 I 47 0 0 (zI 0)) 48 0 0 n) Lg R (GM gc)) :
    am_Sp Γ d 0 0 mX12_end [vR 12 0, vI n] I Lg R (GM gc) Q := by
  refine am_run vX12_end 40 _ rfl rfl rfl rfl ?_
  have hs0 : up3 I 47 0 0 (zI 0) 48 0 0 = zI sz := by rw [up3_v _ (by decide), hsz]
  refine And.intro (fun q => ?_) (fun q => ?_)
  · exact ⟨Or.inl rfl, hN (Or.inl q)⟩
  · refine And.intro (fun q2 => ?_) (fun q2 => ?_)
    · rw [hs0, zI_toInt (by omega) (by omega)] at q2
      exact ⟨Or.inr rfl, h q q2⟩
    · rw [hs0, zI_toInt (by omega) (by omega)] at q2
      exact ⟨Or.inl rfl, hN (Or.inr q2)⟩
end
section
/-! Small methods of both sides. -/
set_option maxRecDepth 100000 in
theorem s_isIn {Γ : AMG} {Q : QQ} {d : Nat} {v a b : Int32} {I : II} {Lg : LJ} {R : RR} {G : GG} (h1 : a.toInt ≤ v.toInt → v.toInt ≤ b.toInt → Q (some (vI (zI 1))) I Lg R G) (h0 : (v.toInt < a.toInt ∨ b.toInt < v.toInt) → Q (some (vI (zI 0))) I Lg R G) :
    am_Sp Γ d 0 0 mX12_isIn [vI v, vI a, vI b] I Lg R G Q := by
  refine am_run vX12_isIn 40 _ rfl rfl rfl rfl ?_
  refine And.intro (fun c1 => ?_) (fun c1 => ?_)
  · exact ⟨Or.inl rfl, h0 (Or.inl c1)⟩
  · refine And.intro (fun c2 => ?_) (fun c2 => ?_)
    · exact ⟨Or.inl rfl, h0 (Or.inr c2)⟩
    · exact ⟨Or.inr rfl, h1 c1 c2⟩
set_option maxRecDepth 100000 in
theorem s_within {Γ : AMG} {Q : QQ} {d : Nat} {v a b : Int32} {I : II} {Lg : LJ} {R : RR} {G : GG} (h1 : a.toInt ≤ v.toInt → v.toInt ≤ b.toInt → Q (some (vI (zI 1))) I Lg R G) (h0 : (v.toInt < a.toInt ∨ b.toInt < v.toInt) → Q (some (vI (zI 0))) I Lg R G) :
    am_Sp Γ d 0 0 mX11_within [vI v, vI a, vI b] I Lg R G Q := by
  refine am_run vX11_within 40 _ rfl rfl rfl rfl ?_
  refine And.intro (fun c1 => ?_) (fun c1 => ?_)
  · exact ⟨Or.inl rfl, h0 (Or.inl c1)⟩
  · refine And.intro (fun c2 => ?_) (fun c2 => ?_)
    · exact ⟨Or.inl rfl, h0 (Or.inr c2)⟩
    · exact ⟨Or.inr rfl, h1 c1 c2⟩
set_option maxRecDepth 100000 in
theorem s_isSlot {Γ : AMG} {Q : QQ} {d : Nat} {r : Int32} {I : II} {Lg : LJ} {R : RR} {G : GG} (h1 : 0 ≤ r.toInt → r.toInt < 4 → Q (some (vI (zI 1))) I Lg R G) (h0 : (r.toInt < 0 ∨ 4 ≤ r.toInt) → Q (some (vI (zI 0))) I Lg R G) :
    am_Sp Γ d 0 0 mX12_isSlot [vI r] I Lg R G Q := by
  refine am_run vX12_isSlot 40 _ rfl rfl rfl rfl ?_
  refine And.intro (fun c1 => ?_) (fun c1 => ?_)
  · exact ⟨Or.inl rfl, h0 (Or.inl c1)⟩
  · refine And.intro (fun c2 => ?_) (fun c2 => ?_)
    · exact ⟨Or.inl rfl, h0 (Or.inr (by rwa [zI_toInt (by omega) (by omega)] at c2))⟩
    · exact ⟨Or.inr rfl, h1 c1 (by rwa [zI_toInt (by omega) (by omega)] at c2)⟩
set_option maxRecDepth 100000 in
theorem s_isRun {Γ : AMG} {Q : QQ} {d : Nat} {r : Int32} {I : II} {Lg : LJ} {R : RR} {gc : Nat → Nat} (h1 : 0 ≤ r.toInt → r.toInt < 4 → 0 < (I 131 0 r.toInt.toNat).toInt → Q (some (vI (zI 1))) I Lg R (GM gc)) (h0 : (r.toInt < 0 ∨ 4 ≤ r.toInt ∨ (0 ≤ r.toInt ∧ r.toInt < 4 ∧ (I 131 0 r.toInt.toNat).toInt ≤ 0)) → Q (some (vI (zI 0))) I Lg R (GM gc)) :
    am_Sp Γ (d + 1) 0 0 mX12_isRun [vR 12 0, vI r] I Lg R (GM gc) Q := by
  refine am_run vX12_isRun 40 _ rfl rfl rfl rfl ?_
  refine s_isSlot (fun a b => ?_) (fun a => ?_)
  · refine And.intro (fun c => ?_) (fun c => ?_)
    · exact absurd c (by rw [zI_toInt (by omega) (by omega)]; omega)
    · refine And.intro ⟨a, by omega⟩ ?_
      refine And.intro (fun c2 => ?_) (fun c2 => ?_)
      · exact ⟨Or.inl rfl, h0 (by omega)⟩
      · exact ⟨Or.inr rfl, h1 a b c2⟩
  · refine And.intro (fun c => ?_) (fun c => ?_)
    · exact ⟨Or.inl rfl, h0 (by omega)⟩
    · exact absurd c (by rw [zI_toInt (by omega) (by omega)]; omega)
set_option maxRecDepth 100000 in
theorem s_thrown {Γ : AMG} {Q : QQ} {d : Nat} {I : II} {Lg : LJ} {R : RR} {G : GG} (h : Q (some (vI (I 47 0 0))) I Lg R G) : am_Sp Γ d 0 0 mX12_thrown [vR 12 0] I Lg R G Q :=
  am_run vX12_thrown 40 _ rfl rfl rfl rfl h
set_option maxRecDepth 100000 in
theorem s_refuse {Γ : AMG} {Q : QQ} {d : Nat} {I : II} {Lg : LJ} {R : RR} {G : GG} (h : Q (some (vI (zI 0))) (up3 I 47 0 0 (zI 1)) Lg R G) : am_Sp Γ d 0 0 mX12_refuse [vR 12 0] I Lg R G Q :=
  am_run vX12_refuse 40 _ rfl rfl rfl rfl h
set_option maxRecDepth 100000 in
theorem s_mfault {Γ : AMG} {Q : QQ} {d : Nat} {I : II} {Lg : LJ} {R : RR} {G : GG} (h : Q (some (vI (I 66 0 0))) (up3 I 47 0 0 (zI 0)) Lg R G) : am_Sp Γ d 0 0 mX12_fault [vR 12 0] I Lg R G Q :=
  am_run vX12_fault 40 _ rfl rfl rfl rfl h
set_option maxRecDepth 100000 in
theorem s_fault {Γ : AMG} {Q : QQ} {d : Nat} {I : II} {Lg : LJ} {R : RR} {gc : Nat → Nat} (h : Q (some (vI (I 37 0 0))) I Lg R (GM gc)) : am_Sp Γ d 0 0 mX11_fault [vR 11 0] I Lg R (GM gc) Q :=
  am_run vX11_fault 40 _ rfl rfl rfl rfl h
set_option maxRecDepth 100000 in
theorem s_isDigit {Γ : AMG} {Q : QQ} {d : Nat} {r : Int32} {I : II} {Lg : LJ} {R : RR} {G : GG} (h1 : 48 ≤ r.toInt → r.toInt ≤ 57 → Q (some (vI (zI 1))) I Lg R G) (h0 : (r.toInt < 48 ∨ 57 < r.toInt) → Q (some (vI (zI 0))) I Lg R G) :
    am_Sp Γ d 0 0 mX10_isDigit [vI r] I Lg R G Q := by
  refine am_run vX10_isDigit 40 _ rfl rfl rfl rfl ?_
  refine And.intro (fun c1 => ?_) (fun c1 => ?_)
  · exact ⟨Or.inl rfl, h0 (Or.inl (by rwa [zI_toInt (by omega) (by omega)] at c1))⟩
  · refine And.intro (fun c2 => ?_) (fun c2 => ?_)
    · exact ⟨Or.inl rfl, h0 (Or.inr (by rwa [zI_toInt (by omega) (by omega)] at c2))⟩
    · exact ⟨Or.inr rfl, h1 (by rwa [zI_toInt (by omega) (by omega)] at c1) (by rwa [zI_toInt (by omega) (by omega)] at c2)⟩
set_option maxRecDepth 100000 in
theorem s_isLetter {Γ : AMG} {Q : QQ} {d : Nat} {r : Int32} {I : II} {Lg : LJ} {R : RR} {G : GG} (h1 : 97 ≤ r.toInt → r.toInt ≤ 122 → Q (some (vI (zI 1))) I Lg R G) (h0 : (r.toInt < 97 ∨ 122 < r.toInt) → Q (some (vI (zI 0))) I Lg R G) :
    am_Sp Γ d 0 0 mX10_isLetter [vI r] I Lg R G Q := by
  refine am_run vX10_isLetter 40 _ rfl rfl rfl rfl ?_
  refine And.intro (fun c1 => ?_) (fun c1 => ?_)
  · exact ⟨Or.inl rfl, h0 (Or.inl (by rwa [zI_toInt (by omega) (by omega)] at c1))⟩
  · refine And.intro (fun c2 => ?_) (fun c2 => ?_)
    · exact ⟨Or.inl rfl, h0 (Or.inr (by rwa [zI_toInt (by omega) (by omega)] at c2))⟩
    · exact ⟨Or.inr rfl, h1 (by rwa [zI_toInt (by omega) (by omega)] at c1) (by rwa [zI_toInt (by omega) (by omega)] at c2)⟩
set_option maxRecDepth 100000 in
theorem s_isBlank {Γ : AMG} {Q : QQ} {d : Nat} {r : Int32} {I : II} {Lg : LJ} {R : RR} {G : GG} (h1 : (r.toInt = 32 ∨ r.toInt = 10) → Q (some (vI (zI 1))) I Lg R G) (h0 : r.toInt ≠ 32 → r.toInt ≠ 10 → Q (some (vI (zI 0))) I Lg R G) :
    am_Sp Γ d 0 0 mX10_isBlank [vI r] I Lg R G Q := by
  refine am_run vX10_isBlank 40 _ rfl rfl rfl rfl ?_
  refine And.intro (fun c1 => ?_) (fun c1 => ?_)
  · exact ⟨Or.inr rfl, h1 (Or.inl (by rwa [zI_toInt (by omega) (by omega)] at c1))⟩
  · refine And.intro (fun c2 => ?_) (fun c2 => ?_)
    · exact ⟨Or.inl rfl, h0 (by rwa [zI_toInt (by omega) (by omega)] at c1) (by rwa [zI_toInt (by omega) (by omega)] at c2)⟩
    · exact ⟨Or.inr rfl, h1 (Or.inr (by rwa [zI_toInt (by omega) (by omega)] at c2))⟩
set_option maxRecDepth 100000 in
theorem s_misDigit {Γ : AMG} {Q : QQ} {d : Nat} {r : Int32} {I : II} {Lg : LJ} {R : RR} {G : GG} (h1 : 48 ≤ r.toInt → r.toInt ≤ 57 → Q (some (vI (zI 1))) I Lg R G) (h0 : (r.toInt < 48 ∨ 57 < r.toInt) → Q (some (vI (zI 0))) I Lg R G) :
    am_Sp Γ d 0 0 mX12_isDigit [vI r] I Lg R G Q := by
  refine am_run vX12_isDigit 40 _ rfl rfl rfl rfl ?_
  refine And.intro (fun c1 => ?_) (fun c1 => ?_)
  · exact ⟨Or.inl rfl, h0 (Or.inl (by rwa [zI_toInt (by omega) (by omega)] at c1))⟩
  · refine And.intro (fun c2 => ?_) (fun c2 => ?_)
    · exact ⟨Or.inl rfl, h0 (Or.inr (by rwa [zI_toInt (by omega) (by omega)] at c2))⟩
    · exact ⟨Or.inr rfl, h1 (by rwa [zI_toInt (by omega) (by omega)] at c1) (by rwa [zI_toInt (by omega) (by omega)] at c2)⟩
set_option maxRecDepth 100000 in
theorem s_misLetter {Γ : AMG} {Q : QQ} {d : Nat} {r : Int32} {I : II} {Lg : LJ} {R : RR} {G : GG} (h1 : 97 ≤ r.toInt → r.toInt ≤ 122 → Q (some (vI (zI 1))) I Lg R G) (h0 : (r.toInt < 97 ∨ 122 < r.toInt) → Q (some (vI (zI 0))) I Lg R G) :
    am_Sp Γ d 0 0 mX12_isLetter [vI r] I Lg R G Q := by
  refine am_run vX12_isLetter 40 _ rfl rfl rfl rfl ?_
  refine And.intro (fun c1 => ?_) (fun c1 => ?_)
  · exact ⟨Or.inl rfl, h0 (Or.inl (by rwa [zI_toInt (by omega) (by omega)] at c1))⟩
  · refine And.intro (fun c2 => ?_) (fun c2 => ?_)
    · exact ⟨Or.inl rfl, h0 (Or.inr (by rwa [zI_toInt (by omega) (by omega)] at c2))⟩
    · exact ⟨Or.inr rfl, h1 (by rwa [zI_toInt (by omega) (by omega)] at c1) (by rwa [zI_toInt (by omega) (by omega)] at c2)⟩
set_option maxRecDepth 100000 in
theorem s_far {Γ : AMG} {Q : QQ} {d : Nat} {a b : Int} {I : II} {Lg : LJ} {R : RR} {G : GG} (ha : -1000000000 ≤ a ∧ a ≤ 1000000000) (hb : -1000000000 ≤ b ∧ b ≤ 1000000000) (h : Q (some (vI (zI (a - b).natAbs))) I Lg R G) :
    am_Sp Γ d 0 0 mX12_far [vI (zI a), vI (zI b)] I Lg R G Q := by
  refine am_run vX12_far 40 _ rfl rfl rfl rfl ?_
  refine And.intro (fun c => ?_) (fun c => ?_)
  · rw [zI_toInt (by omega) (by omega), zI_toInt (by omega) (by omega)] at c
    have e : zI b - zI a = zI (a - b).natAbs := by rw [zI_sub]; congr 1; omega
    rw [← e] at h
    exact h
  · rw [zI_toInt (by omega) (by omega), zI_toInt (by omega) (by omega)] at c
    have e : zI a - zI b = zI (a - b).natAbs := by rw [zI_sub]; congr 1; omega
    rw [← e] at h
    exact h
end
section
/-! Plans: lists of events in the class. -/
abbrev EV : Type := Int × Int × Int
abbrev PS : Type := List EV × Bool
abbrev pvars : List Nat := [33, 34, 115, 116, 117]
def PlanAt (I : II) (p : Nat) (S : PS) : Prop := I 33 p 0 = zI S.1.length ∧ S.1.length ≤ 24 ∧ I 34 p 0 = zI (cond S.2 1 0) ∧ ∀ (k : Nat) (e : EV), S.1[k]? = some e → I 115 p k = zI e.1 ∧ I 116 p k = zI e.2.1 ∧ I 117 p k = zI e.2.2
theorem PlanAt.fr {I I' : II} {p : Nat} {S : PS} {P : Nat → Nat → Bool} (h : PlanAt I p S) (hf : FrI P I I') (hP : ∀ v ∈ pvars, P v p = false) : PlanAt I' p S := by
  obtain ⟨h1, h2, h3, h4⟩ := h
  refine ⟨by rw [hf _ _ (hP 33 (by decide))]; exact h1, h2, by rw [hf _ _ (hP 34 (by decide))]; exact h3, fun k e he => ?_⟩
  rw [hf _ _ (hP 115 (by decide)), hf _ _ (hP 116 (by decide)), hf _ _ (hP 117 (by decide))]
  exact h4 k e he
theorem PlanAt.ne {I I' : II} {p q : Nat} {S : PS} {l : List Nat} (h : PlanAt I q S) (hf : FrI (V1 l p) I I') (hne : q ≠ p) : PlanAt I' q S := h.fr hf (fun v _ => by simp [V1, hne])
theorem V1_in {l : List Nat} {p v : Nat} (h : l.elem v = true) : V1 l p v p = true := by
  unfold V1
  rw [h]
  simp
def padd (S : PS) (e : EV) : PS := if S.1.length < 24 then (S.1 ++ [e], S.2) else (S.1, true)
theorem padd_len {S : PS} {e : EV} (h : S.1.length ≤ 24) : (padd S e).1.length ≤ 24 := by
  unfold padd
  split
  · simp; omega
  · exact h
set_option maxRecDepth 100000 in
theorem s_pis {Γ : AMG} {Q : QQ} {d p : Nat} {e : Int32} {I : II} {Lg : LJ} {R : RR} {G : GG} {sz : Int} (hsz : I 33 p 0 = zI sz) (h0 : 0 ≤ sz) (h1 : sz ≤ 24)
    (hy : 0 ≤ e.toInt → e.toInt < sz → Q (some (vI (zI 1))) I Lg R G) (hn : (e.toInt < 0 ∨ sz ≤ e.toInt) → Q (some (vI (zI 0))) I Lg R G) : am_Sp Γ d 0 0 mX8_is [vR 8 p, vI e] I Lg R G Q := by
  refine am_run vX8_is 40 _ rfl rfl rfl rfl ?_
  refine And.intro (fun c1 => ?_) (fun c1 => ?_)
  · exact ⟨Or.inl rfl, hn (Or.inl c1)⟩
  · refine And.intro (fun c2 => ?_) (fun c2 => ?_)
    · rw [hsz, zI_toInt (by omega) (by omega)] at c2
      exact ⟨Or.inl rfl, hn (Or.inr c2)⟩
    · rw [hsz, zI_toInt (by omega) (by omega)] at c2
      refine And.intro (fun c3 => ?_) (fun c3 => ?_)
      · rw [zI_toInt (by omega) (by omega)] at c3
        omega
      · exact ⟨Or.inr rfl, hy c1 c2⟩
set_option maxRecDepth 100000 in
theorem s_tickOf {Γ : AMG} {Q : QQ} {d p : Nat} {e : Int32} {I : II} {Lg : LJ} {R : RR} {gc : Nat → Nat} {sz : Int} (hsz : I 33 p 0 = zI sz) (h0 : 0 ≤ sz) (h1 : sz ≤ 24)
    (hy : 0 ≤ e.toInt → e.toInt < sz → Q (some (vI (I 115 p e.toInt.toNat))) I Lg R (GM gc)) (hn : (e.toInt < 0 ∨ sz ≤ e.toInt) → Q (some (vI (zI (-1)))) I Lg R (GM gc)) : am_Sp Γ (d + 1) 0 0 mX8_tickOf [vR 8 p, vI e] I Lg R (GM gc) Q := by
  refine am_run vX8_tickOf 40 _ rfl rfl rfl rfl ?_
  refine s_pis hsz h0 h1 (fun c1 c2 => ?_) (fun c1 => ?_)
  · refine And.intro (fun c => ?_) (fun c => ?_)
    · exact absurd c (by rw [zI_toInt (by omega) (by omega)]; omega)
    · exact ⟨⟨c1, by omega⟩, hy c1 c2⟩
  · refine And.intro (fun c => ?_) (fun c => ?_)
    · exact hn c1
    · exact absurd c (by rw [zI_toInt (by omega) (by omega)]; omega)
set_option maxRecDepth 100000 in
theorem s_machineOf {Γ : AMG} {Q : QQ} {d p : Nat} {e : Int32} {I : II} {Lg : LJ} {R : RR} {gc : Nat → Nat} {sz : Int} (hsz : I 33 p 0 = zI sz) (h0 : 0 ≤ sz) (h1 : sz ≤ 24)
    (hy : 0 ≤ e.toInt → e.toInt < sz → Q (some (vI (I 116 p e.toInt.toNat))) I Lg R (GM gc)) (hn : (e.toInt < 0 ∨ sz ≤ e.toInt) → Q (some (vI (zI (-1)))) I Lg R (GM gc)) : am_Sp Γ (d + 1) 0 0 mX8_machineOf [vR 8 p, vI e] I Lg R (GM gc) Q := by
  refine am_run vX8_machineOf 40 _ rfl rfl rfl rfl ?_
  refine s_pis hsz h0 h1 (fun c1 c2 => ?_) (fun c1 => ?_)
  · refine And.intro (fun c => ?_) (fun c => ?_)
    · exact absurd c (by rw [zI_toInt (by omega) (by omega)]; omega)
    · exact ⟨⟨c1, by omega⟩, hy c1 c2⟩
  · refine And.intro (fun c => ?_) (fun c => ?_)
    · exact hn c1
    · exact absurd c (by rw [zI_toInt (by omega) (by omega)]; omega)
set_option maxRecDepth 100000 in
theorem s_numberOf {Γ : AMG} {Q : QQ} {d p : Nat} {e : Int32} {I : II} {Lg : LJ} {R : RR} {gc : Nat → Nat} {sz : Int} (hsz : I 33 p 0 = zI sz) (h0 : 0 ≤ sz) (h1 : sz ≤ 24)
    (hy : 0 ≤ e.toInt → e.toInt < sz → Q (some (vI (I 117 p e.toInt.toNat))) I Lg R (GM gc)) (hn : (e.toInt < 0 ∨ sz ≤ e.toInt) → Q (some (vI (zI (-1)))) I Lg R (GM gc)) : am_Sp Γ (d + 1) 0 0 mX8_numberOf [vR 8 p, vI e] I Lg R (GM gc) Q := by
  refine am_run vX8_numberOf 40 _ rfl rfl rfl rfl ?_
  refine s_pis hsz h0 h1 (fun c1 c2 => ?_) (fun c1 => ?_)
  · refine And.intro (fun c => ?_) (fun c => ?_)
    · exact absurd c (by rw [zI_toInt (by omega) (by omega)]; omega)
    · exact ⟨⟨c1, by omega⟩, hy c1 c2⟩
  · refine And.intro (fun c => ?_) (fun c => ?_)
    · exact hn c1
    · exact absurd c (by rw [zI_toInt (by omega) (by omega)]; omega)
/-- the three reads at an event that is there -/
theorem s_tickOfE {Γ : AMG} {Q : QQ} {d p : Nat} {x : Int32} {I : II} {Lg : LJ} {R : RR} {gc : Nat → Nat} {S : PS} {k : Nat} {e : EV} (hp : PlanAt I p S) (hx : x = zI k) (he : S.1[k]? = some e) (hq : Q (some (vI (zI e.1))) I Lg R (GM gc)) : am_Sp Γ (d + 1) 0 0 mX8_tickOf [vR 8 p, vI x] I Lg R (GM gc) Q := by
  obtain ⟨h1, h2, h3, h4⟩ := hp
  have hk : k < S.1.length := (List.getElem?_eq_some_iff.mp he).1
  have hxt : x.toInt = k := by rw [hx, zI_toInt (by omega) (by omega)]
  exact s_tickOf h1 (by omega) (by omega) (fun _ _ => by rw [hxt, Int.toNat_natCast, (h4 k e he).1]; exact hq) (fun c => by omega)
theorem s_machineOfE {Γ : AMG} {Q : QQ} {d p : Nat} {x : Int32} {I : II} {Lg : LJ} {R : RR} {gc : Nat → Nat} {S : PS} {k : Nat} {e : EV} (hp : PlanAt I p S) (hx : x = zI k) (he : S.1[k]? = some e) (hq : Q (some (vI (zI e.2.1))) I Lg R (GM gc)) : am_Sp Γ (d + 1) 0 0 mX8_machineOf [vR 8 p, vI x] I Lg R (GM gc) Q := by
  obtain ⟨h1, h2, h3, h4⟩ := hp
  have hk : k < S.1.length := (List.getElem?_eq_some_iff.mp he).1
  have hxt : x.toInt = k := by rw [hx, zI_toInt (by omega) (by omega)]
  exact s_machineOf h1 (by omega) (by omega) (fun _ _ => by rw [hxt, Int.toNat_natCast, (h4 k e he).2.1]; exact hq) (fun c => by omega)
theorem s_numberOfE {Γ : AMG} {Q : QQ} {d p : Nat} {x : Int32} {I : II} {Lg : LJ} {R : RR} {gc : Nat → Nat} {S : PS} {k : Nat} {e : EV} (hp : PlanAt I p S) (hx : x = zI k) (he : S.1[k]? = some e) (hq : Q (some (vI (zI e.2.2))) I Lg R (GM gc)) : am_Sp Γ (d + 1) 0 0 mX8_numberOf [vR 8 p, vI x] I Lg R (GM gc) Q := by
  obtain ⟨h1, h2, h3, h4⟩ := hp
  have hk : k < S.1.length := (List.getElem?_eq_some_iff.mp he).1
  have hxt : x.toInt = k := by rw [hx, zI_toInt (by omega) (by omega)]
  exact s_numberOf h1 (by omega) (by omega) (fun _ _ => by rw [hxt, Int.toNat_natCast, (h4 k e he).2.2]; exact hq) (fun c => by omega)
set_option maxRecDepth 100000 in
theorem s_padd {Γ : AMG} {Q : QQ} {d p : Nat} {xt xm xn : Int32} {t m n : Int} {I : II} {Lg : LJ} {R : RR} {gc : Nat → Nat} {S : PS} (hp : PlanAt I p S) (ht : xt = zI t) (hm : xm = zI m) (hn : xn = zI n)
    (h : ∀ I' : II, FrI (V1 pvars p) I I' → PlanAt I' p (padd S (t, m, n)) → Q none I' Lg R (GM gc)) : am_Sp Γ d 0 0 mX8_add [vR 8 p, vI xt, vI xm, vI xn] I Lg R (GM gc) Q := by
  subst ht
  subst hm
  subst hn
  have hp0 := hp
  obtain ⟨h1, h2, h3, h4⟩ := hp
  refine am_run vX8_add 60 _ rfl rfl rfl rfl ?_
  have full : 24 ≤ S.1.length → Q none (up3 I 34 p 0 (zI 1)) Lg R (GM gc) := fun hl => by
    refine h _ (FrI.rf.up (V1_in rfl)) ?_
    unfold padd
    rw [if_neg (by omega)]
    refine ⟨by rw [up3_v _ (by decide)]; exact h1, h2, by rw [up3_s]; rfl, fun k e he => ?_⟩
    rw [up3_v _ (by decide), up3_v _ (by decide), up3_v _ (by decide)]
    exact h4 k e he
  refine And.intro (fun c => ?_) (fun c => ?_)
  · rw [h1, zI_toInt (by omega) (by omega)] at c
    omega
  · refine And.intro (fun c2 => ?_) (fun c2 => ?_)
    · rw [h1, zI_toInt (by omega) (by omega), zI_toInt (by omega) (by omega)] at c2
      refine And.intro ⟨by rw [h1, zI_toInt (by omega) (by omega)]; omega, by rw [h1, zI_toInt (by omega) (by omega)]; omega⟩ ?_
      have hs : (I 33 p 0).toInt.toNat = S.1.length := by rw [h1, zI_toInt (by omega) (by omega)]; omega
      refine And.intro ⟨by rw [up3_v _ (by decide), h1, zI_toInt (by omega) (by omega)]; omega, by rw [up3_v _ (by decide), h1, zI_toInt (by omega) (by omega)]; omega⟩ ?_
      refine And.intro ⟨by rw [up3_v _ (by decide), up3_v _ (by decide), h1, zI_toInt (by omega) (by omega)]; omega, by rw [up3_v _ (by decide), up3_v _ (by decide), h1, zI_toInt (by omega) (by omega)]; omega⟩ ?_
      refine h _ ((((FrI.rf.up (V1_in rfl)).up (V1_in rfl)).up (V1_in rfl)).up (V1_in rfl)) ?_
      unfold padd
      rw [if_pos (by omega)]
      refine ⟨?_, by simp; omega, ?_, fun k e he => ?_⟩
      · rw [up3_s, up3_v _ (by decide), up3_v _ (by decide), up3_v _ (by decide), h1, zI_add]
        simp
      · rw [up3_v _ (by decide), up3_v _ (by decide), up3_v _ (by decide), up3_v _ (by decide)]
        exact h3
      · have hsz1 : up3 I 115 p (I 33 p 0).toInt.toNat (zI t) 33 p 0 = I 33 p 0 := by rw [up3_v _ (by decide)]
        have hs2 : (I 33 p 0).toNatClampNeg = S.1.length := hs
        simp [up3_a, hs2]
        rw [List.getElem?_append] at he
        by_cases hk : k < S.1.length
        · rw [if_pos hk] at he
          rw [if_neg (by omega), if_neg (by omega), if_neg (by omega)]
          exact h4 k e he
        · rw [if_neg hk] at he
          have hk2 : k = S.1.length := by
            have : k - S.1.length < 1 := (List.getElem?_eq_some_iff.mp he).1
            omega
          subst hk2
          simp at he
          subst he
          simp
    · rw [h1, zI_toInt (by omega) (by omega), zI_toInt (by omega) (by omega)] at c2
      exact ⟨Or.inr rfl, full (by omega)⟩
set_option maxRecDepth 100000 in
theorem s_pclear {Γ : AMG} {Q : QQ} {d p : Nat} {I : II} {Lg : LJ} {R : RR} {G : GG} (h : ∀ I' : II, FrI (V1 pvars p) I I' → PlanAt I' p ([], false) → Q none I' Lg R G) : am_Sp Γ d 0 0 mX8_clear [vR 8 p] I Lg R G Q := by
  refine am_run vX8_clear 40 _ rfl rfl rfl rfl ?_
  refine And.intro (Or.inl rfl) ?_
  refine h _ ((FrI.rf.up (V1_in rfl)).up (V1_in rfl)) ⟨by rw [up3_v _ (by decide), up3_s]; rfl, by simp, by rw [up3_s]; rfl, fun k e he => by simp at he⟩
end
section
/-! Plans: addAll, repeat, lastTick, becomes. -/
def shE (l : Int) (e : EV) : EV := (e.1 + l, e.2.1, e.2.2)
def paddAll (S T : PS) (l : Int) : PS := (T.1.map (shE l)).foldl padd (S.1, S.2 || T.2)
theorem pfold_len {l : List EV} : ∀ {S : PS}, S.1.length ≤ 24 → (l.foldl padd S).1.length ≤ 24 := by
  induction l with
  | nil => exact fun h => h
  | cons e l ih => exact fun h => ih (padd_len h)
theorem take_snoc {α : Type} {l : List α} {k : Nat} {e : α} (h : l[k]? = some e) : l.take (k + 1) = l.take k ++ [e] := by
  rw [List.take_add_one, h]
  rfl
theorem addAll_loop {Γ : AMG} {Q : QQ} {d p q : Nat} {x2 : Int32} {l : Int} {I : II} {Lg : LJ} {R : RR} {gc : Nat → Nat} {S T : PS} (hpq : q ≠ p) (hx2 : x2 = zI l)
    (h : ∀ I' : II, FrI (V1 pvars p) I I' → PlanAt I' p ((T.1.map (shE l)).foldl padd S) → Q none I' Lg R (GM gc)) : ∀ (m k : Nat) (x3 : Int32) (I1 : II), T.1.length = k + m → x3 = zI k → PlanAt I1 p (((T.1.map (shE l)).take k).foldl padd S) → PlanAt I1 q T → FrI (V1 pvars p) I I1 →
      am_J Γ mX8_addAll Q (d + 2) 0 0 25 [some (vR 8 p), some (vR 8 q), some (vI x2), some (vI x3)] [] I1 Lg R (GM gc) := by
  intro m
  induction m with
  | zero =>
    intro k x3 I1 hm hx3 hp hq hf
    refine am_go vX8_addAll 40 ?_
    have hT := hq.2.1
    refine And.intro (fun c => ?_) (fun c => ?_)
    · refine h I1 hf ?_
      rw [List.take_of_length_le (by simp; omega)] at hp
      exact hp
    · rw [hq.1, hx3, zI_toInt (by omega) (by omega), zI_toInt (by omega) (by omega)] at c
      omega
  | succ m ih =>
    intro k x3 I1 hm hx3 hp hq hf
    have hT := hq.2.1
    have hk : k < T.1.length := by omega
    have he : T.1[k]? = some T.1[k] := List.getElem?_eq_getElem hk
    refine am_go vX8_addAll 40 ?_
    refine And.intro (fun c => ?_) (fun c => ?_)
    · rw [hq.1, hx3, zI_toInt (by omega) (by omega), zI_toInt (by omega) (by omega)] at c
      omega
    · refine s_tickOfE hq hx3 he ?_
      refine s_machineOfE hq hx3 he ?_
      refine s_numberOfE hq hx3 he ?_
      refine s_padd hp (by rw [hx2, zI_add]) rfl rfl (fun I2 f2 p2 => ?_)
      refine ih (k + 1) _ I2 (by omega) (by rw [hx3, zI_add]; congr 1) ?_ (hq.ne f2 hpq) (hf.tr f2)
      rw [take_snoc (e := shE l T.1[k]) (by rw [List.getElem?_map, he]; rfl), List.foldl_append]
      exact p2
set_option maxRecDepth 100000 in
theorem s_addAll {Γ : AMG} {Q : QQ} {d p q : Nat} {x2 : Int32} {l : Int} {I : II} {Lg : LJ} {R : RR} {gc : Nat → Nat} {S T : PS} (hp : PlanAt I p S) (hq : PlanAt I q T) (hpq : q ≠ p) (hx2 : x2 = zI l)
    (h : ∀ I' : II, FrI (V1 pvars p) I I' → PlanAt I' p (paddAll S T l) → Q none I' Lg R (GM gc)) : am_Sp Γ (d + 2) 0 0 mX8_addAll [vR 8 p, vR 8 q, vI x2] I Lg R (GM gc) Q := by
  refine am_run vX8_addAll 40 _ rfl rfl rfl rfl ?_
  obtain ⟨h1, h2, h3, h4⟩ := id hp
  obtain ⟨g1, g2, g3, g4⟩ := id hq
  have go : ∀ b : Bool, (S.2 || T.2) = b → ∀ x, x = zI (cond b 1 0) → am_J Γ mX8_addAll Q (d + 2) 0 0 25 [some (vR 8 p), some (vR 8 q), some (vI x2), some (vI (zI 0))] [] (up3 I 34 p 0 x) Lg R (GM gc) := by
    intro b hb x hx
    have hf : FrI (V1 pvars p) I (up3 I 34 p 0 x) := FrI.rf.up (V1_in rfl)
    refine addAll_loop (S := (S.1, S.2 || T.2)) (T := T) hpq hx2 (fun I' f' p' => h I' f' p') T.1.length 0 _ _ (by omega) rfl ?_ (hq.ne hf hpq) hf
    refine ⟨by rw [up3_v _ (by decide)]; exact h1, h2, by rw [up3_s, hx]; show _ = zI (cond (S.2 || T.2) 1 0); rw [hb], fun k e he => ?_⟩
    rw [up3_v _ (by decide), up3_v _ (by decide), up3_v _ (by decide)]
    exact h4 k e he
  refine And.intro (fun c => ?_) (fun c => ?_)
  · refine And.intro (Or.inr rfl) ?_
    refine go true ?_ _ rfl
    cases hS : S.2
    · rw [h3, hS] at c
      exact absurd (zI_toInt (a := 0) (by omega) (by omega)) c
    · rfl
  · have hS : S.2 = false := by
      cases hS : S.2
      · rfl
      · rw [h3, hS] at c
        exact absurd c (by show (zI 1).toInt ≠ 0; rw [zI_toInt (by omega) (by omega)]; omega)
    refine And.intro (fun c2 => ?_) (fun c2 => ?_)
    · refine And.intro (Or.inl rfl) ?_
      refine go false ?_ _ rfl
      have hT : T.2 = false := by
        cases hT : T.2
        · rfl
        · rw [g3, hT] at c2
          exact absurd c2 (by show (zI 1).toInt ≠ 0; rw [zI_toInt (by omega) (by omega)]; omega)
      rw [hS, hT]
      rfl
    · refine And.intro (Or.inr rfl) ?_
      refine go true ?_ _ rfl
      cases hT : T.2
      · rw [g3, hT] at c2
        exact absurd (zI_toInt (a := 0) (by omega) (by omega)) c2
      · rw [hS]; rfl
/-- the events from 'from' on are done again i times later -/
def prepE (es : List EV) (i every : Int) : List EV := es.map (shE (i * every))
def prepN (S : PS) (fr : Nat) (ev : Int) (n : Nat) : PS := (List.range n).foldl (fun (S2 : PS) (i : Nat) => (prepE (S.1.drop fr) ((i : Int) + 1) ev).foldl padd S2) S
def prep (S : PS) (fr : Nat) (times : Nat) (ev : Int) : PS := prepN S fr ev (times - 1)
theorem padd_pre {S : PS} {e : EV} {k : Nat} {x : EV} (h : S.1[k]? = some x) : (padd S e).1[k]? = some x := by
  unfold padd
  split
  · show (S.1 ++ [e])[k]? = some x
    rw [List.getElem?_append_left (List.getElem?_eq_some_iff.mp h).1]
    exact h
  · exact h
theorem pfold_pre {l : List EV} : ∀ {S : PS} {k : Nat} {x : EV}, S.1[k]? = some x → (l.foldl padd S).1[k]? = some x := by
  induction l with
  | nil => exact fun h => h
  | cons e l ih => exact fun h => ih (padd_pre h)
theorem prep_inner {Γ : AMG} {Q : QQ} {d p : Nat} {x1 x2 x3 x4 x5 : Int32} {i ev : Int} {I : II} {Lg : LJ} {R : RR} {gc : Nat → Nat} {S S2 : PS} {fr : Nat} (hx3 : x3 = zI ev) (hx4 : x4 = zI S.1.length) (hx5 : x5 = zI i) (hS : S.1.length ≤ 24)
    (hpre : ∀ (k : Nat) (x : EV), S.1[k]? = some x → S2.1[k]? = some x) (h : ∀ (I' : II) (x6 : Int32), FrI (V1 pvars p) I I' → PlanAt I' p ((prepE (S.1.drop fr) i ev).foldl padd S2) → am_J Γ mX8_repeat Q (d + 2) 0 0 9 [some (vR 8 p), some (vI x1), some (vI x2), some (vI x3), some (vI x4), some (vI (x5 + zI 1)), some (vI x6)] [] I' Lg R (GM gc)) :
    ∀ (m k : Nat) (x6 : Int32) (I1 : II), S.1.length = k + m → fr ≤ k → x6 = zI k → PlanAt I1 p ((prepE ((S.1.take k).drop fr) i ev).foldl padd S2) → FrI (V1 pvars p) I I1 →
      am_J Γ mX8_repeat Q (d + 2) 0 0 18 [some (vR 8 p), some (vI x1), some (vI x2), some (vI x3), some (vI x4), some (vI x5), some (vI x6)] [] I1 Lg R (GM gc) := by
  intro m
  induction m with
  | zero =>
    intro k x6 I1 hm hfr hx6 hp hf
    refine am_go vX8_repeat 40 ?_
    refine And.intro (fun c => ?_) (fun c => ?_)
    · refine h I1 _ hf ?_
      rw [List.take_of_length_le (by omega)] at hp
      exact hp
    · rw [hx6, hx4, zI_toInt (by omega) (by omega), zI_toInt (by omega) (by omega)] at c
      omega
  | succ m ih =>
    intro k x6 I1 hm hfr hx6 hp hf
    have hk : k < S.1.length := by omega
    have he : S.1[k]? = some S.1[k] := List.getElem?_eq_getElem hk
    have he2 := pfold_pre (l := prepE ((S.1.take k).drop fr) i ev) (hpre k _ he)
    refine am_go vX8_repeat 40 ?_
    refine And.intro (fun c => ?_) (fun c => ?_)
    · rw [hx6, hx4, zI_toInt (by omega) (by omega), zI_toInt (by omega) (by omega)] at c
      omega
    · refine s_tickOfE hp hx6 he2 ?_
      refine s_machineOfE hp hx6 he2 ?_
      refine s_numberOfE hp hx6 he2 ?_
      refine s_padd hp (by rw [hx5, hx3, zI_mul, zI_add]) rfl rfl (fun I2 f2 p2 => ?_)
      refine ih (k + 1) _ I2 (by omega) (by omega) (by rw [hx6, zI_add]; congr 1) ?_ (hf.tr f2)
      have e1 : ((S.1.take (k + 1)).drop fr) = (S.1.take k).drop fr ++ [S.1[k]] := by
        rw [take_snoc he, List.drop_append_of_le_length (by simp; omega)]
      rw [e1]
      unfold prepE at p2 ⊢
      rw [List.map_append, List.foldl_append]
      exact p2
theorem prep_len {S : PS} {fr n : Nat} {ev : Int} (h : S.1.length ≤ 24) : (prepN S fr ev n).1.length ≤ 24 := by
  induction n with
  | zero => exact h
  | succ n ih =>
    unfold prepN at ih ⊢
    rw [List.range_succ, List.foldl_append]
    exact pfold_len ih
theorem prep_pre {S : PS} {fr n : Nat} {ev : Int} {k : Nat} {x : EV} (h : S.1[k]? = some x) : (prepN S fr ev n).1[k]? = some x := by
  induction n with
  | zero => exact h
  | succ n ih =>
    unfold prepN at ih ⊢
    rw [List.range_succ, List.foldl_append]
    exact pfold_pre ih
theorem prep_loop {Γ : AMG} {Q : QQ} {d p : Nat} {x1 x2 x3 x4 : Int32} {ev : Int} {I : II} {Lg : LJ} {R : RR} {gc : Nat → Nat} {S : PS} {fr times : Nat} (hx1 : x1 = zI fr) (hfr : fr ≤ S.1.length) (hx2 : x2 = zI times) (ht : times ≤ 1000000) (hx3 : x3 = zI ev) (hx4 : x4 = zI S.1.length) (hS : S.1.length ≤ 24)
    (h : ∀ I' : II, FrI (V1 pvars p) I I' → PlanAt I' p (prep S fr times ev) → Q none I' Lg R (GM gc)) :
    ∀ (m n : Nat) (x5 : Int32) (l6 : Option AV) (I1 : II), times - 1 = n + m → x5 = zI (n + 1) → PlanAt I1 p (prepN S fr ev n) → FrI (V1 pvars p) I I1 →
      am_J Γ mX8_repeat Q (d + 2) 0 0 9 [some (vR 8 p), some (vI x1), some (vI x2), some (vI x3), some (vI x4), some (vI x5), none] [] I1 Lg R (GM gc) := by
  intro m
  induction m with
  | zero =>
    intro n x5 l6 I1 hm hx5 hp hf
    refine am_go vX8_repeat 40 ?_
    refine And.intro (fun c => ?_) (fun c => ?_)
    · refine h I1 hf ?_
      unfold prep
      rw [hm]
      exact hp
    · rw [hx5, hx2, zI_toInt (by omega) (by omega), zI_toInt (by omega) (by omega)] at c
      omega
  | succ m ih =>
    intro n x5 l6 I1 hm hx5 hp hf
    refine am_go vX8_repeat 40 ?_
    refine And.intro (fun c => ?_) (fun c => ?_)
    · rw [hx5, hx2, zI_toInt (by omega) (by omega), zI_toInt (by omega) (by omega)] at c
      omega
    · refine prep_inner (S := S) (S2 := prepN S fr ev n) (I := I1) hx3 hx4 hx5 hS (fun k x hk => prep_pre hk) (fun I2 x6 f2 p2 => ?_) (S.1.length - fr) fr x1 I1 (by omega) (Nat.le_refl _) hx1 ?_ FrI.rf
      · refine am_J.drop (L' := [some (vR 8 p), some (vI x1), some (vI x2), some (vI x3), some (vI x4), some (vI (x5 + zI 1)), none]) rfl (fun i v hi => ?_) (ih (n + 1) _ none I2 (by omega) (by rw [hx5, zI_add]; congr 1) ?_ (hf.tr f2))
        · match i, hi with
          | 0, hi => exact hi
          | 1, hi => exact hi
          | 2, hi => exact hi
          | 3, hi => exact hi
          | 4, hi => exact hi
          | 5, hi => exact hi
          | 6, hi => cases hi
          | _ + 7, hi => cases hi
        · unfold prepN at p2 ⊢
          rw [List.range_succ, List.foldl_append]
          exact p2
      · rw [List.drop_of_length_le (by simp; omega)]
        exact hp
set_option maxRecDepth 100000 in
theorem s_prep {Γ : AMG} {Q : QQ} {d p : Nat} {x1 x2 x3 : Int32} {ev : Int} {I : II} {Lg : LJ} {R : RR} {gc : Nat → Nat} {S : PS} {fr times : Nat} (hp : PlanAt I p S) (hx1 : x1 = zI fr) (hfr : fr ≤ S.1.length) (hx2 : x2 = zI times) (ht : times ≤ 1000000) (hx3 : x3 = zI ev)
    (h : ∀ I' : II, FrI (V1 pvars p) I I' → PlanAt I' p (prep S fr times ev) → Q none I' Lg R (GM gc)) : am_Sp Γ (d + 2) 0 0 mX8_repeat [vR 8 p, vI x1, vI x2, vI x3] I Lg R (GM gc) Q := by
  refine am_run vX8_repeat 40 _ rfl rfl rfl rfl ?_
  exact prep_loop hx1 hfr hx2 ht hx3 hp.1 hp.2.1 h (times - 1) 0 _ none I (by omega) rfl hp FrI.rf
/-- the last tick -/
def ltick (l : List EV) : Int := l.foldl (fun a e => max a e.1) 0
theorem ltick_rng {l : List EV} (h : ∀ e ∈ l, -1000000000 ≤ e.1 ∧ e.1 ≤ 1000000000) : 0 ≤ ltick l ∧ ltick l ≤ 1000000000 := by
  unfold ltick
  suffices hh : ∀ a : Int, 0 ≤ a → a ≤ 1000000000 → 0 ≤ l.foldl (fun a e => max a e.1) a ∧ l.foldl (fun a e => max a e.1) a ≤ 1000000000 from hh 0 (by omega) (by omega)
  induction l with
  | nil => exact fun a h1 h2 => ⟨h1, h2⟩
  | cons e l ih =>
    intro a h1 h2
    have he := h e List.mem_cons_self
    exact ih (fun x hx => h x (List.mem_cons_of_mem _ hx)) (max a e.1) (by omega) (by omega)
theorem lastTick_loop {Γ : AMG} {Q : QQ} {d p : Nat} {I : II} {Lg : LJ} {R : RR} {gc : Nat → Nat} {S : PS} (hp : PlanAt I p S) (hr : ∀ e ∈ S.1, -1000000000 ≤ e.1 ∧ e.1 ≤ 1000000000) (h : Q (some (vI (zI (ltick S.1)))) I Lg R (GM gc)) :
    ∀ (m k : Nat) (x1 x2 : Int32), S.1.length = k + m → x2 = zI k → x1 = zI (ltick (S.1.take k)) →
      am_J Γ mX8_lastTick Q (d + 2) 0 0 4 [some (vR 8 p), some (vI x1), some (vI x2)] [] I Lg R (GM gc) := by
  intro m
  have hT := hp.2.1
  induction m with
  | zero =>
    intro k x1 x2 hm hx2 hx1
    refine am_go vX8_lastTick 40 ?_
    refine And.intro (fun c => ?_) (fun c => ?_)
    · rw [List.take_of_length_le (by omega)] at hx1
      rw [hx1]
      exact h
    · rw [hp.1, hx2, zI_toInt (by omega) (by omega), zI_toInt (by omega) (by omega)] at c
      omega
  | succ m ih =>
    intro k x1 x2 hm hx2 hx1
    have hk : k < S.1.length := by omega
    have he : S.1[k]? = some S.1[k] := List.getElem?_eq_getElem hk
    refine am_go vX8_lastTick 40 ?_
    refine And.intro (fun c => ?_) (fun c => ?_)
    · rw [hp.1, hx2, zI_toInt (by omega) (by omega), zI_toInt (by omega) (by omega)] at c
      omega
    · refine s_tickOfE hp hx2 he ?_
      refine ih (k + 1) _ _ (by omega) (by rw [hx2, zI_add]; congr 1) ?_
      have h1 := ltick_rng (l := S.1.take k) (fun e he => hr e (List.mem_of_mem_take he))
      have h2 := hr _ (List.getElem_mem hk)
      rw [hx1, am_max_z (by omega) (by omega) (by omega) (by omega), take_snoc he]
      congr 1
      unfold ltick
      rw [List.foldl_append]
      rfl
set_option maxRecDepth 100000 in
theorem s_lastTick {Γ : AMG} {Q : QQ} {d p : Nat} {I : II} {Lg : LJ} {R : RR} {gc : Nat → Nat} {S : PS} (hp : PlanAt I p S) (hr : ∀ e ∈ S.1, -1000000000 ≤ e.1 ∧ e.1 ≤ 1000000000) (h : Q (some (vI (zI (ltick S.1)))) I Lg R (GM gc)) : am_Sp Γ (d + 2) 0 0 mX8_lastTick [vR 8 p] I Lg R (GM gc) Q := by
  refine am_run vX8_lastTick 40 _ rfl rfl rfl rfl ?_
  exact lastTick_loop hp hr h S.1.length 0 _ _ (by omega) rfl rfl
end
section
/-! Balls and boards. -/
/-- a board: parts, slope, rough, drop, turn -/
abbrev BD : Type := Int × Int × Int × Int × Int
def BDok (b : BD) : Prop := 64 ≤ b.1 ∧ b.1 ≤ 2560 ∧ -9 ≤ b.2.1 ∧ b.2.1 ≤ 30 ∧ 0 ≤ b.2.2.1 ∧ b.2.2.1 ≤ 15 ∧ 0 ≤ b.2.2.2.1 ∧ b.2.2.2.1 ≤ 9 ∧ 0 ≤ b.2.2.2.2 ∧ b.2.2.2.2 ≤ 8
def BoardAt (I : II) (b : Nat) (x : BD) : Prop := I 6 b 0 = zI x.1 ∧ I 7 b 0 = zI x.2.1 ∧ I 8 b 0 = zI x.2.2.1 ∧ I 9 b 0 = zI x.2.2.2.1 ∧ I 10 b 0 = zI x.2.2.2.2
/-- a ball: place, part, speed, place ahead, part ahead -/
abbrev BL : Type := Int × Int × Int × Int × Int
def BallAt (I : II) (b : Nat) (x : BL) : Prop := I 1 b 0 = zI x.1 ∧ I 2 b 0 = zI x.2.1 ∧ I 3 b 0 = zI x.2.2.1 ∧ I 4 b 0 = zI x.2.2.2.1 ∧ I 5 b 0 = zI x.2.2.2.2
abbrev bvars : List Nat := [1, 2, 3, 4, 5]
def fst9 (b : BD) (s : Int) : Int := max 0 (s + b.2.1)
/-- the speed behind a tick -/
def spd (b : BD) (s : Int) : Int := min 1023 (fst9 b s - fst9 b s * b.2.2.1 / 64)
theorem mul_div_le {f r : Int} (h0 : 0 ≤ f) (h1 : 0 ≤ r) (h2 : r ≤ 64) : 0 ≤ f * r / 64 ∧ f * r / 64 ≤ f := by
  have e1 : 0 ≤ f * r := Int.mul_nonneg h0 h1
  have e2 : f * r ≤ f * 64 := Int.mul_le_mul_of_nonneg_left h2 h0
  omega
theorem spd_rng {b : BD} {s : Int} (hb : BDok b) : 0 ≤ spd b s ∧ spd b s ≤ 1023 := by
  obtain ⟨-, -, -, -, h1, h2, -⟩ := hb
  have h0 : 0 ≤ fst9 b s := by unfold fst9; omega
  have := mul_div_le h0 h1 (by omega)
  unfold spd
  omega
/-- the class's way to the speed -/
theorem spd_class {b : BD} {s : Int} (hb : BDok b) (h0 : 0 ≤ s) (h1 : s ≤ 1023) : max 0 (min ((s + b.2.1) - ((s + b.2.1) * b.2.2.1).tdiv 64) 1023) = spd b s := by
  obtain ⟨-, -, g1, g2, g3, g4, -⟩ := hb
  unfold spd fst9
  by_cases hf : 0 ≤ s + b.2.1
  · rw [Int.max_eq_right hf]
    have := mul_div_le hf g3 (by omega)
    rw [Int.tdiv_eq_ediv_of_nonneg (Int.mul_nonneg hf g3)]
    omega
  · have hn : 0 ≤ -(s + b.2.1) := by omega
    have := mul_div_le hn g3 (by omega)
    have e1 : ((s + b.2.1) * b.2.2.1).tdiv 64 = -((-(s + b.2.1)) * b.2.2.1 / 64) := by
      have e2 : (s + b.2.1) * b.2.2.1 = -((-(s + b.2.1)) * b.2.2.1) := by rw [Int.neg_mul, Int.neg_neg]
      rw [e2, Int.neg_tdiv, Int.tdiv_eq_ediv_of_nonneg (Int.mul_nonneg hn g3)]
    rw [e1, Int.max_eq_left (by omega : s + b.2.1 ≤ 0)]
    omega
theorem prod_rng {f r A B : Int} (h0 : -A ≤ f) (h1 : f ≤ A) (h2 : 0 ≤ r) (h3 : r ≤ B) (hA : 0 ≤ A) : -(A * B) ≤ f * r ∧ f * r ≤ A * B := by
  have e1 : f * r ≤ A * r := Int.mul_le_mul_of_nonneg_right h1 h2
  have e2 : A * r ≤ A * B := Int.mul_le_mul_of_nonneg_left h3 hA
  have e3 : -A * r ≤ f * r := Int.mul_le_mul_of_nonneg_right h0 h2
  have e4 : -A * r = -(A * r) := Int.neg_mul _ _
  omega
theorem tdiv_rng {x A d : Int} (h0 : -A ≤ x) (h1 : x ≤ A) (hd : 0 < d) : -A ≤ x.tdiv d ∧ x.tdiv d ≤ A := by
  have := Int.natAbs_tdiv_le_natAbs x d
  omega
set_option maxRecDepth 100000 in
theorem s_rolls {Γ : AMG} {Q : QQ} {d b bo : Nat} {I : II} {Lg : LJ} {R : RR} {G : GG} {x : BD} {l : BL} (hb : BDok x) (hB : BoardAt I bo x) (hL : BallAt I b l) (hs0 : 0 ≤ l.2.2.1) (hs1 : l.2.2.1 ≤ 1023) (hp0 : 0 ≤ l.2.1) (hp1 : l.2.1 ≤ 1000000)
    (h : ∀ I' : II, FrI (V1 bvars b) I I' → BallAt I' b (l.1, l.2.1 + spd x l.2.2.1, spd x l.2.2.1, l.1, l.2.1) → (x.1 ≤ l.2.1 + spd x l.2.2.1 → Q (some (vI (zI 1))) I' Lg R G) ∧ (l.2.1 + spd x l.2.2.1 < x.1 → Q (some (vI (zI 0))) I' Lg R G)) :
    am_Sp Γ (d + 1) 0 0 mX0_rollsOver [vR 0 b, vR 1 bo] I Lg R G Q := by
  obtain ⟨b1, b2, b3, b4, b5⟩ := hB
  obtain ⟨l1, l2, l3, l4, l5⟩ := hL
  have hsp := spd_rng (s := l.2.2.1) hb
  have hcl := spd_class hb hs0 hs1
  obtain ⟨g1, g2, g3, g4, g5, g6, g7, g8, g9, g10⟩ := id hb
  have hpr := prod_rng (f := l.2.2.1 + x.2.1) (r := x.2.2.1) (A := 2000) (B := 15) (by omega) (by omega) g5 g6 (by omega)
  have htr := tdiv_rng (d := 64) hpr.1 hpr.2 (by omega)
  refine am_runN vX0_rollsOver 60 _ rfl rfl rfl rfl ?_
  refine fun x1 ex1 I1 e1 x2 ex2 I2 e2 x3 ex3 => ?_
  refine And.intro (by rw [zI_toInt (by omega) (by omega)]; omega) ?_
  refine fun x4 ex4 x5 ex5 I5 e5 x6 ex6 I6 e6 => ?_
  have v1 : x1 = zI l.1 := ex1.trans l1
  have v2 : x2 = zI l.2.1 := by rw [ex2, e1, up3_v _ (by decide)]; exact l2
  have v3 : x3 = zI (l.2.2.1 + x.2.1) := by rw [ex3, e2, up3_v _ (by decide), up3_v _ (by decide), e1, up3_v _ (by decide), up3_v _ (by decide), l3, b2, zI_add]
  have v4 : I2 8 bo 0 = zI x.2.2.1 := by rw [e2, up3_v _ (by decide), e1, up3_v _ (by decide), b3]
  have v5 : x5 = zI (spd x l.2.2.1) := by rw [ex5, ex4, v3, v4, zI_mul, zI_div (by omega) (by omega) (by omega) (by omega), zI_sub, am_min_z (by omega) (by omega) (by omega) (by omega), am_max_z (by omega) (by omega) (by omega) (by omega), hcl]
  have v6 : x6 = zI (l.2.1 + spd x l.2.2.1) := by rw [ex6, e5, up3_v _ (by decide), up3_s, e2, up3_v _ (by decide), e1, up3_v _ (by decide), l2, v5, zI_add]
  have hf : FrI (V1 bvars b) I I6 := by
    subst e1; subst e2; subst e5; subst e6
    exact (((FrI.rf.up (V1_in rfl)).up (V1_in rfl)).up (V1_in rfl)).up (V1_in rfl)
  have hbl : BallAt I6 b (l.1, l.2.1 + spd x l.2.2.1, spd x l.2.2.1, l.1, l.2.1) := by
    refine ⟨?_, ?_, ?_, ?_, ?_⟩
    · rw [e6, up3_v _ (by decide), e5, up3_v _ (by decide), e2, up3_v _ (by decide), e1, up3_v _ (by decide), l1]
    · rw [e6, up3_s, v6]
    · rw [e6, up3_v _ (by decide), e5, up3_s, v5]
    · rw [e6, up3_v _ (by decide), e5, up3_v _ (by decide), e2, up3_v _ (by decide), e1, up3_s, v1]
    · rw [e6, up3_v _ (by decide), e5, up3_v _ (by decide), e2, up3_s, v2]
  obtain ⟨hy, hn⟩ := h I6 hf hbl
  have hpt : (I6 2 b 0).toInt = l.2.1 + spd x l.2.2.1 := by rw [hbl.2.1, zI_toInt (by show _ ≤ l.2.1 + spd x l.2.2.1; omega) (by show l.2.1 + spd x l.2.2.1 < _; omega)]
  have hpr2 : (I6 6 bo 0).toInt = x.1 := by rw [hf _ _ rfl, b1, zI_toInt (by omega) (by omega)]
  refine And.intro (fun c => ?_) (fun c => ?_)
  · rw [hpt, hpr2] at c
    exact ⟨Or.inl rfl, hn c⟩
  · rw [hpt, hpr2] at c
    exact ⟨Or.inr rfl, hy c⟩
/-- how a ball leaves a board over a step of that drop -/
def lvS (b : BD) (s : Int) : Int := s - s * b.2.2.2.2 / 16
def lvK (dr s : Int) : Int := dr * s / 64
def lvP (b : BD) (dr p s : Int) : Int := p + (dr * lvS b s / 8 - b.1)
theorem lvS_rng {b : BD} {s : Int} (hb : BDok b) (h0 : 0 ≤ s) : 0 ≤ lvS b s ∧ lvS b s ≤ s ∧ (0 < s → 0 < lvS b s) := by
  obtain ⟨-, -, -, -, -, -, -, -, g1, g2⟩ := hb
  have e1 : 0 ≤ s * b.2.2.2.2 := Int.mul_nonneg h0 g1
  have e2 : s * b.2.2.2.2 ≤ s * 8 := Int.mul_le_mul_of_nonneg_left g2 h0
  unfold lvS
  omega
theorem dr_rng {dr s : Int} (h0 : 0 ≤ dr) (h1 : dr ≤ 9) (h2 : 0 ≤ s) (h3 : s ≤ 1023) : 0 ≤ dr * s ∧ dr * s ≤ 9207 := by
  have e1 : 0 ≤ dr * s := Int.mul_nonneg h0 h2
  have e2 : dr * s ≤ 9 * s := Int.mul_le_mul_of_nonneg_right h1 h2
  omega
set_option maxRecDepth 100000 in
theorem s_falls {Γ : AMG} {Q : QQ} {d b bo : Nat} {xd : Int32} {dr : Int} {I : II} {Lg : LJ} {R : RR} {G : GG} {x : BD} {l : BL} (hb : BDok x) (hB : BoardAt I bo x) (hL : BallAt I b l) (hs0 : 0 ≤ l.2.2.1) (hs1 : l.2.2.1 ≤ 1023) (hp0 : 0 ≤ l.2.1) (hp1 : l.2.1 ≤ 1000000) (hd0 : 0 ≤ dr) (hd1 : dr ≤ 9) (hxd : xd = zI dr)
    (h : ∀ I' : II, FrI (V1 [2, 3] b) I I' → BallAt I' b (l.1, lvP x dr l.2.1 l.2.2.1, lvS x l.2.2.1, l.2.2.2.1, l.2.2.2.2) → Q (some (vI (zI (lvK dr l.2.2.1)))) I' Lg R G) :
    am_Sp Γ (d + 1) 0 0 mX0_fallsOff [vR 0 b, vR 1 bo, vI xd] I Lg R G Q := by
  obtain ⟨b1, b2, b3, b4, b5⟩ := hB
  obtain ⟨l1, l2, l3, l4, l5⟩ := hL
  obtain ⟨g1, g2, g3, g4, g5, g6, g7, g8, g9, g10⟩ := id hb
  have hdr := dr_rng hd0 hd1 hs0 hs1
  have hlv := lvS_rng hb hs0
  have hdr2 := dr_rng hd0 hd1 hlv.1 (by omega : lvS x l.2.2.1 ≤ 1023)
  have e9 : 0 ≤ l.2.2.1 * x.2.2.2.2 := Int.mul_nonneg hs0 g9
  have e10 : l.2.2.1 * x.2.2.2.2 ≤ l.2.2.1 * 8 := Int.mul_le_mul_of_nonneg_left g10 hs0
  refine am_runN vX0_fallsOff 60 _ rfl rfl rfl rfl ?_
  refine And.intro (by rw [zI_toInt (by omega) (by omega)]; omega) ?_
  refine fun x1 ex1 => ?_
  refine And.intro (by rw [zI_toInt (by omega) (by omega)]; omega) ?_
  refine fun x2 ex2 I2 e2 => ?_
  refine And.intro (by rw [zI_toInt (by omega) (by omega)]; omega) ?_
  refine fun x3 ex3 I3 e3 => ?_
  have v1 : x1 = zI (lvK dr l.2.2.1) := by rw [ex1, hxd, l3, zI_mul, zI_divN hdr.1 (by omega) (by omega) (by omega)]; rfl
  have v2 : x2 = zI (lvS x l.2.2.1) := by rw [ex2, l3, b5, zI_mul, zI_divN e9 (by omega) (by omega) (by omega), zI_sub]; rfl
  have v3 : x3 = zI (lvP x dr l.2.1 l.2.2.1) := by
    rw [ex3, e2, up3_s, up3_v _ (by decide), up3_v _ (by decide), l2, b1, v2, hxd, zI_mul, zI_divN hdr2.1 (by omega) (by omega) (by omega), zI_sub, zI_add]
    rfl
  rw [v1]
  refine h I3 ?_ ⟨?_, ?_, ?_, ?_, ?_⟩
  · subst e2; subst e3
    exact (FrI.rf.up (V1_in rfl)).up (V1_in rfl)
  · rw [e3, up3_v _ (by decide), e2, up3_v _ (by decide), l1]
  · rw [e3, up3_s, v3]
  · rw [e3, up3_v _ (by decide), e2, up3_s, v2]
  · rw [e3, up3_v _ (by decide), e2, up3_v _ (by decide), l4]
  · rw [e3, up3_v _ (by decide), e2, up3_v _ (by decide), l5]
set_option maxRecDepth 100000 in
theorem s_bput {Γ : AMG} {Q : QQ} {d b : Nat} {x1 x2 x3 : Int32} {p t s : Int} {I : II} {Lg : LJ} {R : RR} {G : GG} (h1 : x1 = zI p) (h2 : x2 = zI t) (h3 : x3 = zI s)
    (h : ∀ I' : II, FrI (V1 bvars b) I I' → BallAt I' b (p, t, s, p, t) → Q none I' Lg R G) : am_Sp Γ d 0 0 mX0_put [vR 0 b, vI x1, vI x2, vI x3] I Lg R G Q := by
  refine am_runN vX0_put 60 _ rfl rfl rfl rfl ?_
  refine fun y1 ey1 I1 e1 y2 ey2 I2 e2 y3 ey3 I3 e3 y4 ey4 I4 e4 y5 ey5 I5 e5 => ?_
  refine h I5 ?_ ⟨?_, ?_, ?_, ?_, ?_⟩
  · subst e1; subst e2; subst e3; subst e4; subst e5
    exact ((((FrI.rf.up (V1_in rfl)).up (V1_in rfl)).up (V1_in rfl)).up (V1_in rfl)).up (V1_in rfl)
  · rw [e5, up3_v _ (by decide), e4, up3_v _ (by decide), e3, up3_v _ (by decide), e2, up3_v _ (by decide), e1, up3_s, ey1, h1]
  · rw [e5, up3_v _ (by decide), e4, up3_v _ (by decide), e3, up3_v _ (by decide), e2, up3_s, ey2, h2]
  · rw [e5, up3_v _ (by decide), e4, up3_v _ (by decide), e3, up3_s, ey3, h3]
  · rw [e5, up3_v _ (by decide), e4, up3_s, ey4, h1]
  · rw [e5, up3_s, ey5, h2]
set_option maxRecDepth 100000 in
theorem s_letGoOn {Γ : AMG} {Q : QQ} {d b : Nat} {x1 : Int32} {I : II} {Lg : LJ} {R : RR} {G : GG}
    (h : ∀ I' : II, FrI (V1 (0 :: bvars) b) I I' → I' 0 b 0 = x1 → BallAt I' b (0, 0, 0, 0, 0) → Q none I' Lg R G) : am_Sp Γ (d + 1) 0 0 mX0_letGoOn [vR 0 b, vI x1] I Lg R G Q := by
  refine am_runN vX0_letGoOn 60 _ rfl rfl rfl rfl ?_
  refine fun y1 ey1 I1 e1 => ?_
  refine s_bput (p := 0) (t := 0) (s := 0) rfl rfl rfl (fun I2 f2 b2 => ?_)
  refine h I2 ?_ ?_ b2
  · have f1 : FrI (V1 (0 :: bvars) b) I I1 := by subst e1; exact FrI.rf.up (V1_in rfl)
    refine f1.tr (f2.mono (fun v i hv => ?_))
    unfold V1 at hv ⊢
    rw [List.elem_cons] at hv
    cases hv2 : (v == 0)
    · rw [hv2] at hv; exact hv
    · rw [hv2] at hv
      have e : v = 0 := by simpa using hv2
      subst e
      rfl
  · rw [f2 _ _ rfl, e1, up3_s, ey1]
set_option maxRecDepth 100000 in
theorem s_atRest {Γ : AMG} {Q : QQ} {d b : Nat} {I : II} {Lg : LJ} {R : RR} {G : GG} {l : BL} (hL : BallAt I b l) (hs0 : 0 ≤ l.2.2.1) (hs1 : l.2.2.1 ≤ 1023) (hy : l.2.2.1 = 0 → Q (some (vI (zI 1))) I Lg R G) (hn : l.2.2.1 ≠ 0 → Q (some (vI (zI 0))) I Lg R G) : am_Sp Γ d 0 0 mX0_isAtRest [vR 0 b] I Lg R G Q := by
  refine am_run vX0_isAtRest 60 _ rfl rfl rfl rfl ?_
  have e : (I 3 b 0).toInt = l.2.2.1 := by rw [hL.2.2.1, zI_toInt (by omega) (by omega)]
  refine And.intro (fun c => ?_) (fun c => ?_)
  · rw [e] at c
    exact ⟨Or.inl rfl, hn c⟩
  · rw [e] at c
    exact ⟨Or.inr rfl, hy c⟩
end
section
/-! Runs of boards in the class. -/
/-- bit p of the gates -/
def gb (g : Int32) (p : Nat) : Nat := g.toBitVec.toNat / 2 ^ p % 2
theorem gb_01 (g : Int32) (p : Nat) : gb g p = 0 ∨ gb g p = 1 := by unfold gb; omega
theorem gb_u {g : Int32} {p : Nat} (hp : p < 12) : (g.toUInt32 >>> ((zI p).toUInt32 &&& Int32.toUInt32 31)).toInt32 &&& zI 1 = zI (gb g p) := by
  have h1 : ∀ p : Nat, p < 12 → (((zI p).toUInt32 &&& Int32.toUInt32 31).toBitVec % 32).toNat = p := by decide +kernel
  rw [pk_and _ 1 (by decide +kernel), pk_ushr g (zI p) p (h1 p hp)]
  exact (Int32.ofInt_eq_ofNat).symm
theorem gb_s {g : Int32} {p : Nat} (hp : p < 12) : (g >>> (zI p &&& 31)) &&& zI 1 = zI (gb g p) := by
  have h1 : ∀ p : Nat, p < 12 → ((zI p &&& 31).toBitVec.smod 32).toNat = p := by decide +kernel
  have h2 := pk_shr g (zI p &&& 31) p (h1 p hp)
  rw [pk_and _ 1 (by decide +kernel)]
  refine (Int32.ofInt_eq_ofNat).symm.trans ?_
  show zI _ = zI _
  congr 1
  generalize hx : g >>> (zI p &&& 31) = x at h2
  have e1 := BitVec.toInt_eq_toNat_cond x.toBitVec
  have e2 := BitVec.toInt_eq_toNat_cond g.toBitVec
  have e3 : x.toBitVec.toInt = x.toInt := rfl
  have e4 : g.toBitVec.toInt = g.toInt := rfl
  have l1 := x.toBitVec.isLt
  have l2 := g.toBitVec.isLt
  rw [Int.shiftRight_eq_div_pow] at h2
  unfold gb
  have hc : p = 0 ∨ p = 1 ∨ p = 2 ∨ p = 3 ∨ p = 4 ∨ p = 5 ∨ p = 6 ∨ p = 7 ∨ p = 8 ∨ p = 9 ∨ p = 10 ∨ p = 11 := by omega
  rcases hc with rfl | rfl | rfl | rfl | rfl | rfl | rfl | rfl | rfl | rfl | rfl | rfl <;> (split at e1 <;> split at e2 <;> simp only [Nat.reducePow, Int.reducePow] at * <;> omega)
/-- a run: for each place its board, where on, where on with its gate turned -/
abbrev RUN : Type := List (BD × Int × Int)
def goOk (n p : Nat) (t : Int) : Prop := t = 255 ∨ ((p : Int) < t ∧ t < n)
def RUNok (rn : RUN) : Prop := rn.length ≤ 12 ∧ ∀ (p : Nat) (e : BD × Int × Int), rn[p]? = some e → BDok e.1 ∧ goOk rn.length p e.2.1 ∧ goOk rn.length p e.2.2
def PathAt (I : II) (R : RR) (r : Nat) (rn : RUN) : Prop := I 32 r 0 = zI rn.length ∧ ∀ (p : Nat) (e : BD × Int × Int), rn[p]? = some e → (∃ b : Nat, R 1 r p = some b ∧ BoardAt I b e.1) ∧ I 113 r p = zI e.2.1 ∧ I 114 r p = zI e.2.2
abbrev rvars : List Nat := [32, 113, 114, 6, 7, 8, 9, 10]
theorem BoardAt.fr {I I' : II} {b : Nat} {x : BD} {P : Nat → Nat → Bool} (h : BoardAt I b x) (hf : FrI P I I') (hP : ∀ v ∈ rvars, ∀ i, P v i = false) : BoardAt I' b x := by
  obtain ⟨h1, h2, h3, h4, h5⟩ := h
  refine ⟨?_, ?_, ?_, ?_, ?_⟩ <;> rw [hf _ _ (hP _ (by decide) _)] <;> assumption
theorem PathAt.fr {I I' : II} {R : RR} {r : Nat} {rn : RUN} {P : Nat → Nat → Bool} (h : PathAt I R r rn) (hf : FrI P I I') (hP : ∀ v ∈ rvars, ∀ i, P v i = false) : PathAt I' R r rn := by
  obtain ⟨h1, h2⟩ := h
  refine ⟨by rw [hf _ _ (hP _ (by decide) _)]; exact h1, fun p e he => ?_⟩
  obtain ⟨⟨b, hb, hB⟩, h3, h4⟩ := h2 p e he
  exact ⟨⟨b, hb, hB.fr hf hP⟩, by rw [hf _ _ (hP _ (by decide) _)]; exact h3, by rw [hf _ _ (hP _ (by decide) _)]; exact h4⟩
theorem V1_out {l : List Nat} {p : Nat} {vs : List Nat} (h : vs.all (fun v => !l.elem v) = true) : ∀ v ∈ vs, ∀ i, V1 l p v i = false := by
  intro v hv i
  have h1 := List.all_eq_true.mp h v hv
  unfold V1
  cases he : l.elem v
  · rfl
  · rw [he] at h1; cases h1
def nx (rn : RUN) (g : Int32) (p : Int) : Int := match rn[p.toNat]? with
  | some e => if gb g p.toNat = 0 then e.2.1 else e.2.2
  | none => 255
theorem nx_rng {rn : RUN} {g : Int32} {p : Int} (h : RUNok rn) (h0 : 0 ≤ p) : p < nx rn g p ∨ nx rn g p = 255 := by
  unfold nx
  cases he : rn[p.toNat]? with
  | none => exact Or.inr rfl
  | some e =>
    obtain ⟨-, h2, h3⟩ := h.2 _ e he
    unfold goOk at h2 h3
    dsimp only
    split <;> omega
theorem nx_255 {rn : RUN} {g : Int32} {p : Int} (h : RUNok rn) : 0 ≤ nx rn g p ∧ nx rn g p ≤ 255 := by
  unfold nx
  cases he : rn[p.toNat]? with
  | none => dsimp only; omega
  | some e =>
    obtain ⟨-, h2, h3⟩ := h.2 _ e he
    have := h.1
    unfold goOk at h2 h3
    dsimp only
    split <;> omega
set_option maxRecDepth 100000 in
theorem s_boardAt {Γ : AMG} {Q : QQ} {d r : Nat} {x : Int32} {p : Int} {I : II} {Lg : LJ} {R : RR} {gc : Nat → Nat} {rn : RUN} (hrn : RUNok rn) (hP : PathAt I R r rn) (hx : x = zI p) (h0 : 0 ≤ p) (h1 : p ≤ 1000)
    (hy : ∀ (e : BD × Int × Int) (b : Nat), rn[p.toNat]? = some e → R 1 r p.toNat = some b → BoardAt I b e.1 → Q (some (vR 1 b)) I Lg R (GM gc)) (hn : rn[p.toNat]? = none → Q (some vN) I Lg R (GM gc)) : am_Sp Γ d 0 0 mX7_boardAt [vR 7 r, vI x] I Lg R (GM gc) Q := by
  have hlen := hrn.1
  have hxt : x.toInt = p := by rw [hx, zI_toInt (by omega) (by omega)]
  have hst : (I 32 r 0).toInt = rn.length := by rw [hP.1, zI_toInt (by omega) (by omega)]
  refine am_run vX7_boardAt 60 _ rfl rfl rfl rfl ?_
  refine And.intro (fun c => ?_) (fun c => ?_)
  · rw [hxt] at c; omega
  · refine And.intro (fun c2 => ?_) (fun c2 => ?_)
    · rw [hxt, hst] at c2
      exact hn (List.getElem?_eq_none (by omega))
    · rw [hxt, hst] at c2
      refine And.intro (fun c3 => ?_) (fun c3 => ?_)
      · rw [hxt, zI_toInt (by omega) (by omega)] at c3
        omega
      · refine And.intro ⟨by omega, by omega⟩ ?_
        have hlt : p.toNat < rn.length := by omega
        have he : rn[p.toNat]? = some rn[p.toNat] := List.getElem?_eq_getElem hlt
        obtain ⟨⟨b, hb, hB⟩, -, -⟩ := hP.2 _ _ he
        rw [hxt]
        refine And.intro (fun q => ?_) (fun b2 q => ?_)
        · rw [hb] at q; cases q
        · rw [hb] at q
          cases q
          exact hy _ b he hb hB
set_option maxRecDepth 100000 in
theorem s_leadsTo {Γ : AMG} {Q : QQ} {d r : Nat} {x g : Int32} {p : Int} {I : II} {Lg : LJ} {R : RR} {gc : Nat → Nat} {rn : RUN} (hrn : RUNok rn) (hP : PathAt I R r rn) (hx : x = zI p) (h0 : 0 ≤ p) (h1 : p ≤ 1000)
    (h : Q (some (vI (zI (nx rn g p)))) I Lg R (GM gc)) : am_Sp Γ d 0 0 mX7_leadsTo [vR 7 r, vI x, vI g] I Lg R (GM gc) Q := by
  have hlen := hrn.1
  have hxt : x.toInt = p := by rw [hx, zI_toInt (by omega) (by omega)]
  have hst : (I 32 r 0).toInt = rn.length := by rw [hP.1, zI_toInt (by omega) (by omega)]
  refine am_run vX7_leadsTo 60 _ rfl rfl rfl rfl ?_
  refine And.intro (fun c => ?_) (fun c => ?_)
  · rw [hxt] at c; omega
  · refine And.intro (fun c2 => ?_) (fun c2 => ?_)
    · rw [hxt, hst] at c2
      have e : rn[p.toNat]? = none := List.getElem?_eq_none (by omega)
      unfold nx at h
      rw [e] at h
      exact h
    · rw [hxt, hst] at c2
      refine And.intro (fun c3 => ?_) (fun c3 => ?_)
      · have hlt : p.toNat < rn.length := by omega
        have he : rn[p.toNat]? = some rn[p.toNat] := List.getElem?_eq_getElem hlt
        obtain ⟨-, hs, ht⟩ := hP.2 _ _ he
        have hbit : (g.toUInt32 >>> (x.toUInt32 &&& Int32.toUInt32 31)).toInt32 &&& zI 1 = zI (gb g p.toNat) := by
          rw [hx, show p = ((p.toNat : Nat) : Int) by omega]
          exact gb_u (by omega)
        have h01 := gb_01 g p.toNat
        have hxn : x.toInt.toNat = p.toNat := by rw [hxt]
        unfold nx at h
        rw [he] at h
        refine And.intro (fun c4 => ?_) (fun c4 => ?_)
        · rw [hbit, zI_toInt (by omega) (by omega)] at c4
          refine And.intro ⟨by omega, by omega⟩ ?_
          rw [hxn, ht]
          dsimp only at h
          rw [if_neg (by omega)] at h
          exact h
        · rw [hbit, zI_toInt (by omega) (by omega)] at c4
          refine And.intro ⟨by omega, by omega⟩ ?_
          rw [hxn, hs]
          dsimp only at h
          rw [if_pos (by omega)] at h
          exact h
      · rw [hxt, zI_toInt (by omega) (by omega)] at c3
        omega
/-- where a ball comes to stay: place, part, how many it jumped -/
def land (rn : RUN) (g : Int32) : Nat → Int → Int → Int × Int × Nat
  | 0, p, t => (p, t, 0)
  | f + 1, p, t => match rn[p.toNat]? with
    | none => (p, t, 0)
    | some e => if t < e.1.1 then (p, t, 0) else ((land rn g f (nx rn g p) (t - e.1.1)).1, (land rn g f (nx rn g p) (t - e.1.1)).2.1, (land rn g f (nx rn g p) (t - e.1.1)).2.2 + 1)
theorem land_rng {rn : RUN} {g : Int32} (hrn : RUNok rn) : ∀ (f : Nat) (p t : Int), 0 ≤ p → p ≤ 255 → 0 ≤ t → 0 ≤ (land rn g f p t).1 ∧ (land rn g f p t).1 ≤ 255 ∧ 0 ≤ (land rn g f p t).2.1 ∧ (land rn g f p t).2.1 ≤ t ∧ (land rn g f p t).2.2 ≤ f
  | 0, p, t, h1, h2, h3 => ⟨h1, h2, h3, Int.le_refl _, Nat.le_refl _⟩
  | f + 1, p, t, h1, h2, h3 => by
    unfold land
    cases he : rn[p.toNat]? with
    | none => dsimp only; omega
    | some e =>
      dsimp only
      have hb := (hrn.2 _ e he).1.1
      by_cases ht : t < e.1.1
      · rw [if_pos ht]
        dsimp only; omega
      · rw [if_neg ht]
        have hx := nx_255 (g := g) (p := p) hrn
        have ih := land_rng (g := g) hrn f (nx rn g p) (t - e.1.1) hx.1 hx.2 (by omega)
        dsimp only
        omega
theorem carry_loop {Γ : AMG} {Q : QQ} {d r b : Nat} {g : Int32} {I : II} {Lg : LJ} {R : RR} {gc : Nat → Nat} {rn : RUN} {p0 sp pa qa : Int} (hrn : RUNok rn) (hP : PathAt I R r rn) :
    ∀ (m k : Nat) (x3 x4 x5 : Int32) (p t : Int) (j : Nat) (I1 : II), k + m = 12 → x5 = zI k → x4 = zI p → x3 = zI j → j ≤ k → 0 ≤ p → p ≤ 255 → 0 ≤ t → t ≤ 1000000 → FrI (V1 bvars b) I I1 → BallAt I1 b (p0, t, sp, pa, qa) →
      (∀ I' : II, FrI (V1 bvars b) I I' → BallAt I' b ((land rn g m p t).1, (land rn g m p t).2.1, sp, pa, qa) → Q (some (vI (zI (j + (land rn g m p t).2.2 : Nat)))) I' Lg R (GM gc)) →
      am_J Γ mX7_carryOn Q (d + 1) 0 0 16 [some (vR 7 r), some (vR 0 b), some (vI g), some (vI x3), some (vI x4), some (vI x5), none] [] I1 Lg R (GM gc) := by
  intro m
  have fin : ∀ (x3 x4 : Int32) (x5 : Option AV) (x6 : Option AV) (p t : Int) (j : Nat) (I1 : II), x4 = zI p → x3 = zI j → FrI (V1 bvars b) I I1 → BallAt I1 b (p0, t, sp, pa, qa) → (∀ I' : II, FrI (V1 bvars b) I I' → BallAt I' b (p, t, sp, pa, qa) → Q (some (vI (zI j))) I' Lg R (GM gc)) → Q (some (vI x3)) (up3 I1 1 b 0 x4) Lg R (GM gc) := by
    intro x3 x4 x5 x6 p t j I1 h4 h3 hf hb h
    obtain ⟨l1, l2, l3, l4, l5⟩ := hb
    rw [h3]
    refine h _ (hf.up (V1_in rfl)) ⟨by rw [up3_s, h4], ?_, ?_, ?_, ?_⟩
    · rw [up3_v _ (by decide)]; exact l2
    · rw [up3_v _ (by decide)]; exact l3
    · rw [up3_v _ (by decide)]; exact l4
    · rw [up3_v _ (by decide)]; exact l5
  induction m with
  | zero =>
    intro k x3 x4 x5 p t j I1 hk h5 h4 h3 hj hp0 hp1 ht0 ht1 hf hb h
    refine am_go vX7_carryOn 60 ?_
    refine And.intro (fun c => ?_) (fun c => ?_)
    · exact fin x3 x4 none none p t j I1 h4 h3 hf hb h
    · rw [h5, zI_toInt (by omega) (by omega), zI_toInt (by omega) (by omega)] at c
      omega
  | succ m ih =>
    intro k x3 x4 x5 p t j I1 hk h5 h4 h3 hj hp0 hp1 ht0 ht1 hf hb h
    have hP1 : PathAt I1 R r rn := hP.fr hf (V1_out (by decide))
    refine am_go vX7_carryOn 60 ?_
    refine And.intro (fun c => ?_) (fun c => ?_)
    · rw [h5, zI_toInt (by omega) (by omega), zI_toInt (by omega) (by omega)] at c
      omega
    · refine s_boardAt hrn hP1 h4 hp0 (by omega) (fun e bo he hR hB => ?_) (fun he => ?_)
      · have hbk := (hrn.2 _ e he).1
        have hpt : (I1 2 b 0).toInt = t := by rw [hb.2.1, zI_toInt (by show _ ≤ t; omega) (by show t < _; omega)]
        have hpr : (I1 6 bo 0).toInt = e.1.1 := by rw [hB.1, zI_toInt (by have := hbk.1; omega) (by have := hbk.2.1; omega)]
        refine And.intro (fun c2 => ?_) (fun c2 => ?_)
        · rw [hpt, hpr] at c2
          refine s_leadsTo hrn (hP1.fr (P := V1 bvars b) (FrI.rf.up (V1_in rfl)) (V1_out (by decide))) h4 hp0 (by omega) ?_
          have hx := nx_255 (g := g) (p := p) hrn
          refine am_J.drop (L' := [some (vR 7 r), some (vR 0 b), some (vI g), some (vI (x3 + zI 1)), some (vI (zI (nx rn g p))), some (vI (x5 + zI 1)), none]) rfl (fun i v hi => ?_) (ih (k + 1) _ _ _ (nx rn g p) (t - e.1.1) (j + 1) _ (by omega) (by rw [h5, zI_add]; congr 1) rfl (by rw [h3, zI_add]; congr 1) (by omega) hx.1 hx.2 (by omega) (by have := hbk.1; omega) (hf.up (V1_in rfl)) ?_ (fun I' f' b' => ?_))
          · match i, hi with
            | 0, hi => exact hi
            | 1, hi => exact hi
            | 2, hi => exact hi
            | 3, hi => exact hi
            | 4, hi => exact hi
            | 5, hi => exact hi
            | 6, hi => cases hi
            | _ + 7, hi => cases hi
          · obtain ⟨l1, l2, l3, l4, l5⟩ := hb
            refine ⟨?_, ?_, ?_, ?_, ?_⟩
            · rw [up3_v _ (by decide)]; exact l1
            · rw [up3_s, l2, hB.1, zI_sub]
            · rw [up3_v _ (by decide)]; exact l3
            · rw [up3_v _ (by decide)]; exact l4
            · rw [up3_v _ (by decide)]; exact l5
          · unfold land at h
            rw [he] at h
            dsimp only at h
            rw [if_neg (by omega)] at h
            have := h I' f' b'
            rw [show j + 1 + (land rn g m (nx rn g p) (t - e.1.1)).2.2 = j + ((land rn g m (nx rn g p) (t - e.1.1)).2.2 + 1) by omega]
            exact this
        · rw [hpt, hpr] at c2
          unfold land at h
          rw [he] at h
          dsimp only at h
          rw [if_pos c2] at h
          exact fin x3 x4 none none p t j I1 h4 h3 hf hb h
      · unfold land at h
        rw [he] at h
        exact fin x3 x4 none none p t j I1 h4 h3 hf hb h
set_option maxRecDepth 100000 in
theorem s_carryOn {Γ : AMG} {Q : QQ} {d r b : Nat} {g : Int32} {I : II} {Lg : LJ} {R : RR} {gc : Nat → Nat} {rn : RUN} {l : BL} (hrn : RUNok rn) (hP : PathAt I R r rn) (hb : BallAt I b l) (hp0 : 0 ≤ l.1) (hp1 : l.1 ≤ 255) (ht0 : 0 ≤ l.2.1) (ht1 : l.2.1 ≤ 1000000)
    (h : ∀ I' : II, FrI (V1 bvars b) I I' → BallAt I' b ((land rn g 12 (nx rn g l.1) l.2.1).1, (land rn g 12 (nx rn g l.1) l.2.1).2.1, l.2.2.1, l.2.2.2.1, l.2.2.2.2) → Q (some (vI (zI (land rn g 12 (nx rn g l.1) l.2.1).2.2))) I' Lg R (GM gc)) :
    am_Sp Γ (d + 1) 0 0 mX7_carryOn [vR 7 r, vR 0 b, vI g] I Lg R (GM gc) Q := by
  refine am_run vX7_carryOn 60 _ rfl rfl rfl rfl ?_
  refine s_leadsTo hrn hP hb.1 hp0 (by omega) ?_
  have hx := nx_255 (g := g) (p := l.1) hrn
  refine carry_loop hrn hP 12 0 _ _ _ (nx rn g l.1) l.2.1 0 I rfl rfl rfl rfl (Nat.le_refl _) hx.1 hx.2 ht0 ht1 FrI.rf hb (fun I' f' b' => ?_)
  rw [Nat.zero_add]
  exact h I' f' b'
end
section
/-! A tick of a ball in the reference. -/
def MBoardAt (I : II) (b : Nat) (x : BD) : Prop := (∃ len : Int, x.1 = 64 * len ∧ I 126 0 b = zI len) ∧ I 127 0 b = zI x.2.1 ∧ I 128 0 b = zI x.2.2.1 ∧ I 129 0 b = zI x.2.2.2.1 ∧ I 130 0 b = zI x.2.2.2.2
def MRunG (I : II) (r : Nat) (g : Int32) (rn : RUN) : Prop := ∀ (p : Nat) (e : BD × Int × Int), rn[p]? = some e → (∃ b : Nat, b < 16 ∧ I 132 0 (12 * r + p) = zI b ∧ MBoardAt I b e.1) ∧ (if gb g p = 0 then I 133 0 (12 * r + p) = zI e.2.1 else I 134 0 (12 * r + p) = zI e.2.2)
abbrev mrv : List Nat := [132, 133, 134, 126, 127, 128, 129, 130]
theorem MBoardAt.fr {I I' : II} {b : Nat} {x : BD} {P : Nat → Nat → Bool} (h : MBoardAt I b x) (hf : FrI P I I') (hP : ∀ v ∈ mrv, P v 0 = false) : MBoardAt I' b x := by
  obtain ⟨⟨len, h0, h1⟩, h2, h3, h4, h5⟩ := h
  refine ⟨⟨len, h0, ?_⟩, ?_, ?_, ?_, ?_⟩ <;> rw [hf _ _ (hP _ (by decide))] <;> assumption
theorem MRunG.fr {I I' : II} {r : Nat} {g : Int32} {rn : RUN} {P : Nat → Nat → Bool} (h : MRunG I r g rn) (hf : FrI P I I') (hP : ∀ v ∈ mrv, P v 0 = false) : MRunG I' r g rn := by
  intro p e he
  obtain ⟨⟨b, hb, h1, h2⟩, h3⟩ := h p e he
  refine ⟨⟨b, hb, by rw [hf _ _ (hP _ (by decide))]; exact h1, h2.fr hf hP⟩, ?_⟩
  rw [hf _ _ (hP 133 (by decide)), hf _ _ (hP 134 (by decide))]
  exact h3
theorem V0_out {l vs : List Nat} (h : vs.all (fun v => !l.elem v) = true) : ∀ v ∈ vs, V0 l v 0 = false := by
  intro v hv
  have h1 := List.all_eq_true.mp h v hv
  unfold V0
  cases he : l.elem v
  · rfl
  · rw [he] at h1; cases h1
/-- the ball that the reference moves: place, part, speed, strength, jumped -/
def MSt (I : II) (pl pt sp st jm : Int) : Prop := I 50 0 0 = zI pl ∧ I 51 0 0 = zI pt ∧ I 52 0 0 = zI sp ∧ I 53 0 0 = zI st ∧ I 54 0 0 = zI jm
abbrev msv : List Nat := [50, 51, 52, 53, 54]
theorem ix12 {r p : Nat} (hr : r ≤ 4) (hp : p < 12) : (zI 12 * zI r + zI p).toInt = ((12 * r + p : Nat) : Int) := by
  rw [zI_mul, zI_add, zI_toInt (by omega) (by omega)]
  omega
set_option maxRecDepth 100000 in
theorem s_lengthAt {Γ : AMG} {Q : QQ} {d r : Nat} {xr xp g : Int32} {p : Nat} {e : BD × Int × Int} {I : II} {Lg : LJ} {R : RR} {gc : Nat → Nat} {rn : RUN} (hrn : RUNok rn) (hM : MRunG I r g rn) (hr : r ≤ 4) (hxr : xr = zI r) (hxp : xp = zI p) (he : rn[p]? = some e) (h : Q (some (vI (zI e.1.1))) I Lg R (GM gc)) : am_Sp Γ d 0 0 mX12_lengthAt [vR 12 0, vI xr, vI xp] I Lg R (GM gc) Q := by
  have hp : p < rn.length := (List.getElem?_eq_some_iff.mp he).1
  have hlen := hrn.1
  obtain ⟨⟨b, hb, h1, ⟨len, h0, h2⟩, -⟩, -⟩ := hM p e he
  have hix := ix12 (r := r) (p := p) hr (by omega)
  refine am_run vX12_lengthAt 60 _ rfl rfl rfl rfl ?_
  subst hxr
  subst hxp
  refine And.intro ⟨by rw [hix]; omega, by rw [hix]; omega⟩ ?_
  rw [hix, Int.toNat_natCast, h1]
  refine And.intro ⟨by rw [zI_toInt (by omega) (by omega)]; omega, by rw [zI_toInt (by omega) (by omega)]; omega⟩ ?_
  rw [zI_toInt (by omega) (by omega), Int.toNat_natCast, h2]
  show Q (some (vI (zI 64 * zI len))) I Lg R (GM gc)
  rw [zI_mul, ← h0]
  exact h
set_option maxRecDepth 100000 in
theorem s_nextOf {Γ : AMG} {Q : QQ} {d r : Nat} {xr xp g : Int32} {p : Nat} {e : BD × Int × Int} {I : II} {Lg : LJ} {R : RR} {gc : Nat → Nat} {rn : RUN} (hrn : RUNok rn) (hM : MRunG I r g rn) (hr : r ≤ 4) (hxr : xr = zI r) (hxp : xp = zI p) (he : rn[p]? = some e) (h : Q (some (vI (zI (nx rn g p)))) I Lg R (GM gc)) : am_Sp Γ d 0 0 mX12_nextOf [vR 12 0, vI xr, vI xp, vI g] I Lg R (GM gc) Q := by
  have hp : p < rn.length := (List.getElem?_eq_some_iff.mp he).1
  have hlen := hrn.1
  obtain ⟨-, h3⟩ := hM p e he
  have hix := ix12 (r := r) (p := p) hr (by omega)
  have h01 := gb_01 g p
  unfold nx at h
  rw [Int.toNat_natCast, he] at h
  dsimp only at h
  subst hxr
  subst hxp
  have hbit : (g >>> (zI p &&& 31)) &&& zI 1 = zI (gb g p) := gb_s (by omega)
  refine am_run vX12_nextOf 60 _ rfl rfl rfl rfl ?_
  refine And.intro (fun c => ?_) (fun c => ?_)
  · rw [hbit, zI_toInt (by omega) (by omega), zI_toInt (by omega) (by omega)] at c
    rw [if_pos (by omega)] at h3 h
    refine And.intro ⟨by rw [hix]; omega, by rw [hix]; omega⟩ ?_
    rw [hix, Int.toNat_natCast, h3]
    exact h
  · rw [hbit, zI_toInt (by omega) (by omega), zI_toInt (by omega) (by omega)] at c
    rw [if_neg (by omega)] at h3 h
    refine And.intro ⟨by rw [hix]; omega, by rw [hix]; omega⟩ ?_
    rw [hix, Int.toNat_natCast, h3]
    exact h
theorem mstep_loop {Γ : AMG} {Q : QQ} {d r : Nat} {xr g : Int32} {l3 l4 : Option AV} {I : II} {Lg : LJ} {R : RR} {gc : Nat → Nat} {rn : RUN} {sp st : Int} (hrn : RUNok rn) (hM : MRunG I r g rn) (hr : r ≤ 4) (hxr : xr = zI r) :
    ∀ (m : Nat) (p t j : Int) (I1 : II), (p = 255 ∨ (0 ≤ p ∧ p < rn.length ∧ 12 ≤ p + m)) → 0 ≤ t → t ≤ 1000000 → FrI (V0 msv) I I1 → MSt I1 p t sp st j →
      (∀ I' : II, FrI (V0 msv) I I' → MSt I' (land rn g m p t).1 (land rn g m p t).2.1 sp st (j + (land rn g m p t).2.2) → Q none I' Lg R (GM gc)) →
      am_J Γ mX12_step Q (d + 1) 0 0 228 [some (vR 12 0), some (vI xr), some (vI g), none, none] [] I1 Lg R (GM gc) := by
  intro m
  induction m with
  | zero =>
    intro p t j I1 hp ht0 ht1 hf hs h
    have h255 : p = 255 := by have := hrn.1; omega
    have hpl : (I1 50 0 0).toInt = p := by rw [hs.1, zI_toInt (by omega) (by omega)]
    refine am_go vX12_step 60 ?_
    refine And.intro (fun c => ?_) (fun c => ?_)
    · refine h I1 hf ?_
      have := hs
      unfold land
      simpa using this
    · rw [hpl, zI_toInt (by omega) (by omega)] at c
      exact absurd h255 c
  | succ m ih =>
    intro p t j I1 hp ht0 ht1 hf hs h
    have hlen := hrn.1
    have hpl : (I1 50 0 0).toInt = p := by rw [hs.1, zI_toInt (by omega) (by omega)]
    have hM1 : MRunG I1 r g rn := hM.fr hf (V0_out (by decide))
    refine am_go vX12_step 60 ?_
    refine And.intro (fun c => ?_) (fun c => ?_)
    · rw [hpl, zI_toInt (by omega) (by omega)] at c
      refine h I1 hf ?_
      have := hs
      unfold land
      rw [List.getElem?_eq_none (by omega)]
      simpa using this
    · rw [hpl, zI_toInt (by omega) (by omega)] at c
      have hp2 : 0 ≤ p ∧ p < rn.length ∧ 12 ≤ p + ((m + 1 : Nat) : Int) := hp.resolve_left c
      have hpn : p = ((p.toNat : Nat) : Int) := by omega
      have he : rn[p.toNat]? = some rn[p.toNat] := List.getElem?_eq_getElem (by omega)
      generalize rn[p.toNat] = e at he
      have hbk := (hrn.2 _ e he).1
      have hpt : (I1 51 0 0).toInt = t := by rw [hs.2.1, zI_toInt (by omega) (by omega)]
      refine s_lengthAt hrn hM1 hr hxr (by rw [hs.1, ← hpn]) he ?_
      refine And.intro (fun c2 => ?_) (fun c2 => ?_)
      · rw [hpt, zI_toInt (by have := hbk.1; omega) (by have := hbk.2.1; omega)] at c2
        refine h I1 hf ?_
        unfold land
        rw [he]
        dsimp only
        rw [if_pos c2]
        simpa using hs
      · rw [hpt, zI_toInt (by have := hbk.1; omega) (by have := hbk.2.1; omega)] at c2
        refine s_lengthAt hrn hM1 hr hxr (by rw [hs.1, ← hpn]) he ?_
        have hfa : FrI (V0 msv) I1 (up3 I1 51 0 0 (I1 51 0 0 - zI e.1.1)) := FrI.rf.up rfl
        refine s_nextOf hrn (hM1.fr hfa (V0_out (by decide))) hr hxr (by rw [up3_v _ (by decide), hs.1, ← hpn]) he ?_
        rw [← hpn]
        have hx := nx_255 (g := g) (p := p) hrn
        have hx2 := nx_rng (g := g) (p := p) hrn hp2.1
        have hx3 : nx rn g p = 255 ∨ nx rn g p < rn.length := by
          unfold nx
          rw [he]
          obtain ⟨-, q2, q3⟩ := hrn.2 _ e he
          unfold goOk at q2 q3
          dsimp only
          split <;> omega
        refine ih (nx rn g p) (t - e.1.1) (j + 1) _ (by omega) (by omega) (by have := hbk.1; omega) (((hf.tr hfa).up rfl).up rfl) ?_ (fun I' f' s' => ?_)
        · refine ⟨?_, ?_, ?_, ?_, ?_⟩
          · rw [up3_v _ (by decide), up3_s]
          · rw [up3_v _ (by decide), up3_v _ (by decide), up3_s, hs.2.1, zI_sub]
          · rw [up3_v _ (by decide), up3_v _ (by decide), up3_v _ (by decide)]; exact hs.2.2.1
          · rw [up3_v _ (by decide), up3_v _ (by decide), up3_v _ (by decide)]; exact hs.2.2.2.1
          · rw [up3_s, up3_v _ (by decide), up3_v _ (by decide), hs.2.2.2.2, zI_add]
        · refine h I' f' ?_
          unfold land
          rw [he]
          dsimp only
          rw [if_neg (by omega)]
          dsimp only
          rw [show j + (((land rn g m (nx rn g p) (t - e.1.1)).2.2 + 1 : Nat) : Int) = j + 1 + ((land rn g m (nx rn g p) (t - e.1.1)).2.2 : Int) by omega]
          exact s'
/-- a tick: place, part, speed, strength, jumped; ls: how much less the steps drop -/
def tickB (rn : RUN) (g : Int32) (ls : Nat → Int) (pl pt sp : Int) : Int × Int × Int × Int × Nat := match rn[pl.toNat]? with
  | none => (pl, pt, sp, 0, 0)
  | some e => if pt + spd e.1 sp < e.1.1 then (pl, pt + spd e.1 sp, spd e.1 sp, 0, 0) else
    ((land rn g 12 (nx rn g pl) (lvP e.1 (max 0 (e.1.2.2.2.1 - ls pl.toNat)) (pt + spd e.1 sp) (spd e.1 sp))).1, (land rn g 12 (nx rn g pl) (lvP e.1 (max 0 (e.1.2.2.2.1 - ls pl.toNat)) (pt + spd e.1 sp) (spd e.1 sp))).2.1, lvS e.1 (spd e.1 sp), lvK (max 0 (e.1.2.2.2.1 - ls pl.toNat)) (spd e.1 sp), (land rn g 12 (nx rn g pl) (lvP e.1 (max 0 (e.1.2.2.2.1 - ls pl.toNat)) (pt + spd e.1 sp) (spd e.1 sp))).2.2)
/-- the state of a ball on its run -/
def BSok (rn : RUN) (pl pt sp : Int) : Prop := 0 ≤ pl ∧ pl < rn.length ∧ 0 ≤ pt ∧ pt ≤ 2560 ∧ 0 ≤ sp ∧ sp ≤ 1023
theorem lvP_rng {b : BD} {dr p s : Int} (hb : BDok b) (h0 : 0 ≤ dr) (h1 : dr ≤ 9) (h2 : 0 ≤ s) (h3 : s ≤ 1023) (h4 : b.1 ≤ p) (h5 : p ≤ 10000) : 0 ≤ lvP b dr p s ∧ lvP b dr p s ≤ 12000 := by
  have hl := lvS_rng hb h2
  have hd := dr_rng h0 h1 hl.1 (by omega)
  have := hb.1
  unfold lvP
  omega
theorem MSt.ups {I : II} {pl pt sp st jm : Int} (h : MSt I pl pt sp st jm) {x : Int32} {a : Int} (hx : x = zI a) : MSt (up3 I 52 0 0 x) pl pt a st jm := by
  obtain ⟨h1, h2, h3, h4, h5⟩ := h
  refine ⟨?_, ?_, by rw [up3_s, hx], ?_, ?_⟩
  · rw [up3_v _ (by decide)]; exact h1
  · rw [up3_v _ (by decide)]; exact h2
  · rw [up3_v _ (by decide)]; exact h4
  · rw [up3_v _ (by decide)]; exact h5
/-- behind the step's drop: from 'strength = ..' on -/
theorem mstep_D {Γ : AMG} {Q : QQ} {d r : Nat} {xr g x3 x4 : Int32} {I I1 : II} {Lg : LJ} {R : RR} {gc : Nat → Nat} {rn : RUN} {pl pt s1 st0 jm dr : Int} {b : Nat} {e : BD × Int × Int} (hrn : RUNok rn) (hM : MRunG I r g rn) (hr : r ≤ 4) (hxr : xr = zI r) (hpl0 : 0 ≤ pl) (hpt0 : e.1.1 ≤ pt) (hpt1 : pt ≤ 10000) (hs0 : 0 ≤ s1) (hs1 : s1 ≤ 1023) (hd0 : 0 ≤ dr) (hd1 : dr ≤ 9) (hx4 : x4 = zI dr) (he : rn[pl.toNat]? = some e) (hb : b < 16) (hx3 : x3 = zI b) (hMB : MBoardAt I b e.1)
    (hf : FrI (V0 msv) I I1) (hs : MSt I1 pl pt s1 st0 jm)
    (h : ∀ I' : II, FrI (V0 msv) I I' → MSt I' (land rn g 12 (nx rn g pl) (lvP e.1 dr pt s1)).1 (land rn g 12 (nx rn g pl) (lvP e.1 dr pt s1)).2.1 (lvS e.1 s1) (lvK dr s1) (jm + (land rn g 12 (nx rn g pl) (lvP e.1 dr pt s1)).2.2) → Q none I' Lg R (GM gc)) :
    am_J Γ mX12_step Q (d + 1) 0 0 148 [some (vR 12 0), some (vI xr), some (vI g), some (vI x3), some (vI x4)] [] I1 Lg R (GM gc) := by
  have hbk := (hrn.2 _ e he).1
  have hln := lvS_rng hbk hs0
  have hdr := dr_rng hd0 hd1 hs0 hs1
  have hdr2 := dr_rng hd0 hd1 hln.1 (by omega : lvS e.1 s1 ≤ 1023)
  have hP := lvP_rng hbk hd0 hd1 hs0 hs1 hpt0 hpt1
  have hpn : pl = ((pl.toNat : Nat) : Int) := by omega
  have hlt : pl.toNat < rn.length := (List.getElem?_eq_some_iff.mp he).1
  have hlen := hrn.1
  obtain ⟨q1, q2, q3, q4, q5⟩ := hs
  obtain ⟨-, -, -, -, m5⟩ := id hMB
  have g9 := hbk.2.2.2.2.2.2.2.2.1
  have g10 := hbk.2.2.2.2.2.2.2.2.2
  have e9 : 0 ≤ s1 * e.1.2.2.2.2 := Int.mul_nonneg hs0 g9
  have e10 : s1 * e.1.2.2.2.2 ≤ s1 * 8 := Int.mul_le_mul_of_nonneg_left g10 hs0
  refine am_goN vX12_step 80 ?_
  refine And.intro (by rw [zI_toInt (by omega) (by omega)]; omega) ?_
  refine fun y1 ey1 I2 e2 => ?_
  have hf2 : FrI (V0 msv) I I2 := by rw [e2]; exact hf.up rfl
  refine And.intro ⟨by rw [hx3, zI_toInt (by omega) (by omega)]; omega, by rw [hx3, zI_toInt (by omega) (by omega)]; omega⟩ ?_
  refine And.intro (by rw [zI_toInt (by omega) (by omega)]; omega) ?_
  refine fun y3 ey3 I3 e3 => ?_
  have hf3 : FrI (V0 msv) I I3 := by rw [e3]; exact hf2.up rfl
  refine And.intro (by rw [zI_toInt (by omega) (by omega)]; omega) ?_
  have r3 : y3 = zI (lvS e.1 s1) := by
    rw [ey3, e2, up3_v _ (by decide), up3_v _ (by decide), q3, hx3, zI_toInt (by omega) (by omega), Int.toNat_natCast, hf _ _ rfl, m5, zI_mul, zI_divN e9 (by omega) (by omega) (by omega), zI_sub]
    rfl
  have p3 : I3 50 0 0 = zI ((pl.toNat : Nat) : Int) := by rw [e3, up3_v _ (by decide), e2, up3_v _ (by decide), q1, ← hpn]
  refine s_lengthAt hrn (hM.fr hf3 (V0_out (by decide))) hr hxr p3 he ?_
  refine fun y4 ey4 I4 e4 => ?_
  have hf4 : FrI (V0 msv) I I4 := by rw [e4]; exact hf3.up rfl
  have p4 : I4 50 0 0 = zI ((pl.toNat : Nat) : Int) := by rw [e4, up3_v _ (by decide), p3]
  refine s_nextOf hrn (hM.fr hf4 (V0_out (by decide))) hr hxr p4 he ?_
  rw [← hpn]
  refine fun y5 ey5 I5 e5 => ?_
  have hf5 : FrI (V0 msv) I I5 := by rw [e5]; exact hf4.up rfl
  have hx := nx_255 (g := g) (p := pl) hrn
  have hx2 := nx_rng (g := g) (p := pl) hrn hpl0
  have hx3' : nx rn g pl = 255 ∨ nx rn g pl < rn.length := by
    unfold nx
    rw [he]
    obtain ⟨-, q2, q3⟩ := hrn.2 _ e he
    unfold goOk at q2 q3
    dsimp only
    split <;> omega
  refine am_J.drop (L' := [some (vR 12 0), some (vI xr), some (vI g), none, none]) rfl (fun i v hi => ?_) (mstep_loop (l3 := none) (l4 := none) hrn hM hr hxr 12 (nx rn g pl) (lvP e.1 dr pt s1) jm I5 (by omega) hP.1 (by omega) hf5 ?_ h)
  · match i, hi with
    | 0, hi => exact hi
    | 1, hi => exact hi
    | 2, hi => exact hi
    | 3, hi => cases hi
    | 4, hi => cases hi
    | _ + 5, hi => cases hi
  refine ⟨?_, ?_, ?_, ?_, ?_⟩
  · rw [e5, up3_s, ey5]
  · rw [e5, up3_v _ (by decide), e4, up3_s, ey4, e3, up3_s, up3_v _ (by decide), e2, up3_v _ (by decide), q2, r3, hx4, zI_mul, zI_divN hdr2.1 (by omega) (by omega) (by omega), zI_sub, zI_add]
    rfl
  · rw [e5, up3_v _ (by decide), e4, up3_v _ (by decide), e3, up3_s, r3]
  · rw [e5, up3_v _ (by decide), e4, up3_v _ (by decide), e3, up3_v _ (by decide), e2, up3_s, ey1, hx4, q3, zI_mul, zI_divN hdr.1 (by omega) (by omega) (by omega)]
    rfl
  · rw [e5, up3_v _ (by decide), e4, up3_v _ (by decide), e3, up3_v _ (by decide), e2, up3_v _ (by decide), q5]
/-- behind the speed's bounds: from 'part += speed' on -/
theorem mstep_C {Γ : AMG} {Q : QQ} {d r : Nat} {xr g x3 : Int32} {I I1 : II} {Lg : LJ} {R : RR} {gc : Nat → Nat} {rn : RUN} {ls : Nat → Int} {pl pt s1 jm : Int} {b : Nat} {e : BD × Int × Int} (hrn : RUNok rn) (hM : MRunG I r g rn) (hls : ∀ p, p < 12 → I 135 0 (12 * r + p) = zI (ls p) ∧ 0 ≤ ls p ∧ ls p ≤ 1) (hr : r ≤ 4) (hxr : xr = zI r) (hpl0 : 0 ≤ pl) (hpt0 : 0 ≤ pt) (hpt1 : pt ≤ 2560) (hs0 : 0 ≤ s1) (hs1 : s1 ≤ 1023) (he : rn[pl.toNat]? = some e) (hb : b < 16) (hx3 : x3 = zI b) (hMB : MBoardAt I b e.1)
    (hf : FrI (V0 msv) I I1) (hs : MSt I1 pl pt s1 0 jm)
    (h : ∀ I' : II, FrI (V0 msv) I I' → (if pt + s1 < e.1.1 then MSt I' pl (pt + s1) s1 0 jm else MSt I' (land rn g 12 (nx rn g pl) (lvP e.1 (max 0 (e.1.2.2.2.1 - ls pl.toNat)) (pt + s1) s1)).1 (land rn g 12 (nx rn g pl) (lvP e.1 (max 0 (e.1.2.2.2.1 - ls pl.toNat)) (pt + s1) s1)).2.1 (lvS e.1 s1) (lvK (max 0 (e.1.2.2.2.1 - ls pl.toNat)) s1) (jm + (land rn g 12 (nx rn g pl) (lvP e.1 (max 0 (e.1.2.2.2.1 - ls pl.toNat)) (pt + s1) s1)).2.2)) → Q none I' Lg R (GM gc)) :
    am_J Γ mX12_step Q (d + 1) 0 0 87 [some (vR 12 0), some (vI xr), some (vI g), some (vI x3), none] [] I1 Lg R (GM gc) := by
  have hbk := (hrn.2 _ e he).1
  have hpn : pl = ((pl.toNat : Nat) : Int) := by omega
  have hlt : pl.toNat < rn.length := (List.getElem?_eq_some_iff.mp he).1
  have hlen := hrn.1
  obtain ⟨q1, q2, q3, q4, q5⟩ := hs
  obtain ⟨-, -, -, m4, -⟩ := id hMB
  obtain ⟨l1, l2, l3⟩ := hls pl.toNat (by omega)
  have b1 := hbk.1
  have b2 := hbk.2.1
  have b8 := hbk.2.2.2.2.2.2.1
  have b9 := hbk.2.2.2.2.2.2.2.1
  refine am_goN vX12_step (33 - 1) ?_
  refine fun y1 ey1 I2 e2 => ?_
  have hf2 : FrI (V0 msv) I I2 := by rw [e2]; exact hf.up rfl
  have r1 : y1 = zI (pt + s1) := by rw [ey1, q2, q3, zI_add]
  have hs2 : MSt I2 pl (pt + s1) s1 0 jm := by
    refine ⟨?_, ?_, ?_, ?_, ?_⟩
    · rw [e2, up3_v _ (by decide), q1]
    · rw [e2, up3_s, r1]
    · rw [e2, up3_v _ (by decide), q3]
    · rw [e2, up3_v _ (by decide), q4]
    · rw [e2, up3_v _ (by decide), q5]
  refine s_lengthAt hrn (hM.fr hf2 (V0_out (by decide))) hr hxr (by rw [hs2.1, ← hpn]) he ?_
  refine And.intro (fun c => ?_) (fun c => ?_)
  · rw [hs2.2.1, zI_toInt (by omega) (by omega), zI_toInt (by omega) (by omega)] at c
    refine And.intro ⟨by rw [hx3, zI_toInt (by omega) (by omega)]; omega, by rw [hx3, zI_toInt (by omega) (by omega)]; omega⟩ ?_
    have hix : (zI 12 * xr + I2 50 0 0).toInt = ((12 * r + pl.toNat : Nat) : Int) := by
      rw [hxr, hs2.1, hpn]
      exact ix12 hr (by omega)
    refine And.intro ⟨by rw [hix]; omega, by rw [hix]; omega⟩ ?_
    rw [hix, Int.toNat_natCast, hf2 _ _ rfl, hf2 _ _ rfl, hx3, zI_toInt (by omega) (by omega), Int.toNat_natCast, m4, l1]
    refine fun y4 ey4 => ?_
    rw [zI_sub] at ey4
    have fin : ∀ x4 : Int32, x4 = zI (max 0 (e.1.2.2.2.1 - ls pl.toNat)) → am_J Γ mX12_step Q (d + 1) 0 0 148 [some (vR 12 0), some (vI xr), some (vI g), some (vI (zI b)), some (vI x4)] [] I2 Lg R (GM gc) := fun x4 hx4 =>
      mstep_D hrn hM hr hxr hpl0 c (by omega) hs0 hs1 (by omega) (by omega) hx4 he hb rfl hMB hf2 hs2 (fun I' f' s' => h I' f' (by rw [if_neg (by omega)]; exact s'))
    refine And.intro (fun c4 => ?_) (fun c4 => ?_)
    · rw [ey4, zI_toInt (by omega) (by omega)] at c4
      exact fin y4 (by rw [ey4]; congr 1; omega)
    · rw [ey4, zI_toInt (by omega) (by omega)] at c4
      refine am_goN vX12_step 2 ?_
      refine fun y5 ey5 => ?_
      exact fin y5 (by rw [ey5]; congr 1; omega)
  · rw [hs2.2.1, zI_toInt (by omega) (by omega), zI_toInt (by omega) (by omega)] at c
    exact h I2 hf2 (by rw [if_pos c]; exact hs2)

/-- behind the slope: from 'speed -= ..' on -/
theorem mstep_B {Γ : AMG} {Q : QQ} {d r : Nat} {xr g x3 : Int32} {I I1 : II} {Lg : LJ} {R : RR} {gc : Nat → Nat} {rn : RUN} {ls : Nat → Int} {pl pt s0 jm : Int} {b : Nat} {e : BD × Int × Int} (hrn : RUNok rn) (hM : MRunG I r g rn) (hls : ∀ p, p < 12 → I 135 0 (12 * r + p) = zI (ls p) ∧ 0 ≤ ls p ∧ ls p ≤ 1) (hr : r ≤ 4) (hxr : xr = zI r) (hpl0 : 0 ≤ pl) (hpt0 : 0 ≤ pt) (hpt1 : pt ≤ 2560) (hs0 : 0 ≤ s0) (hs1 : s0 ≤ 2000) (he : rn[pl.toNat]? = some e) (hb : b < 16) (hx3 : x3 = zI b) (hMB : MBoardAt I b e.1)
    (hf : FrI (V0 msv) I I1) (hs : MSt I1 pl pt s0 0 jm) {s1 : Int} (hse : s1 = min 1023 (s0 - s0 * e.1.2.2.1 / 64))
    (h : ∀ I' : II, FrI (V0 msv) I I' → (if pt + s1 < e.1.1 then MSt I' pl (pt + s1) s1 0 jm else MSt I' (land rn g 12 (nx rn g pl) (lvP e.1 (max 0 (e.1.2.2.2.1 - ls pl.toNat)) (pt + s1) s1)).1 (land rn g 12 (nx rn g pl) (lvP e.1 (max 0 (e.1.2.2.2.1 - ls pl.toNat)) (pt + s1) s1)).2.1 (lvS e.1 s1) (lvK (max 0 (e.1.2.2.2.1 - ls pl.toNat)) s1) (jm + (land rn g 12 (nx rn g pl) (lvP e.1 (max 0 (e.1.2.2.2.1 - ls pl.toNat)) (pt + s1) s1)).2.2)) → Q none I' Lg R (GM gc)) :
    am_J Γ mX12_step Q (d + 1) 0 0 47 [some (vR 12 0), some (vI xr), some (vI g), some (vI x3), none] [] I1 Lg R (GM gc) := by
  have hbk := (hrn.2 _ e he).1
  obtain ⟨-, -, m3, -, -⟩ := id hMB
  obtain ⟨g1, g2, g3, g4, g5, g6, -⟩ := id hbk
  have hpr := prod_rng (f := s0) (r := e.1.2.2.1) (A := 2000) (B := 15) (by omega) (by omega) g5 g6 (by omega)
  have hmd := mul_div_le hs0 g5 (by omega)
  have hp0 : 0 ≤ s0 * e.1.2.2.1 := Int.mul_nonneg hs0 g5
  refine am_goN vX12_step 18 ?_
  refine And.intro ⟨by rw [hx3, zI_toInt (by omega) (by omega)]; omega, by rw [hx3, zI_toInt (by omega) (by omega)]; omega⟩ ?_
  refine And.intro (by rw [zI_toInt (by omega) (by omega)]; omega) ?_
  refine fun y1 ey1 I2 e2 => ?_
  have hf2 : FrI (V0 msv) I I2 := by rw [e2]; exact hf.up rfl
  have r1 : y1 = zI (s0 - s0 * e.1.2.2.1 / 64) := by rw [ey1, hs.2.2.1, hx3, zI_toInt (by omega) (by omega), Int.toNat_natCast, hf _ _ rfl, m3, zI_mul, zI_divN hp0 (by omega) (by omega) (by omega), zI_sub]
  have hs2 : MSt I2 pl pt (s0 - s0 * e.1.2.2.1 / 64) 0 jm := by rw [e2]; exact hs.ups r1
  refine And.intro (fun c => ?_) (fun c => ?_)
  · rw [hs2.2.2.1, zI_toInt (by omega) (by omega), zI_toInt (by omega) (by omega)] at c
    exact mstep_C hrn hM hls hr hxr hpl0 hpt0 hpt1 (by omega) (by omega) he hb hx3 hMB hf2 (by rw [hse, Int.min_eq_right c]; exact hs2) h
  · rw [hs2.2.2.1, zI_toInt (by omega) (by omega), zI_toInt (by omega) (by omega)] at c
    refine am_goN vX12_step 3 ?_
    refine fun y2 ey2 I3 e3 => ?_
    exact mstep_C hrn hM hls hr hxr hpl0 hpt0 hpt1 (by omega) (by omega) he hb hx3 hMB (by rw [e3]; exact hf2.up rfl) (by rw [hse, Int.min_eq_left (by omega), e3]; exact hs2.ups ey2) h
set_option maxRecDepth 100000 in
theorem s_step {Γ : AMG} {Q : QQ} {d r : Nat} {xr g : Int32} {I : II} {Lg : LJ} {R : RR} {gc : Nat → Nat} {rn : RUN} {ls : Nat → Int} {pl pt sp st jm : Int} (hrn : RUNok rn) (hM : MRunG I r g rn) (hls : ∀ p, p < 12 → I 135 0 (12 * r + p) = zI (ls p) ∧ 0 ≤ ls p ∧ ls p ≤ 1) (hr : r ≤ 4) (hxr : xr = zI r) (hbs : BSok rn pl pt sp) (hs : MSt I pl pt sp st jm)
    (h : ∀ I' : II, FrI (V0 msv) I I' → MSt I' (tickB rn g ls pl pt sp).1 (tickB rn g ls pl pt sp).2.1 (tickB rn g ls pl pt sp).2.2.1 (tickB rn g ls pl pt sp).2.2.2.1 (jm + (tickB rn g ls pl pt sp).2.2.2.2) → Q none I' Lg R (GM gc)) :
    am_Sp Γ (d + 1) 0 0 mX12_step [vR 12 0, vI xr, vI g] I Lg R (GM gc) Q := by
  obtain ⟨hp0, hp1, ht0, ht1, hs0, hs1⟩ := hbs
  have hpn : pl = ((pl.toNat : Nat) : Int) := by omega
  have hlen := hrn.1
  have he : rn[pl.toNat]? = some rn[pl.toNat] := List.getElem?_eq_getElem (by omega)
  generalize rn[pl.toNat] = e at he
  have hbk := (hrn.2 _ e he).1
  obtain ⟨g1, g2, g3, g4, g5, g6, -⟩ := id hbk
  obtain ⟨⟨b, hb, hbd, hMB⟩, -⟩ := hM _ e he
  obtain ⟨-, m2, -⟩ := id hMB
  have hsp := spd_rng (s := sp) hbk
  have h' : ∀ I' : II, FrI (V0 msv) I I' → (if pt + spd e.1 sp < e.1.1 then MSt I' pl (pt + spd e.1 sp) (spd e.1 sp) 0 jm else MSt I' (land rn g 12 (nx rn g pl) (lvP e.1 (max 0 (e.1.2.2.2.1 - ls pl.toNat)) (pt + spd e.1 sp) (spd e.1 sp))).1 (land rn g 12 (nx rn g pl) (lvP e.1 (max 0 (e.1.2.2.2.1 - ls pl.toNat)) (pt + spd e.1 sp) (spd e.1 sp))).2.1 (lvS e.1 (spd e.1 sp)) (lvK (max 0 (e.1.2.2.2.1 - ls pl.toNat)) (spd e.1 sp)) (jm + (land rn g 12 (nx rn g pl) (lvP e.1 (max 0 (e.1.2.2.2.1 - ls pl.toNat)) (pt + spd e.1 sp) (spd e.1 sp))).2.2)) → Q none I' Lg R (GM gc) := by
    intro I' hf' hm
    refine h I' hf' ?_
    unfold tickB
    rw [he]
    dsimp only
    split at hm
    · next q => rw [if_pos q]; simpa using hm
    · next q => rw [if_neg q]; exact hm
  have hix : (zI 12 * xr + I 50 0 0).toInt = ((12 * r + pl.toNat : Nat) : Int) := by
    rw [hxr, hs.1, hpn]
    exact ix12 hr (by omega)
  refine am_runN vX12_step 25 _ rfl rfl rfl rfl ?_
  refine And.intro ⟨by rw [hix]; omega, by rw [hix]; omega⟩ ?_
  rw [hix, Int.toNat_natCast, hbd]
  refine fun x3 ex3 y1 ey1 I1 e1 => ?_
  have hf1 : FrI (V0 msv) I I1 := by rw [e1]; exact FrI.rf.up rfl
  have hst1 : MSt I1 pl pt sp 0 jm := by
    rw [e1]
    obtain ⟨k1, k2, k3, k4, k5⟩ := hs
    refine ⟨?_, ?_, ?_, by rw [up3_s, ey1], ?_⟩
    · rw [up3_v _ (by decide)]; exact k1
    · rw [up3_v _ (by decide)]; exact k2
    · rw [up3_v _ (by decide)]; exact k3
    · rw [up3_v _ (by decide)]; exact k5
  refine And.intro ⟨by rw [ex3, zI_toInt (by omega) (by omega)]; omega, by rw [ex3, zI_toInt (by omega) (by omega)]; omega⟩ ?_
  refine fun y2 ey2 I2 e2 => ?_
  have hf2 : FrI (V0 msv) I I2 := by rw [e2]; exact hf1.up rfl
  have r2 : y2 = zI (sp + e.1.2.1) := by rw [ey2, hst1.2.2.1, ex3, zI_toInt (by omega) (by omega), Int.toNat_natCast, hf1 _ _ rfl, m2, zI_add]
  have hst2 : MSt I2 pl pt (sp + e.1.2.1) 0 jm := by rw [e2]; exact hst1.ups r2
  refine And.intro (fun c => ?_) (fun c => ?_)
  · rw [hst2.2.2.1, zI_toInt (by omega) (by omega)] at c
    refine mstep_B hrn hM hls hr hxr hp0 ht0 ht1 (s0 := fst9 e.1 sp) (by unfold fst9; omega) (by unfold fst9; omega) he hb ex3 hMB hf2 (by unfold fst9; rw [Int.max_eq_right c]; exact hst2) rfl h'
  · rw [hst2.2.2.1, zI_toInt (by omega) (by omega)] at c
    refine am_goN vX12_step 3 ?_
    refine fun y3 ey3 I3 e3 => ?_
    refine mstep_B hrn hM hls hr hxr hp0 ht0 ht1 (s0 := fst9 e.1 sp) (by unfold fst9; omega) (by unfold fst9; omega) he hb ex3 hMB (I1 := I3) (by rw [e3]; exact hf2.up rfl) (by unfold fst9; rw [Int.max_eq_left (by omega), e3]; exact hst2.ups ey3) rfl h'
end
