section
-- ===== PART A: goes FIRST, ahead of the names: the tables' words, and 'selects' of the private methods out of them =====
/-- a private method of a class that the tables say can be made, by its rows of tables_1 -/
def lw_okq (q : MethodName × Nat) : Prop := (q.1.cls ≠ "java/lang/invoke/MethodHandle" ∧ q.1.cls ≠ "java/lang/invoke/VarHandle") ∧ Cond.instantiable q.1.cls q.2 ∈ tables_1 ∧ Cond.privateMethod q.1 ∈ tables_1 ∧ Cond.instanceMethod q.1 ∈ tables_1
theorem lw_p0 : lw_okq (⟨"StormLoft$Tape", "put", "(I)V"⟩, 9) := ⟨⟨by decide +kernel, by decide +kernel⟩, List.mem_of_getElem? (i := 33) (by decide +kernel), List.mem_of_getElem? (i := 486) (by decide +kernel), List.mem_of_getElem? (i := 487) (by decide +kernel)⟩
theorem lw_p1 : lw_okq (⟨"StormLoft", "pathOf", "(I)LStormLoft$Path;"⟩, 12) := ⟨⟨by decide +kernel, by decide +kernel⟩, List.mem_of_getElem? (i := 25) (by decide +kernel), List.mem_of_getElem? (i := 564) (by decide +kernel), List.mem_of_getElem? (i := 565) (by decide +kernel)⟩
theorem lw_p2 : lw_okq (⟨"StormLoft$Fall", "hear", "(III)V"⟩, 8) := ⟨⟨by decide +kernel, by decide +kernel⟩, List.mem_of_getElem? (i := 246) (by decide +kernel), List.mem_of_getElem? (i := 596) (by decide +kernel), List.mem_of_getElem? (i := 597) (by decide +kernel)⟩
theorem lw_p3 : lw_okq (⟨"StormLoft$Path", "leadsTo", "(II)I"⟩, 4) := ⟨⟨by decide +kernel, by decide +kernel⟩, List.mem_of_getElem? (i := 420) (by decide +kernel), List.mem_of_getElem? (i := 604) (by decide +kernel), List.mem_of_getElem? (i := 605) (by decide +kernel)⟩
theorem lw_p4 : lw_okq (⟨"StormLoft", "canStand", "(III)Z"⟩, 12) := ⟨⟨by decide +kernel, by decide +kernel⟩, List.mem_of_getElem? (i := 25) (by decide +kernel), List.mem_of_getElem? (i := 622) (by decide +kernel), List.mem_of_getElem? (i := 623) (by decide +kernel)⟩
theorem lw_p5 : lw_okq (⟨"StormLoft$Reader", "begin", "(LStormLoft$Tape;)V"⟩, 12) := ⟨⟨by decide +kernel, by decide +kernel⟩, List.mem_of_getElem? (i := 169) (by decide +kernel), List.mem_of_getElem? (i := 646) (by decide +kernel), List.mem_of_getElem? (i := 647) (by decide +kernel)⟩
theorem lw_p6 : lw_okq (⟨"StormLoft$Tape", "readLettersAndDigits", "()V"⟩, 9) := ⟨⟨by decide +kernel, by decide +kernel⟩, List.mem_of_getElem? (i := 33) (by decide +kernel), List.mem_of_getElem? (i := 667) (by decide +kernel), List.mem_of_getElem? (i := 668) (by decide +kernel)⟩
theorem lw_p7 : lw_okq (⟨"StormLoft$Reader", "readUse", "(LStormLoft$Tape;LStormLoft$Machines;)V"⟩, 12) := ⟨⟨by decide +kernel, by decide +kernel⟩, List.mem_of_getElem? (i := 169) (by decide +kernel), List.mem_of_getElem? (i := 730) (by decide +kernel), List.mem_of_getElem? (i := 731) (by decide +kernel)⟩
theorem lw_p8 : lw_okq (⟨"StormLoft$Reader", "readNumber", "(LStormLoft$Tape;II)I"⟩, 12) := ⟨⟨by decide +kernel, by decide +kernel⟩, List.mem_of_getElem? (i := 169) (by decide +kernel), List.mem_of_getElem? (i := 734) (by decide +kernel), List.mem_of_getElem? (i := 735) (by decide +kernel)⟩
theorem lw_p9 : lw_okq (⟨"StormLoft$Reader", "fail", "(II)V"⟩, 12) := ⟨⟨by decide +kernel, by decide +kernel⟩, List.mem_of_getElem? (i := 169) (by decide +kernel), List.mem_of_getElem? (i := 738) (by decide +kernel), List.mem_of_getElem? (i := 739) (by decide +kernel)⟩
theorem lw_p10 : lw_okq (⟨"StormLoft$Reader", "readWord", "(LStormLoft$Tape;Ljava/lang/String;)V"⟩, 12) := ⟨⟨by decide +kernel, by decide +kernel⟩, List.mem_of_getElem? (i := 169) (by decide +kernel), List.mem_of_getElem? (i := 743) (by decide +kernel), List.mem_of_getElem? (i := 744) (by decide +kernel)⟩
theorem lw_p11 : lw_okq (⟨"StormLoft$Machines", "is", "(I)Z"⟩, 5) := ⟨⟨by decide +kernel, by decide +kernel⟩, List.mem_of_getElem? (i := 80) (by decide +kernel), List.mem_of_getElem? (i := 756) (by decide +kernel), List.mem_of_getElem? (i := 757) (by decide +kernel)⟩
theorem lw_p12 : lw_okq (⟨"StormLoft$Reader", "readSemicolon", "(LStormLoft$Tape;)V"⟩, 12) := ⟨⟨by decide +kernel, by decide +kernel⟩, List.mem_of_getElem? (i := 169) (by decide +kernel), List.mem_of_getElem? (i := 764) (by decide +kernel), List.mem_of_getElem? (i := 765) (by decide +kernel)⟩
theorem lw_p13 : lw_okq (⟨"StormLoft$Reader", "readTimes", "(LStormLoft$Tape;)V"⟩, 12) := ⟨⟨by decide +kernel, by decide +kernel⟩, List.mem_of_getElem? (i := 169) (by decide +kernel), List.mem_of_getElem? (i := 773) (by decide +kernel), List.mem_of_getElem? (i := 774) (by decide +kernel)⟩
theorem lw_p14 : lw_okq (⟨"StormLoft$Reader", "readPlay", "(LStormLoft$Tape;)V"⟩, 12) := ⟨⟨by decide +kernel, by decide +kernel⟩, List.mem_of_getElem? (i := 169) (by decide +kernel), List.mem_of_getElem? (i := 779) (by decide +kernel), List.mem_of_getElem? (i := 780) (by decide +kernel)⟩
theorem lw_p15 : lw_okq (⟨"StormLoft$Reader", "findStorm", "(LStormLoft$Tape;)I"⟩, 12) := ⟨⟨by decide +kernel, by decide +kernel⟩, List.mem_of_getElem? (i := 169) (by decide +kernel), List.mem_of_getElem? (i := 783) (by decide +kernel), List.mem_of_getElem? (i := 784) (by decide +kernel)⟩
def lw_privs_1 : List (MethodName × Nat) := [(⟨"StormLoft$Tape", "put", "(I)V"⟩, 9), (⟨"StormLoft", "pathOf", "(I)LStormLoft$Path;"⟩, 12), (⟨"StormLoft$Fall", "hear", "(III)V"⟩, 8), (⟨"StormLoft$Path", "leadsTo", "(II)I"⟩, 4), (⟨"StormLoft", "canStand", "(III)Z"⟩, 12), (⟨"StormLoft$Reader", "begin", "(LStormLoft$Tape;)V"⟩, 12), (⟨"StormLoft$Tape", "readLettersAndDigits", "()V"⟩, 9), (⟨"StormLoft$Reader", "readUse", "(LStormLoft$Tape;LStormLoft$Machines;)V"⟩, 12), (⟨"StormLoft$Reader", "readNumber", "(LStormLoft$Tape;II)I"⟩, 12), (⟨"StormLoft$Reader", "fail", "(II)V"⟩, 12), (⟨"StormLoft$Reader", "readWord", "(LStormLoft$Tape;Ljava/lang/String;)V"⟩, 12), (⟨"StormLoft$Machines", "is", "(I)Z"⟩, 5), (⟨"StormLoft$Reader", "readSemicolon", "(LStormLoft$Tape;)V"⟩, 12), (⟨"StormLoft$Reader", "readTimes", "(LStormLoft$Tape;)V"⟩, 12), (⟨"StormLoft$Reader", "readPlay", "(LStormLoft$Tape;)V"⟩, 12), (⟨"StormLoft$Reader", "findStorm", "(LStormLoft$Tape;)I"⟩, 12)]
theorem lw_r1 : ∀ q ∈ lw_privs_1, lw_okq q := List.forall_mem_cons.mpr ⟨lw_p0, List.forall_mem_cons.mpr ⟨lw_p1, List.forall_mem_cons.mpr ⟨lw_p2, List.forall_mem_cons.mpr ⟨lw_p3, List.forall_mem_cons.mpr ⟨lw_p4, List.forall_mem_cons.mpr ⟨lw_p5, List.forall_mem_cons.mpr ⟨lw_p6, List.forall_mem_cons.mpr ⟨lw_p7, List.forall_mem_cons.mpr ⟨lw_p8, List.forall_mem_cons.mpr ⟨lw_p9, List.forall_mem_cons.mpr ⟨lw_p10, List.forall_mem_cons.mpr ⟨lw_p11, List.forall_mem_cons.mpr ⟨lw_p12, List.forall_mem_cons.mpr ⟨lw_p13, List.forall_mem_cons.mpr ⟨lw_p14, List.forall_mem_cons.mpr ⟨lw_p15, fun _ h => absurd h List.not_mem_nil⟩⟩⟩⟩⟩⟩⟩⟩⟩⟩⟩⟩⟩⟩⟩⟩
theorem lw_p16 : lw_okq (⟨"StormLoft$Reader", "stormAt", "(I)LStormLoft$Plan;"⟩, 12) := ⟨⟨by decide +kernel, by decide +kernel⟩, List.mem_of_getElem? (i := 169) (by decide +kernel), List.mem_of_getElem? (i := 796) (by decide +kernel), List.mem_of_getElem? (i := 797) (by decide +kernel)⟩
theorem lw_p17 : lw_okq (⟨"StormLoft$Plan", "is", "(I)Z"⟩, 5) := ⟨⟨by decide +kernel, by decide +kernel⟩, List.mem_of_getElem? (i := 175) (by decide +kernel), List.mem_of_getElem? (i := 808) (by decide +kernel), List.mem_of_getElem? (i := 809) (by decide +kernel)⟩
theorem lw_p18 : lw_okq (⟨"StormLoft$Reader", "readStorm", "(LStormLoft$Tape;)V"⟩, 12) := ⟨⟨by decide +kernel, by decide +kernel⟩, List.mem_of_getElem? (i := 169) (by decide +kernel), List.mem_of_getElem? (i := 821) (by decide +kernel), List.mem_of_getElem? (i := 822) (by decide +kernel)⟩
theorem lw_p19 : lw_okq (⟨"StormLoft$Reader", "close", "(LStormLoft$Tape;)V"⟩, 12) := ⟨⟨by decide +kernel, by decide +kernel⟩, List.mem_of_getElem? (i := 169) (by decide +kernel), List.mem_of_getElem? (i := 825) (by decide +kernel), List.mem_of_getElem? (i := 826) (by decide +kernel)⟩
theorem lw_p20 : lw_okq (⟨"StormLoft$Plan", "sink", "(I)V"⟩, 5) := ⟨⟨by decide +kernel, by decide +kernel⟩, List.mem_of_getElem? (i := 175) (by decide +kernel), List.mem_of_getElem? (i := 844) (by decide +kernel), List.mem_of_getElem? (i := 845) (by decide +kernel)⟩
theorem lw_p21 : lw_okq (⟨"StormLoft$Night", "rollAll", "([LStormLoft$Path;)V"⟩, 13) := ⟨⟨by decide +kernel, by decide +kernel⟩, List.mem_of_getElem? (i := 314) (by decide +kernel), List.mem_of_getElem? (i := 866) (by decide +kernel), List.mem_of_getElem? (i := 867) (by decide +kernel)⟩
theorem lw_p22 : lw_okq (⟨"StormLoft$Night", "roll", "(LStormLoft$Ball;LStormLoft$Path;)V"⟩, 13) := ⟨⟨by decide +kernel, by decide +kernel⟩, List.mem_of_getElem? (i := 314) (by decide +kernel), List.mem_of_getElem? (i := 870) (by decide +kernel), List.mem_of_getElem? (i := 871) (by decide +kernel)⟩
theorem lw_p23 : lw_okq (⟨"StormLoft$Night", "hear", "(II)V"⟩, 13) := ⟨⟨by decide +kernel, by decide +kernel⟩, List.mem_of_getElem? (i := 314) (by decide +kernel), List.mem_of_getElem? (i := 877) (by decide +kernel), List.mem_of_getElem? (i := 878) (by decide +kernel)⟩
theorem lw_p24 : lw_okq (⟨"StormLoft$Night", "bumpAll", "()V"⟩, 13) := ⟨⟨by decide +kernel, by decide +kernel⟩, List.mem_of_getElem? (i := 314) (by decide +kernel), List.mem_of_getElem? (i := 883) (by decide +kernel), List.mem_of_getElem? (i := 884) (by decide +kernel)⟩
theorem lw_p25 : lw_okq (⟨"StormLoft$Night", "allAreAlike", "()Z"⟩, 13) := ⟨⟨by decide +kernel, by decide +kernel⟩, List.mem_of_getElem? (i := 314) (by decide +kernel), List.mem_of_getElem? (i := 887) (by decide +kernel), List.mem_of_getElem? (i := 888) (by decide +kernel)⟩
theorem lw_p26 : lw_okq (⟨"StormLoft$Night", "use", "(IILStormLoft$Machines;)V"⟩, 13) := ⟨⟨by decide +kernel, by decide +kernel⟩, List.mem_of_getElem? (i := 314) (by decide +kernel), List.mem_of_getElem? (i := 907) (by decide +kernel), List.mem_of_getElem? (i := 908) (by decide +kernel)⟩
theorem lw_p27 : lw_okq (⟨"StormLoft$Crew", "costOf", "(IILStormLoft$Plan;LStormLoft$Machines;)I"⟩, 16) := ⟨⟨by decide +kernel, by decide +kernel⟩, List.mem_of_getElem? (i := 104) (by decide +kernel), List.mem_of_getElem? (i := 938) (by decide +kernel), List.mem_of_getElem? (i := 939) (by decide +kernel)⟩
theorem lw_p28 : lw_okq (⟨"StormLoft$Crew", "assignAll", "()V"⟩, 16) := ⟨⟨by decide +kernel, by decide +kernel⟩, List.mem_of_getElem? (i := 104) (by decide +kernel), List.mem_of_getElem? (i := 956) (by decide +kernel), List.mem_of_getElem? (i := 957) (by decide +kernel)⟩
theorem lw_p29 : lw_okq (⟨"StormLoft$Crew", "assignRow", "(I)V"⟩, 16) := ⟨⟨by decide +kernel, by decide +kernel⟩, List.mem_of_getElem? (i := 104) (by decide +kernel), List.mem_of_getElem? (i := 960) (by decide +kernel), List.mem_of_getElem? (i := 961) (by decide +kernel)⟩
theorem lw_p30 : lw_okq (⟨"StormLoft$Crew", "relax", "(II)V"⟩, 16) := ⟨⟨by decide +kernel, by decide +kernel⟩, List.mem_of_getElem? (i := 104) (by decide +kernel), List.mem_of_getElem? (i := 965) (by decide +kernel), List.mem_of_getElem? (i := 966) (by decide +kernel)⟩
theorem lw_p31 : lw_okq (⟨"StormLoft$Crew", "nearest", "()I"⟩, 16) := ⟨⟨by decide +kernel, by decide +kernel⟩, List.mem_of_getElem? (i := 104) (by decide +kernel), List.mem_of_getElem? (i := 969) (by decide +kernel), List.mem_of_getElem? (i := 970) (by decide +kernel)⟩
def lw_privs_2 : List (MethodName × Nat) := [(⟨"StormLoft$Reader", "stormAt", "(I)LStormLoft$Plan;"⟩, 12), (⟨"StormLoft$Plan", "is", "(I)Z"⟩, 5), (⟨"StormLoft$Reader", "readStorm", "(LStormLoft$Tape;)V"⟩, 12), (⟨"StormLoft$Reader", "close", "(LStormLoft$Tape;)V"⟩, 12), (⟨"StormLoft$Plan", "sink", "(I)V"⟩, 5), (⟨"StormLoft$Night", "rollAll", "([LStormLoft$Path;)V"⟩, 13), (⟨"StormLoft$Night", "roll", "(LStormLoft$Ball;LStormLoft$Path;)V"⟩, 13), (⟨"StormLoft$Night", "hear", "(II)V"⟩, 13), (⟨"StormLoft$Night", "bumpAll", "()V"⟩, 13), (⟨"StormLoft$Night", "allAreAlike", "()Z"⟩, 13), (⟨"StormLoft$Night", "use", "(IILStormLoft$Machines;)V"⟩, 13), (⟨"StormLoft$Crew", "costOf", "(IILStormLoft$Plan;LStormLoft$Machines;)I"⟩, 16), (⟨"StormLoft$Crew", "assignAll", "()V"⟩, 16), (⟨"StormLoft$Crew", "assignRow", "(I)V"⟩, 16), (⟨"StormLoft$Crew", "relax", "(II)V"⟩, 16), (⟨"StormLoft$Crew", "nearest", "()I"⟩, 16)]
theorem lw_r2 : ∀ q ∈ lw_privs_2, lw_okq q := List.forall_mem_cons.mpr ⟨lw_p16, List.forall_mem_cons.mpr ⟨lw_p17, List.forall_mem_cons.mpr ⟨lw_p18, List.forall_mem_cons.mpr ⟨lw_p19, List.forall_mem_cons.mpr ⟨lw_p20, List.forall_mem_cons.mpr ⟨lw_p21, List.forall_mem_cons.mpr ⟨lw_p22, List.forall_mem_cons.mpr ⟨lw_p23, List.forall_mem_cons.mpr ⟨lw_p24, List.forall_mem_cons.mpr ⟨lw_p25, List.forall_mem_cons.mpr ⟨lw_p26, List.forall_mem_cons.mpr ⟨lw_p27, List.forall_mem_cons.mpr ⟨lw_p28, List.forall_mem_cons.mpr ⟨lw_p29, List.forall_mem_cons.mpr ⟨lw_p30, List.forall_mem_cons.mpr ⟨lw_p31, fun _ h => absurd h List.not_mem_nil⟩⟩⟩⟩⟩⟩⟩⟩⟩⟩⟩⟩⟩⟩⟩⟩
theorem lw_p32 : lw_okq (⟨"StormLoft$Crew", "lower", "(II)V"⟩, 16) := ⟨⟨by decide +kernel, by decide +kernel⟩, List.mem_of_getElem? (i := 104) (by decide +kernel), List.mem_of_getElem? (i := 973) (by decide +kernel), List.mem_of_getElem? (i := 974) (by decide +kernel)⟩
theorem lw_p33 : lw_okq (⟨"StormLoft$Crew", "flip", "(II)V"⟩, 16) := ⟨⟨by decide +kernel, by decide +kernel⟩, List.mem_of_getElem? (i := 104) (by decide +kernel), List.mem_of_getElem? (i := 977) (by decide +kernel), List.mem_of_getElem? (i := 978) (by decide +kernel)⟩
theorem lw_p34 : lw_okq (⟨"StormLoft$Crew", "chooseFirst", "()V"⟩, 16) := ⟨⟨by decide +kernel, by decide +kernel⟩, List.mem_of_getElem? (i := 104) (by decide +kernel), List.mem_of_getElem? (i := 981) (by decide +kernel), List.mem_of_getElem? (i := 982) (by decide +kernel)⟩
theorem lw_p35 : lw_okq (⟨"StormLoft$Crew", "canDoNext", "(II)Z"⟩, 16) := ⟨⟨by decide +kernel, by decide +kernel⟩, List.mem_of_getElem? (i := 104) (by decide +kernel), List.mem_of_getElem? (i := 985) (by decide +kernel), List.mem_of_getElem? (i := 986) (by decide +kernel)⟩
theorem lw_p36 : lw_okq (⟨"StormLoft$Crew", "isFree", "(II)Z"⟩, 16) := ⟨⟨by decide +kernel, by decide +kernel⟩, List.mem_of_getElem? (i := 104) (by decide +kernel), List.mem_of_getElem? (i := 989) (by decide +kernel), List.mem_of_getElem? (i := 990) (by decide +kernel)⟩
theorem lw_p37 : lw_okq (⟨"StormLoft$Crew", "reaches", "(II)Z"⟩, 16) := ⟨⟨by decide +kernel, by decide +kernel⟩, List.mem_of_getElem? (i := 104) (by decide +kernel), List.mem_of_getElem? (i := 993) (by decide +kernel), List.mem_of_getElem? (i := 994) (by decide +kernel)⟩
theorem lw_p38 : lw_okq (⟨"StormLoft$Machines", "letsGo", "(LStormLoft$Plan;II)Z"⟩, 5) := ⟨⟨by decide +kernel, by decide +kernel⟩, List.mem_of_getElem? (i := 80) (by decide +kernel), List.mem_of_getElem? (i := 1013) (by decide +kernel), List.mem_of_getElem? (i := 1014) (by decide +kernel)⟩
theorem lw_p39 : lw_okq (⟨"StormLoft$Carpenter", "begin", "()V"⟩, 14) := ⟨⟨by decide +kernel, by decide +kernel⟩, List.mem_of_getElem? (i := 369) (by decide +kernel), List.mem_of_getElem? (i := 1045) (by decide +kernel), List.mem_of_getElem? (i := 1046) (by decide +kernel)⟩
theorem lw_p40 : lw_okq (⟨"StormLoft$Carpenter", "store", "(II)V"⟩, 14) := ⟨⟨by decide +kernel, by decide +kernel⟩, List.mem_of_getElem? (i := 369) (by decide +kernel), List.mem_of_getElem? (i := 1049) (by decide +kernel), List.mem_of_getElem? (i := 1050) (by decide +kernel)⟩
theorem lw_p41 : lw_okq (⟨"StormLoft$Carpenter", "passes", "(LStormLoft$Board;LStormLoft$Tape;I)Z"⟩, 14) := ⟨⟨by decide +kernel, by decide +kernel⟩, List.mem_of_getElem? (i := 369) (by decide +kernel), List.mem_of_getElem? (i := 1057) (by decide +kernel), List.mem_of_getElem? (i := 1058) (by decide +kernel)⟩
theorem lw_p42 : lw_okq (⟨"StormLoft$Carpenter", "load", "(I)V"⟩, 14) := ⟨⟨by decide +kernel, by decide +kernel⟩, List.mem_of_getElem? (i := 369) (by decide +kernel), List.mem_of_getElem? (i := 1061) (by decide +kernel), List.mem_of_getElem? (i := 1062) (by decide +kernel)⟩
theorem lw_p43 : lw_okq (⟨"StormLoft$Carpenter", "rollToEnd", "(LStormLoft$Board;II)I"⟩, 14) := ⟨⟨by decide +kernel, by decide +kernel⟩, List.mem_of_getElem? (i := 369) (by decide +kernel), List.mem_of_getElem? (i := 1066) (by decide +kernel), List.mem_of_getElem? (i := 1067) (by decide +kernel)⟩
theorem lw_p44 : lw_okq (⟨"StormLoft$Carpenter", "glideToEnd", "(LStormLoft$Board;II)I"⟩, 14) := ⟨⟨by decide +kernel, by decide +kernel⟩, List.mem_of_getElem? (i := 369) (by decide +kernel), List.mem_of_getElem? (i := 1071) (by decide +kernel), List.mem_of_getElem? (i := 1072) (by decide +kernel)⟩
theorem lw_p45 : lw_okq (⟨"StormLoft$Carpenter", "judge", "(LStormLoft$Tape;II)V"⟩, 14) := ⟨⟨by decide +kernel, by decide +kernel⟩, List.mem_of_getElem? (i := 369) (by decide +kernel), List.mem_of_getElem? (i := 1081) (by decide +kernel), List.mem_of_getElem? (i := 1082) (by decide +kernel)⟩
theorem lw_p46 : lw_okq (⟨"StormLoft$Carpenter", "leastPossible", "(LStormLoft$Tape;I)I"⟩, 14) := ⟨⟨by decide +kernel, by decide +kernel⟩, List.mem_of_getElem? (i := 369) (by decide +kernel), List.mem_of_getElem? (i := 1086) (by decide +kernel), List.mem_of_getElem? (i := 1087) (by decide +kernel)⟩
theorem lw_p47 : lw_okq (⟨"StormLoft$Carpenter", "leave", "(LStormLoft$Path;LStormLoft$Board;LStormLoft$Tape;II)V"⟩, 14) := ⟨⟨by decide +kernel, by decide +kernel⟩, List.mem_of_getElem? (i := 369) (by decide +kernel), List.mem_of_getElem? (i := 1110) (by decide +kernel), List.mem_of_getElem? (i := 1111) (by decide +kernel)⟩
def lw_privs_3 : List (MethodName × Nat) := [(⟨"StormLoft$Crew", "lower", "(II)V"⟩, 16), (⟨"StormLoft$Crew", "flip", "(II)V"⟩, 16), (⟨"StormLoft$Crew", "chooseFirst", "()V"⟩, 16), (⟨"StormLoft$Crew", "canDoNext", "(II)Z"⟩, 16), (⟨"StormLoft$Crew", "isFree", "(II)Z"⟩, 16), (⟨"StormLoft$Crew", "reaches", "(II)Z"⟩, 16), (⟨"StormLoft$Machines", "letsGo", "(LStormLoft$Plan;II)Z"⟩, 5), (⟨"StormLoft$Carpenter", "begin", "()V"⟩, 14), (⟨"StormLoft$Carpenter", "store", "(II)V"⟩, 14), (⟨"StormLoft$Carpenter", "passes", "(LStormLoft$Board;LStormLoft$Tape;I)Z"⟩, 14), (⟨"StormLoft$Carpenter", "load", "(I)V"⟩, 14), (⟨"StormLoft$Carpenter", "rollToEnd", "(LStormLoft$Board;II)I"⟩, 14), (⟨"StormLoft$Carpenter", "glideToEnd", "(LStormLoft$Board;II)I"⟩, 14), (⟨"StormLoft$Carpenter", "judge", "(LStormLoft$Tape;II)V"⟩, 14), (⟨"StormLoft$Carpenter", "leastPossible", "(LStormLoft$Tape;I)I"⟩, 14), (⟨"StormLoft$Carpenter", "leave", "(LStormLoft$Path;LStormLoft$Board;LStormLoft$Tape;II)V"⟩, 14)]
theorem lw_r3 : ∀ q ∈ lw_privs_3, lw_okq q := List.forall_mem_cons.mpr ⟨lw_p32, List.forall_mem_cons.mpr ⟨lw_p33, List.forall_mem_cons.mpr ⟨lw_p34, List.forall_mem_cons.mpr ⟨lw_p35, List.forall_mem_cons.mpr ⟨lw_p36, List.forall_mem_cons.mpr ⟨lw_p37, List.forall_mem_cons.mpr ⟨lw_p38, List.forall_mem_cons.mpr ⟨lw_p39, List.forall_mem_cons.mpr ⟨lw_p40, List.forall_mem_cons.mpr ⟨lw_p41, List.forall_mem_cons.mpr ⟨lw_p42, List.forall_mem_cons.mpr ⟨lw_p43, List.forall_mem_cons.mpr ⟨lw_p44, List.forall_mem_cons.mpr ⟨lw_p45, List.forall_mem_cons.mpr ⟨lw_p46, List.forall_mem_cons.mpr ⟨lw_p47, fun _ h => absurd h List.not_mem_nil⟩⟩⟩⟩⟩⟩⟩⟩⟩⟩⟩⟩⟩⟩⟩⟩
theorem lw_p48 : lw_okq (⟨"StormLoft", "runsThatAre", "()I"⟩, 12) := ⟨⟨by decide +kernel, by decide +kernel⟩, List.mem_of_getElem? (i := 25) (by decide +kernel), List.mem_of_getElem? (i := 1119) (by decide +kernel), List.mem_of_getElem? (i := 1120) (by decide +kernel)⟩
theorem lw_p49 : lw_okq (⟨"java/lang/Throwable", "fillInStackTrace", "(I)Ljava/lang/Throwable;"⟩, 6) := ⟨⟨by decide +kernel, by decide +kernel⟩, List.mem_of_getElem? (i := 1167) (by decide +kernel), List.mem_of_getElem? (i := 1165) (by decide +kernel), List.mem_of_getElem? (i := 1166) (by decide +kernel)⟩
theorem lw_p50 : lw_okq (⟨"StormLoftModel", "come", "(I)V"⟩, 89) := ⟨⟨by decide +kernel, by decide +kernel⟩, List.mem_of_getElem? (i := 1225) (by decide +kernel), List.mem_of_getElem? (i := 1510) (by decide +kernel), List.mem_of_getElem? (i := 1511) (by decide +kernel)⟩
theorem lw_p51 : lw_okq (⟨"StormLoftModel", "isRun", "(I)Z"⟩, 89) := ⟨⟨by decide +kernel, by decide +kernel⟩, List.mem_of_getElem? (i := 1225) (by decide +kernel), List.mem_of_getElem? (i := 1536) (by decide +kernel), List.mem_of_getElem? (i := 1537) (by decide +kernel)⟩
theorem lw_p52 : lw_okq (⟨"StormLoftModel", "follow", "(II)V"⟩, 89) := ⟨⟨by decide +kernel, by decide +kernel⟩, List.mem_of_getElem? (i := 1225) (by decide +kernel), List.mem_of_getElem? (i := 1540) (by decide +kernel), List.mem_of_getElem? (i := 1541) (by decide +kernel)⟩
theorem lw_p53 : lw_okq (⟨"StormLoftModel", "step", "(II)V"⟩, 89) := ⟨⟨by decide +kernel, by decide +kernel⟩, List.mem_of_getElem? (i := 1225) (by decide +kernel), List.mem_of_getElem? (i := 1544) (by decide +kernel), List.mem_of_getElem? (i := 1545) (by decide +kernel)⟩
theorem lw_p54 : lw_okq (⟨"StormLoftModel", "lengthAt", "(II)I"⟩, 89) := ⟨⟨by decide +kernel, by decide +kernel⟩, List.mem_of_getElem? (i := 1225) (by decide +kernel), List.mem_of_getElem? (i := 1548) (by decide +kernel), List.mem_of_getElem? (i := 1549) (by decide +kernel)⟩
theorem lw_p55 : lw_okq (⟨"StormLoftModel", "nextOf", "(III)I"⟩, 89) := ⟨⟨by decide +kernel, by decide +kernel⟩, List.mem_of_getElem? (i := 1225) (by decide +kernel), List.mem_of_getElem? (i := 1552) (by decide +kernel), List.mem_of_getElem? (i := 1553) (by decide +kernel)⟩
theorem lw_p56 : lw_okq (⟨"StormLoftModel", "refuse", "()I"⟩, 89) := ⟨⟨by decide +kernel, by decide +kernel⟩, List.mem_of_getElem? (i := 1225) (by decide +kernel), List.mem_of_getElem? (i := 1560) (by decide +kernel), List.mem_of_getElem? (i := 1561) (by decide +kernel)⟩
theorem lw_p57 : lw_okq (⟨"StormLoftModel", "clear", "(I)V"⟩, 89) := ⟨⟨by decide +kernel, by decide +kernel⟩, List.mem_of_getElem? (i := 1225) (by decide +kernel), List.mem_of_getElem? (i := 1576) (by decide +kernel), List.mem_of_getElem? (i := 1577) (by decide +kernel)⟩
theorem lw_p58 : lw_okq (⟨"StormLoftModel", "go", "()V"⟩, 89) := ⟨⟨by decide +kernel, by decide +kernel⟩, List.mem_of_getElem? (i := 1225) (by decide +kernel), List.mem_of_getElem? (i := 1580) (by decide +kernel), List.mem_of_getElem? (i := 1581) (by decide +kernel)⟩
theorem lw_p59 : lw_okq (⟨"StormLoftModel", "byteAt", "(I)I"⟩, 89) := ⟨⟨by decide +kernel, by decide +kernel⟩, List.mem_of_getElem? (i := 1225) (by decide +kernel), List.mem_of_getElem? (i := 1590) (by decide +kernel), List.mem_of_getElem? (i := 1591) (by decide +kernel)⟩
theorem lw_p60 : lw_okq (⟨"StormLoftModel", "readPiece", "()Z"⟩, 89) := ⟨⟨by decide +kernel, by decide +kernel⟩, List.mem_of_getElem? (i := 1225) (by decide +kernel), List.mem_of_getElem? (i := 1596) (by decide +kernel), List.mem_of_getElem? (i := 1597) (by decide +kernel)⟩
theorem lw_p61 : lw_okq (⟨"StormLoftModel", "isAt", "()Z"⟩, 89) := ⟨⟨by decide +kernel, by decide +kernel⟩, List.mem_of_getElem? (i := 1225) (by decide +kernel), List.mem_of_getElem? (i := 1600) (by decide +kernel), List.mem_of_getElem? (i := 1601) (by decide +kernel)⟩
theorem lw_p62 : lw_okq (⟨"StormLoftModel", "isKey", "(J)Z"⟩, 89) := ⟨⟨by decide +kernel, by decide +kernel⟩, List.mem_of_getElem? (i := 1225) (by decide +kernel), List.mem_of_getElem? (i := 1607) (by decide +kernel), List.mem_of_getElem? (i := 1608) (by decide +kernel)⟩
theorem lw_p63 : lw_okq (⟨"StormLoftModel", "readNumber", "(II)Z"⟩, 89) := ⟨⟨by decide +kernel, by decide +kernel⟩, List.mem_of_getElem? (i := 1225) (by decide +kernel), List.mem_of_getElem? (i := 1611) (by decide +kernel), List.mem_of_getElem? (i := 1612) (by decide +kernel)⟩
def lw_privs_4 : List (MethodName × Nat) := [(⟨"StormLoft", "runsThatAre", "()I"⟩, 12), (⟨"java/lang/Throwable", "fillInStackTrace", "(I)Ljava/lang/Throwable;"⟩, 6), (⟨"StormLoftModel", "come", "(I)V"⟩, 89), (⟨"StormLoftModel", "isRun", "(I)Z"⟩, 89), (⟨"StormLoftModel", "follow", "(II)V"⟩, 89), (⟨"StormLoftModel", "step", "(II)V"⟩, 89), (⟨"StormLoftModel", "lengthAt", "(II)I"⟩, 89), (⟨"StormLoftModel", "nextOf", "(III)I"⟩, 89), (⟨"StormLoftModel", "refuse", "()I"⟩, 89), (⟨"StormLoftModel", "clear", "(I)V"⟩, 89), (⟨"StormLoftModel", "go", "()V"⟩, 89), (⟨"StormLoftModel", "byteAt", "(I)I"⟩, 89), (⟨"StormLoftModel", "readPiece", "()Z"⟩, 89), (⟨"StormLoftModel", "isAt", "()Z"⟩, 89), (⟨"StormLoftModel", "isKey", "(J)Z"⟩, 89), (⟨"StormLoftModel", "readNumber", "(II)Z"⟩, 89)]
theorem lw_r4 : ∀ q ∈ lw_privs_4, lw_okq q := List.forall_mem_cons.mpr ⟨lw_p48, List.forall_mem_cons.mpr ⟨lw_p49, List.forall_mem_cons.mpr ⟨lw_p50, List.forall_mem_cons.mpr ⟨lw_p51, List.forall_mem_cons.mpr ⟨lw_p52, List.forall_mem_cons.mpr ⟨lw_p53, List.forall_mem_cons.mpr ⟨lw_p54, List.forall_mem_cons.mpr ⟨lw_p55, List.forall_mem_cons.mpr ⟨lw_p56, List.forall_mem_cons.mpr ⟨lw_p57, List.forall_mem_cons.mpr ⟨lw_p58, List.forall_mem_cons.mpr ⟨lw_p59, List.forall_mem_cons.mpr ⟨lw_p60, List.forall_mem_cons.mpr ⟨lw_p61, List.forall_mem_cons.mpr ⟨lw_p62, List.forall_mem_cons.mpr ⟨lw_p63, fun _ h => absurd h List.not_mem_nil⟩⟩⟩⟩⟩⟩⟩⟩⟩⟩⟩⟩⟩⟩⟩⟩
theorem lw_p64 : lw_okq (⟨"StormLoftModel", "bad", "(I)Z"⟩, 89) := ⟨⟨by decide +kernel, by decide +kernel⟩, List.mem_of_getElem? (i := 1225) (by decide +kernel), List.mem_of_getElem? (i := 1615) (by decide +kernel), List.mem_of_getElem? (i := 1616) (by decide +kernel)⟩
theorem lw_p65 : lw_okq (⟨"StormLoftModel", "readUse", "(I)Z"⟩, 89) := ⟨⟨by decide +kernel, by decide +kernel⟩, List.mem_of_getElem? (i := 1225) (by decide +kernel), List.mem_of_getElem? (i := 1619) (by decide +kernel), List.mem_of_getElem? (i := 1620) (by decide +kernel)⟩
theorem lw_p66 : lw_okq (⟨"StormLoftModel", "isUse", "()Z"⟩, 89) := ⟨⟨by decide +kernel, by decide +kernel⟩, List.mem_of_getElem? (i := 1225) (by decide +kernel), List.mem_of_getElem? (i := 1623) (by decide +kernel), List.mem_of_getElem? (i := 1624) (by decide +kernel)⟩
theorem lw_p67 : lw_okq (⟨"StormLoftModel", "isWith", "()Z"⟩, 89) := ⟨⟨by decide +kernel, by decide +kernel⟩, List.mem_of_getElem? (i := 1225) (by decide +kernel), List.mem_of_getElem? (i := 1627) (by decide +kernel), List.mem_of_getElem? (i := 1628) (by decide +kernel)⟩
theorem lw_p68 : lw_okq (⟨"StormLoftModel", "readEnd", "()Z"⟩, 89) := ⟨⟨by decide +kernel, by decide +kernel⟩, List.mem_of_getElem? (i := 1225) (by decide +kernel), List.mem_of_getElem? (i := 1631) (by decide +kernel), List.mem_of_getElem? (i := 1632) (by decide +kernel)⟩
theorem lw_p69 : lw_okq (⟨"StormLoftModel", "put", "(IIII)V"⟩, 89) := ⟨⟨by decide +kernel, by decide +kernel⟩, List.mem_of_getElem? (i := 1225) (by decide +kernel), List.mem_of_getElem? (i := 1635) (by decide +kernel), List.mem_of_getElem? (i := 1636) (by decide +kernel)⟩
theorem lw_p70 : lw_okq (⟨"StormLoftModel", "isPlay", "()Z"⟩, 89) := ⟨⟨by decide +kernel, by decide +kernel⟩, List.mem_of_getElem? (i := 1225) (by decide +kernel), List.mem_of_getElem? (i := 1639) (by decide +kernel), List.mem_of_getElem? (i := 1640) (by decide +kernel)⟩
theorem lw_p71 : lw_okq (⟨"StormLoftModel", "readPlay", "()Z"⟩, 89) := ⟨⟨by decide +kernel, by decide +kernel⟩, List.mem_of_getElem? (i := 1225) (by decide +kernel), List.mem_of_getElem? (i := 1643) (by decide +kernel), List.mem_of_getElem? (i := 1644) (by decide +kernel)⟩
theorem lw_p72 : lw_okq (⟨"StormLoftModel", "isName", "()Z"⟩, 89) := ⟨⟨by decide +kernel, by decide +kernel⟩, List.mem_of_getElem? (i := 1225) (by decide +kernel), List.mem_of_getElem? (i := 1647) (by decide +kernel), List.mem_of_getElem? (i := 1648) (by decide +kernel)⟩
theorem lw_p73 : lw_okq (⟨"StormLoftModel", "isEnd", "()Z"⟩, 89) := ⟨⟨by decide +kernel, by decide +kernel⟩, List.mem_of_getElem? (i := 1225) (by decide +kernel), List.mem_of_getElem? (i := 1651) (by decide +kernel), List.mem_of_getElem? (i := 1652) (by decide +kernel)⟩
theorem lw_p74 : lw_okq (⟨"StormLoftModel", "isStorm", "()Z"⟩, 89) := ⟨⟨by decide +kernel, by decide +kernel⟩, List.mem_of_getElem? (i := 1225) (by decide +kernel), List.mem_of_getElem? (i := 1655) (by decide +kernel), List.mem_of_getElem? (i := 1656) (by decide +kernel)⟩
theorem lw_p75 : lw_okq (⟨"StormLoftModel", "isTimes", "()Z"⟩, 89) := ⟨⟨by decide +kernel, by decide +kernel⟩, List.mem_of_getElem? (i := 1225) (by decide +kernel), List.mem_of_getElem? (i := 1659) (by decide +kernel), List.mem_of_getElem? (i := 1660) (by decide +kernel)⟩
theorem lw_p76 : lw_okq (⟨"StormLoftModel", "isEvery", "()Z"⟩, 89) := ⟨⟨by decide +kernel, by decide +kernel⟩, List.mem_of_getElem? (i := 1225) (by decide +kernel), List.mem_of_getElem? (i := 1663) (by decide +kernel), List.mem_of_getElem? (i := 1664) (by decide +kernel)⟩
theorem lw_p77 : lw_okq (⟨"StormLoftModel", "stormOf", "(J)I"⟩, 89) := ⟨⟨by decide +kernel, by decide +kernel⟩, List.mem_of_getElem? (i := 1225) (by decide +kernel), List.mem_of_getElem? (i := 1667) (by decide +kernel), List.mem_of_getElem? (i := 1668) (by decide +kernel)⟩
theorem lw_p78 : lw_okq (⟨"StormLoftModel", "pour", "(III)V"⟩, 89) := ⟨⟨by decide +kernel, by decide +kernel⟩, List.mem_of_getElem? (i := 1225) (by decide +kernel), List.mem_of_getElem? (i := 1671) (by decide +kernel), List.mem_of_getElem? (i := 1672) (by decide +kernel)⟩
theorem lw_p79 : lw_okq (⟨"StormLoftModel", "readTimes", "()Z"⟩, 89) := ⟨⟨by decide +kernel, by decide +kernel⟩, List.mem_of_getElem? (i := 1225) (by decide +kernel), List.mem_of_getElem? (i := 1675) (by decide +kernel), List.mem_of_getElem? (i := 1676) (by decide +kernel)⟩
def lw_privs_5 : List (MethodName × Nat) := [(⟨"StormLoftModel", "bad", "(I)Z"⟩, 89), (⟨"StormLoftModel", "readUse", "(I)Z"⟩, 89), (⟨"StormLoftModel", "isUse", "()Z"⟩, 89), (⟨"StormLoftModel", "isWith", "()Z"⟩, 89), (⟨"StormLoftModel", "readEnd", "()Z"⟩, 89), (⟨"StormLoftModel", "put", "(IIII)V"⟩, 89), (⟨"StormLoftModel", "isPlay", "()Z"⟩, 89), (⟨"StormLoftModel", "readPlay", "()Z"⟩, 89), (⟨"StormLoftModel", "isName", "()Z"⟩, 89), (⟨"StormLoftModel", "isEnd", "()Z"⟩, 89), (⟨"StormLoftModel", "isStorm", "()Z"⟩, 89), (⟨"StormLoftModel", "isTimes", "()Z"⟩, 89), (⟨"StormLoftModel", "isEvery", "()Z"⟩, 89), (⟨"StormLoftModel", "stormOf", "(J)I"⟩, 89), (⟨"StormLoftModel", "pour", "(III)V"⟩, 89), (⟨"StormLoftModel", "readTimes", "()Z"⟩, 89)]
theorem lw_r5 : ∀ q ∈ lw_privs_5, lw_okq q := List.forall_mem_cons.mpr ⟨lw_p64, List.forall_mem_cons.mpr ⟨lw_p65, List.forall_mem_cons.mpr ⟨lw_p66, List.forall_mem_cons.mpr ⟨lw_p67, List.forall_mem_cons.mpr ⟨lw_p68, List.forall_mem_cons.mpr ⟨lw_p69, List.forall_mem_cons.mpr ⟨lw_p70, List.forall_mem_cons.mpr ⟨lw_p71, List.forall_mem_cons.mpr ⟨lw_p72, List.forall_mem_cons.mpr ⟨lw_p73, List.forall_mem_cons.mpr ⟨lw_p74, List.forall_mem_cons.mpr ⟨lw_p75, List.forall_mem_cons.mpr ⟨lw_p76, List.forall_mem_cons.mpr ⟨lw_p77, List.forall_mem_cons.mpr ⟨lw_p78, List.forall_mem_cons.mpr ⟨lw_p79, fun _ h => absurd h List.not_mem_nil⟩⟩⟩⟩⟩⟩⟩⟩⟩⟩⟩⟩⟩⟩⟩⟩
theorem lw_p80 : lw_okq (⟨"StormLoftModel", "endTimes", "()V"⟩, 89) := ⟨⟨by decide +kernel, by decide +kernel⟩, List.mem_of_getElem? (i := 1225) (by decide +kernel), List.mem_of_getElem? (i := 1679) (by decide +kernel), List.mem_of_getElem? (i := 1680) (by decide +kernel)⟩
theorem lw_p81 : lw_okq (⟨"StormLoftModel", "readStorm", "()Z"⟩, 89) := ⟨⟨by decide +kernel, by decide +kernel⟩, List.mem_of_getElem? (i := 1225) (by decide +kernel), List.mem_of_getElem? (i := 1683) (by decide +kernel), List.mem_of_getElem? (i := 1684) (by decide +kernel)⟩
theorem lw_p82 : lw_okq (⟨"StormLoftModel", "takes", "(I)I"⟩, 89) := ⟨⟨by decide +kernel, by decide +kernel⟩, List.mem_of_getElem? (i := 1225) (by decide +kernel), List.mem_of_getElem? (i := 1695) (by decide +kernel), List.mem_of_getElem? (i := 1696) (by decide +kernel)⟩
theorem lw_p83 : lw_okq (⟨"StormLoftModel", "worth", "(I)I"⟩, 89) := ⟨⟨by decide +kernel, by decide +kernel⟩, List.mem_of_getElem? (i := 1225) (by decide +kernel), List.mem_of_getElem? (i := 1699) (by decide +kernel), List.mem_of_getElem? (i := 1700) (by decide +kernel)⟩
theorem lw_p84 : lw_okq (⟨"StormLoftModel", "rollAll", "(I)V"⟩, 89) := ⟨⟨by decide +kernel, by decide +kernel⟩, List.mem_of_getElem? (i := 1225) (by decide +kernel), List.mem_of_getElem? (i := 1707) (by decide +kernel), List.mem_of_getElem? (i := 1708) (by decide +kernel)⟩
theorem lw_p85 : lw_okq (⟨"StormLoftModel", "hear", "(III)V"⟩, 89) := ⟨⟨by decide +kernel, by decide +kernel⟩, List.mem_of_getElem? (i := 1225) (by decide +kernel), List.mem_of_getElem? (i := 1711) (by decide +kernel), List.mem_of_getElem? (i := 1712) (by decide +kernel)⟩
theorem lw_p86 : lw_okq (⟨"StormLoftModel", "use", "(I)V"⟩, 89) := ⟨⟨by decide +kernel, by decide +kernel⟩, List.mem_of_getElem? (i := 1225) (by decide +kernel), List.mem_of_getElem? (i := 1715) (by decide +kernel), List.mem_of_getElem? (i := 1716) (by decide +kernel)⟩
theorem lw_p87 : lw_okq (⟨"StormLoftModel", "fillTable", "()V"⟩, 89) := ⟨⟨by decide +kernel, by decide +kernel⟩, List.mem_of_getElem? (i := 1225) (by decide +kernel), List.mem_of_getElem? (i := 1731) (by decide +kernel), List.mem_of_getElem? (i := 1732) (by decide +kernel)⟩
theorem lw_p88 : lw_okq (⟨"StormLoftModel", "prepare", "()V"⟩, 89) := ⟨⟨by decide +kernel, by decide +kernel⟩, List.mem_of_getElem? (i := 1225) (by decide +kernel), List.mem_of_getElem? (i := 1735) (by decide +kernel), List.mem_of_getElem? (i := 1736) (by decide +kernel)⟩
theorem lw_p89 : lw_okq (⟨"StormLoftModel", "choose", "(II)I"⟩, 89) := ⟨⟨by decide +kernel, by decide +kernel⟩, List.mem_of_getElem? (i := 1225) (by decide +kernel), List.mem_of_getElem? (i := 1742) (by decide +kernel), List.mem_of_getElem? (i := 1743) (by decide +kernel)⟩
theorem lw_p90 : lw_okq (⟨"StormLoftModel", "workOut", "(III)V"⟩, 89) := ⟨⟨by decide +kernel, by decide +kernel⟩, List.mem_of_getElem? (i := 1225) (by decide +kernel), List.mem_of_getElem? (i := 1746) (by decide +kernel), List.mem_of_getElem? (i := 1747) (by decide +kernel)⟩
theorem lw_p91 : lw_okq (⟨"StormLoftModel", "cellOf", "(IIIII)I"⟩, 89) := ⟨⟨by decide +kernel, by decide +kernel⟩, List.mem_of_getElem? (i := 1225) (by decide +kernel), List.mem_of_getElem? (i := 1750) (by decide +kernel), List.mem_of_getElem? (i := 1751) (by decide +kernel)⟩
theorem lw_p92 : lw_okq (⟨"StormLoftModel", "mayFollow", "(II)Z"⟩, 89) := ⟨⟨by decide +kernel, by decide +kernel⟩, List.mem_of_getElem? (i := 1225) (by decide +kernel), List.mem_of_getElem? (i := 1754) (by decide +kernel), List.mem_of_getElem? (i := 1755) (by decide +kernel)⟩
theorem lw_p93 : lw_okq (⟨"StormLoftModel", "standOf", "(I)I"⟩, 89) := ⟨⟨by decide +kernel, by decide +kernel⟩, List.mem_of_getElem? (i := 1225) (by decide +kernel), List.mem_of_getElem? (i := 1758) (by decide +kernel), List.mem_of_getElem? (i := 1759) (by decide +kernel)⟩
theorem lw_p94 : lw_okq (⟨"StormLoftModel", "mayBegin", "(II)Z"⟩, 89) := ⟨⟨by decide +kernel, by decide +kernel⟩, List.mem_of_getElem? (i := 1225) (by decide +kernel), List.mem_of_getElem? (i := 1765) (by decide +kernel), List.mem_of_getElem? (i := 1766) (by decide +kernel)⟩
theorem lw_p95 : lw_okq (⟨"StormLoftModel", "goesOn", "(II)Z"⟩, 89) := ⟨⟨by decide +kernel, by decide +kernel⟩, List.mem_of_getElem? (i := 1225) (by decide +kernel), List.mem_of_getElem? (i := 1769) (by decide +kernel), List.mem_of_getElem? (i := 1770) (by decide +kernel)⟩
def lw_privs_6 : List (MethodName × Nat) := [(⟨"StormLoftModel", "endTimes", "()V"⟩, 89), (⟨"StormLoftModel", "readStorm", "()Z"⟩, 89), (⟨"StormLoftModel", "takes", "(I)I"⟩, 89), (⟨"StormLoftModel", "worth", "(I)I"⟩, 89), (⟨"StormLoftModel", "rollAll", "(I)V"⟩, 89), (⟨"StormLoftModel", "hear", "(III)V"⟩, 89), (⟨"StormLoftModel", "use", "(I)V"⟩, 89), (⟨"StormLoftModel", "fillTable", "()V"⟩, 89), (⟨"StormLoftModel", "prepare", "()V"⟩, 89), (⟨"StormLoftModel", "choose", "(II)I"⟩, 89), (⟨"StormLoftModel", "workOut", "(III)V"⟩, 89), (⟨"StormLoftModel", "cellOf", "(IIIII)I"⟩, 89), (⟨"StormLoftModel", "mayFollow", "(II)Z"⟩, 89), (⟨"StormLoftModel", "standOf", "(I)I"⟩, 89), (⟨"StormLoftModel", "mayBegin", "(II)Z"⟩, 89), (⟨"StormLoftModel", "goesOn", "(II)Z"⟩, 89)]
theorem lw_r6 : ∀ q ∈ lw_privs_6, lw_okq q := List.forall_mem_cons.mpr ⟨lw_p80, List.forall_mem_cons.mpr ⟨lw_p81, List.forall_mem_cons.mpr ⟨lw_p82, List.forall_mem_cons.mpr ⟨lw_p83, List.forall_mem_cons.mpr ⟨lw_p84, List.forall_mem_cons.mpr ⟨lw_p85, List.forall_mem_cons.mpr ⟨lw_p86, List.forall_mem_cons.mpr ⟨lw_p87, List.forall_mem_cons.mpr ⟨lw_p88, List.forall_mem_cons.mpr ⟨lw_p89, List.forall_mem_cons.mpr ⟨lw_p90, List.forall_mem_cons.mpr ⟨lw_p91, List.forall_mem_cons.mpr ⟨lw_p92, List.forall_mem_cons.mpr ⟨lw_p93, List.forall_mem_cons.mpr ⟨lw_p94, List.forall_mem_cons.mpr ⟨lw_p95, fun _ h => absurd h List.not_mem_nil⟩⟩⟩⟩⟩⟩⟩⟩⟩⟩⟩⟩⟩⟩⟩⟩
theorem lw_p96 : lw_okq (⟨"StormLoftModel", "cellByMen", "(I)I"⟩, 89) := ⟨⟨by decide +kernel, by decide +kernel⟩, List.mem_of_getElem? (i := 1225) (by decide +kernel), List.mem_of_getElem? (i := 1773) (by decide +kernel), List.mem_of_getElem? (i := 1774) (by decide +kernel)⟩
theorem lw_p97 : lw_okq (⟨"StormLoftModel", "isLetGo", "(II)Z"⟩, 89) := ⟨⟨by decide +kernel, by decide +kernel⟩, List.mem_of_getElem? (i := 1225) (by decide +kernel), List.mem_of_getElem? (i := 1785) (by decide +kernel), List.mem_of_getElem? (i := 1786) (by decide +kernel)⟩
theorem lw_p98 : lw_okq (⟨"StormLoftModel", "takeTicks", "()Z"⟩, 89) := ⟨⟨by decide +kernel, by decide +kernel⟩, List.mem_of_getElem? (i := 1225) (by decide +kernel), List.mem_of_getElem? (i := 1797) (by decide +kernel), List.mem_of_getElem? (i := 1798) (by decide +kernel)⟩
theorem lw_p99 : lw_okq (⟨"StormLoftModel", "err", "()I"⟩, 89) := ⟨⟨by decide +kernel, by decide +kernel⟩, List.mem_of_getElem? (i := 1225) (by decide +kernel), List.mem_of_getElem? (i := 1801) (by decide +kernel), List.mem_of_getElem? (i := 1802) (by decide +kernel)⟩
theorem lw_p100 : lw_okq (⟨"StormLoftModel", "explains", "()Z"⟩, 89) := ⟨⟨by decide +kernel, by decide +kernel⟩, List.mem_of_getElem? (i := 1225) (by decide +kernel), List.mem_of_getElem? (i := 1813) (by decide +kernel), List.mem_of_getElem? (i := 1814) (by decide +kernel)⟩
def lw_privs_7 : List (MethodName × Nat) := [(⟨"StormLoftModel", "cellByMen", "(I)I"⟩, 89), (⟨"StormLoftModel", "isLetGo", "(II)Z"⟩, 89), (⟨"StormLoftModel", "takeTicks", "()Z"⟩, 89), (⟨"StormLoftModel", "err", "()I"⟩, 89), (⟨"StormLoftModel", "explains", "()Z"⟩, 89)]
theorem lw_r7 : ∀ q ∈ lw_privs_7, lw_okq q := List.forall_mem_cons.mpr ⟨lw_p96, List.forall_mem_cons.mpr ⟨lw_p97, List.forall_mem_cons.mpr ⟨lw_p98, List.forall_mem_cons.mpr ⟨lw_p99, List.forall_mem_cons.mpr ⟨lw_p100, fun _ h => absurd h List.not_mem_nil⟩⟩⟩⟩⟩
def lw_privs : List (MethodName × Nat) := lw_privs_1 ++ (lw_privs_2 ++ (lw_privs_3 ++ (lw_privs_4 ++ (lw_privs_5 ++ (lw_privs_6 ++ (lw_privs_7))))))
def lw_tbl : List Cond := k2_sels lw_privs ++ tables_1
theorem lw_privs_ok : ∀ q ∈ lw_privs, lw_okq q := by
  show ∀ q ∈ lw_privs_1 ++ (lw_privs_2 ++ (lw_privs_3 ++ (lw_privs_4 ++ (lw_privs_5 ++ (lw_privs_6 ++ (lw_privs_7)))))), lw_okq q
  exact List.forall_mem_append.mpr ⟨lw_r1, List.forall_mem_append.mpr ⟨lw_r2, List.forall_mem_append.mpr ⟨lw_r3, List.forall_mem_append.mpr ⟨lw_r4, List.forall_mem_append.mpr ⟨lw_r5, List.forall_mem_append.mpr ⟨lw_r6, lw_r7⟩⟩⟩⟩⟩⟩
def RX0 : String := "StormLoft$Ball"
def TX0 : u_T := fun k => match k with
  | 0 => ("StormLoft$Ball", "run", "I", false)
  | 1 => ("StormLoft$Ball", "place", "I", false)
  | 2 => ("StormLoft$Ball", "part", "I", false)
  | 3 => ("StormLoft$Ball", "speed", "I", false)
  | 4 => ("StormLoft$Ball", "placeAhead", "I", false)
  | _ => ("StormLoft$Ball", "partAhead", "I", false)
def tyX0 : Nat → FieldType := fun k => match k with
  | 0 => .int
  | 1 => .int
  | 2 => .int
  | 3 => .int
  | 4 => .int
  | _ => .int
abbrev wsX00 : List Cond := u_ws RX0 TX0 6
theorem nmX0 : ∀ a, a < 6 → ∀ b, b < 6 → a ≠ b → (TX0 a).2.1 ≠ (TX0 b).2.1 := by decide +kernel
theorem tyX0_ok : ∀ k, k < 6 → parseFieldDescriptor (TX0 k).2.2.1 = some (tyX0 k) := by decide +kernel
abbrev cX0_init : ByteArray := prog_2_method_1_code
def yX0_init : MethodName := ⟨RX0, "<init>", "()V"⟩
abbrev cX0_letGoOn : ByteArray := prog_2_method_2_code
def yX0_letGoOn : MethodName := ⟨RX0, "letGoOn", "(I)V"⟩
abbrev cX0_put : ByteArray := prog_2_method_3_code
def yX0_put : MethodName := ⟨RX0, "put", "(III)V"⟩
abbrev cX0_rollsOver : ByteArray := prog_2_method_4_code
def yX0_rollsOver : MethodName := ⟨RX0, "rollsOver", "(LStormLoft$Board;)Z"⟩
abbrev cX0_fallsOff : ByteArray := prog_2_method_5_code
def yX0_fallsOff : MethodName := ⟨RX0, "fallsOff", "(LStormLoft$Board;I)I"⟩
abbrev cX0_isAtRest : ByteArray := prog_2_method_6_code
def yX0_isAtRest : MethodName := ⟨RX0, "isAtRest", "()Z"⟩
abbrev cX0_overtook : ByteArray := prog_2_method_7_code
def yX0_overtook : MethodName := ⟨RX0, "overtook", "(LStormLoft$Ball;)Z"⟩
abbrev cX0_stayedWith : ByteArray := prog_2_method_8_code
def yX0_stayedWith : MethodName := ⟨RX0, "stayedWith", "(LStormLoft$Ball;)Z"⟩
def RX1 : String := "StormLoft$Board"
def TX1 : u_T := fun k => match k with
  | 0 => ("StormLoft$Board", "parts", "I", true)
  | 1 => ("StormLoft$Board", "slope", "I", true)
  | 2 => ("StormLoft$Board", "rough", "I", true)
  | 3 => ("StormLoft$Board", "drop", "I", true)
  | _ => ("StormLoft$Board", "turn", "I", true)
def tyX1 : Nat → FieldType := fun k => match k with
  | 0 => .int
  | 1 => .int
  | 2 => .int
  | 3 => .int
  | _ => .int
abbrev wsX10 : List Cond := u_ws RX1 TX1 5
theorem nmX1 : ∀ a, a < 5 → ∀ b, b < 5 → a ≠ b → (TX1 a).2.1 ≠ (TX1 b).2.1 := by decide +kernel
theorem tyX1_ok : ∀ k, k < 5 → parseFieldDescriptor (TX1 k).2.2.1 = some (tyX1 k) := by decide +kernel
abbrev cX1_init : ByteArray := prog_3_method_1_code
def yX1_init : MethodName := ⟨RX1, "<init>", "(IIIII)V"⟩
def RX2 : String := "StormLoft$Carpenter"
def TX2 : u_T := fun k => match k with
  | 0 => ("StormLoft$Carpenter", "tick", "[I", true)
  | 1 => ("StormLoft$Carpenter", "place", "[I", true)
  | 2 => ("StormLoft$Carpenter", "part", "[I", true)
  | 3 => ("StormLoft$Carpenter", "speed", "[I", true)
  | 4 => ("StormLoft$Carpenter", "knocks", "[I", true)
  | 5 => ("StormLoft$Carpenter", "sum", "[I", true)
  | 6 => ("StormLoft$Carpenter", "chosen", "[I", true)
  | 7 => ("StormLoft$Carpenter", "ball", "LStormLoft$Ball;", true)
  | 8 => ("StormLoft$Carpenter", "laid", "[I", true)
  | 9 => ("StormLoft$Carpenter", "laidCount", "I", false)
  | 10 => ("StormLoft$Carpenter", "wornSet", "I", false)
  | 11 => ("StormLoft$Carpenter", "many", "I", false)
  | 12 => ("StormLoft$Carpenter", "choice", "I", false)
  | _ => ("StormLoft$Carpenter", "least", "I", false)
def tyX2 : Nat → FieldType := fun k => match k with
  | 0 => .array .int
  | 1 => .array .int
  | 2 => .array .int
  | 3 => .array .int
  | 4 => .array .int
  | 5 => .array .int
  | 6 => .array .int
  | 7 => .object "StormLoft$Ball"
  | 8 => .array .int
  | 9 => .int
  | 10 => .int
  | 11 => .int
  | 12 => .int
  | _ => .int
abbrev wsX20 : List Cond := u_ws RX2 TX2 14
theorem nmX2 : ∀ a, a < 14 → ∀ b, b < 14 → a ≠ b → (TX2 a).2.1 ≠ (TX2 b).2.1 := by decide +kernel
theorem tyX2_ok : ∀ k, k < 14 → parseFieldDescriptor (TX2 k).2.2.1 = some (tyX2 k) := by decide +kernel
abbrev cX2_init : ByteArray := prog_4_method_1_code
def yX2_init : MethodName := ⟨RX2, "<init>", "()V"⟩
abbrev cX2_laidAt : ByteArray := prog_4_method_2_code
def yX2_laidAt : MethodName := ⟨RX2, "laidAt", "(I)I"⟩
abbrev cX2_layLikest : ByteArray := prog_4_method_3_code
def yX2_layLikest : MethodName := ⟨RX2, "layLikest", "([LStormLoft$Board;IILStormLoft$Tape;)I"⟩
abbrev cX2_explain : ByteArray := prog_4_method_4_code
def yX2_explain : MethodName := ⟨RX2, "explain", "(LStormLoft$Path;LStormLoft$Tape;)I"⟩
abbrev cX2_begin : ByteArray := prog_4_method_5_code
def yX2_begin : MethodName := ⟨RX2, "begin", "()V"⟩
abbrev cX2_store : ByteArray := prog_4_method_6_code
def yX2_store : MethodName := ⟨RX2, "store", "(II)V"⟩
abbrev cX2_load : ByteArray := prog_4_method_7_code
def yX2_load : MethodName := ⟨RX2, "load", "(I)V"⟩
abbrev cX2_rollToEnd : ByteArray := prog_4_method_8_code
def yX2_rollToEnd : MethodName := ⟨RX2, "rollToEnd", "(LStormLoft$Board;II)I"⟩
abbrev cX2_glideToEnd : ByteArray := prog_4_method_9_code
def yX2_glideToEnd : MethodName := ⟨RX2, "glideToEnd", "(LStormLoft$Board;II)I"⟩
abbrev cX2_layOn : ByteArray := prog_4_method_10_code
def yX2_layOn : MethodName := ⟨RX2, "layOn", "(LStormLoft$Carpenter;[LStormLoft$Board;LStormLoft$Tape;I)V"⟩
abbrev cX2_passes : ByteArray := prog_4_method_11_code
def yX2_passes : MethodName := ⟨RX2, "passes", "(LStormLoft$Board;LStormLoft$Tape;I)Z"⟩
abbrev cX2_leastPossible : ByteArray := prog_4_method_12_code
def yX2_leastPossible : MethodName := ⟨RX2, "leastPossible", "(LStormLoft$Tape;I)I"⟩
abbrev cX2_judge : ByteArray := prog_4_method_13_code
def yX2_judge : MethodName := ⟨RX2, "judge", "(LStormLoft$Tape;II)V"⟩
abbrev cX2_wearOn : ByteArray := prog_4_method_14_code
def yX2_wearOn : MethodName := ⟨RX2, "wearOn", "(LStormLoft$Carpenter;LStormLoft$Path;LStormLoft$Tape;I)V"⟩
abbrev cX2_leave : ByteArray := prog_4_method_15_code
def yX2_leave : MethodName := ⟨RX2, "leave", "(LStormLoft$Path;LStormLoft$Board;LStormLoft$Tape;II)V"⟩
def RX3 : String := "StormLoft$Crew"
def TX3 : u_T := fun k => match k with
  | 0 => ("StormLoft$Crew", "home", "[I", true)
  | 1 => ("StormLoft$Crew", "size", "I", false)
  | 2 => ("StormLoft$Crew", "doer", "[I", true)
  | 3 => ("StormLoft$Crew", "cost", "[[I", true)
  | 4 => ("StormLoft$Crew", "rowPrice", "[I", true)
  | 5 => ("StormLoft$Crew", "columnPrice", "[I", true)
  | 6 => ("StormLoft$Crew", "columnOf", "[I", true)
  | 7 => ("StormLoft$Crew", "rowOf", "[I", true)
  | 8 => ("StormLoft$Crew", "slack", "[I", true)
  | 9 => ("StormLoft$Crew", "cameFrom", "[I", true)
  | 10 => ("StormLoft$Crew", "seen", "[I", true)
  | 11 => ("StormLoft$Crew", "settled", "[I", true)
  | 12 => ("StormLoft$Crew", "queue", "[I", true)
  | 13 => ("StormLoft$Crew", "standsAt", "[I", true)
  | 14 => ("StormLoft$Crew", "events", "I", false)
  | _ => ("StormLoft$Crew", "side", "I", false)
def tyX3 : Nat → FieldType := fun k => match k with
  | 0 => .array .int
  | 1 => .int
  | 2 => .array .int
  | 3 => .array (.array .int)
  | 4 => .array .int
  | 5 => .array .int
  | 6 => .array .int
  | 7 => .array .int
  | 8 => .array .int
  | 9 => .array .int
  | 10 => .array .int
  | 11 => .array .int
  | 12 => .array .int
  | 13 => .array .int
  | 14 => .int
  | _ => .int
abbrev wsX30 : List Cond := u_ws RX3 TX3 16
theorem nmX3 : ∀ a, a < 16 → ∀ b, b < 16 → a ≠ b → (TX3 a).2.1 ≠ (TX3 b).2.1 := by decide +kernel
theorem tyX3_ok : ∀ k, k < 16 → parseFieldDescriptor (TX3 k).2.2.1 = some (tyX3 k) := by decide +kernel
abbrev cX3_init : ByteArray := prog_5_method_1_code
def yX3_init : MethodName := ⟨RX3, "<init>", "()V"⟩
abbrev cX3_forget : ByteArray := prog_5_method_2_code
def yX3_forget : MethodName := ⟨RX3, "forget", "()V"⟩
abbrev cX3_add : ByteArray := prog_5_method_3_code
def yX3_add : MethodName := ⟨RX3, "add", "(I)I"⟩
abbrev cX3_doerOf : ByteArray := prog_5_method_4_code
def yX3_doerOf : MethodName := ⟨RX3, "doerOf", "(I)I"⟩
abbrev cX3_makeMost : ByteArray := prog_5_method_5_code
def yX3_makeMost : MethodName := ⟨RX3, "makeMost", "(LStormLoft$Plan;LStormLoft$Machines;)I"⟩
abbrev cX3_costOf : ByteArray := prog_5_method_6_code
def yX3_costOf : MethodName := ⟨RX3, "costOf", "(IILStormLoft$Plan;LStormLoft$Machines;)I"⟩
abbrev cX3_assignAll : ByteArray := prog_5_method_7_code
def yX3_assignAll : MethodName := ⟨RX3, "assignAll", "()V"⟩
abbrev cX3_assignRow : ByteArray := prog_5_method_8_code
def yX3_assignRow : MethodName := ⟨RX3, "assignRow", "(I)V"⟩
abbrev cX3_relax : ByteArray := prog_5_method_9_code
def yX3_relax : MethodName := ⟨RX3, "relax", "(II)V"⟩
abbrev cX3_nearest : ByteArray := prog_5_method_10_code
def yX3_nearest : MethodName := ⟨RX3, "nearest", "()I"⟩
abbrev cX3_lower : ByteArray := prog_5_method_11_code
def yX3_lower : MethodName := ⟨RX3, "lower", "(II)V"⟩
abbrev cX3_flip : ByteArray := prog_5_method_12_code
def yX3_flip : MethodName := ⟨RX3, "flip", "(II)V"⟩
abbrev cX3_chooseFirst : ByteArray := prog_5_method_13_code
def yX3_chooseFirst : MethodName := ⟨RX3, "chooseFirst", "()V"⟩
abbrev cX3_isFree : ByteArray := prog_5_method_14_code
def yX3_isFree : MethodName := ⟨RX3, "isFree", "(II)Z"⟩
abbrev cX3_canDoNext : ByteArray := prog_5_method_15_code
def yX3_canDoNext : MethodName := ⟨RX3, "canDoNext", "(II)Z"⟩
abbrev cX3_reaches : ByteArray := prog_5_method_16_code
def yX3_reaches : MethodName := ⟨RX3, "reaches", "(II)Z"⟩
def RX4 : String := "StormLoft$Fall"
def TX4 : u_T := fun k => match k with
  | 0 => ("StormLoft$Fall", "tick", "[I", true)
  | 1 => ("StormLoft$Fall", "place", "[I", true)
  | 2 => ("StormLoft$Fall", "strong", "[I", true)
  | 3 => ("StormLoft$Fall", "ball", "LStormLoft$Ball;", true)
  | 4 => ("StormLoft$Fall", "knocks", "I", false)
  | 5 => ("StormLoft$Fall", "end", "I", false)
  | 6 => ("StormLoft$Fall", "jumped", "I", false)
  | _ => ("StormLoft$Fall", "fastest", "I", false)
def tyX4 : Nat → FieldType := fun k => match k with
  | 0 => .array .int
  | 1 => .array .int
  | 2 => .array .int
  | 3 => .object "StormLoft$Ball"
  | 4 => .int
  | 5 => .int
  | 6 => .int
  | _ => .int
abbrev wsX40 : List Cond := u_ws RX4 TX4 8
theorem nmX4 : ∀ a, a < 8 → ∀ b, b < 8 → a ≠ b → (TX4 a).2.1 ≠ (TX4 b).2.1 := by decide +kernel
theorem tyX4_ok : ∀ k, k < 8 → parseFieldDescriptor (TX4 k).2.2.1 = some (tyX4 k) := by decide +kernel
abbrev cX4_init : ByteArray := prog_6_method_1_code
def yX4_init : MethodName := ⟨RX4, "<init>", "()V"⟩
abbrev cX4_follow : ByteArray := prog_6_method_2_code
def yX4_follow : MethodName := ⟨RX4, "follow", "(LStormLoft$Path;I)V"⟩
abbrev cX4_hear : ByteArray := prog_6_method_3_code
def yX4_hear : MethodName := ⟨RX4, "hear", "(III)V"⟩
abbrev cX4_answer : ByteArray := prog_6_method_4_code
def yX4_answer : MethodName := ⟨RX4, "answer", "(I)I"⟩
abbrev cX4_knockAt : ByteArray := prog_6_method_5_code
def yX4_knockAt : MethodName := ⟨RX4, "knockAt", "(II)I"⟩
def RX5 : String := "StormLoft$Machines"
def TX5 : u_T := fun k => match k with
  | 0 => ("StormLoft$Machines", "kind", "[I", true)
  | 1 => ("StormLoft$Machines", "x", "[I", true)
  | 2 => ("StormLoft$Machines", "a", "[I", true)
  | 3 => ("StormLoft$Machines", "b", "[I", true)
  | _ => ("StormLoft$Machines", "size", "I", false)
def tyX5 : Nat → FieldType := fun k => match k with
  | 0 => .array .int
  | 1 => .array .int
  | 2 => .array .int
  | 3 => .array .int
  | _ => .int
abbrev wsX50 : List Cond := u_ws RX5 TX5 5
theorem nmX5 : ∀ a, a < 5 → ∀ b, b < 5 → a ≠ b → (TX5 a).2.1 ≠ (TX5 b).2.1 := by decide +kernel
theorem tyX5_ok : ∀ k, k < 5 → parseFieldDescriptor (TX5 k).2.2.1 = some (tyX5 k) := by decide +kernel
abbrev cX5_init : ByteArray := prog_7_method_1_code
def yX5_init : MethodName := ⟨RX5, "<init>", "()V"⟩
abbrev cX5_add : ByteArray := prog_7_method_2_code
def yX5_add : MethodName := ⟨RX5, "add", "(IIII)I"⟩
abbrev cX5_is : ByteArray := prog_7_method_3_code
def yX5_is : MethodName := ⟨RX5, "is", "(I)Z"⟩
abbrev cX5_kindOf : ByteArray := prog_7_method_4_code
def yX5_kindOf : MethodName := ⟨RX5, "kindOf", "(I)I"⟩
abbrev cX5_placeOf : ByteArray := prog_7_method_5_code
def yX5_placeOf : MethodName := ⟨RX5, "placeOf", "(I)I"⟩
abbrev cX5_firstOf : ByteArray := prog_7_method_6_code
def yX5_firstOf : MethodName := ⟨RX5, "firstOf", "(I)I"⟩
abbrev cX5_secondOf : ByteArray := prog_7_method_7_code
def yX5_secondOf : MethodName := ⟨RX5, "secondOf", "(I)I"⟩
abbrev cX5_leastNumber : ByteArray := prog_7_method_8_code
def yX5_leastNumber : MethodName := ⟨RX5, "leastNumber", "(I)I"⟩
abbrev cX5_mostNumber : ByteArray := prog_7_method_9_code
def yX5_mostNumber : MethodName := ⟨RX5, "mostNumber", "(I)I"⟩
abbrev cX5_takes : ByteArray := prog_7_method_10_code
def yX5_takes : MethodName := ⟨RX5, "takes", "(II)I"⟩
abbrev cX5_strength : ByteArray := prog_7_method_11_code
def yX5_strength : MethodName := ⟨RX5, "strength", "(II)I"⟩
abbrev cX5_ballsNeeded : ByteArray := prog_7_method_12_code
def yX5_ballsNeeded : MethodName := ⟨RX5, "ballsNeeded", "(LStormLoft$Plan;II)I"⟩
abbrev cX5_letsGo : ByteArray := prog_7_method_13_code
def yX5_letsGo : MethodName := ⟨RX5, "letsGo", "(LStormLoft$Plan;II)Z"⟩
abbrev cX5_fillingsNeeded : ByteArray := prog_7_method_14_code
def yX5_fillingsNeeded : MethodName := ⟨RX5, "fillingsNeeded", "(LStormLoft$Plan;I)I"⟩
def RX6 : String := "StormLoft$Night"
def TX6 : u_T := fun k => match k with
  | 0 => ("StormLoft$Night", "tick", "[I", true)
  | 1 => ("StormLoft$Night", "source", "[I", true)
  | 2 => ("StormLoft$Night", "strong", "[I", true)
  | 3 => ("StormLoft$Night", "kept", "I", false)
  | 4 => ("StormLoft$Night", "all", "I", false)
  | 5 => ("StormLoft$Night", "loudness", "I", false)
  | 6 => ("StormLoft$Night", "balls", "[LStormLoft$Ball;", true)
  | 7 => ("StormLoft$Night", "letGo", "I", false)
  | 8 => ("StormLoft$Night", "ended", "I", false)
  | 9 => ("StormLoft$Night", "bumps", "I", false)
  | 10 => ("StormLoft$Night", "gates", "[I", true)
  | 11 => ("StormLoft$Night", "now", "I", false)
  | _ => ("StormLoft$Night", "still", "Z", false)
def tyX6 : Nat → FieldType := fun k => match k with
  | 0 => .array .int
  | 1 => .array .int
  | 2 => .array .int
  | 3 => .int
  | 4 => .int
  | 5 => .int
  | 6 => .array (.object "StormLoft$Ball")
  | 7 => .int
  | 8 => .int
  | 9 => .int
  | 10 => .array .int
  | 11 => .int
  | _ => .boolean
abbrev wsX60 : List Cond := u_ws RX6 TX6 13
theorem nmX6 : ∀ a, a < 13 → ∀ b, b < 13 → a ≠ b → (TX6 a).2.1 ≠ (TX6 b).2.1 := by decide +kernel
theorem tyX6_ok : ∀ k, k < 13 → parseFieldDescriptor (TX6 k).2.2.1 = some (tyX6 k) := by decide +kernel
abbrev cX6_init : ByteArray := prog_8_method_1_code
def yX6_init : MethodName := ⟨RX6, "<init>", "()V"⟩
abbrev cX6_goThrough : ByteArray := prog_8_method_2_code
def yX6_goThrough : MethodName := ⟨RX6, "goThrough", "(LStormLoft$Plan;LStormLoft$Machines;[LStormLoft$Path;)V"⟩
abbrev cX6_rollAll : ByteArray := prog_8_method_3_code
def yX6_rollAll : MethodName := ⟨RX6, "rollAll", "([LStormLoft$Path;)V"⟩
abbrev cX6_roll : ByteArray := prog_8_method_4_code
def yX6_roll : MethodName := ⟨RX6, "roll", "(LStormLoft$Ball;LStormLoft$Path;)V"⟩
abbrev cX6_bumpAll : ByteArray := prog_8_method_5_code
def yX6_bumpAll : MethodName := ⟨RX6, "bumpAll", "()V"⟩
abbrev cX6_allAreAlike : ByteArray := prog_8_method_6_code
def yX6_allAreAlike : MethodName := ⟨RX6, "allAreAlike", "()Z"⟩
abbrev cX6_use : ByteArray := prog_8_method_7_code
def yX6_use : MethodName := ⟨RX6, "use", "(IILStormLoft$Machines;)V"⟩
abbrev cX6_hear : ByteArray := prog_8_method_8_code
def yX6_hear : MethodName := ⟨RX6, "hear", "(II)V"⟩
abbrev cX6_soundAt : ByteArray := prog_8_method_9_code
def yX6_soundAt : MethodName := ⟨RX6, "soundAt", "(II)I"⟩
def RX7 : String := "StormLoft$Path"
def TX7 : u_T := fun k => match k with
  | 0 => ("StormLoft$Path", "boards", "[LStormLoft$Board;", true)
  | 1 => ("StormLoft$Path", "straight", "[I", true)
  | 2 => ("StormLoft$Path", "turned", "[I", true)
  | _ => ("StormLoft$Path", "size", "I", false)
def tyX7 : Nat → FieldType := fun k => match k with
  | 0 => .array (.object "StormLoft$Board")
  | 1 => .array .int
  | 2 => .array .int
  | _ => .int
abbrev wsX70 : List Cond := u_ws RX7 TX7 4
theorem nmX7 : ∀ a, a < 4 → ∀ b, b < 4 → a ≠ b → (TX7 a).2.1 ≠ (TX7 b).2.1 := by decide +kernel
theorem tyX7_ok : ∀ k, k < 4 → parseFieldDescriptor (TX7 k).2.2.1 = some (tyX7 k) := by decide +kernel
abbrev cX7_init : ByteArray := prog_9_method_1_code
def yX7_init : MethodName := ⟨RX7, "<init>", "()V"⟩
abbrev cX7_isTold : ByteArray := prog_9_method_2_code
def yX7_isTold : MethodName := ⟨RX7, "isTold", "(LStormLoft$Tape;I)Z"⟩
abbrev cX7_leadsOn : ByteArray := prog_9_method_3_code
def yX7_leadsOn : MethodName := ⟨RX7, "leadsOn", "(III)Z"⟩
abbrev cX7_build : ByteArray := prog_9_method_4_code
def yX7_build : MethodName := ⟨RX7, "build", "(LStormLoft$Tape;[LStormLoft$Board;)V"⟩
abbrev cX7_boardAt : ByteArray := prog_9_method_5_code
def yX7_boardAt : MethodName := ⟨RX7, "boardAt", "(I)LStormLoft$Board;"⟩
abbrev cX7_leadsTo : ByteArray := prog_9_method_6_code
def yX7_leadsTo : MethodName := ⟨RX7, "leadsTo", "(II)I"⟩
abbrev cX7_carryOn : ByteArray := prog_9_method_7_code
def yX7_carryOn : MethodName := ⟨RX7, "carryOn", "(LStormLoft$Ball;I)I"⟩
def RX8 : String := "StormLoft$Plan"
def TX8 : u_T := fun k => match k with
  | 0 => ("StormLoft$Plan", "tick", "[I", true)
  | 1 => ("StormLoft$Plan", "machine", "[I", true)
  | 2 => ("StormLoft$Plan", "number", "[I", true)
  | 3 => ("StormLoft$Plan", "size", "I", false)
  | _ => ("StormLoft$Plan", "over", "Z", false)
def tyX8 : Nat → FieldType := fun k => match k with
  | 0 => .array .int
  | 1 => .array .int
  | 2 => .array .int
  | 3 => .int
  | _ => .boolean
abbrev wsX80 : List Cond := u_ws RX8 TX8 5
theorem nmX8 : ∀ a, a < 5 → ∀ b, b < 5 → a ≠ b → (TX8 a).2.1 ≠ (TX8 b).2.1 := by decide +kernel
theorem tyX8_ok : ∀ k, k < 5 → parseFieldDescriptor (TX8 k).2.2.1 = some (tyX8 k) := by decide +kernel
abbrev cX8_init : ByteArray := prog_10_method_1_code
def yX8_init : MethodName := ⟨RX8, "<init>", "()V"⟩
abbrev cX8_clear : ByteArray := prog_10_method_2_code
def yX8_clear : MethodName := ⟨RX8, "clear", "()V"⟩
abbrev cX8_is : ByteArray := prog_10_method_3_code
def yX8_is : MethodName := ⟨RX8, "is", "(I)Z"⟩
abbrev cX8_tickOf : ByteArray := prog_10_method_4_code
def yX8_tickOf : MethodName := ⟨RX8, "tickOf", "(I)I"⟩
abbrev cX8_machineOf : ByteArray := prog_10_method_5_code
def yX8_machineOf : MethodName := ⟨RX8, "machineOf", "(I)I"⟩
abbrev cX8_numberOf : ByteArray := prog_10_method_6_code
def yX8_numberOf : MethodName := ⟨RX8, "numberOf", "(I)I"⟩
abbrev cX8_add : ByteArray := prog_10_method_7_code
def yX8_add : MethodName := ⟨RX8, "add", "(III)V"⟩
abbrev cX8_addAll : ByteArray := prog_10_method_8_code
def yX8_addAll : MethodName := ⟨RX8, "addAll", "(LStormLoft$Plan;I)V"⟩
abbrev cX8_repeat : ByteArray := prog_10_method_9_code
def yX8_repeat : MethodName := ⟨RX8, "repeat", "(III)V"⟩
abbrev cX8_lastTick : ByteArray := prog_10_method_10_code
def yX8_lastTick : MethodName := ⟨RX8, "lastTick", "()I"⟩
abbrev cX8_becomes : ByteArray := prog_10_method_11_code
def yX8_becomes : MethodName := ⟨RX8, "becomes", "(LStormLoft$Plan;)V"⟩
abbrev cX8_sink : ByteArray := prog_10_method_12_code
def yX8_sink : MethodName := ⟨RX8, "sink", "(I)V"⟩
abbrev cX8_swap : ByteArray := prog_10_method_13_code
def yX8_swap : MethodName := ⟨RX8, "swap", "([II)V"⟩
def RX9 : String := "StormLoft$Reader"
def TX9 : u_T := fun k => match k with
  | 0 => ("StormLoft$Reader", "top", "LStormLoft$Plan;", true)
  | 1 => ("StormLoft$Reader", "storms", "[LStormLoft$Plan;", true)
  | 2 => ("StormLoft$Reader", "nameStart", "[I", true)
  | 3 => ("StormLoft$Reader", "nameStop", "[I", true)
  | 4 => ("StormLoft$Reader", "stormCount", "I", false)
  | 5 => ("StormLoft$Reader", "current", "LStormLoft$Plan;", false)
  | 6 => ("StormLoft$Reader", "timesFrom", "[I", true)
  | 7 => ("StormLoft$Reader", "timesMany", "[I", true)
  | 8 => ("StormLoft$Reader", "timesEvery", "[I", true)
  | 9 => ("StormLoft$Reader", "open", "I", false)
  | 10 => ("StormLoft$Reader", "faultKind", "I", false)
  | _ => ("StormLoft$Reader", "faultPlace", "I", false)
def tyX9 : Nat → FieldType := fun k => match k with
  | 0 => .object "StormLoft$Plan"
  | 1 => .array (.object "StormLoft$Plan")
  | 2 => .array .int
  | 3 => .array .int
  | 4 => .int
  | 5 => .object "StormLoft$Plan"
  | 6 => .array .int
  | 7 => .array .int
  | 8 => .array .int
  | 9 => .int
  | 10 => .int
  | _ => .int
abbrev wsX90 : List Cond := u_ws RX9 TX9 12
theorem nmX9 : ∀ a, a < 12 → ∀ b, b < 12 → a ≠ b → (TX9 a).2.1 ≠ (TX9 b).2.1 := by decide +kernel
theorem tyX9_ok : ∀ k, k < 12 → parseFieldDescriptor (TX9 k).2.2.1 = some (tyX9 k) := by decide +kernel
abbrev cX9_init : ByteArray := prog_11_method_1_code
def yX9_init : MethodName := ⟨RX9, "<init>", "()V"⟩
abbrev cX9_understands : ByteArray := prog_11_method_2_code
def yX9_understands : MethodName := ⟨RX9, "understands", "(LStormLoft$Tape;LStormLoft$Machines;)Z"⟩
abbrev cX9_begin : ByteArray := prog_11_method_3_code
def yX9_begin : MethodName := ⟨RX9, "begin", "(LStormLoft$Tape;)V"⟩
abbrev cX9_fail : ByteArray := prog_11_method_4_code
def yX9_fail : MethodName := ⟨RX9, "fail", "(II)V"⟩
abbrev cX9_readUse : ByteArray := prog_11_method_5_code
def yX9_readUse : MethodName := ⟨RX9, "readUse", "(LStormLoft$Tape;LStormLoft$Machines;)V"⟩
abbrev cX9_readTimes : ByteArray := prog_11_method_6_code
def yX9_readTimes : MethodName := ⟨RX9, "readTimes", "(LStormLoft$Tape;)V"⟩
abbrev cX9_readPlay : ByteArray := prog_11_method_7_code
def yX9_readPlay : MethodName := ⟨RX9, "readPlay", "(LStormLoft$Tape;)V"⟩
abbrev cX9_readStorm : ByteArray := prog_11_method_8_code
def yX9_readStorm : MethodName := ⟨RX9, "readStorm", "(LStormLoft$Tape;)V"⟩
abbrev cX9_close : ByteArray := prog_11_method_9_code
def yX9_close : MethodName := ⟨RX9, "close", "(LStormLoft$Tape;)V"⟩
abbrev cX9_stormAt : ByteArray := prog_11_method_10_code
def yX9_stormAt : MethodName := ⟨RX9, "stormAt", "(I)LStormLoft$Plan;"⟩
abbrev cX9_findStorm : ByteArray := prog_11_method_11_code
def yX9_findStorm : MethodName := ⟨RX9, "findStorm", "(LStormLoft$Tape;)I"⟩
abbrev cX9_isName : ByteArray := prog_11_method_12_code
def yX9_isName : MethodName := ⟨RX9, "isName", "(LStormLoft$Tape;)Z"⟩
abbrev cX9_readWord : ByteArray := prog_11_method_13_code
def yX9_readWord : MethodName := ⟨RX9, "readWord", "(LStormLoft$Tape;Ljava/lang/String;)V"⟩
abbrev cX9_readSemicolon : ByteArray := prog_11_method_14_code
def yX9_readSemicolon : MethodName := ⟨RX9, "readSemicolon", "(LStormLoft$Tape;)V"⟩
abbrev cX9_readNumber : ByteArray := prog_11_method_15_code
def yX9_readNumber : MethodName := ⟨RX9, "readNumber", "(LStormLoft$Tape;II)I"⟩
def RX10 : String := "StormLoft$Tape"
def TX10 : u_T := fun k => match k with
  | 0 => ("StormLoft$Tape", "bytes", "[I", true)
  | 1 => ("StormLoft$Tape", "size", "I", false)
  | 2 => ("StormLoft$Tape", "ticks", "[I", true)
  | 3 => ("StormLoft$Tape", "tickCount", "I", false)
  | 4 => ("StormLoft$Tape", "at", "I", false)
  | 5 => ("StormLoft$Tape", "kind", "I", false)
  | 6 => ("StormLoft$Tape", "start", "I", false)
  | 7 => ("StormLoft$Tape", "stop", "I", false)
  | _ => ("StormLoft$Tape", "value", "I", false)
def tyX10 : Nat → FieldType := fun k => match k with
  | 0 => .array .int
  | 1 => .int
  | 2 => .array .int
  | 3 => .int
  | 4 => .int
  | 5 => .int
  | 6 => .int
  | 7 => .int
  | _ => .int
abbrev wsX100 : List Cond := u_ws RX10 TX10 9
theorem nmX10 : ∀ a, a < 9 → ∀ b, b < 9 → a ≠ b → (TX10 a).2.1 ≠ (TX10 b).2.1 := by decide +kernel
theorem tyX10_ok : ∀ k, k < 9 → parseFieldDescriptor (TX10 k).2.2.1 = some (tyX10 k) := by decide +kernel
abbrev cX10_init : ByteArray := prog_12_method_1_code
def yX10_init : MethodName := ⟨RX10, "<init>", "()V"⟩
abbrev cX10_take : ByteArray := prog_12_method_2_code
def yX10_take : MethodName := ⟨RX10, "take", "(IIIII)I"⟩
abbrev cX10_put : ByteArray := prog_12_method_3_code
def yX10_put : MethodName := ⟨RX10, "put", "(I)V"⟩
abbrev cX10_cut : ByteArray := prog_12_method_4_code
def yX10_cut : MethodName := ⟨RX10, "cut", "(I)Z"⟩
abbrev cX10_clear : ByteArray := prog_12_method_5_code
def yX10_clear : MethodName := ⟨RX10, "clear", "()V"⟩
abbrev cX10_byteAt : ByteArray := prog_12_method_6_code
def yX10_byteAt : MethodName := ⟨RX10, "byteAt", "(I)I"⟩
abbrev cX10_readTicks : ByteArray := prog_12_method_7_code
def yX10_readTicks : MethodName := ⟨RX10, "readTicks", "()Z"⟩
abbrev cX10_tickAt : ByteArray := prog_12_method_8_code
def yX10_tickAt : MethodName := ⟨RX10, "tickAt", "(I)I"⟩
abbrev cX10_rewind : ByteArray := prog_12_method_9_code
def yX10_rewind : MethodName := ⟨RX10, "rewind", "()V"⟩
abbrev cX10_nextToken : ByteArray := prog_12_method_10_code
def yX10_nextToken : MethodName := ⟨RX10, "nextToken", "()V"⟩
abbrev cX10_readLettersAndDigits : ByteArray := prog_12_method_11_code
def yX10_readLettersAndDigits : MethodName := ⟨RX10, "readLettersAndDigits", "()V"⟩
abbrev cX10_isBlank : ByteArray := prog_12_method_12_code
def yX10_isBlank : MethodName := ⟨RX10, "isBlank", "(I)Z"⟩
abbrev cX10_isLetter : ByteArray := prog_12_method_13_code
def yX10_isLetter : MethodName := ⟨RX10, "isLetter", "(I)Z"⟩
abbrev cX10_isDigit : ByteArray := prog_12_method_14_code
def yX10_isDigit : MethodName := ⟨RX10, "isDigit", "(I)Z"⟩
abbrev cX10_isWord : ByteArray := prog_12_method_15_code
def yX10_isWord : MethodName := ⟨RX10, "isWord", "(Ljava/lang/String;)Z"⟩
abbrev cX10_isWordAt : ByteArray := prog_12_method_16_code
def yX10_isWordAt : MethodName := ⟨RX10, "isWordAt", "(II)Z"⟩
def RX11 : String := "StormLoft"
def TX11 : u_T := fun k => match k with
  | 0 => ("StormLoft", "tape", "LStormLoft$Tape;", true)
  | 1 => ("StormLoft", "stock", "[LStormLoft$Board;", true)
  | 2 => ("StormLoft", "runs", "[LStormLoft$Path;", true)
  | 3 => ("StormLoft", "machines", "LStormLoft$Machines;", true)
  | 4 => ("StormLoft", "crew", "LStormLoft$Crew;", true)
  | 5 => ("StormLoft", "reader", "LStormLoft$Reader;", true)
  | 6 => ("StormLoft", "plan", "LStormLoft$Plan;", true)
  | 7 => ("StormLoft", "heardFall", "LStormLoft$Fall;", true)
  | 8 => ("StormLoft", "triedFall", "LStormLoft$Fall;", true)
  | 9 => ("StormLoft", "playing", "LStormLoft$Night;", true)
  | 10 => ("StormLoft", "carpenter", "LStormLoft$Carpenter;", true)
  | _ => ("StormLoft", "boards", "I", false)
def tyX11 : Nat → FieldType := fun k => match k with
  | 0 => .object "StormLoft$Tape"
  | 1 => .array (.object "StormLoft$Board")
  | 2 => .array (.object "StormLoft$Path")
  | 3 => .object "StormLoft$Machines"
  | 4 => .object "StormLoft$Crew"
  | 5 => .object "StormLoft$Reader"
  | 6 => .object "StormLoft$Plan"
  | 7 => .object "StormLoft$Fall"
  | 8 => .object "StormLoft$Fall"
  | 9 => .object "StormLoft$Night"
  | 10 => .object "StormLoft$Carpenter"
  | _ => .int
abbrev wsX110 : List Cond := u_ws RX11 TX11 12
theorem nmX11 : ∀ a, a < 12 → ∀ b, b < 12 → a ≠ b → (TX11 a).2.1 ≠ (TX11 b).2.1 := by decide +kernel
theorem tyX11_ok : ∀ k, k < 12 → parseFieldDescriptor (TX11 k).2.2.1 = some (tyX11 k) := by decide +kernel
abbrev cX11_init : ByteArray := prog_1_method_1_code
def yX11_init : MethodName := ⟨RX11, "<init>", "()V"⟩
abbrev cX11_feed : ByteArray := prog_1_method_2_code
def yX11_feed : MethodName := ⟨RX11, "feed", "(IIIII)I"⟩
abbrev cX11_end : ByteArray := prog_1_method_3_code
def yX11_end : MethodName := ⟨RX11, "end", "(I)Z"⟩
abbrev cX11_board : ByteArray := prog_1_method_4_code
def yX11_board : MethodName := ⟨RX11, "board", "(IIIII)I"⟩
abbrev cX11_run : ByteArray := prog_1_method_5_code
def yX11_run : MethodName := ⟨RX11, "run", "(I)I"⟩
abbrev cX11_fall : ByteArray := prog_1_method_6_code
def yX11_fall : MethodName := ⟨RX11, "fall", "(III)I"⟩
abbrev cX11_knock : ByteArray := prog_1_method_7_code
def yX11_knock : MethodName := ⟨RX11, "knock", "(II)I"⟩
abbrev cX11_machine : ByteArray := prog_1_method_8_code
def yX11_machine : MethodName := ⟨RX11, "machine", "(IIII)I"⟩
abbrev cX11_man : ByteArray := prog_1_method_9_code
def yX11_man : MethodName := ⟨RX11, "man", "(I)I"⟩
abbrev cX11_score : ByteArray := prog_1_method_10_code
def yX11_score : MethodName := ⟨RX11, "score", "()I"⟩
abbrev cX11_fault : ByteArray := prog_1_method_11_code
def yX11_fault : MethodName := ⟨RX11, "fault", "()I"⟩
abbrev cX11_event : ByteArray := prog_1_method_12_code
def yX11_event : MethodName := ⟨RX11, "event", "(II)I"⟩
abbrev cX11_night : ByteArray := prog_1_method_13_code
def yX11_night : MethodName := ⟨RX11, "night", "()I"⟩
abbrev cX11_sound : ByteArray := prog_1_method_14_code
def yX11_sound : MethodName := ⟨RX11, "sound", "(II)I"⟩
abbrev cX11_told : ByteArray := prog_1_method_15_code
def yX11_told : MethodName := ⟨RX11, "told", "(I)I"⟩
abbrev cX11_made : ByteArray := prog_1_method_16_code
def yX11_made : MethodName := ⟨RX11, "made", "()I"⟩
abbrev cX11_who : ByteArray := prog_1_method_17_code
def yX11_who : MethodName := ⟨RX11, "who", "(I)I"⟩
abbrev cX11_balls : ByteArray := prog_1_method_18_code
def yX11_balls : MethodName := ⟨RX11, "balls", "(II)I"⟩
abbrev cX11_fillings : ByteArray := prog_1_method_19_code
def yX11_fillings : MethodName := ⟨RX11, "fillings", "(I)I"⟩
abbrev cX11_lay : ByteArray := prog_1_method_20_code
def yX11_lay : MethodName := ⟨RX11, "lay", "(I)I"⟩
abbrev cX11_laid : ByteArray := prog_1_method_21_code
def yX11_laid : MethodName := ⟨RX11, "laid", "(I)I"⟩
abbrev cX11_worn : ByteArray := prog_1_method_22_code
def yX11_worn : MethodName := ⟨RX11, "worn", "(I)I"⟩
abbrev cX11_count : ByteArray := prog_1_method_23_code
def yX11_count : MethodName := ⟨RX11, "count", "(I)I"⟩
abbrev cX11_within : ByteArray := prog_1_method_24_code
def yX11_within : MethodName := ⟨RX11, "within", "(III)Z"⟩
abbrev cX11_pathOf : ByteArray := prog_1_method_25_code
def yX11_pathOf : MethodName := ⟨RX11, "pathOf", "(I)LStormLoft$Path;"⟩
abbrev cX11_runsThatAre : ByteArray := prog_1_method_26_code
def yX11_runsThatAre : MethodName := ⟨RX11, "runsThatAre", "()I"⟩
abbrev cX11_canStand : ByteArray := prog_1_method_27_code
def yX11_canStand : MethodName := ⟨RX11, "canStand", "(III)Z"⟩
def RX12 : String := "StormLoftModel"
def TX12 : u_T := fun k => match k with
  | 0 => ("StormLoftModel", "thrown", "I", false)
  | 1 => ("StormLoftModel", "tape", "[I", true)
  | 2 => ("StormLoftModel", "taped", "I", false)
  | 3 => ("StormLoftModel", "length", "[I", true)
  | 4 => ("StormLoftModel", "slope", "[I", true)
  | 5 => ("StormLoftModel", "rough", "[I", true)
  | 6 => ("StormLoftModel", "drop", "[I", true)
  | 7 => ("StormLoftModel", "turn", "[I", true)
  | 8 => ("StormLoftModel", "placesOf", "[I", true)
  | 9 => ("StormLoftModel", "boardAt", "[I", true)
  | 10 => ("StormLoftModel", "onward", "[I", true)
  | 11 => ("StormLoftModel", "aside", "[I", true)
  | 12 => ("StormLoftModel", "less", "[I", true)
  | 13 => ("StormLoftModel", "boards", "I", false)
  | 14 => ("StormLoftModel", "place", "I", false)
  | 15 => ("StormLoftModel", "part", "I", false)
  | 16 => ("StormLoftModel", "speed", "I", false)
  | 17 => ("StormLoftModel", "strength", "I", false)
  | 18 => ("StormLoftModel", "jumped", "I", false)
  | 19 => ("StormLoftModel", "knockTick", "[I", true)
  | 20 => ("StormLoftModel", "knockPlace", "[I", true)
  | 21 => ("StormLoftModel", "knockStrength", "[I", true)
  | 22 => ("StormLoftModel", "toldTick", "[I", true)
  | 23 => ("StormLoftModel", "toldPlace", "[I", true)
  | 24 => ("StormLoftModel", "toldStrength", "[I", true)
  | 25 => ("StormLoftModel", "knocks", "I", false)
  | 26 => ("StormLoftModel", "ends", "I", false)
  | 27 => ("StormLoftModel", "fastest", "I", false)
  | 28 => ("StormLoftModel", "toldKnocks", "I", false)
  | 29 => ("StormLoftModel", "kindOf", "[I", true)
  | 30 => ("StormLoftModel", "stands", "[I", true)
  | 31 => ("StormLoftModel", "first", "[I", true)
  | 32 => ("StormLoftModel", "second", "[I", true)
  | 33 => ("StormLoftModel", "home", "[I", true)
  | 34 => ("StormLoftModel", "machines", "I", false)
  | 35 => ("StormLoftModel", "men", "I", false)
  | 36 => ("StormLoftModel", "size", "I", false)
  | 37 => ("StormLoftModel", "to", "I", false)
  | 38 => ("StormLoftModel", "from", "I", false)
  | 39 => ("StormLoftModel", "kind", "I", false)
  | 40 => ("StormLoftModel", "number", "I", false)
  | 41 => ("StormLoftModel", "fault", "I", false)
  | 42 => ("StormLoftModel", "faultAt", "I", false)
  | 43 => ("StormLoftModel", "word", "J", false)
  | 44 => ("StormLoftModel", "many", "[I", true)
  | 45 => ("StormLoftModel", "listTick", "[I", true)
  | 46 => ("StormLoftModel", "listMachine", "[I", true)
  | 47 => ("StormLoftModel", "listNumber", "[I", true)
  | 48 => ("StormLoftModel", "tooMuch", "[Z", true)
  | 49 => ("StormLoftModel", "stormName", "[J", true)
  | 50 => ("StormLoftModel", "times", "[I", true)
  | 51 => ("StormLoftModel", "every", "[I", true)
  | 52 => ("StormLoftModel", "open", "I", false)
  | 53 => ("StormLoftModel", "storms", "I", false)
  | 54 => ("StormLoftModel", "deep", "I", false)
  | 55 => ("StormLoftModel", "inStorm", "Z", false)
  | 56 => ("StormLoftModel", "tickOf", "[I", true)
  | 57 => ("StormLoftModel", "machineOf", "[I", true)
  | 58 => ("StormLoftModel", "numberOf", "[I", true)
  | 59 => ("StormLoftModel", "doneBy", "[I", true)
  | 60 => ("StormLoftModel", "events", "I", false)
  | 61 => ("StormLoftModel", "isMade", "Z", false)
  | 62 => ("StormLoftModel", "soundTick", "[I", true)
  | 63 => ("StormLoftModel", "soundFrom", "[I", true)
  | 64 => ("StormLoftModel", "soundStrength", "[I", true)
  | 65 => ("StormLoftModel", "ballRun", "[I", true)
  | 66 => ("StormLoftModel", "ballPlace", "[I", true)
  | 67 => ("StormLoftModel", "ballPart", "[I", true)
  | 68 => ("StormLoftModel", "ballSpeed", "[I", true)
  | 69 => ("StormLoftModel", "wasPlace", "[I", true)
  | 70 => ("StormLoftModel", "wasPart", "[I", true)
  | 71 => ("StormLoftModel", "gatesOf", "[I", true)
  | 72 => ("StormLoftModel", "kept", "I", false)
  | 73 => ("StormLoftModel", "balls", "I", false)
  | 74 => ("StormLoftModel", "ended", "I", false)
  | 75 => ("StormLoftModel", "bumps", "I", false)
  | 76 => ("StormLoftModel", "sounds", "I", false)
  | 77 => ("StormLoftModel", "together", "I", false)
  | 78 => ("StormLoftModel", "worths", "[I", true)
  | 79 => ("StormLoftModel", "offset", "[I", true)
  | 80 => ("StormLoftModel", "set", "[I", true)
  | 81 => ("StormLoftModel", "lastOf", "[I", true)
  | 82 => ("StormLoftModel", "binomial", "[I", true)
  | 83 => ("StormLoftModel", "full", "[I", true)
  | 84 => ("StormLoftModel", "turned", "[I", true)
  | 85 => ("StormLoftModel", "wished", "[I", true)
  | 86 => ("StormLoftModel", "laid", "[I", true)
  | 87 => ("StormLoftModel", "wishes", "I", false)
  | _ => ("StormLoftModel", "laidMany", "I", false)
def tyX12 : Nat → FieldType := fun k => match k with
  | 0 => .int
  | 1 => .array .int
  | 2 => .int
  | 3 => .array .int
  | 4 => .array .int
  | 5 => .array .int
  | 6 => .array .int
  | 7 => .array .int
  | 8 => .array .int
  | 9 => .array .int
  | 10 => .array .int
  | 11 => .array .int
  | 12 => .array .int
  | 13 => .int
  | 14 => .int
  | 15 => .int
  | 16 => .int
  | 17 => .int
  | 18 => .int
  | 19 => .array .int
  | 20 => .array .int
  | 21 => .array .int
  | 22 => .array .int
  | 23 => .array .int
  | 24 => .array .int
  | 25 => .int
  | 26 => .int
  | 27 => .int
  | 28 => .int
  | 29 => .array .int
  | 30 => .array .int
  | 31 => .array .int
  | 32 => .array .int
  | 33 => .array .int
  | 34 => .int
  | 35 => .int
  | 36 => .int
  | 37 => .int
  | 38 => .int
  | 39 => .int
  | 40 => .int
  | 41 => .int
  | 42 => .int
  | 43 => .long
  | 44 => .array .int
  | 45 => .array .int
  | 46 => .array .int
  | 47 => .array .int
  | 48 => .array .boolean
  | 49 => .array .long
  | 50 => .array .int
  | 51 => .array .int
  | 52 => .int
  | 53 => .int
  | 54 => .int
  | 55 => .boolean
  | 56 => .array .int
  | 57 => .array .int
  | 58 => .array .int
  | 59 => .array .int
  | 60 => .int
  | 61 => .boolean
  | 62 => .array .int
  | 63 => .array .int
  | 64 => .array .int
  | 65 => .array .int
  | 66 => .array .int
  | 67 => .array .int
  | 68 => .array .int
  | 69 => .array .int
  | 70 => .array .int
  | 71 => .array .int
  | 72 => .int
  | 73 => .int
  | 74 => .int
  | 75 => .int
  | 76 => .int
  | 77 => .int
  | 78 => .array .int
  | 79 => .array .int
  | 80 => .array .int
  | 81 => .array .int
  | 82 => .array .int
  | 83 => .array .int
  | 84 => .array .int
  | 85 => .array .int
  | 86 => .array .int
  | 87 => .int
  | _ => .int
abbrev wsX120 : List Cond := u_ws RX12 TX12 89
theorem nmX12 : ∀ a, a < 89 → ∀ b, b < 89 → a ≠ b → (TX12 a).2.1 ≠ (TX12 b).2.1 := by decide +kernel
theorem tyX12_ok : ∀ k, k < 89 → parseFieldDescriptor (TX12 k).2.2.1 = some (tyX12 k) := by decide +kernel
abbrev cX12_init : ByteArray := prog_14_method_1_code
def yX12_init : MethodName := ⟨RX12, "<init>", "()V"⟩
abbrev cX12_thrown : ByteArray := prog_14_method_2_code
def yX12_thrown : MethodName := ⟨RX12, "thrown", "()I"⟩
abbrev cX12_refuse : ByteArray := prog_14_method_3_code
def yX12_refuse : MethodName := ⟨RX12, "refuse", "()I"⟩
abbrev cX12_come : ByteArray := prog_14_method_4_code
def yX12_come : MethodName := ⟨RX12, "come", "(I)V"⟩
abbrev cX12_feed : ByteArray := prog_14_method_5_code
def yX12_feed : MethodName := ⟨RX12, "feed", "(IIIII)I"⟩
abbrev cX12_end : ByteArray := prog_14_method_6_code
def yX12_end : MethodName := ⟨RX12, "end", "(I)Z"⟩
abbrev cX12_isIn : ByteArray := prog_14_method_7_code
def yX12_isIn : MethodName := ⟨RX12, "isIn", "(III)Z"⟩
abbrev cX12_board : ByteArray := prog_14_method_8_code
def yX12_board : MethodName := ⟨RX12, "board", "(IIIII)I"⟩
abbrev cX12_isSlot : ByteArray := prog_14_method_9_code
def yX12_isSlot : MethodName := ⟨RX12, "isSlot", "(I)Z"⟩
abbrev cX12_isRun : ByteArray := prog_14_method_10_code
def yX12_isRun : MethodName := ⟨RX12, "isRun", "(I)Z"⟩
abbrev cX12_run : ByteArray := prog_14_method_11_code
def yX12_run : MethodName := ⟨RX12, "run", "(I)I"⟩
abbrev cX12_lengthAt : ByteArray := prog_14_method_12_code
def yX12_lengthAt : MethodName := ⟨RX12, "lengthAt", "(II)I"⟩
abbrev cX12_nextOf : ByteArray := prog_14_method_13_code
def yX12_nextOf : MethodName := ⟨RX12, "nextOf", "(III)I"⟩
abbrev cX12_step : ByteArray := prog_14_method_14_code
def yX12_step : MethodName := ⟨RX12, "step", "(II)V"⟩
abbrev cX12_follow : ByteArray := prog_14_method_15_code
def yX12_follow : MethodName := ⟨RX12, "follow", "(II)V"⟩
abbrev cX12_fall : ByteArray := prog_14_method_16_code
def yX12_fall : MethodName := ⟨RX12, "fall", "(III)I"⟩
abbrev cX12_knock : ByteArray := prog_14_method_17_code
def yX12_knock : MethodName := ⟨RX12, "knock", "(II)I"⟩
abbrev cX12_machine : ByteArray := prog_14_method_18_code
def yX12_machine : MethodName := ⟨RX12, "machine", "(IIII)I"⟩
abbrev cX12_man : ByteArray := prog_14_method_19_code
def yX12_man : MethodName := ⟨RX12, "man", "(I)I"⟩
abbrev cX12_byteAt : ByteArray := prog_14_method_20_code
def yX12_byteAt : MethodName := ⟨RX12, "byteAt", "(I)I"⟩
abbrev cX12_isDigit : ByteArray := prog_14_method_21_code
def yX12_isDigit : MethodName := ⟨RX12, "isDigit", "(I)Z"⟩
abbrev cX12_isLetter : ByteArray := prog_14_method_22_code
def yX12_isLetter : MethodName := ⟨RX12, "isLetter", "(I)Z"⟩
abbrev cX12_go : ByteArray := prog_14_method_23_code
def yX12_go : MethodName := ⟨RX12, "go", "()V"⟩
abbrev cX12_spelt : ByteArray := prog_14_method_24_code
def yX12_spelt : MethodName := ⟨RX12, "spelt", "(IIIII)J"⟩
abbrev cX12_isKey : ByteArray := prog_14_method_25_code
def yX12_isKey : MethodName := ⟨RX12, "isKey", "(J)Z"⟩
abbrev cX12_isAt : ByteArray := prog_14_method_26_code
def yX12_isAt : MethodName := ⟨RX12, "isAt", "()Z"⟩
abbrev cX12_isUse : ByteArray := prog_14_method_27_code
def yX12_isUse : MethodName := ⟨RX12, "isUse", "()Z"⟩
abbrev cX12_isWith : ByteArray := prog_14_method_28_code
def yX12_isWith : MethodName := ⟨RX12, "isWith", "()Z"⟩
abbrev cX12_isEnd : ByteArray := prog_14_method_29_code
def yX12_isEnd : MethodName := ⟨RX12, "isEnd", "()Z"⟩
abbrev cX12_isStorm : ByteArray := prog_14_method_30_code
def yX12_isStorm : MethodName := ⟨RX12, "isStorm", "()Z"⟩
abbrev cX12_isTimes : ByteArray := prog_14_method_31_code
def yX12_isTimes : MethodName := ⟨RX12, "isTimes", "()Z"⟩
abbrev cX12_isEvery : ByteArray := prog_14_method_32_code
def yX12_isEvery : MethodName := ⟨RX12, "isEvery", "()Z"⟩
abbrev cX12_isPlay : ByteArray := prog_14_method_33_code
def yX12_isPlay : MethodName := ⟨RX12, "isPlay", "()Z"⟩
abbrev cX12_isName : ByteArray := prog_14_method_34_code
def yX12_isName : MethodName := ⟨RX12, "isName", "()Z"⟩
abbrev cX12_bad : ByteArray := prog_14_method_35_code
def yX12_bad : MethodName := ⟨RX12, "bad", "(I)Z"⟩
abbrev cX12_readNumber : ByteArray := prog_14_method_36_code
def yX12_readNumber : MethodName := ⟨RX12, "readNumber", "(II)Z"⟩
abbrev cX12_readEnd : ByteArray := prog_14_method_37_code
def yX12_readEnd : MethodName := ⟨RX12, "readEnd", "()Z"⟩
abbrev cX12_clear : ByteArray := prog_14_method_38_code
def yX12_clear : MethodName := ⟨RX12, "clear", "(I)V"⟩
abbrev cX12_put : ByteArray := prog_14_method_39_code
def yX12_put : MethodName := ⟨RX12, "put", "(IIII)V"⟩
abbrev cX12_pour : ByteArray := prog_14_method_40_code
def yX12_pour : MethodName := ⟨RX12, "pour", "(III)V"⟩
abbrev cX12_readUse : ByteArray := prog_14_method_41_code
def yX12_readUse : MethodName := ⟨RX12, "readUse", "(I)Z"⟩
abbrev cX12_stormOf : ByteArray := prog_14_method_42_code
def yX12_stormOf : MethodName := ⟨RX12, "stormOf", "(J)I"⟩
abbrev cX12_readPlay : ByteArray := prog_14_method_43_code
def yX12_readPlay : MethodName := ⟨RX12, "readPlay", "()Z"⟩
abbrev cX12_readTimes : ByteArray := prog_14_method_44_code
def yX12_readTimes : MethodName := ⟨RX12, "readTimes", "()Z"⟩
abbrev cX12_endTimes : ByteArray := prog_14_method_45_code
def yX12_endTimes : MethodName := ⟨RX12, "endTimes", "()V"⟩
abbrev cX12_readStorm : ByteArray := prog_14_method_46_code
def yX12_readStorm : MethodName := ⟨RX12, "readStorm", "()Z"⟩
abbrev cX12_readPiece : ByteArray := prog_14_method_47_code
def yX12_readPiece : MethodName := ⟨RX12, "readPiece", "()Z"⟩
abbrev cX12_score : ByteArray := prog_14_method_48_code
def yX12_score : MethodName := ⟨RX12, "score", "()I"⟩
abbrev cX12_fault : ByteArray := prog_14_method_49_code
def yX12_fault : MethodName := ⟨RX12, "fault", "()I"⟩
abbrev cX12_takes : ByteArray := prog_14_method_50_code
def yX12_takes : MethodName := ⟨RX12, "takes", "(I)I"⟩
abbrev cX12_worth : ByteArray := prog_14_method_51_code
def yX12_worth : MethodName := ⟨RX12, "worth", "(I)I"⟩
abbrev cX12_event : ByteArray := prog_14_method_52_code
def yX12_event : MethodName := ⟨RX12, "event", "(II)I"⟩
abbrev cX12_hear : ByteArray := prog_14_method_53_code
def yX12_hear : MethodName := ⟨RX12, "hear", "(III)V"⟩
abbrev cX12_rollAll : ByteArray := prog_14_method_54_code
def yX12_rollAll : MethodName := ⟨RX12, "rollAll", "(I)V"⟩
abbrev cX12_use : ByteArray := prog_14_method_55_code
def yX12_use : MethodName := ⟨RX12, "use", "(I)V"⟩
abbrev cX12_night : ByteArray := prog_14_method_56_code
def yX12_night : MethodName := ⟨RX12, "night", "()I"⟩
abbrev cX12_sound : ByteArray := prog_14_method_57_code
def yX12_sound : MethodName := ⟨RX12, "sound", "(II)I"⟩
abbrev cX12_told : ByteArray := prog_14_method_58_code
def yX12_told : MethodName := ⟨RX12, "told", "(I)I"⟩
abbrev cX12_choose : ByteArray := prog_14_method_59_code
def yX12_choose : MethodName := ⟨RX12, "choose", "(II)I"⟩
abbrev cX12_prepare : ByteArray := prog_14_method_60_code
def yX12_prepare : MethodName := ⟨RX12, "prepare", "()V"⟩
abbrev cX12_bitsOf : ByteArray := prog_14_method_61_code
def yX12_bitsOf : MethodName := ⟨RX12, "bitsOf", "(I)I"⟩
abbrev cX12_far : ByteArray := prog_14_method_62_code
def yX12_far : MethodName := ⟨RX12, "far", "(II)I"⟩
abbrev cX12_standOf : ByteArray := prog_14_method_63_code
def yX12_standOf : MethodName := ⟨RX12, "standOf", "(I)I"⟩
abbrev cX12_mayFollow : ByteArray := prog_14_method_64_code
def yX12_mayFollow : MethodName := ⟨RX12, "mayFollow", "(II)Z"⟩
abbrev cX12_mayBegin : ByteArray := prog_14_method_65_code
def yX12_mayBegin : MethodName := ⟨RX12, "mayBegin", "(II)Z"⟩
abbrev cX12_cellOf : ByteArray := prog_14_method_66_code
def yX12_cellOf : MethodName := ⟨RX12, "cellOf", "(IIIII)I"⟩
abbrev cX12_workOut : ByteArray := prog_14_method_67_code
def yX12_workOut : MethodName := ⟨RX12, "workOut", "(III)V"⟩
abbrev cX12_goesOn : ByteArray := prog_14_method_68_code
def yX12_goesOn : MethodName := ⟨RX12, "goesOn", "(II)Z"⟩
abbrev cX12_fillTable : ByteArray := prog_14_method_69_code
def yX12_fillTable : MethodName := ⟨RX12, "fillTable", "()V"⟩
abbrev cX12_cellByMen : ByteArray := prog_14_method_70_code
def yX12_cellByMen : MethodName := ⟨RX12, "cellByMen", "(I)I"⟩
abbrev cX12_made : ByteArray := prog_14_method_71_code
def yX12_made : MethodName := ⟨RX12, "made", "()I"⟩
abbrev cX12_who : ByteArray := prog_14_method_72_code
def yX12_who : MethodName := ⟨RX12, "who", "(I)I"⟩
abbrev cX12_balls : ByteArray := prog_14_method_73_code
def yX12_balls : MethodName := ⟨RX12, "balls", "(II)I"⟩
abbrev cX12_isLetGo : ByteArray := prog_14_method_74_code
def yX12_isLetGo : MethodName := ⟨RX12, "isLetGo", "(II)Z"⟩
abbrev cX12_fillings : ByteArray := prog_14_method_75_code
def yX12_fillings : MethodName := ⟨RX12, "fillings", "(I)I"⟩
abbrev cX12_takeTicks : ByteArray := prog_14_method_76_code
def yX12_takeTicks : MethodName := ⟨RX12, "takeTicks", "()Z"⟩
abbrev cX12_err : ByteArray := prog_14_method_77_code
def yX12_err : MethodName := ⟨RX12, "err", "()I"⟩
abbrev cX12_lay : ByteArray := prog_14_method_78_code
def yX12_lay : MethodName := ⟨RX12, "lay", "(I)I"⟩
abbrev cX12_laid : ByteArray := prog_14_method_79_code
def yX12_laid : MethodName := ⟨RX12, "laid", "(I)I"⟩
abbrev cX12_explains : ByteArray := prog_14_method_80_code
def yX12_explains : MethodName := ⟨RX12, "explains", "()Z"⟩
abbrev cX12_worn : ByteArray := prog_14_method_81_code
def yX12_worn : MethodName := ⟨RX12, "worn", "(I)I"⟩
abbrev cX12_count : ByteArray := prog_14_method_82_code
def yX12_count : MethodName := ⟨RX12, "count", "(I)I"⟩
def RL : String := "StormLoftLaw"
abbrev cL_knock : ByteArray := method_3_code
def yL_knock : MethodName := ⟨RL, "knock", "(LStormLoft;II[J)I"⟩
abbrev cL_event : ByteArray := method_4_code
def yL_event : MethodName := ⟨RL, "event", "(LStormLoft;II[J)I"⟩
abbrev cL_sound : ByteArray := method_5_code
def yL_sound : MethodName := ⟨RL, "sound", "(LStormLoft;II[J)I"⟩
abbrev cL_law : ByteArray := code
def yL_law : MethodName := ⟨RL, "law", "([I)Z"⟩
abbrev vwCl : List vw_C := [(RX0, TX0, 6), (RX1, TX1, 5), (RX2, TX2, 14), (RX3, TX3, 16), (RX4, TX4, 8), (RX5, TX5, 5), (RX6, TX6, 13), (RX7, TX7, 4), (RX8, TX8, 5), (RX9, TX9, 12), (RX10, TX10, 9), (RX11, TX11, 12), (RX12, TX12, 89)]
end
section
/-! tables of the cells (printed by wip/whole/gen02.py) -/
abbrev am_CK : Type := Nat × Nat × Nat × Nat × Nat
abbrev am_SL : Type := Nat × Nat × Nat × Nat
def am_NC : Nat := 117
def am_cStr : Nat := 117
def am_cScr : Nat := 118
def am_nth {α : Type} (d : α) : List α → Nat → α
  | [], _ => d
  | x :: _, 0 => x
  | _ :: xs, n + 1 => am_nth d xs n
def am_lk {α : Type} (d : α) (rows : List (List α)) (i : Nat) : α := am_nth d (am_nth [] rows (i / 16)) (i % 16)
def am_ckT : List (List am_CK) := [[(0, 0, 6, 0, 0), (0, 1, 5, 0, 0), (0, 2, 14, 0, 0), (0, 3, 16, 0, 0), (0, 4, 8, 0, 0), (0, 5, 5, 0, 0), (0, 6, 13, 0, 0), (0, 7, 4, 0, 0), (0, 8, 5, 0, 0), (0, 9, 12, 0, 0), (0, 10, 9, 0, 0), (0, 11, 12, 0, 0), (0, 12, 89, 0, 0), (1, 13, 82, 0, 0), (1, 13, 83, 0, 0), (1, 13, 84, 0, 0)],
  [(1, 13, 85, 0, 0), (1, 13, 86, 0, 0), (1, 13, 87, 0, 0), (1, 13, 88, 0, 0), (1, 4, 89, 0, 0), (1, 4, 90, 0, 0), (1, 24, 91, 0, 0), (4, 28, 115, 0, 7), (1, 28, 92, 0, 0), (1, 28, 93, 0, 0), (1, 28, 94, 0, 0), (1, 28, 95, 0, 0), (1, 28, 96, 0, 0), (1, 28, 97, 0, 0), (1, 28, 98, 0, 0), (1, 28, 99, 0, 0)],
  [(1, 28, 100, 0, 0), (1, 4, 101, 0, 0), (1, 12, 102, 0, 0), (1, 12, 103, 0, 0), (1, 12, 104, 0, 0), (1, 12, 105, 0, 0), (1, 12, 106, 0, 0), (1, 12, 107, 0, 0), (1, 12, 108, 0, 0), (1, 300, 109, 0, 0), (1, 300, 110, 0, 0), (1, 300, 111, 0, 0), (4, 24, 0, 2, 6), (1, 4, 112, 0, 0), (5, 12, 1, 1, 3), (1, 12, 113, 0, 0)],
  [(1, 12, 114, 0, 0), (1, 24, 115, 0, 0), (1, 24, 116, 0, 0), (1, 24, 117, 0, 0), (4, 8, 8, 1, 5), (1, 8, 118, 0, 0), (1, 8, 119, 0, 0), (1, 4, 120, 0, 0), (1, 4, 121, 0, 0), (1, 4, 122, 0, 0), (1, 640, 123, 0, 0), (1, 10, 124, 0, 0), (5, 16, 2, 1, 3), (4, 4, 7, 0, 4), (1, 640, 125, 0, 0), (1, 16, 126, 0, 0)],
  [(1, 16, 127, 0, 0), (1, 16, 128, 0, 0), (1, 16, 129, 0, 0), (1, 16, 130, 0, 0), (1, 5, 131, 0, 0), (1, 60, 132, 0, 0), (1, 60, 133, 0, 0), (1, 60, 134, 0, 0), (1, 60, 135, 0, 0), (1, 12, 136, 0, 0), (1, 12, 137, 0, 0), (1, 12, 138, 0, 0), (1, 12, 139, 0, 0), (1, 12, 140, 0, 0), (1, 12, 141, 0, 0), (1, 12, 142, 0, 0)],
  [(1, 12, 143, 0, 0), (1, 12, 144, 0, 0), (1, 12, 145, 0, 0), (1, 4, 146, 0, 0), (1, 14, 147, 0, 0), (1, 336, 148, 0, 0), (1, 336, 149, 0, 0), (1, 336, 150, 0, 0), (2, 14, 151, 0, 1), (3, 8, 1, 0, 2), (1, 6, 152, 0, 0), (1, 6, 153, 0, 0), (1, 24, 154, 0, 0), (1, 24, 155, 0, 0), (1, 24, 156, 0, 0), (1, 24, 157, 0, 0)],
  [(1, 300, 158, 0, 0), (1, 300, 159, 0, 0), (1, 300, 160, 0, 0), (1, 24, 161, 0, 0), (1, 24, 162, 0, 0), (1, 24, 163, 0, 0), (1, 24, 164, 0, 0), (1, 24, 165, 0, 0), (1, 24, 166, 0, 0), (1, 4, 167, 0, 0), (1, 511875, 168, 0, 0), (1, 16, 169, 0, 0), (1, 5, 170, 0, 0), (1, 4, 171, 0, 0), (1, 150, 172, 0, 0), (1, 25, 173, 0, 0)],
  [(1, 24, 174, 0, 0), (1, 10, 175, 0, 0), (1, 4, 176, 0, 0), (1, 28, 177, 0, 0), (3, 1, 2, 0, 2)]]
def am_ck (c : Nat) : am_CK := am_lk (9, 0, 0, 0, 0) am_ckT c
def am_sl0 : List (List am_SL) := [[(0, 0, 0, 0), (0, 1, 0, 0), (0, 2, 0, 0), (0, 3, 0, 0), (0, 4, 0, 0), (0, 5, 0, 0)]]
def am_sl1 : List (List am_SL) := [[(0, 6, 0, 0), (0, 7, 0, 0), (0, 8, 0, 0), (0, 9, 0, 0), (0, 10, 0, 0)]]
def am_sl2 : List (List am_SL) := [[(3, 13, 0, 1), (3, 14, 0, 1), (3, 15, 0, 1), (3, 16, 0, 1), (3, 17, 0, 1), (3, 18, 0, 1), (3, 19, 0, 1), (3, 0, 26, 0), (3, 20, 0, 1), (0, 11, 0, 0), (0, 12, 0, 0), (0, 13, 0, 0), (0, 14, 0, 0), (0, 15, 0, 0)]]
def am_sl3 : List (List am_SL) := [[(3, 21, 0, 1), (0, 16, 0, 0), (3, 22, 0, 1), (3, 23, 0, 1), (3, 24, 0, 1), (3, 25, 0, 1), (3, 26, 0, 1), (3, 27, 0, 1), (3, 28, 0, 1), (3, 29, 0, 1), (3, 30, 0, 1), (3, 31, 0, 1), (3, 32, 0, 1), (3, 33, 0, 1), (0, 17, 0, 0), (0, 18, 0, 0)]]
def am_sl4 : List (List am_SL) := [[(3, 34, 0, 1), (3, 35, 0, 1), (3, 36, 0, 1), (3, 0, 0, 1), (0, 19, 0, 0), (0, 20, 0, 0), (0, 21, 0, 0), (0, 22, 0, 0)]]
def am_sl5 : List (List am_SL) := [[(3, 37, 0, 1), (3, 38, 0, 1), (3, 39, 0, 1), (3, 40, 0, 1), (0, 23, 0, 0)]]
def am_sl6 : List (List am_SL) := [[(3, 41, 0, 1), (3, 42, 0, 1), (3, 43, 0, 1), (0, 24, 0, 0), (0, 25, 0, 0), (0, 26, 0, 0), (3, 44, 0, 1), (0, 27, 0, 0), (0, 28, 0, 0), (0, 29, 0, 0), (3, 45, 0, 1), (0, 30, 0, 0), (1, 31, 0, 0)]]
def am_sl7 : List (List am_SL) := [[(3, 46, 0, 1), (3, 47, 0, 1), (3, 48, 0, 1), (0, 32, 0, 0)]]
def am_sl8 : List (List am_SL) := [[(3, 49, 0, 1), (3, 50, 0, 1), (3, 51, 0, 1), (0, 33, 0, 0), (1, 34, 0, 0)]]
def am_sl9 : List (List am_SL) := [[(3, 8, 0, 0), (3, 52, 0, 1), (3, 53, 0, 1), (3, 54, 0, 1), (0, 35, 0, 0), (4, 0, 8, 0), (3, 55, 0, 1), (3, 56, 0, 1), (3, 57, 0, 1), (0, 36, 0, 0), (0, 37, 0, 0), (0, 38, 0, 0)]]
def am_sl10 : List (List am_SL) := [[(3, 58, 0, 1), (0, 39, 0, 0), (3, 59, 0, 1), (0, 40, 0, 0), (0, 41, 0, 0), (0, 42, 0, 0), (0, 43, 0, 0), (0, 44, 0, 0), (0, 45, 0, 0)]]
def am_sl11 : List (List am_SL) := [[(3, 10, 0, 0), (3, 60, 0, 1), (3, 61, 0, 1), (3, 5, 0, 0), (3, 3, 0, 0), (3, 9, 0, 0), (3, 8, 9, 0), (3, 4, 0, 0), (3, 4, 1, 0), (3, 6, 0, 0), (3, 2, 0, 0), (0, 46, 0, 0)]]
def am_sl12 : List (List am_SL) := [[(0, 47, 0, 0), (3, 62, 0, 1), (0, 48, 0, 0), (3, 63, 0, 1), (3, 64, 0, 1), (3, 65, 0, 1), (3, 66, 0, 1), (3, 67, 0, 1), (3, 68, 0, 1), (3, 69, 0, 1), (3, 70, 0, 1), (3, 71, 0, 1), (3, 72, 0, 1), (0, 49, 0, 0), (0, 50, 0, 0), (0, 51, 0, 0)],
  [(0, 52, 0, 0), (0, 53, 0, 0), (0, 54, 0, 0), (3, 73, 0, 1), (3, 74, 0, 1), (3, 75, 0, 1), (3, 76, 0, 1), (3, 77, 0, 1), (3, 78, 0, 1), (0, 55, 0, 0), (0, 56, 0, 0), (0, 57, 0, 0), (0, 58, 0, 0), (3, 79, 0, 1), (3, 80, 0, 1), (3, 81, 0, 1)],
  [(3, 82, 0, 1), (3, 83, 0, 1), (0, 59, 0, 0), (0, 60, 0, 0), (0, 61, 0, 0), (0, 62, 0, 0), (0, 63, 0, 0), (0, 64, 0, 0), (0, 65, 0, 0), (0, 66, 0, 0), (0, 67, 0, 0), (2, 0, 0, 0), (3, 84, 0, 1), (3, 85, 0, 1), (3, 86, 0, 1), (3, 87, 0, 1)],
  [(3, 88, 0, 1), (3, 89, 0, 1), (3, 90, 0, 1), (3, 91, 0, 1), (0, 68, 0, 0), (0, 69, 0, 0), (0, 70, 0, 0), (1, 71, 0, 0), (3, 92, 0, 1), (3, 93, 0, 1), (3, 94, 0, 1), (3, 95, 0, 1), (0, 72, 0, 0), (1, 73, 0, 0), (3, 96, 0, 1), (3, 97, 0, 1)],
  [(3, 98, 0, 1), (3, 99, 0, 1), (3, 100, 0, 1), (3, 101, 0, 1), (3, 102, 0, 1), (3, 103, 0, 1), (3, 104, 0, 1), (3, 105, 0, 1), (0, 74, 0, 0), (0, 75, 0, 0), (0, 76, 0, 0), (0, 77, 0, 0), (0, 78, 0, 0), (0, 79, 0, 0), (3, 106, 0, 1), (3, 107, 0, 1)],
  [(3, 108, 0, 1), (3, 109, 0, 1), (3, 110, 0, 1), (3, 111, 0, 1), (3, 112, 0, 1), (3, 113, 0, 1), (3, 114, 0, 1), (0, 80, 0, 0), (0, 81, 0, 0)]]
def am_slT : List (List (List am_SL)) := [am_sl0, am_sl1, am_sl2, am_sl3, am_sl4, am_sl5, am_sl6, am_sl7, am_sl8, am_sl9, am_sl10, am_sl11, am_sl12]
def am_slot (c k : Nat) : am_SL := am_lk (9, 0, 0, 0) (am_nth [] am_slT c) k
def am_oIT : List (List (Nat × Nat)) := [[(0, 0), (0, 1), (0, 2), (0, 3), (0, 4), (0, 5), (1, 0), (1, 1), (1, 2), (1, 3), (1, 4), (2, 9), (2, 10), (2, 11), (2, 12), (2, 13)],
  [(3, 1), (3, 14), (3, 15), (4, 4), (4, 5), (4, 6), (4, 7), (5, 4), (6, 3), (6, 4), (6, 5), (6, 7), (6, 8), (6, 9), (6, 11), (6, 12)],
  [(7, 3), (8, 3), (8, 4), (9, 4), (9, 9), (9, 10), (9, 11), (10, 1), (10, 3), (10, 4), (10, 5), (10, 6), (10, 7), (10, 8), (11, 11), (12, 0)],
  [(12, 2), (12, 13), (12, 14), (12, 15), (12, 16), (12, 17), (12, 18), (12, 25), (12, 26), (12, 27), (12, 28), (12, 34), (12, 35), (12, 36), (12, 37), (12, 38)],
  [(12, 39), (12, 40), (12, 41), (12, 42), (12, 52), (12, 53), (12, 54), (12, 55), (12, 60), (12, 61), (12, 72), (12, 73), (12, 74), (12, 75), (12, 76), (12, 77)],
  [(12, 87), (12, 88), (13, 0), (14, 0), (15, 0), (16, 0), (17, 0), (18, 0), (19, 0), (20, 0), (21, 0), (22, 0), (24, 0), (25, 0), (26, 0), (27, 0)],
  [(28, 0), (29, 0), (30, 0), (31, 0), (32, 0), (33, 0), (34, 0), (35, 0), (36, 0), (37, 0), (38, 0), (39, 0), (40, 0), (41, 0), (42, 0), (43, 0)],
  [(45, 0), (47, 0), (48, 0), (49, 0), (50, 0), (51, 0), (53, 0), (54, 0), (55, 0), (56, 0), (57, 0), (58, 0), (59, 0), (62, 0), (63, 0), (64, 0)],
  [(65, 0), (66, 0), (67, 0), (68, 0), (69, 0), (70, 0), (71, 0), (72, 0), (73, 0), (74, 0), (75, 0), (76, 0), (77, 0), (78, 0), (79, 0), (80, 0)],
  [(81, 0), (82, 0), (83, 0), (84, 0), (85, 0), (86, 0), (87, 0), (88, 0), (90, 0), (91, 0), (92, 0), (93, 0), (94, 0), (95, 0), (96, 0), (97, 0)],
  [(98, 0), (99, 0), (100, 0), (101, 0), (102, 0), (103, 0), (104, 0), (105, 0), (106, 0), (107, 0), (108, 0), (109, 0), (110, 0), (111, 0), (112, 0), (113, 0)],
  [(114, 0), (115, 0)]]
def am_oI (v : Nat) : Nat × Nat := am_lk (999, 0) am_oIT v
def am_oL (v : Nat) : Nat × Nat := am_nth (999, 0) [(12, 43), (89, 0), (116, 0)] v
def am_oR (v : Nat) : Nat × Nat := am_nth (999, 0) [(9, 5), (46, 0), (60, 0)] v
/-- the tables fit together -/
def am_chkT (c : Nat) : Bool := match am_ck c with
  | (0, x, n, _) => x == c && (Nat.blt c 13 && ((match vwCl[c]? with
    | some r => r.2.2 == n
    | none => false) && (List.range n).all (fun k => match am_slot c k with
    | (0, v, _) => am_oI v == (c, k)
    | (1, v, _) => am_oI v == (c, k)
    | (2, v, _) => am_oL v == (c, k)
    | (3, t, _, _) => Nat.blt t am_NC
    | (4, v, t, _) => am_oR v == (c, k) && Nat.blt t am_NC
    | _ => false)))
  | (1, _, v, _, t) => am_oI v == (c, 0) && t == 0
  | (2, _, v, _, t) => am_oI v == (c, 0) && t == 1
  | (3, _, v, _, t) => am_oL v == (c, 0) && t == 2
  | (4, _, t, _, y) => Nat.blt t am_NC && (y == 4 && t == 7 || (y == 5 && t == 8 || (y == 6 && t == 0 || y == 7)))
  | (5, _, v, t, y) => am_oR v == (c, 0) && (t == 1 && y == 3)
  | _ => false
theorem am_chkT_ok : ∀ c, c < am_NC → am_chkT c = true := by
  have h : (List.range am_NC).all am_chkT = true := by decide +kernel
  exact fun c hc => List.all_eq_true.mp h c (List.mem_range.mpr hc)
end
section
/-! The abstract machine (AM): values without addresses, state by named variables, a judgement am_J over the kit's W, contracts am_Sp over Met, and a program am_adv that walks a method's code and leaves what is to be shown. -/
abbrev AV : Type := Int32 ⊕ (Int64 ⊕ Option (Nat × Nat))
abbrev II : Type := Nat → Nat → Nat → Int32
abbrev LJ : Type := Nat → Nat → Nat → Int64
abbrev RR : Type := Nat → Nat → Nat → Option Nat
abbrev GG : Type := (Nat → Nat → Nat → Bool) × (Nat → Nat)
abbrev QQ : Type := Option AV → II → LJ → RR → GG → Prop
abbrev LL : Type := List (Option AV)
abbrev vI (x : Int32) : AV := Sum.inl x
abbrev vL (x : Int64) : AV := Sum.inr (Sum.inl x)
abbrev vR (c i : Nat) : AV := Sum.inr (Sum.inr (some (c, i)))
abbrev vN : AV := Sum.inr (Sum.inr none)
def zI (z : Int) : Int32 := Int32.ofInt z
def zL (z : Int) : Int64 := Int64.ofInt z
def up3 {α : Type} (f : Nat → Nat → Nat → α) (v i j : Nat) (x : α) : Nat → Nat → Nat → α := fun v' i' j' => if v' = v ∧ i' = i ∧ j' = j then x else f v' i' j'
def up1 {α : Type} (f : Nat → α) (v : Nat) (x : α) : Nat → α := fun v' => if v' = v then x else f v'
/-- the global context: launch, class numbers, array class numbers, addresses of old things (texts), the script, the heap at the start, what else the tables say -/
abbrev AMG : Type := Launch × va_G × (Nat → ClassId) × (Nat → Nat) × (Nat × Nat × (Nat → Int32)) × Heap × (State → Prop)
abbrev AMG.l (Γ : AMG) : Launch := Γ.1
abbrev AMG.D (Γ : AMG) : va_G := Γ.2.1
abbrev AMG.cy (Γ : AMG) : Nat → ClassId := Γ.2.2.1
abbrev AMG.SA (Γ : AMG) : Nat → Nat := Γ.2.2.2.1
abbrev AMG.scr (Γ : AMG) : Nat × Nat × (Nat → Int32) := Γ.2.2.2.2.1
abbrev AMG.HH (Γ : AMG) : Heap := Γ.2.2.2.2.2.1
abbrev AMG.KX (Γ : AMG) : State → Prop := Γ.2.2.2.2.2.2
def am_sidx (base mul i : Nat) : Nat := match mul with
  | 0 => base
  | _ => i
def am_aidx (base j : Nat) : Nat := match base with
  | 0 => j
  | _ => base + j
/-- the reference that stands at place k of the cell (c, i) -/
def am_ref (R : RR) (G : GG) (c i k : Nat) : Option (Nat × Nat) := match am_ck c with
  | (0, _) => (match am_slot c k with
    | (3, t, b, m) => cond (G.1 c i k) (some (t, am_sidx b m i)) none
    | (4, v, t, _) => (R v i 0).map (fun b => (t, b))
    | _ => none)
  | (4, N, t, b, _) => cond (Nat.blt k N && G.1 c i k) (some (t, am_aidx b k)) none
  | (5, _, v, t, _) => (R v i k).map (fun b => (t, b))
  | _ => none
def am_val (ρ : Nat → Nat → Nat) (I : II) (Lg : LJ) (R : RR) (G : GG) (c i k : Nat) : Value := match am_slot c k with
  | (0, v, _) => .int (I v i 0)
  | (1, v, _) => .int (I v i 0)
  | (2, v, _) => .long (Lg v i 0)
  | _ => va_rf ((am_ref R G c i k).map (fun p => ρ p.1 p.2))
def am_E (Γ : AMG) (ρ : Nat → Nat → Nat) (I : II) (Lg : LJ) (R : RR) (G : GG) (c i : Nat) : va_E := match am_ck c with
  | (0, x, n, _) => .inr (x, (List.range n).map (am_val ρ I Lg R G c i))
  | (1, n, v, _, t) => .inl (Γ.cy t, n, .inl (I v i))
  | (2, n, v, _, t) => .inl (Γ.cy t, n, .inl (I v i))
  | (3, n, v, _, t) => .inl (Γ.cy t, n, .inr (.inl (Lg v i)))
  | (_, n, _, _, t) => .inl (Γ.cy t, n, .inr (.inr (.inr (.inr (fun k => (am_ref R G c i k).map (fun p => ρ p.1 p.2))))))
def am_con (ρ : Nat → Nat → Nat) : AV → Value
  | .inl x => .int x
  | .inr (.inl x) => .long x
  | .inr (.inr none) => .null
  | .inr (.inr (some (c, i))) => .ref (ρ c i)
/-- a reference is to a cell that is there, or to an old one -/
def am_okR (G : GG) (c i : Nat) : Prop := (c < am_NC ∧ i < G.2 c) ∨ am_NC ≤ c
def am_ok (G : GG) : AV → Prop
  | .inr (.inr (some (c, i))) => am_okR G c i
  | _ => True
def am_okL (nL : Nat) (G : GG) (L : LL) : Prop := L.length = nL ∧ ∀ v, some v ∈ L → am_ok G v
def am_okS (G : GG) (st : List AV) : Prop := ∀ v ∈ st, am_ok G v
/-- nothing stands yet in the cell (c, i) -/
def am_zero (c i : Nat) (I : II) (Lg : LJ) (R : RR) (G : GG) : Prop := (∀ v j, (am_oI v).1 = c → I v i j = 0) ∧ (∀ v j, (am_oL v).1 = c → Lg v i j = 0) ∧ (∀ v j, (am_oR v).1 = c → R v i j = none) ∧ ∀ k, G.1 c i k = false
/-- the world: the heap holds the cells that the state tells of -/
def am_Wd (Γ : AMG) (ρ : Nat → Nat → Nat) (I : II) (Lg : LJ) (R : RR) (G : GG) (H : Heap) : Prop :=
  (∀ c i : Nat, c < am_NC → i < G.2 c → va_at Γ.D vwCl (ρ c i, am_E Γ ρ I Lg R G c i) H) ∧
  (∀ c i c' i' : Nat, c < am_NC → c' < am_NC → i < G.2 c → i' < G.2 c' → ρ c i = ρ c' i' → c = c' ∧ i = i') ∧
  (∀ c i : Nat, c < am_NC → i < G.2 c → Γ.HH.size ≤ ρ c i) ∧
  (∀ k : Nat, ρ am_cStr k = Γ.SA k) ∧ (∀ k : Nat, ρ am_cScr k = Γ.scr.1) ∧
  Γ.HH.size ≤ H.size ∧ (∀ q : Nat, q < Γ.HH.size → H[q]? = Γ.HH[q]?) ∧
  (∀ c i k c' i' : Nat, c < am_NC → i < G.2 c → am_ref R G c i k = some (c', i') → c' < am_NC ∧ i' < G.2 c') ∧
  (∀ c i : Nat, c < am_NC → G.2 c ≤ i → G.1 1000 c 0 = false → am_zero c i I Lg R G)
def am_Ext (ρ : Nat → Nat → Nat) (G : GG) (ρ' : Nat → Nat → Nat) (G' : GG) : Prop := (∀ c : Nat, G.2 c ≤ G'.2 c) ∧ ∀ c i : Nat, am_okR G c i → ρ' c i = ρ c i
theorem am_Ext.rf {ρ : Nat → Nat → Nat} {G : GG} : am_Ext ρ G ρ G := ⟨fun _ => Nat.le_refl _, fun _ _ _ => rfl⟩
theorem am_okR.ext {ρ ρ' : Nat → Nat → Nat} {G G' : GG} {c i : Nat} (h : am_Ext ρ G ρ' G') (hk : am_okR G c i) : am_okR G' c i := hk.elim (fun z => Or.inl ⟨z.1, Nat.lt_of_lt_of_le z.2 (h.1 c)⟩) Or.inr
theorem am_Ext.tr {ρ ρ' ρ2 : Nat → Nat → Nat} {G G' G2 : GG} (h : am_Ext ρ G ρ' G') (h2 : am_Ext ρ' G' ρ2 G2) : am_Ext ρ G ρ2 G2 := ⟨fun c => Nat.le_trans (h.1 c) (h2.1 c), fun c i k => (h2.2 c i (k.ext h)).trans (h.2 c i k)⟩
/-- a method: its class, name, code, locals, answer, number of arguments -/
abbrev MD : Type := String × MethodName × ByteArray × Nat × Option FieldType × Nat
/-- a place of a method's code: the instruction, the next place, whether a loop begins here, notes, the method that is called -/
abbrev CE : Type := Instr × Nat × Bool × List Nat × MD
def am_BIG : List Cond := lw_tbl.filter goodWord
def am_tys (Γ : AMG) : List (ClassId × FieldType) := [(Γ.cy 0, .int), (Γ.cy 1, .boolean), (Γ.cy 2, .long), (Γ.cy 3, .object "StormLoft$Board"), (Γ.cy 4, .object "StormLoft$Path"), (Γ.cy 5, .object "StormLoft$Plan"), (Γ.cy 6, .object "StormLoft$Ball"), (Γ.cy 7, .array .int)]
/-- what the tables say, beside the words that keep -/
def am_K (Γ : AMG) (U : State) : Prop := va_K Γ.D vwCl (am_tys Γ) U ∧ Γ.KX U
/-- Γ's own part moves with the machine -/
def am_GK (Γ : AMG) : Prop := (∀ s U : State, Γ.KX s → s.WarmedH U.vm → Γ.KX U) ∧ (∀ u U : State, Γ.KX u → u.vm = U.vm → Γ.KX U)
def am_Cx (Γ : AMG) (M : MD) (p : Program) (s : State) (m : MethodId) (args : Array Value) (meth : Method) (c : Code) : Prop :=
  p.tables.exec = Jvm.exec ∧ c.code = M.2.2.1 ∧ c.maxLocals = M.2.2.2.1 ∧ meth.sig.returnType = M.2.2.2.2.1 ∧ meth.locks = false ∧ s.vm.findClass M.1 = some m.cls ∧ (∀ w ∈ am_BIG, w.before args s = true) ∧ (M.2.1.name = "<init>" → meth.name = "<init>") ∧ am_K Γ s ∧ am_GK Γ
def am_hL (ρ : Nat → Nat → Nat) (ls : Array Slot) (L : LL) : Prop := ls.size = L.length ∧ lv_wf ls ∧ ∀ (i : Nat) (v : AV), L[i]? = some (some v) → ls[i]? = some (.val (am_con ρ v))
/-- the instruction at pc gives back that answer -/
def am_At (M : MD) (pc : Nat) : Option AV → Prop
  | none => decode M.2.2.1 pc = .ok (.return_, 1) ∧ M.2.2.2.2.1 = none
  | some (.inl x) => decode M.2.2.1 pc = .ok (.ireturn, 1) ∧ (M.2.2.2.2.1 = some .int ∨ M.2.2.2.2.1 = some .boolean ∧ (x = zI 0 ∨ x = zI 1))
  | some (.inr (.inl _)) => decode M.2.2.1 pc = .ok (.lreturn, 1) ∧ M.2.2.2.2.1 = some .long
  | some (.inr (.inr _)) => decode M.2.2.1 pc = .ok (.areturn, 1) ∧ ∃ n, M.2.2.2.2.1 = some (.object n)
abbrev am_LOC : Nat := 48
/-- THE JUDGEMENT: from here the method comes to its end with Q; d: how many calls deep, k, n: how many cells and slots it may still make -/
def am_J (Γ : AMG) (M : MD) (Q : QQ) (d k n pc : Nat) (L : LL) (st : List AV) (I : II) (Lg : LJ) (R : RR) (G : GG) : Prop :=
  ∀ (ρ : Nat → Nat → Nat) (p : Program) (e : Env) (Rm : Room) (s : State) (m : MethodId) (args : Array Value) (below : List Frame) (meth : Method) (c : Code) (H : Heap) (locs : List Loc) (cells slots : Nat) (Z : State → Prop),
    am_Cx Γ M p s m args meth c → d ≤ Rm.frames → am_LOC * d ≤ Rm.locals → cells + k ≤ Rm.cells → slots + n ≤ Rm.slots → am_Wd Γ ρ I Lg R G H → (∀ q ∈ locs, Γ.HH.size ≤ q.base) → am_okL M.2.2.2.1 G L → am_okS G st →
    (∀ (ρ' : Nat → Nat → Nat) (r : Option AV) (I' : II) (Lg' : LJ) (R' : RR) (G' : GG) (H' : Heap) (locs' : List Loc) (cells' slots' pc' : Nat) (ls' : Array Slot), am_Wd Γ ρ' I' Lg' R' G' H' → am_Ext ρ G ρ' G' → (∀ v ∈ r, am_ok G' v) → (∀ q ∈ locs', Γ.HH.size ≤ q.base) → cells' ≤ cells + k → slots' ≤ slots + n → Q r I' Lg' R' G' → am_At M pc' r →
      W p Γ.l e Rm s m args below meth c H' locs' cells' slots' Z (F0 m pc' ls' (r.toList.map (am_con ρ')))) →
    ∀ ls : Array Slot, am_hL ρ ls L → W p Γ.l e Rm s m args below meth c H locs cells slots Z (F0 m pc ls (st.map (am_con ρ)))
def am_ws (M : MD) : List Cond := .code M.2.1 M.2.2.1 M.2.2.2.1 M.2.2.2.2.1 :: am_BIG
def am_rm (d k n : Nat) : Room := { frames := d, cells := k, slots := n, locals := am_LOC * d }
def am_Pc (Γ : AMG) (ρ : Nat → Nat → Nat) (args : List AV) (I : II) (Lg : LJ) (R : RR) (G : GG) : Array Value → State → Prop := fun a U => a = (args.map (am_con ρ)).toArray ∧ am_K Γ U ∧ am_Wd Γ ρ I Lg R G U.heap
def am_Qc (Γ : AMG) (Q : QQ) (ρ : Nat → Nat → Nat) (G : GG) : Array Value → State → Outcome → State → Prop := fun _ _ o t => ∃ (ρ' : Nat → Nat → Nat) (r : Option AV) (I' : II) (Lg' : LJ) (R' : RR) (G' : GG), o = .returned (r.map (am_con ρ')) ∧ am_Wd Γ ρ' I' Lg' R' G' t.heap ∧ am_Ext ρ G ρ' G' ∧ (∀ v ∈ r, am_ok G' v) ∧ Q r I' Lg' R' G'
/-- THE CONTRACT of a method: with these arguments, in this state, it comes to its end with Q -/
def am_Sp (Γ : AMG) (d k n : Nat) (M : MD) (args : List AV) (I : II) (Lg : LJ) (R : RR) (G : GG) (Q : QQ) : Prop :=
  ∀ ρ : Nat → Nat → Nat, am_GK Γ → am_okS G args → Met Γ.l M.2.1 (am_ws M) (am_rm d k n) (am_Pc Γ ρ args I Lg R G) (am_Qc Γ Q ρ G) k n (fun q => Γ.HH.size ≤ q)
end
section
/-! The rules of am_J: an instruction each. First those that touch locals and stack alone. -/
def am_clr : Option AV → Option AV
  | some (.inr (.inl _)) => none
  | o => o
def am_st : LL → Nat → Option AV → LL
  | [], _, _ => []
  | _ :: xs, 0, o => o :: xs
  | x :: xs, 1, o => am_clr x :: am_st xs 0 o
  | x :: xs, n + 2, o => x :: am_st xs (n + 1) o
theorem am_st_len : ∀ (L : LL) (i : Nat) (o : Option AV), (am_st L i o).length = L.length
  | [], _, _ => rfl
  | _ :: _, 0, _ => rfl
  | _ :: xs, 1, o => by simp [am_st, am_st_len xs 0 o]
  | _ :: xs, n + 2, o => by simp [am_st, am_st_len xs (n + 1) o]
theorem am_st_get : ∀ (L : LL) (i j : Nat) (o : Option AV), (am_st L i o)[j]? = if j = i ∧ i < L.length then some o else if j + 1 = i then (L[j]?).map am_clr else L[j]?
  | [], _, _, _ => by simp [am_st]
  | _ :: _, 0, 0, _ => by simp [am_st]
  | _ :: _, 0, j + 1, _ => by simp [am_st]
  | x :: xs, 1, 0, o => by simp [am_st]
  | x :: xs, 1, j + 1, o => by
    simp only [am_st, List.getElem?_cons_succ, am_st_get xs 0 j o, List.length_cons]
    by_cases h : j = 0 <;> simp [h]
  | x :: xs, n + 2, 0, o => by simp [am_st]
  | x :: xs, n + 2, j + 1, o => by
    simp only [am_st, List.getElem?_cons_succ, am_st_get xs (n + 1) j o, List.length_cons]
    by_cases h : j = n + 1
    · subst h
      simp
      split <;> split <;> first | rfl | omega
    · simp [h]
theorem am_clr_some {x : Option AV} {v : AV} (h : am_clr x = some v) : x = some v ∧ ∀ ρ, (am_con ρ v).category ≠ 2 := by
  match x, h with
  | some (.inl a), h => cases h; exact ⟨rfl, fun _ => by simp [am_con, Value.category]⟩
  | some (.inr (.inr none)), h => cases h; exact ⟨rfl, fun _ => by simp [am_con, Value.category]⟩
  | some (.inr (.inr (some (a, b)))), h => cases h; exact ⟨rfl, fun _ => by simp [am_con, Value.category]⟩
def am_as (ρ : Nat → Nat → Nat) (L : LL) : List (Nat × Value) := (List.range L.length).filterMap (fun i => match L[i]? with
  | some (some v) => some (i, am_con ρ v)
  | _ => none)
theorem am_as_in {ρ : Nat → Nat → Nat} {L : LL} {q : Nat × Value} : q ∈ am_as ρ L ↔ ∃ v, L[q.1]? = some (some v) ∧ q.2 = am_con ρ v := by
  obtain ⟨i, w⟩ := q
  simp only [am_as, List.mem_filterMap, List.mem_range]
  constructor
  · rintro ⟨a, ha, h⟩
    split at h
    · next v hv => cases h; exact ⟨v, hv, rfl⟩
    · cases h
  · rintro ⟨v, hv, rfl⟩
    refine ⟨i, (List.getElem?_eq_some_iff.mp hv).1, ?_⟩
    simp only [hv]
theorem am_hL.has {ρ : Nat → Nat → Nat} {ls : Array Slot} {L : LL} (h : am_hL ρ ls L) : lv_has ls L.length (am_as ρ L) := ⟨h.1, h.2.1, fun q hq => by
  obtain ⟨v, hv, e⟩ := am_as_in.mp hq
  rw [e]
  exact h.2.2 _ _ hv⟩
theorem am_hL.at {ρ : Nat → Nat → Nat} {ls : Array Slot} {L : LL} (h : am_hL ρ ls L) {i : Nat} {v : AV} (hv : L[i]? = some (some v)) : ls[i]? = some (.val (am_con ρ v)) := h.2.2 _ _ hv
/-- a value of one slot is stored -/
theorem am_hL.st1 {ρ : Nat → Nat → Nat} {ls : Array Slot} {L : LL} (h : am_hL ρ ls L) {i : Nat} {v : AV} (hi : i < L.length) (hc : (am_con ρ v).category = 1) : ∃ ls', storeLocals ls i (am_con ρ v) = some ls' ∧ am_hL ρ ls' (am_st L i (some v)) := by
  obtain ⟨ls', e, h1, h2, h3⟩ := lv_store1 (v := am_con ρ v) h.has hi hc
  refine ⟨ls', e, by rw [am_st_len]; exact h1, h2, fun j w hw => ?_⟩
  rw [am_st_get] at hw
  split at hw
  · next hj => cases hw; rw [hj.1]; exact h3 (i, am_con ρ v) List.mem_cons_self
  · next hj =>
    have hne : j ≠ i := fun q => hj ⟨q, hi⟩
    refine h3 (j, am_con ρ w) (List.mem_cons_of_mem _ (List.mem_filter.mpr ?_))
    split at hw
    · next hji =>
      cases hx : L[j]? with
      | none => rw [hx] at hw; cases hw
      | some x =>
        rw [hx] at hw
        obtain ⟨e1, e2⟩ := am_clr_some (Option.some.inj hw)
        subst e1
        refine ⟨am_as_in.mpr ⟨w, hx, rfl⟩, ?_⟩
        have := e2 ρ
        simp [hne, hji, this]
    · next hji => exact ⟨am_as_in.mpr ⟨w, hw, rfl⟩, by simp [hne, hji]⟩
/-- a long is stored -/
theorem am_hL.st2 {ρ : Nat → Nat → Nat} {ls : Array Slot} {L : LL} (h : am_hL ρ ls L) {i : Nat} {v : AV} (hi : i + 1 < L.length) (hc : (am_con ρ v).category = 2) : ∃ ls', storeLocals ls i (am_con ρ v) = some ls' ∧ am_hL ρ ls' ((am_st L i (some v)).set (i + 1) none) := by
  obtain ⟨ls', e, h1, h2, h3⟩ := lv_store2 (v := am_con ρ v) h.has hi hc
  refine ⟨ls', e, by rw [List.length_set, am_st_len]; exact h1, h2, fun j w hw => ?_⟩
  rw [List.getElem?_set] at hw
  split at hw
  · next hj => split at hw <;> cases hw
  next hj1 =>
  rw [am_st_get] at hw
  split at hw
  · next hj => cases hw; rw [hj.1]; exact h3 (i, am_con ρ v) List.mem_cons_self
  · next hj =>
    have hne : j ≠ i := fun q => hj ⟨q, by omega⟩
    refine h3 (j, am_con ρ w) (List.mem_cons_of_mem _ (List.mem_filter.mpr ?_))
    split at hw
    · next hji =>
      cases hx : L[j]? with
      | none => rw [hx] at hw; cases hw
      | some x =>
        rw [hx] at hw
        obtain ⟨e1, e2⟩ := am_clr_some (Option.some.inj hw)
        subst e1
        refine ⟨am_as_in.mpr ⟨w, hx, rfl⟩, ?_⟩
        have := e2 ρ
        simp [hne, this, show j ≠ i + 1 from fun q => hj1 q.symm]
    · next hji => exact ⟨am_as_in.mpr ⟨w, hw, rfl⟩, by simp [hne, hji, show j ≠ i + 1 from fun q => hj1 q.symm]⟩
section AMR
variable {Γ : AMG} {M : MD} {Q : QQ} {d k n pc pc' : Nat} {L L' : LL} {st st' : List AV} {I : II} {Lg : LJ} {R : RR} {G : GG}
/-- a step that touches locals and stack alone -/
theorem am_J.step (hs : ∀ (ρ : Nat → Nat → Nat) (p : Program) (e : Env) (Rm : Room) (s : State) (m : MethodId) (args : Array Value) (below : List Frame) (meth : Method) (c : Code) (H : Heap) (locs : List Loc) (cells slots : Nat) (Z : State → Prop) (ls : Array Slot), am_Cx Γ M p s m args meth c → am_hL ρ ls L →
      (∀ ls' : Array Slot, am_hL ρ ls' L' → W p Γ.l e Rm s m args below meth c H locs cells slots Z (F0 m pc' ls' (st'.map (am_con ρ)))) → W p Γ.l e Rm s m args below meth c H locs cells slots Z (F0 m pc ls (st.map (am_con ρ))))
    (ho : am_okL M.2.2.2.1 G L → am_okS G st → am_okL M.2.2.2.1 G L' ∧ am_okS G st') (h : am_J Γ M Q d k n pc' L' st' I Lg R G) : am_J Γ M Q d k n pc L st I Lg R G := by
  intro ρ p e Rm s m args below meth c H locs cells slots Z C h1 h2 h3 h4 hW hl hoL hoS ret ls hL
  exact hs ρ p e Rm s m args below meth c H locs cells slots Z ls C hL (fun ls' hL' => h ρ p e Rm s m args below meth c H locs cells slots Z C h1 h2 h3 h4 hW hl (ho hoL hoS).1 (ho hoL hoS).2 ret ls' hL')
theorem am_okS.cons {v : AV} (h : am_ok G v) (hs : am_okS G st) : am_okS G (v :: st) := fun w hw => (List.mem_cons.mp hw).elim (fun e => e ▸ h) (hs w)
theorem am_okS.tl {v : AV} (hs : am_okS G (v :: st)) : am_okS G st := fun w hw => hs w (List.mem_cons_of_mem _ hw)
theorem am_okS.hd {v : AV} (hs : am_okS G (v :: st)) : am_ok G v := hs v List.mem_cons_self
theorem am_okL.at {i nL : Nat} {v : AV} (h : am_okL nL G L) (hv : L[i]? = some (some v)) : am_ok G v := h.2 v (List.mem_of_getElem? hv)
theorem am_okL.sto {i nL : Nat} {v : AV} (h : am_okL nL G L) (hv : am_ok G v) : am_okL nL G (am_st L i (some v)) := by
  refine ⟨by rw [am_st_len]; exact h.1, ?_⟩
  intro w hw
  obtain ⟨j, hj⟩ := List.getElem?_of_mem hw
  rw [am_st_get] at hj
  split at hj
  · cases hj; exact hv
  · split at hj
    · cases hx : L[j]? with
      | none => rw [hx] at hj; cases hj
      | some x =>
        rw [hx] at hj
        obtain ⟨e1, -⟩ := am_clr_some (Option.some.inj hj)
        subst e1
        exact h.at hx
    · exact h.at hj
theorem am_okL.set {i nL : Nat} (h : am_okL nL G L) : am_okL nL G (L.set i none) := by
  refine ⟨by rw [List.length_set]; exact h.1, ?_⟩
  intro w hw
  obtain ⟨j, hj⟩ := List.getElem?_of_mem hw
  rw [List.getElem?_set] at hj
  split at hj
  · split at hj <;> cases hj
  · exact h.at hj
theorem am_okS.i {x : Int32} (h : am_okS G st) : am_okS G (vI x :: st) := am_okS.cons (v := vI x) trivial h
theorem am_okS.l {x : Int64} (h : am_okS G st) : am_okS G (vL x :: st) := am_okS.cons (v := vL x) trivial h
theorem ar_iconst {z : Int} (hd : decode M.2.2.1 pc = .ok (.iconst z, 1)) (h : am_J Γ M Q d k n (pc + 1) L (vI (zI z) :: st) I Lg R G) : am_J Γ M Q d k n pc L st I Lg R G :=
  am_J.step (fun ρ p e Rm s m args below meth c H locs cells slots Z ls C hl kk => lv_iconst C.1 C.2.1 hd rfl (kk ls hl)) (fun a b => ⟨a, b.i⟩) h
theorem ar_bipush {z : Int} (hz : (Int8.ofInt z).toInt32 = zI z) (hd : decode M.2.2.1 pc = .ok (.bipush z, 2)) (h : am_J Γ M Q d k n (pc + 2) L (vI (zI z) :: st) I Lg R G) : am_J Γ M Q d k n pc L st I Lg R G :=
  am_J.step (fun ρ p e Rm s m args below meth c H locs cells slots Z ls C hl kk => lv_bipush C.1 C.2.1 hd hz (kk ls hl)) (fun a b => ⟨a, b.i⟩) h
theorem ar_sipush {z : Int} (hz : (Int16.ofInt z).toInt32 = zI z) (hd : decode M.2.2.1 pc = .ok (.sipush z, 3)) (h : am_J Γ M Q d k n (pc + 3) L (vI (zI z) :: st) I Lg R G) : am_J Γ M Q d k n pc L st I Lg R G :=
  am_J.step (fun ρ p e Rm s m args below meth c H locs cells slots Z ls C hl kk => lv_sipush C.1 C.2.1 hd hz (kk ls hl)) (fun a b => ⟨a, b.i⟩) h
theorem ar_ldc {z : Int} {i : Nat} (hz : Cond.constant M.1 i (zI z) ∈ am_BIG) (hd : decode M.2.2.1 pc = .ok (.ldc i, 2)) (h : am_J Γ M Q d k n (pc + 2) L (vI (zI z) :: st) I Lg R G) : am_J Γ M Q d k n pc L st I Lg R G :=
  am_J.step (fun ρ p e Rm s m args below meth c H locs cells slots Z ls C hl kk => lv_ldc C.1 C.2.1 C.2.2.2.2.2.1 (C.2.2.2.2.2.2.1 _ hz) hd (kk ls hl)) (fun a b => ⟨a, b.i⟩) h
theorem ar_ldc2 {z : Int} {i : Nat} (hz : Cond.constantLong M.1 i (zL z) ∈ am_BIG) (hd : decode M.2.2.1 pc = .ok (.ldc2_w i, 3)) (h : am_J Γ M Q d k n (pc + 3) L (vL (zL z) :: st) I Lg R G) : am_J Γ M Q d k n pc L st I Lg R G :=
  am_J.step (fun ρ p e Rm s m args below meth c H locs cells slots Z ls C hl kk => lv_ldc2 C.1 C.2.1 C.2.2.2.2.2.1 (C.2.2.2.2.2.2.1 _ hz) hd (kk ls hl)) (fun a b => ⟨a, b.l⟩) h
theorem ar_lconst {j : Fin 2} {z : Int} (hz : Int64.ofNat (j : Nat) = zL z) (hd : decode M.2.2.1 pc = .ok (.lconst j, 1)) (h : am_J Γ M Q d k n (pc + 1) L (vL (zL z) :: st) I Lg R G) : am_J Γ M Q d k n pc L st I Lg R G :=
  am_J.step (fun ρ p e Rm s m args below meth c H locs cells slots Z ls C hl kk => lv_lconst C.1 C.2.1 hd hz (kk ls hl)) (fun a b => ⟨a, b.l⟩) h
theorem ar_iload_n {j : Fin 4} {x : Int32} (hv : L[(j : Nat)]? = some (some (vI x))) (hd : decode M.2.2.1 pc = .ok (.iload_n j, 1)) (h : am_J Γ M Q d k n (pc + 1) L (vI x :: st) I Lg R G) : am_J Γ M Q d k n pc L st I Lg R G :=
  am_J.step (fun ρ p e Rm s m args below meth c H locs cells slots Z ls C hl kk => lv_iload_n C.1 C.2.1 hd rfl (hl.at hv) (kk ls hl)) (fun a b => ⟨a, b.i⟩) h
theorem ar_iload {j : Nat} {x : Int32} (hv : L[j]? = some (some (vI x))) (hd : decode M.2.2.1 pc = .ok (.iload j, 2)) (h : am_J Γ M Q d k n (pc + 2) L (vI x :: st) I Lg R G) : am_J Γ M Q d k n pc L st I Lg R G :=
  am_J.step (fun ρ p e Rm s m args below meth c H locs cells slots Z ls C hl kk => lv_iload C.1 C.2.1 hd (hl.at hv) (kk ls hl)) (fun a b => ⟨a, b.i⟩) h
theorem ar_lload_n {j : Fin 4} {x : Int64} (hv : L[(j : Nat)]? = some (some (vL x))) (hd : decode M.2.2.1 pc = .ok (.lload_n j, 1)) (h : am_J Γ M Q d k n (pc + 1) L (vL x :: st) I Lg R G) : am_J Γ M Q d k n pc L st I Lg R G :=
  am_J.step (fun ρ p e Rm s m args below meth c H locs cells slots Z ls C hl kk => lv_lload_n C.1 C.2.1 hd rfl (hl.at hv) (kk ls hl)) (fun a b => ⟨a, b.l⟩) h
theorem ar_lload {j : Nat} {x : Int64} (hv : L[j]? = some (some (vL x))) (hd : decode M.2.2.1 pc = .ok (.lload j, 2)) (h : am_J Γ M Q d k n (pc + 2) L (vL x :: st) I Lg R G) : am_J Γ M Q d k n pc L st I Lg R G :=
  am_J.step (fun ρ p e Rm s m args below meth c H locs cells slots Z ls C hl kk => lv_lload C.1 C.2.1 hd (hl.at hv) (kk ls hl)) (fun a b => ⟨a, b.l⟩) h
theorem ar_aload_n {j : Fin 4} {o : Option (Nat × Nat)} (hv : L[(j : Nat)]? = some (some (.inr (.inr o)))) (hd : decode M.2.2.1 pc = .ok (.aload_n j, 1)) (h : am_J Γ M Q d k n (pc + 1) L (.inr (.inr o) :: st) I Lg R G) : am_J Γ M Q d k n pc L st I Lg R G :=
  am_J.step (fun ρ p e Rm s m args below meth c H locs cells slots Z ls C hl kk => by
    have h1 := hl.at hv
    obtain _ | ⟨a, b⟩ := o
    · refine W.go (g2 := F0 m (pc + 1) ls (.null :: st.map (am_con ρ))) (fun T hT tg ht => ?_) (kk ls hl)
      have h2 : ls[(j : Nat)]? = some (.val .null) := h1
      jvm_step hT [hT.top, C.1, C.2.1, hd, h2, Value.isRef]
      exact ht
    · exact lv_aload_n C.1 C.2.1 hd rfl h1 (kk ls hl)) (fun a b => ⟨a, am_okS.cons (a.at hv) b⟩) h
theorem ar_aload {j : Nat} {o : Option (Nat × Nat)} (hv : L[j]? = some (some (.inr (.inr o)))) (hd : decode M.2.2.1 pc = .ok (.aload j, 2)) (h : am_J Γ M Q d k n (pc + 2) L (.inr (.inr o) :: st) I Lg R G) : am_J Γ M Q d k n pc L st I Lg R G :=
  am_J.step (fun ρ p e Rm s m args below meth c H locs cells slots Z ls C hl kk => by
    have h1 := hl.at hv
    obtain _ | ⟨a, b⟩ := o
    · refine W.go (g2 := F0 m (pc + 2) ls (.null :: st.map (am_con ρ))) (fun T hT tg ht => ?_) (kk ls hl)
      have h2 : ls[j]? = some (.val .null) := h1
      jvm_step hT [hT.top, C.1, C.2.1, hd, h2, Value.isRef]
      exact ht
    · exact lv_aload C.1 C.2.1 hd h1 (kk ls hl)) (fun a b => ⟨a, am_okS.cons (a.at hv) b⟩) h
end AMR
end
section
/-! rules: stores, arithmetic, branches -/
section AMR
variable {Γ : AMG} {M : MD} {Q : QQ} {d k n pc pc' pc2 : Nat} {L L' : LL} {st st' : List AV} {I : II} {Lg : LJ} {R : RR} {G : GG}
/-- a step with two ends -/
theorem am_J.br {A B : Prop} (hs : ∀ (ρ : Nat → Nat → Nat) (p : Program) (e : Env) (Rm : Room) (s : State) (m : MethodId) (args : Array Value) (below : List Frame) (meth : Method) (c : Code) (H : Heap) (locs : List Loc) (cells slots : Nat) (Z : State → Prop) (ls : Array Slot), am_Cx Γ M p s m args meth c →
      (A → W p Γ.l e Rm s m args below meth c H locs cells slots Z (F0 m pc' ls (st'.map (am_con ρ)))) → (B → W p Γ.l e Rm s m args below meth c H locs cells slots Z (F0 m pc2 ls (st'.map (am_con ρ)))) → W p Γ.l e Rm s m args below meth c H locs cells slots Z (F0 m pc ls (st.map (am_con ρ))))
    (ho : am_okS G st → am_okS G st') (h1 : A → am_J Γ M Q d k n pc' L st' I Lg R G) (h2 : B → am_J Γ M Q d k n pc2 L st' I Lg R G) : am_J Γ M Q d k n pc L st I Lg R G := by
  intro ρ p e Rm s m args below meth c H locs cells slots Z C g1 g2 g3 g4 hW hl hoL hoS ret ls hL
  exact hs ρ p e Rm s m args below meth c H locs cells slots Z ls C (fun q => h1 q ρ p e Rm s m args below meth c H locs cells slots Z C g1 g2 g3 g4 hW hl hoL (ho hoS) ret ls hL) (fun q => h2 q ρ p e Rm s m args below meth c H locs cells slots Z C g1 g2 g3 g4 hW hl hoL (ho hoS) ret ls hL)
theorem ar_istore_n {j : Fin 4} {x : Int32} (hi : (j : Nat) < L.length) (hd : decode M.2.2.1 pc = .ok (.istore_n j, 1)) (h : am_J Γ M Q d k n (pc + 1) (am_st L (j : Nat) (some (vI x))) st I Lg R G) : am_J Γ M Q d k n pc L (vI x :: st) I Lg R G :=
  am_J.step (fun ρ p e Rm s m args below meth c H locs cells slots Z ls C hl kk => by
    obtain ⟨ls', e', h'⟩ := hl.st1 (v := vI x) hi (by rfl)
    have e2 : storeLocals ls (j : Nat) (.int x) = some ls' := e'
    refine W.go (g2 := F0 m (pc + 1) ls' (st.map (am_con ρ))) (fun T hT tg ht => ?_) (kk ls' h')
    show Steps p.tables e below (T.setTop (F0 m pc ls (.int x :: st.map (am_con ρ)))) tg
    jvm_step hT [hT.top, ↓top_set hT.top, C.1, C.2.1, hd, e2]
    exact ht) (fun a b => ⟨a.sto (v := vI x) trivial, b.tl⟩) h
theorem ar_istore {j : Nat} {x : Int32} (hi : j < L.length) (hd : decode M.2.2.1 pc = .ok (.istore j, 2)) (h : am_J Γ M Q d k n (pc + 2) (am_st L j (some (vI x))) st I Lg R G) : am_J Γ M Q d k n pc L (vI x :: st) I Lg R G :=
  am_J.step (fun ρ p e Rm s m args below meth c H locs cells slots Z ls C hl kk => by
    obtain ⟨ls', e', h'⟩ := hl.st1 (v := vI x) hi (by rfl)
    have e2 : storeLocals ls j (.int x) = some ls' := e'
    refine W.go (g2 := F0 m (pc + 2) ls' (st.map (am_con ρ))) (fun T hT tg ht => ?_) (kk ls' h')
    show Steps p.tables e below (T.setTop (F0 m pc ls (.int x :: st.map (am_con ρ)))) tg
    jvm_step hT [hT.top, ↓top_set hT.top, C.1, C.2.1, hd, e2]
    exact ht) (fun a b => ⟨a.sto (v := vI x) trivial, b.tl⟩) h
theorem ar_astore_n {j : Fin 4} {o : Option (Nat × Nat)} (hi : (j : Nat) < L.length) (hd : decode M.2.2.1 pc = .ok (.astore_n j, 1)) (h : am_J Γ M Q d k n (pc + 1) (am_st L (j : Nat) (some (.inr (.inr o)))) st I Lg R G) : am_J Γ M Q d k n pc L (.inr (.inr o) :: st) I Lg R G :=
  am_J.step (fun ρ p e Rm s m args below meth c H locs cells slots Z ls C hl kk => by
    obtain ⟨ls', e', h'⟩ := hl.st1 (v := .inr (.inr o)) hi (by obtain _ | ⟨a, b⟩ := o <;> rfl)
    refine W.go (g2 := F0 m (pc + 1) ls' (st.map (am_con ρ))) (fun T hT tg ht => ?_) (kk ls' h')
    obtain _ | ⟨a, b⟩ := o
    · have e2 : storeLocals ls (j : Nat) .null = some ls' := e'
      show Steps p.tables e below (T.setTop (F0 m pc ls (.null :: st.map (am_con ρ)))) tg
      jvm_step hT [hT.top, ↓top_set hT.top, C.1, C.2.1, hd, e2, Value.isRef]
      exact ht
    · have e2 : storeLocals ls (j : Nat) (.ref (ρ a b)) = some ls' := e'
      show Steps p.tables e below (T.setTop (F0 m pc ls (.ref (ρ a b) :: st.map (am_con ρ)))) tg
      jvm_step hT [hT.top, ↓top_set hT.top, C.1, C.2.1, hd, e2, Value.isRef]
      exact ht) (fun a b => ⟨a.sto b.hd, b.tl⟩) h
theorem ar_astore {j : Nat} {o : Option (Nat × Nat)} (hi : j < L.length) (hd : decode M.2.2.1 pc = .ok (.astore j, 2)) (h : am_J Γ M Q d k n (pc + 2) (am_st L j (some (.inr (.inr o)))) st I Lg R G) : am_J Γ M Q d k n pc L (.inr (.inr o) :: st) I Lg R G :=
  am_J.step (fun ρ p e Rm s m args below meth c H locs cells slots Z ls C hl kk => by
    obtain ⟨ls', e', h'⟩ := hl.st1 (v := .inr (.inr o)) hi (by obtain _ | ⟨a, b⟩ := o <;> rfl)
    refine W.go (g2 := F0 m (pc + 2) ls' (st.map (am_con ρ))) (fun T hT tg ht => ?_) (kk ls' h')
    obtain _ | ⟨a, b⟩ := o
    · have e2 : storeLocals ls j .null = some ls' := e'
      show Steps p.tables e below (T.setTop (F0 m pc ls (.null :: st.map (am_con ρ)))) tg
      jvm_step hT [hT.top, ↓top_set hT.top, C.1, C.2.1, hd, e2, Value.isRef]
      exact ht
    · have e2 : storeLocals ls j (.ref (ρ a b)) = some ls' := e'
      show Steps p.tables e below (T.setTop (F0 m pc ls (.ref (ρ a b) :: st.map (am_con ρ)))) tg
      jvm_step hT [hT.top, ↓top_set hT.top, C.1, C.2.1, hd, e2, Value.isRef]
      exact ht) (fun a b => ⟨a.sto b.hd, b.tl⟩) h
theorem ar_lstore_n {j : Fin 4} {x : Int64} (hi : (j : Nat) + 1 < L.length) (hd : decode M.2.2.1 pc = .ok (.lstore_n j, 1)) (h : am_J Γ M Q d k n (pc + 1) ((am_st L (j : Nat) (some (vL x))).set ((j : Nat) + 1) none) st I Lg R G) : am_J Γ M Q d k n pc L (vL x :: st) I Lg R G :=
  am_J.step (fun ρ p e Rm s m args below meth c H locs cells slots Z ls C hl kk => by
    obtain ⟨ls', e', h'⟩ := hl.st2 (v := vL x) hi rfl
    have e2 : storeLocals ls (j : Nat) (.long x) = some ls' := e'
    refine W.go (g2 := F0 m (pc + 1) ls' (st.map (am_con ρ))) (fun T hT tg ht => ?_) (kk ls' h')
    show Steps p.tables e below (T.setTop (F0 m pc ls (.long x :: st.map (am_con ρ)))) tg
    jvm_step hT [hT.top, ↓top_set hT.top, C.1, C.2.1, hd, e2]
    exact ht) (fun a b => ⟨(a.sto (v := vL x) trivial).set, b.tl⟩) h
theorem ar_lstore {j : Nat} {x : Int64} (hi : j + 1 < L.length) (hd : decode M.2.2.1 pc = .ok (.lstore j, 2)) (h : am_J Γ M Q d k n (pc + 2) ((am_st L j (some (vL x))).set (j + 1) none) st I Lg R G) : am_J Γ M Q d k n pc L (vL x :: st) I Lg R G :=
  am_J.step (fun ρ p e Rm s m args below meth c H locs cells slots Z ls C hl kk => by
    obtain ⟨ls', e', h'⟩ := hl.st2 (v := vL x) hi rfl
    have e2 : storeLocals ls j (.long x) = some ls' := e'
    refine W.go (g2 := F0 m (pc + 2) ls' (st.map (am_con ρ))) (fun T hT tg ht => ?_) (kk ls' h')
    show Steps p.tables e below (T.setTop (F0 m pc ls (.long x :: st.map (am_con ρ)))) tg
    jvm_step hT [hT.top, ↓top_set hT.top, C.1, C.2.1, hd, e2]
    exact ht) (fun a b => ⟨(a.sto (v := vL x) trivial).set, b.tl⟩) h
theorem ar_iinc {j : Nat} {z : Int} {x : Int32} (hv : L[j]? = some (some (vI x))) (hd : decode M.2.2.1 pc = .ok (.iinc j z, 3)) (h : am_J Γ M Q d k n (pc + 3) (am_st L j (some (vI (x + zI z)))) st I Lg R G) : am_J Γ M Q d k n pc L st I Lg R G :=
  am_J.step (fun ρ p e Rm s m args below meth c H locs cells slots Z ls C hl kk => by
    obtain ⟨ls', e', h'⟩ := hl.st1 (v := vI (x + zI z)) (List.getElem?_eq_some_iff.mp hv).1 rfl
    have e2 : storeLocals ls j (.int (x + Int32.ofInt z)) = some ls' := e'
    have hg : ls[j]? = some (.val (.int x)) := hl.at hv
    refine W.go (g2 := F0 m (pc + 3) ls' (st.map (am_con ρ))) (fun T hT tg ht => ?_) (kk ls' h')
    jvm_step hT [hT.top, ↓top_set hT.top, C.1, C.2.1, hd, hg, e2]
    exact ht) (fun a b => ⟨a.sto (v := vI (x + zI z)) trivial, b⟩) h
theorem ar_iadd {x y : Int32} (hd : decode M.2.2.1 pc = .ok (.iadd, 1)) (h : am_J Γ M Q d k n (pc + 1) L (vI (x + y) :: st) I Lg R G) : am_J Γ M Q d k n pc L (vI y :: vI x :: st) I Lg R G :=
  am_J.step (fun ρ p e Rm s m args below meth c H locs cells slots Z ls C hl kk => lv_iadd C.1 C.2.1 hd (kk ls hl)) (fun a b => ⟨a, b.tl.tl.i⟩) h
theorem ar_isub {x y : Int32} (hd : decode M.2.2.1 pc = .ok (.isub, 1)) (h : am_J Γ M Q d k n (pc + 1) L (vI (x - y) :: st) I Lg R G) : am_J Γ M Q d k n pc L (vI y :: vI x :: st) I Lg R G :=
  am_J.step (fun ρ p e Rm s m args below meth c H locs cells slots Z ls C hl kk => lv_isub C.1 C.2.1 hd (kk ls hl)) (fun a b => ⟨a, b.tl.tl.i⟩) h
theorem ar_imul {x y : Int32} (hd : decode M.2.2.1 pc = .ok (.imul, 1)) (h : am_J Γ M Q d k n (pc + 1) L (vI (x * y) :: st) I Lg R G) : am_J Γ M Q d k n pc L (vI y :: vI x :: st) I Lg R G :=
  am_J.step (fun ρ p e Rm s m args below meth c H locs cells slots Z ls C hl kk => lv_imul C.1 C.2.1 hd (kk ls hl)) (fun a b => ⟨a, b.tl.tl.i⟩) h
theorem ar_iand {x y : Int32} (hd : decode M.2.2.1 pc = .ok (.iand, 1)) (h : am_J Γ M Q d k n (pc + 1) L (vI (x &&& y) :: st) I Lg R G) : am_J Γ M Q d k n pc L (vI y :: vI x :: st) I Lg R G :=
  am_J.step (fun ρ p e Rm s m args below meth c H locs cells slots Z ls C hl kk => lv_iand C.1 C.2.1 hd (kk ls hl)) (fun a b => ⟨a, b.tl.tl.i⟩) h
theorem ar_ior {x y : Int32} (hd : decode M.2.2.1 pc = .ok (.ior, 1)) (h : am_J Γ M Q d k n (pc + 1) L (vI (x ||| y) :: st) I Lg R G) : am_J Γ M Q d k n pc L (vI y :: vI x :: st) I Lg R G :=
  am_J.step (fun ρ p e Rm s m args below meth c H locs cells slots Z ls C hl kk => lv_ior C.1 C.2.1 hd (kk ls hl)) (fun a b => ⟨a, b.tl.tl.i⟩) h
theorem ar_ixor {x y : Int32} (hd : decode M.2.2.1 pc = .ok (.ixor, 1)) (h : am_J Γ M Q d k n (pc + 1) L (vI (x ^^^ y) :: st) I Lg R G) : am_J Γ M Q d k n pc L (vI y :: vI x :: st) I Lg R G :=
  am_J.step (fun ρ p e Rm s m args below meth c H locs cells slots Z ls C hl kk => lv_ixor C.1 C.2.1 hd (kk ls hl)) (fun a b => ⟨a, b.tl.tl.i⟩) h
theorem ar_ishl {x y : Int32} (hd : decode M.2.2.1 pc = .ok (.ishl, 1)) (h : am_J Γ M Q d k n (pc + 1) L (vI (x <<< (y &&& 31)) :: st) I Lg R G) : am_J Γ M Q d k n pc L (vI y :: vI x :: st) I Lg R G :=
  am_J.step (fun ρ p e Rm s m args below meth c H locs cells slots Z ls C hl kk => lv_ishl C.1 C.2.1 hd (kk ls hl)) (fun a b => ⟨a, b.tl.tl.i⟩) h
theorem ar_ishr {x y : Int32} (hd : decode M.2.2.1 pc = .ok (.ishr, 1)) (h : am_J Γ M Q d k n (pc + 1) L (vI (x >>> (y &&& 31)) :: st) I Lg R G) : am_J Γ M Q d k n pc L (vI y :: vI x :: st) I Lg R G :=
  am_J.step (fun ρ p e Rm s m args below meth c H locs cells slots Z ls C hl kk => lv_ishr C.1 C.2.1 hd (kk ls hl)) (fun a b => ⟨a, b.tl.tl.i⟩) h
theorem ar_idiv {x y : Int32} (hy : y.toInt ≠ 0) (hd : decode M.2.2.1 pc = .ok (.idiv, 1)) (h : am_J Γ M Q d k n (pc + 1) L (vI (x / y) :: st) I Lg R G) : am_J Γ M Q d k n pc L (vI y :: vI x :: st) I Lg R G :=
  am_J.step (fun ρ p e Rm s m args below meth c H locs cells slots Z ls C hl kk => lv_idiv C.1 C.2.1 hd (fun z => hy (by rw [z]; rfl)) (kk ls hl)) (fun a b => ⟨a, b.tl.tl.i⟩) h
theorem ar_irem {x y : Int32} (hy : y.toInt ≠ 0) (hd : decode M.2.2.1 pc = .ok (.irem, 1)) (h : am_J Γ M Q d k n (pc + 1) L (vI (x - x / y * y) :: st) I Lg R G) : am_J Γ M Q d k n pc L (vI y :: vI x :: st) I Lg R G :=
  am_J.step (fun ρ p e Rm s m args below meth c H locs cells slots Z ls C hl kk => lv_irem C.1 C.2.1 hd (fun z => hy (by rw [z]; rfl)) (kk ls hl)) (fun a b => ⟨a, b.tl.tl.i⟩) h
theorem ar_iushr {x y : Int32} (hd : decode M.2.2.1 pc = .ok (.iushr, 1)) (h : am_J Γ M Q d k n (pc + 1) L (vI (x.toUInt32 >>> (y.toUInt32 &&& Int32.toUInt32 31)).toInt32 :: st) I Lg R G) : am_J Γ M Q d k n pc L (vI y :: vI x :: st) I Lg R G :=
  am_J.step (fun ρ p e Rm s m args below meth c H locs cells slots Z ls C hl kk => lv_iushr C.1 C.2.1 hd rfl (kk ls hl)) (fun a b => ⟨a, b.tl.tl.i⟩) h
theorem ar_ineg {x : Int32} (hd : decode M.2.2.1 pc = .ok (.ineg, 1)) (h : am_J Γ M Q d k n (pc + 1) L (vI (-x) :: st) I Lg R G) : am_J Γ M Q d k n pc L (vI x :: st) I Lg R G :=
  am_J.step (fun ρ p e Rm s m args below meth c H locs cells slots Z ls C hl kk => lv_ineg C.1 C.2.1 hd (kk ls hl)) (fun a b => ⟨a, b.tl.i⟩) h
theorem ar_i2l {x : Int32} (hd : decode M.2.2.1 pc = .ok (.i2l, 1)) (h : am_J Γ M Q d k n (pc + 1) L (vL x.toInt64 :: st) I Lg R G) : am_J Γ M Q d k n pc L (vI x :: st) I Lg R G :=
  am_J.step (fun ρ p e Rm s m args below meth c H locs cells slots Z ls C hl kk => lv_i2l C.1 C.2.1 hd rfl (kk ls hl)) (fun a b => ⟨a, b.tl.l⟩) h
theorem ar_ladd {x y : Int64} (hd : decode M.2.2.1 pc = .ok (.ladd, 1)) (h : am_J Γ M Q d k n (pc + 1) L (vL (x + y) :: st) I Lg R G) : am_J Γ M Q d k n pc L (vL y :: vL x :: st) I Lg R G :=
  am_J.step (fun ρ p e Rm s m args below meth c H locs cells slots Z ls C hl kk => lv_ladd C.1 C.2.1 hd (kk ls hl)) (fun a b => ⟨a, b.tl.tl.l⟩) h
theorem ar_lsub {x y : Int64} (hd : decode M.2.2.1 pc = .ok (.lsub, 1)) (h : am_J Γ M Q d k n (pc + 1) L (vL (x - y) :: st) I Lg R G) : am_J Γ M Q d k n pc L (vL y :: vL x :: st) I Lg R G :=
  am_J.step (fun ρ p e Rm s m args below meth c H locs cells slots Z ls C hl kk => lv_lsub C.1 C.2.1 hd (kk ls hl)) (fun a b => ⟨a, b.tl.tl.l⟩) h
theorem ar_lmul {x y : Int64} (hd : decode M.2.2.1 pc = .ok (.lmul, 1)) (h : am_J Γ M Q d k n (pc + 1) L (vL (x * y) :: st) I Lg R G) : am_J Γ M Q d k n pc L (vL y :: vL x :: st) I Lg R G :=
  am_J.step (fun ρ p e Rm s m args below meth c H locs cells slots Z ls C hl kk => lv_lmul C.1 C.2.1 hd (kk ls hl)) (fun a b => ⟨a, b.tl.tl.l⟩) h
theorem ar_lcmp {x y : Int64} (hd : decode M.2.2.1 pc = .ok (.lcmp, 1)) (h : am_J Γ M Q d k n (pc + 1) L (vI (lg_cmp x y) :: st) I Lg R G) : am_J Γ M Q d k n pc L (vL y :: vL x :: st) I Lg R G :=
  am_J.step (fun ρ p e Rm s m args below meth c H locs cells slots Z ls C hl kk => W.lcmp C.1 C.2.1 hd (kk ls hl)) (fun a b => ⟨a, b.tl.tl.i⟩) h
theorem ar_if_eq {x : Int32} {off : Int} {tgt : Nat} (hd : decode M.2.2.1 pc = .ok (.ifCond .eq off, 3)) (ht : (pc : Int) + off = (tgt : Int)) (h1 : x.toInt = 0 → am_J Γ M Q d k n tgt L st I Lg R G) (h2 : x.toInt ≠ 0 → am_J Γ M Q d k n (pc + 3) L st I Lg R G) : am_J Γ M Q d k n pc L (vI x :: st) I Lg R G :=
  am_J.br (fun ρ p e Rm s m args below meth c H locs cells slots Z ls C k1 k2 => lv_if_eq C.1 C.2.1 hd ht (fun q => k1 (by have := q; simp only [Int32.lt_iff_toInt_lt, Int32.le_iff_toInt_le, ← Int32.toInt_inj, Int32.toInt_zero] at this; omega)) (fun q => k2 (by have := q; simp only [Int32.lt_iff_toInt_lt, Int32.le_iff_toInt_le, ← Int32.toInt_inj, Int32.toInt_zero] at this; omega))) (fun b => b.tl) h1 h2
theorem ar_ic_eq {x y : Int32} {off : Int} {tgt : Nat} (hd : decode M.2.2.1 pc = .ok (.if_icmp .eq off, 3)) (ht : (pc : Int) + off = (tgt : Int)) (h1 : x.toInt = y.toInt → am_J Γ M Q d k n tgt L st I Lg R G) (h2 : x.toInt ≠ y.toInt → am_J Γ M Q d k n (pc + 3) L st I Lg R G) : am_J Γ M Q d k n pc L (vI y :: vI x :: st) I Lg R G :=
  am_J.br (fun ρ p e Rm s m args below meth c H locs cells slots Z ls C k1 k2 => lv_icmp_eq C.1 C.2.1 hd ht (fun q => k1 (by have := q; simp only [Int32.lt_iff_toInt_lt, Int32.le_iff_toInt_le, ← Int32.toInt_inj] at this; omega)) (fun q => k2 (by have := q; simp only [Int32.lt_iff_toInt_lt, Int32.le_iff_toInt_le, ← Int32.toInt_inj] at this; omega))) (fun b => b.tl.tl) h1 h2
theorem ar_if_ne {x : Int32} {off : Int} {tgt : Nat} (hd : decode M.2.2.1 pc = .ok (.ifCond .ne off, 3)) (ht : (pc : Int) + off = (tgt : Int)) (h1 : x.toInt ≠ 0 → am_J Γ M Q d k n tgt L st I Lg R G) (h2 : x.toInt = 0 → am_J Γ M Q d k n (pc + 3) L st I Lg R G) : am_J Γ M Q d k n pc L (vI x :: st) I Lg R G :=
  am_J.br (fun ρ p e Rm s m args below meth c H locs cells slots Z ls C k1 k2 => lv_if_ne C.1 C.2.1 hd ht (fun q => k1 (by have := q; simp only [Int32.lt_iff_toInt_lt, Int32.le_iff_toInt_le, ← Int32.toInt_inj, Int32.toInt_zero] at this; omega)) (fun q => k2 (by have := q; simp only [Int32.lt_iff_toInt_lt, Int32.le_iff_toInt_le, ← Int32.toInt_inj, Int32.toInt_zero] at this; omega))) (fun b => b.tl) h1 h2
theorem ar_ic_ne {x y : Int32} {off : Int} {tgt : Nat} (hd : decode M.2.2.1 pc = .ok (.if_icmp .ne off, 3)) (ht : (pc : Int) + off = (tgt : Int)) (h1 : x.toInt ≠ y.toInt → am_J Γ M Q d k n tgt L st I Lg R G) (h2 : x.toInt = y.toInt → am_J Γ M Q d k n (pc + 3) L st I Lg R G) : am_J Γ M Q d k n pc L (vI y :: vI x :: st) I Lg R G :=
  am_J.br (fun ρ p e Rm s m args below meth c H locs cells slots Z ls C k1 k2 => lv_icmp_ne C.1 C.2.1 hd ht (fun q => k1 (by have := q; simp only [Int32.lt_iff_toInt_lt, Int32.le_iff_toInt_le, ← Int32.toInt_inj] at this; omega)) (fun q => k2 (by have := q; simp only [Int32.lt_iff_toInt_lt, Int32.le_iff_toInt_le, ← Int32.toInt_inj] at this; omega))) (fun b => b.tl.tl) h1 h2
theorem ar_if_lt {x : Int32} {off : Int} {tgt : Nat} (hd : decode M.2.2.1 pc = .ok (.ifCond .lt off, 3)) (ht : (pc : Int) + off = (tgt : Int)) (h1 : x.toInt < 0 → am_J Γ M Q d k n tgt L st I Lg R G) (h2 : 0 ≤ x.toInt → am_J Γ M Q d k n (pc + 3) L st I Lg R G) : am_J Γ M Q d k n pc L (vI x :: st) I Lg R G :=
  am_J.br (fun ρ p e Rm s m args below meth c H locs cells slots Z ls C k1 k2 => lv_if_lt C.1 C.2.1 hd ht (fun q => k1 (by have := q; simp only [Int32.lt_iff_toInt_lt, Int32.le_iff_toInt_le, ← Int32.toInt_inj, Int32.toInt_zero] at this; omega)) (fun q => k2 (by have := q; simp only [Int32.lt_iff_toInt_lt, Int32.le_iff_toInt_le, ← Int32.toInt_inj, Int32.toInt_zero] at this; omega))) (fun b => b.tl) h1 h2
theorem ar_ic_lt {x y : Int32} {off : Int} {tgt : Nat} (hd : decode M.2.2.1 pc = .ok (.if_icmp .lt off, 3)) (ht : (pc : Int) + off = (tgt : Int)) (h1 : x.toInt < y.toInt → am_J Γ M Q d k n tgt L st I Lg R G) (h2 : y.toInt ≤ x.toInt → am_J Γ M Q d k n (pc + 3) L st I Lg R G) : am_J Γ M Q d k n pc L (vI y :: vI x :: st) I Lg R G :=
  am_J.br (fun ρ p e Rm s m args below meth c H locs cells slots Z ls C k1 k2 => lv_icmp_lt C.1 C.2.1 hd ht (fun q => k1 (by have := q; simp only [Int32.lt_iff_toInt_lt, Int32.le_iff_toInt_le, ← Int32.toInt_inj] at this; omega)) (fun q => k2 (by have := q; simp only [Int32.lt_iff_toInt_lt, Int32.le_iff_toInt_le, ← Int32.toInt_inj] at this; omega))) (fun b => b.tl.tl) h1 h2
theorem ar_if_ge {x : Int32} {off : Int} {tgt : Nat} (hd : decode M.2.2.1 pc = .ok (.ifCond .ge off, 3)) (ht : (pc : Int) + off = (tgt : Int)) (h1 : 0 ≤ x.toInt → am_J Γ M Q d k n tgt L st I Lg R G) (h2 : x.toInt < 0 → am_J Γ M Q d k n (pc + 3) L st I Lg R G) : am_J Γ M Q d k n pc L (vI x :: st) I Lg R G :=
  am_J.br (fun ρ p e Rm s m args below meth c H locs cells slots Z ls C k1 k2 => lv_if_ge C.1 C.2.1 hd ht (fun q => k1 (by have := q; simp only [Int32.lt_iff_toInt_lt, Int32.le_iff_toInt_le, ← Int32.toInt_inj, Int32.toInt_zero] at this; omega)) (fun q => k2 (by have := q; simp only [Int32.lt_iff_toInt_lt, Int32.le_iff_toInt_le, ← Int32.toInt_inj, Int32.toInt_zero] at this; omega))) (fun b => b.tl) h1 h2
theorem ar_ic_ge {x y : Int32} {off : Int} {tgt : Nat} (hd : decode M.2.2.1 pc = .ok (.if_icmp .ge off, 3)) (ht : (pc : Int) + off = (tgt : Int)) (h1 : y.toInt ≤ x.toInt → am_J Γ M Q d k n tgt L st I Lg R G) (h2 : x.toInt < y.toInt → am_J Γ M Q d k n (pc + 3) L st I Lg R G) : am_J Γ M Q d k n pc L (vI y :: vI x :: st) I Lg R G :=
  am_J.br (fun ρ p e Rm s m args below meth c H locs cells slots Z ls C k1 k2 => lv_icmp_ge C.1 C.2.1 hd ht (fun q => k1 (by have := q; simp only [Int32.lt_iff_toInt_lt, Int32.le_iff_toInt_le, ← Int32.toInt_inj] at this; omega)) (fun q => k2 (by have := q; simp only [Int32.lt_iff_toInt_lt, Int32.le_iff_toInt_le, ← Int32.toInt_inj] at this; omega))) (fun b => b.tl.tl) h1 h2
theorem ar_if_gt {x : Int32} {off : Int} {tgt : Nat} (hd : decode M.2.2.1 pc = .ok (.ifCond .gt off, 3)) (ht : (pc : Int) + off = (tgt : Int)) (h1 : 0 < x.toInt → am_J Γ M Q d k n tgt L st I Lg R G) (h2 : x.toInt ≤ 0 → am_J Γ M Q d k n (pc + 3) L st I Lg R G) : am_J Γ M Q d k n pc L (vI x :: st) I Lg R G :=
  am_J.br (fun ρ p e Rm s m args below meth c H locs cells slots Z ls C k1 k2 => lv_if_gt C.1 C.2.1 hd ht (fun q => k1 (by have := q; simp only [Int32.lt_iff_toInt_lt, Int32.le_iff_toInt_le, ← Int32.toInt_inj, Int32.toInt_zero] at this; omega)) (fun q => k2 (by have := q; simp only [Int32.lt_iff_toInt_lt, Int32.le_iff_toInt_le, ← Int32.toInt_inj, Int32.toInt_zero] at this; omega))) (fun b => b.tl) h1 h2
theorem ar_ic_gt {x y : Int32} {off : Int} {tgt : Nat} (hd : decode M.2.2.1 pc = .ok (.if_icmp .gt off, 3)) (ht : (pc : Int) + off = (tgt : Int)) (h1 : y.toInt < x.toInt → am_J Γ M Q d k n tgt L st I Lg R G) (h2 : x.toInt ≤ y.toInt → am_J Γ M Q d k n (pc + 3) L st I Lg R G) : am_J Γ M Q d k n pc L (vI y :: vI x :: st) I Lg R G :=
  am_J.br (fun ρ p e Rm s m args below meth c H locs cells slots Z ls C k1 k2 => lv_icmp_gt C.1 C.2.1 hd ht (fun q => k1 (by have := q; simp only [Int32.lt_iff_toInt_lt, Int32.le_iff_toInt_le, ← Int32.toInt_inj] at this; omega)) (fun q => k2 (by have := q; simp only [Int32.lt_iff_toInt_lt, Int32.le_iff_toInt_le, ← Int32.toInt_inj] at this; omega))) (fun b => b.tl.tl) h1 h2
theorem ar_if_le {x : Int32} {off : Int} {tgt : Nat} (hd : decode M.2.2.1 pc = .ok (.ifCond .le off, 3)) (ht : (pc : Int) + off = (tgt : Int)) (h1 : x.toInt ≤ 0 → am_J Γ M Q d k n tgt L st I Lg R G) (h2 : 0 < x.toInt → am_J Γ M Q d k n (pc + 3) L st I Lg R G) : am_J Γ M Q d k n pc L (vI x :: st) I Lg R G :=
  am_J.br (fun ρ p e Rm s m args below meth c H locs cells slots Z ls C k1 k2 => lv_if_le C.1 C.2.1 hd ht (fun q => k1 (by have := q; simp only [Int32.lt_iff_toInt_lt, Int32.le_iff_toInt_le, ← Int32.toInt_inj, Int32.toInt_zero] at this; omega)) (fun q => k2 (by have := q; simp only [Int32.lt_iff_toInt_lt, Int32.le_iff_toInt_le, ← Int32.toInt_inj, Int32.toInt_zero] at this; omega))) (fun b => b.tl) h1 h2
theorem ar_ic_le {x y : Int32} {off : Int} {tgt : Nat} (hd : decode M.2.2.1 pc = .ok (.if_icmp .le off, 3)) (ht : (pc : Int) + off = (tgt : Int)) (h1 : x.toInt ≤ y.toInt → am_J Γ M Q d k n tgt L st I Lg R G) (h2 : y.toInt < x.toInt → am_J Γ M Q d k n (pc + 3) L st I Lg R G) : am_J Γ M Q d k n pc L (vI y :: vI x :: st) I Lg R G :=
  am_J.br (fun ρ p e Rm s m args below meth c H locs cells slots Z ls C k1 k2 => lv_icmp_le C.1 C.2.1 hd ht (fun q => k1 (by have := q; simp only [Int32.lt_iff_toInt_lt, Int32.le_iff_toInt_le, ← Int32.toInt_inj] at this; omega)) (fun q => k2 (by have := q; simp only [Int32.lt_iff_toInt_lt, Int32.le_iff_toInt_le, ← Int32.toInt_inj] at this; omega))) (fun b => b.tl.tl) h1 h2
theorem ar_goto {off : Int} {tgt : Nat} (hd : decode M.2.2.1 pc = .ok (.goto off, 3)) (ht : (pc : Int) + off = (tgt : Int)) (h : am_J Γ M Q d k n tgt L st I Lg R G) : am_J Γ M Q d k n pc L st I Lg R G :=
  am_J.step (fun ρ p e Rm s m args below meth c H locs cells slots Z ls C hl kk => lv_goto C.1 C.2.1 hd ht (kk ls hl)) (fun a b => ⟨a, b⟩) h
theorem ar_null (hd : decode M.2.2.1 pc = .ok (.aconst_null, 1)) (h : am_J Γ M Q d k n (pc + 1) L (vN :: st) I Lg R G) : am_J Γ M Q d k n pc L st I Lg R G :=
  am_J.step (fun ρ p e Rm s m args below meth c H locs cells slots Z ls C hl kk => lv_null C.1 C.2.1 hd (kk ls hl)) (fun a b => ⟨a, am_okS.cons (v := vN) trivial b⟩) h
theorem ar_ifnull {a b : Nat} {off : Int} (hd : decode M.2.2.1 pc = .ok (.ifnull off, 3)) (h : am_J Γ M Q d k n (pc + 3) L st I Lg R G) : am_J Γ M Q d k n pc L (vR a b :: st) I Lg R G :=
  am_J.step (fun ρ p e Rm s m args below meth c H locs cells slots Z ls C hl kk => lv_ifnull C.1 C.2.1 hd (kk ls hl)) (fun a b => ⟨a, b.tl⟩) h
theorem ar_ifnullN {off : Int} {tgt : Nat} (hd : decode M.2.2.1 pc = .ok (.ifnull off, 3)) (ht : (pc : Int) + off = (tgt : Int)) (h : am_J Γ M Q d k n tgt L st I Lg R G) : am_J Γ M Q d k n pc L (vN :: st) I Lg R G :=
  am_J.step (fun ρ p e Rm s m args below meth c H locs cells slots Z ls C hl kk => lv_ifnullN C.1 C.2.1 hd ht (kk ls hl)) (fun a b => ⟨a, b.tl⟩) h
theorem ar_ifnonnull {a b : Nat} {off : Int} {tgt : Nat} (hd : decode M.2.2.1 pc = .ok (.ifnonnull off, 3)) (ht : (pc : Int) + off = (tgt : Int)) (h : am_J Γ M Q d k n tgt L st I Lg R G) : am_J Γ M Q d k n pc L (vR a b :: st) I Lg R G :=
  am_J.step (fun ρ p e Rm s m args below meth c H locs cells slots Z ls C hl kk => lv_ifnonnull C.1 C.2.1 hd ht (kk ls hl)) (fun a b => ⟨a, b.tl⟩) h
theorem ar_ifnonnullN {off : Int} (hd : decode M.2.2.1 pc = .ok (.ifnonnull off, 3)) (h : am_J Γ M Q d k n (pc + 3) L st I Lg R G) : am_J Γ M Q d k n pc L (vN :: st) I Lg R G :=
  am_J.step (fun ρ p e Rm s m args below meth c H locs cells slots Z ls C hl kk => lv_ifnonnullN C.1 C.2.1 hd (kk ls hl)) (fun a b => ⟨a, b.tl⟩) h
theorem ar_dup {v : AV} (hc : ∀ ρ, (am_con ρ v).category = 1) (hd : decode M.2.2.1 pc = .ok (.dup, 1)) (h : am_J Γ M Q d k n (pc + 1) L (v :: v :: st) I Lg R G) : am_J Γ M Q d k n pc L (v :: st) I Lg R G :=
  am_J.step (fun ρ p e Rm s m args below meth c H locs cells slots Z ls C hl kk => lv_dup C.1 C.2.1 hd (hc ρ) (kk ls hl)) (fun a b => ⟨a, am_okS.cons b.hd b⟩) h
theorem ar_dup2 {v w : AV} (hc : ∀ ρ, (am_con ρ v).category = 1) (hw : ∀ ρ, (am_con ρ w).category = 1) (hd : decode M.2.2.1 pc = .ok (.dup2, 1)) (h : am_J Γ M Q d k n (pc + 1) L (v :: w :: v :: w :: st) I Lg R G) : am_J Γ M Q d k n pc L (v :: w :: st) I Lg R G :=
  am_J.step (fun ρ p e Rm s m args below meth c H locs cells slots Z ls C hl kk => lv_dup2_11 C.1 C.2.1 hd (hc ρ) (hw ρ) (kk ls hl)) (fun a b => ⟨a, am_okS.cons b.hd (am_okS.cons b.tl.hd b)⟩) h
theorem ar_pop {v : AV} (hc : ∀ ρ, (am_con ρ v).category = 1) (hd : decode M.2.2.1 pc = .ok (.pop, 1)) (h : am_J Γ M Q d k n (pc + 1) L st I Lg R G) : am_J Γ M Q d k n pc L (v :: st) I Lg R G :=
  am_J.step (fun ρ p e Rm s m args below meth c H locs cells slots Z ls C hl kk => lv_pop C.1 C.2.1 hd (hc ρ) (kk ls hl)) (fun a b => ⟨a, b.tl⟩) h
end AMR
end
section
/-! The world: what a cell says is unchanged when none of its variables is; a cell is written. -/
theorem am_chk0 {c x n : Nat} {z : Nat × Nat} (h : am_ck c = (0, x, n, z)) (hc : c < am_NC) : x = c ∧ c < 13 ∧ (∃ r : vw_C, vwCl[c]? = some r ∧ r.2.2 = n) ∧ ∀ k, k < n → match am_slot c k with
    | (0, v, _) => am_oI v = (c, k)
    | (1, v, _) => am_oI v = (c, k)
    | (2, v, _) => am_oL v = (c, k)
    | (3, t, _, _) => t < am_NC
    | (4, v, t, _) => am_oR v = (c, k) ∧ t < am_NC
    | _ => False := by
  have h1 := am_chkT_ok c hc
  unfold am_chkT at h1
  rw [h] at h1
  simp only [Bool.and_eq_true, beq_iff_eq, List.all_eq_true, List.mem_range] at h1
  obtain ⟨e, h2, h3, h4⟩ := h1
  subst e
  refine ⟨rfl, Nat.blt_eq.mp h2, ?_, fun k hk => ?_⟩
  · cases hr : vwCl[x]? with
    | none => rw [hr] at h3; cases h3
    | some r => rw [hr] at h3; exact ⟨r, rfl, by simpa using h3⟩
  · have h5 := h4 k hk
    generalize am_slot x k = sl at h5
    obtain ⟨a, v, t, b⟩ := sl
    match a, h5 with
    | 0, h5 => simpa using h5
    | 1, h5 => simpa using h5
    | 2, h5 => simpa using h5
    | 3, h5 => simpa using h5
    | 4, h5 => simpa using h5
/-- two states that agree on the variables of a cell: the cell is the same -/
theorem am_ref_congr {R R' : RR} {G G' : GG} {c i : Nat} (hc : c < am_NC) (hR : ∀ v, (am_oR v).1 = c → R' v i = R v i) (hG : G'.1 c i = G.1 c i) (k : Nat) (hk : ∀ n z x, am_ck c = (0, x, n, z) → k < n) : am_ref R' G' c i k = am_ref R G c i k := by
  unfold am_ref
  rcases hck : am_ck c with ⟨a, x, n, y, t⟩
  match a, hck with
  | 0, hck =>
    obtain ⟨e, -, -, hs⟩ := am_chk0 hck hc
    subst e
    have hkn := hk n _ _ hck
    have h1 := hs k hkn
    rcases hsl : am_slot x k with ⟨a, v, t, b⟩
    rw [hsl] at h1
    match a, h1, hsl with
    | 0, _, _ => rfl
    | 1, _, _ => rfl
    | 2, _, _ => rfl
    | 3, _, _ => simp only [hG]
    | 4, h1, _ =>
      have h2 : (am_oR v).1 = x := by rw [h1.1]
      simp only [hR v h2]
    | _ + 5, h1, _ => exact h1.elim
  | 1, _ => rfl
  | 2, _ => rfl
  | 3, _ => rfl
  | 4, _ => simp only [hG]
  | 5, hck =>
    have h1 := am_chkT_ok c hc
    unfold am_chkT at h1
    rw [hck] at h1
    simp only [Bool.and_eq_true, beq_iff_eq] at h1
    simp only [hR n (by rw [h1.1])]
  | _ + 6, _ => rfl
theorem am_E_congr {Γ : AMG} {ρ : Nat → Nat → Nat} {I I' : II} {Lg Lg' : LJ} {R R' : RR} {G G' : GG} {c i : Nat} (hc : c < am_NC) (hI : ∀ v, (am_oI v).1 = c → I' v i = I v i) (hL : ∀ v, (am_oL v).1 = c → Lg' v i = Lg v i) (hR : ∀ v, (am_oR v).1 = c → R' v i = R v i) (hG : G'.1 c i = G.1 c i) : am_E Γ ρ I' Lg' R' G' c i = am_E Γ ρ I Lg R G c i := by
  have hrf := am_ref_congr (R := R) (R' := R') (G := G) (G' := G') hc hR hG
  unfold am_E
  rcases hck : am_ck c with ⟨a, x, n, y, t⟩
  match a, hck with
  | 0, hck =>
    obtain ⟨e, -, -, hs⟩ := am_chk0 hck hc
    subst e
    show Sum.inr (x, (List.range n).map (am_val ρ I' Lg' R' G' x i)) = Sum.inr (x, (List.range n).map (am_val ρ I Lg R G x i))
    congr 2
    apply List.map_congr_left
    intro k hk
    have hkn := List.mem_range.mp hk
    have h1 := hs k hkn
    have h9 := hrf k (fun n' z' x' q => by rw [hck] at q; cases q; exact hkn)
    unfold am_val
    rcases hsl : am_slot x k with ⟨a, v, t, b⟩
    rw [hsl] at h1
    match a, h1 with
    | 0, h1 =>
      have h2 : (am_oI v).1 = x := by rw [show am_oI v = (x, k) from h1]
      simp only [hI v h2]
    | 1, h1 =>
      have h2 : (am_oI v).1 = x := by rw [show am_oI v = (x, k) from h1]
      simp only [hI v h2]
    | 2, h1 =>
      have h2 : (am_oL v).1 = x := by rw [show am_oL v = (x, k) from h1]
      simp only [hL v h2]
    | 3, _ => simp only [h9]
    | 4, _ => simp only [h9]
    | _ + 5, h1 => exact h1.elim
  | 1, hck =>
    have h1 := am_chkT_ok c hc
    unfold am_chkT at h1
    rw [hck] at h1
    simp only [Bool.and_eq_true, beq_iff_eq] at h1
    simp only [hI n (by rw [h1.1])]
  | 2, hck =>
    have h1 := am_chkT_ok c hc
    unfold am_chkT at h1
    rw [hck] at h1
    simp only [Bool.and_eq_true, beq_iff_eq] at h1
    simp only [hI n (by rw [h1.1])]
  | 3, hck =>
    have h1 := am_chkT_ok c hc
    unfold am_chkT at h1
    rw [hck] at h1
    simp only [Bool.and_eq_true, beq_iff_eq] at h1
    simp only [hL n (by rw [h1.1])]
  | 4, hck =>
    have hf : (fun k => (am_ref R' G' c i k).map (fun p => ρ p.1 p.2)) = (fun k => (am_ref R G c i k).map (fun p => ρ p.1 p.2)) := funext fun k => by rw [hrf k (fun n' z' x' q => by rw [hck] at q; cases q)]
    simp only [hf]
  | 5, hck =>
    have hf : (fun k => (am_ref R' G' c i k).map (fun p => ρ p.1 p.2)) = (fun k => (am_ref R G c i k).map (fun p => ρ p.1 p.2)) := funext fun k => by rw [hrf k (fun n' z' x' q => by rw [hck] at q; cases q)]
    simp only [hf]
  | 6, hck =>
    have h1 := am_chkT_ok c hc
    unfold am_chkT at h1
    rw [hck] at h1
    cases h1
  | _ + 7, hck =>
    have h1 := am_chkT_ok c hc
    unfold am_chkT at h1
    rw [hck] at h1
    cases h1
theorem am_nth_out {α : Type} (d : α) : ∀ (l : List α) (n : Nat), l.length ≤ n → am_nth d l n = d
  | [], _, _ => rfl
  | _ :: xs, 0, h => absurd h (by simp)
  | _ :: xs, n + 1, h => am_nth_out d xs n (by simpa using h)
/-- rows of sixteen, the last one shorter: beyond the end nothing stands -/
def am_rowsOk {α : Type} (n : Nat) : List (List α) → Bool
  | [] => n == 0
  | [r] => r.length == n && Nat.ble n 16
  | r :: rs => r.length == 16 && (Nat.ble 16 n && am_rowsOk (n - 16) rs)
theorem am_lk_out {α : Type} (d : α) : ∀ (rows : List (List α)) (n k : Nat), am_rowsOk n rows = true → n ≤ k → am_lk d rows k = d
  | [], n, k, _, _ => by simp [am_lk, am_nth]
  | [r], n, k, h, hk => by
    simp only [am_rowsOk, Bool.and_eq_true, beq_iff_eq] at h
    have h2 := Nat.le_of_ble_eq_true h.2
    unfold am_lk
    by_cases h16 : k < 16
    · rw [show k / 16 = 0 by omega, show k % 16 = k by omega]
      exact am_nth_out d r k (by omega)
    · obtain ⟨q, hq⟩ : ∃ q, k / 16 = q + 1 := ⟨k / 16 - 1, by omega⟩
      rw [hq]
      rfl
  | r :: r2 :: rs, n, k, h, hk => by
    have h0 : r.length = 16 ∧ 16 ≤ n ∧ am_rowsOk (n - 16) (r2 :: rs) = true := by
      simp only [am_rowsOk, Bool.and_eq_true, beq_iff_eq] at h
      exact ⟨h.1, Nat.le_of_ble_eq_true h.2.1, h.2.2⟩
    have ih := am_lk_out d (r2 :: rs) (n - 16) (k - 16) h0.2.2 (by omega)
    unfold am_lk at ih ⊢
    obtain ⟨q, hq⟩ : ∃ q, k / 16 = q + 1 := ⟨k / 16 - 1, by omega⟩
    rw [show (k - 16) / 16 = q by omega, show (k - 16) % 16 = k % 16 by omega] at ih
    rw [hq]
    exact ih
theorem am_slot_ok : ∀ c, c < 13 → am_rowsOk (am_ck c).2.2.1 (am_nth [] am_slT c) = true := by decide +kernel
theorem am_slot_out {c k x n : Nat} {z : Nat × Nat} (hck : am_ck c = (0, x, n, z)) (hc : c < 13) (hk : n ≤ k) : am_slot c k = (9, 0, 0, 0) := by
  have h := am_slot_ok c hc
  rw [hck] at h
  exact am_lk_out _ _ _ _ h hk
/-- the world behind a write into the cell (c, i) -/
theorem am_Wd.upd {Γ : AMG} {ρ : Nat → Nat → Nat} {I I' : II} {Lg Lg' : LJ} {R R' : RR} {G G' : GG} {H H1 : Heap} {c i : Nat} (hW : am_Wd Γ ρ I Lg R G H) (hc : c < am_NC) (hi : i < G.2 c) (hz : H1.size = H.size) (hq : ∀ q, q ≠ ρ c i → H1[q]? = H[q]?) (hat : va_at Γ.D vwCl (ρ c i, am_E Γ ρ I' Lg' R' G' c i) H1)
    (hI : ∀ v i', ¬ ((am_oI v).1 = c ∧ i' = i) → I' v i' = I v i') (hL : ∀ v i', ¬ ((am_oL v).1 = c ∧ i' = i) → Lg' v i' = Lg v i') (hR : ∀ v i', ¬ ((am_oR v).1 = c ∧ i' = i) → R' v i' = R v i') (hG : ∀ c' i', ¬ (c' = c ∧ i' = i) → G'.1 c' i' = G.1 c' i') (hG2 : G'.2 = G.2)
    (hcl : ∀ k c' i', (∀ n z x, am_ck c = (0, x, n, z) → k < n) → am_ref R' G' c i k = some (c', i') → c' < am_NC ∧ i' < G.2 c') : am_Wd Γ ρ I' Lg' R' G' H1 := by
  obtain ⟨w1, w2, w3, w4, w5, w6, w7, w8, w9⟩ := hW
  have hother : ∀ c' i', ¬ (c' = c ∧ i' = i) → c' < am_NC → am_E Γ ρ I' Lg' R' G' c' i' = am_E Γ ρ I Lg R G c' i' := fun c' i' hne hc' =>
    am_E_congr hc' (fun v hv => hI v i' (fun q => hne ⟨hv.symm.trans q.1, q.2⟩)) (fun v hv => hL v i' (fun q => hne ⟨hv.symm.trans q.1, q.2⟩)) (fun v hv => hR v i' (fun q => hne ⟨hv.symm.trans q.1, q.2⟩)) (hG c' i' hne)
  refine ⟨fun c' i' hc' hi' => ?_, by rw [hG2]; exact w2, by rw [hG2]; exact w3, w4, w5, by rw [hz]; exact w6, fun q hlt => ?_, fun c' i' k c2 i2 hc' hi' hr => ?_, fun c' i' hc' hi' hop => ?_⟩
  · rw [hG2] at hi'
    by_cases e : c' = c ∧ i' = i
    · obtain ⟨rfl, rfl⟩ := e
      exact hat
    · rw [hother c' i' e hc']
      exact (w1 c' i' hc' hi').kept (hq _ (fun z => e (w2 c' i' c i hc' hc hi' hi z)))
  · rw [hq q (fun z => by have := w3 c i hc hi; omega)]
    exact w7 q hlt
  · rw [hG2] at hi' ⊢
    have hk9 : ∀ n z x, am_ck c' = (0, x, n, z) → k < n := by
      intro n z x hck
      unfold am_ref at hr
      rw [hck] at hr
      obtain ⟨e, hlt, ⟨r, hr1, hr2⟩, hs⟩ := am_chk0 hck hc'
      subst e
      apply Decidable.byContradiction
      intro hkn
      have hb : am_slot x k = (9, 0, 0, 0) := am_slot_out hck hlt (Nat.not_lt.mp hkn)
      rw [hb] at hr
      cases hr
    by_cases e : c' = c ∧ i' = i
    · obtain ⟨rfl, rfl⟩ := e
      exact hcl k c2 i2 hk9 hr
    · rw [am_ref_congr hc' (fun v hv => hR v i' (fun q => e ⟨hv.symm.trans q.1, q.2⟩)) (hG c' i' e) k hk9] at hr
      exact w8 c' i' k c2 i2 hc' hi' hr
  · rw [hG2] at hi'
    have hne : ¬ (c' = c ∧ i' = i) := fun q => by obtain ⟨rfl, rfl⟩ := q; omega
    rw [hG 1000 c' (fun q => by have h1 : c < am_NC := hc; unfold am_NC at h1; omega)] at hop
    obtain ⟨z1, z2, z3, z4⟩ := w9 c' i' hc' hi' hop
    exact ⟨fun v j hv => by rw [hI v i' (fun q => hne ⟨hv.symm.trans q.1, q.2⟩)]; exact z1 v j hv, fun v j hv => by rw [hL v i' (fun q => hne ⟨hv.symm.trans q.1, q.2⟩)]; exact z2 v j hv, fun v j hv => by rw [hR v i' (fun q => hne ⟨hv.symm.trans q.1, q.2⟩)]; exact z3 v j hv, fun k => by rw [hG c' i' hne]; exact z4 k⟩
end
section
/-! Fields: read and written. -/
def am_tyC : List (Nat → FieldType) := [tyX0, tyX1, tyX2, tyX3, tyX4, tyX5, tyX6, tyX7, tyX8, tyX9, tyX10, tyX11, tyX12]
def am_ty (c k : Nat) : FieldType := am_nth (fun _ => .int) am_tyC c k
theorem am_inp {big ws : List Cond} (ps : List Nat) (hp : ws = ps.filterMap (fun i => big[i]?)) (hg : ws.all goodWord = true) : ∀ w ∈ ws, w ∈ big.filter goodWord := by
  intro w hw
  have h1 := List.all_eq_true.mp hg w hw
  rw [hp] at hw
  obtain ⟨i, -, hi⟩ := List.mem_filterMap.mp hw
  exact List.mem_filter.mpr ⟨List.mem_of_getElem? hi, h1⟩
theorem am_wsin0 : ∀ w ∈ wsX00, w ∈ am_BIG := am_inp [374, 376, 378, 380, 382, 384] (by decide +kernel) (by decide +kernel)
theorem am_wsin1 : ∀ w ∈ wsX10, w ∈ am_BIG := am_inp [624, 626, 628, 630, 632] (by decide +kernel) (by decide +kernel)
theorem am_wsin2 : ∀ w ∈ wsX20, w ∈ am_BIG := am_inp [492, 494, 496, 498, 500, 502, 504, 506, 508, 510, 512, 514, 516, 518] (by decide +kernel) (by decide +kernel)
theorem am_wsin3 : ∀ w ∈ wsX30, w ∈ am_BIG := am_inp [236, 238, 240, 242, 244, 246, 248, 250, 252, 254, 256, 258, 260, 262, 264, 266] (by decide +kernel) (by decide +kernel)
theorem am_wsin4 : ∀ w ∈ wsX40, w ∈ am_BIG := am_inp [397, 399, 401, 403, 405, 407, 409, 411] (by decide +kernel) (by decide +kernel)
theorem am_wsin5 : ∀ w ∈ wsX50, w ∈ am_BIG := am_inp [193, 195, 197, 199, 201] (by decide +kernel) (by decide +kernel)
theorem am_wsin6 : ∀ w ∈ wsX60, w ∈ am_BIG := am_inp [442, 444, 446, 448, 450, 452, 454, 456, 458, 460, 462, 464, 466] (by decide +kernel) (by decide +kernel)
theorem am_wsin7 : ∀ w ∈ wsX70, w ∈ am_BIG := am_inp [532, 534, 536, 538] (by decide +kernel) (by decide +kernel)
theorem am_wsin8 : ∀ w ∈ wsX80, w ∈ am_BIG := am_inp [292, 294, 296, 298, 300] (by decide +kernel) (by decide +kernel)
theorem am_wsin9 : ∀ w ∈ wsX90, w ∈ am_BIG := am_inp [319, 321, 323, 325, 327, 329, 331, 333, 335, 337, 339, 341] (by decide +kernel) (by decide +kernel)
theorem am_wsin10 : ∀ w ∈ wsX100, w ∈ am_BIG := am_inp [156, 158, 160, 162, 164, 166, 168, 170, 172] (by decide +kernel) (by decide +kernel)
theorem am_wsin11 : ∀ w ∈ wsX110, w ∈ am_BIG := am_inp [553, 555, 557, 559, 561, 563, 565, 567, 569, 571, 573, 575] (by decide +kernel) (by decide +kernel)
theorem am_wsin12 : ∀ w ∈ wsX120, w ∈ am_BIG := am_inp [1421, 1423, 1425, 1427, 1429, 1431, 1433, 1435, 1437, 1439, 1441, 1443, 1445, 1447, 1449, 1451, 1453, 1455, 1457, 1459, 1461, 1463, 1465, 1467, 1469, 1471, 1473, 1475, 1477, 1479, 1481, 1483, 1485, 1487, 1489, 1491, 1493, 1495, 1497, 1499, 1501, 1503, 1505, 1507, 1509, 1511, 1513, 1515, 1517, 1519, 1521, 1523, 1525, 1527, 1529, 1531, 1533, 1535, 1537, 1539, 1541, 1543, 1545, 1547, 1549, 1551, 1553, 1555, 1557, 1559, 1561, 1563, 1565, 1567, 1569, 1571, 1573, 1575, 1577, 1579, 1581, 1583, 1585, 1587, 1589, 1591, 1593, 1595, 1597] (by decide +kernel) (by decide +kernel)
theorem am_wsin : ∀ (c : Nat) (r : vw_C), vwCl[c]? = some r → ∀ w ∈ u_ws r.1 r.2.1 r.2.2, w ∈ am_BIG
  | 0, _, h => by cases h; exact am_wsin0
  | 1, _, h => by cases h; exact am_wsin1
  | 2, _, h => by cases h; exact am_wsin2
  | 3, _, h => by cases h; exact am_wsin3
  | 4, _, h => by cases h; exact am_wsin4
  | 5, _, h => by cases h; exact am_wsin5
  | 6, _, h => by cases h; exact am_wsin6
  | 7, _, h => by cases h; exact am_wsin7
  | 8, _, h => by cases h; exact am_wsin8
  | 9, _, h => by cases h; exact am_wsin9
  | 10, _, h => by cases h; exact am_wsin10
  | 11, _, h => by cases h; exact am_wsin11
  | 12, _, h => by cases h; exact am_wsin12
  | _ + 13, _, h => by cases h
theorem am_fld : ∀ (c : Nat) (r : vw_C), vwCl[c]? = some r → (∀ k, k < r.2.2 → parseFieldDescriptor (r.2.1 k).2.2.1 = some (am_ty c k)) ∧ (∀ a, a < r.2.2 → ∀ b, b < r.2.2 → a ≠ b → (r.2.1 a).2.1 ≠ (r.2.1 b).2.1)
  | 0, _, h => by cases h; exact ⟨tyX0_ok, nmX0⟩
  | 1, _, h => by cases h; exact ⟨tyX1_ok, nmX1⟩
  | 2, _, h => by cases h; exact ⟨tyX2_ok, nmX2⟩
  | 3, _, h => by cases h; exact ⟨tyX3_ok, nmX3⟩
  | 4, _, h => by cases h; exact ⟨tyX4_ok, nmX4⟩
  | 5, _, h => by cases h; exact ⟨tyX5_ok, nmX5⟩
  | 6, _, h => by cases h; exact ⟨tyX6_ok, nmX6⟩
  | 7, _, h => by cases h; exact ⟨tyX7_ok, nmX7⟩
  | 8, _, h => by cases h; exact ⟨tyX8_ok, nmX8⟩
  | 9, _, h => by cases h; exact ⟨tyX9_ok, nmX9⟩
  | 10, _, h => by cases h; exact ⟨tyX10_ok, nmX10⟩
  | 11, _, h => by cases h; exact ⟨tyX11_ok, nmX11⟩
  | 12, _, h => by cases h; exact ⟨tyX12_ok, nmX12⟩
  | _ + 13, _, h => by cases h
/-- a slot's tag and its type -/
def am_tagOk (c k : Nat) : Bool := match am_slot c k, am_ty c k with
  | (0, _), .int => true
  | (1, _), .boolean => true
  | (2, _), .long => true
  | (3, _), .object _ => true
  | (3, _), .array _ => true
  | (4, _), .object _ => true
  | _, _ => false
theorem am_tagOk_all : ∀ c, c < 13 → ∀ k, k < (am_ck c).2.2.1 → am_tagOk c k = true := by
  have h : (List.range 13).all (fun c => (List.range (am_ck c).2.2.1).all (am_tagOk c)) = true := by decide +kernel
  exact fun c hc k hk => List.all_eq_true.mp (List.all_eq_true.mp h c (List.mem_range.mpr hc)) k (List.mem_range.mpr hk)
theorem am_ckN : ∀ (c : Nat) (r : vw_C), vwCl[c]? = some r → am_ck c = (0, c, r.2.2, 0, 0) ∧ c < 13
  | 0, _, h => by cases h; exact ⟨rfl, by decide⟩
  | 1, _, h => by cases h; exact ⟨rfl, by decide⟩
  | 2, _, h => by cases h; exact ⟨rfl, by decide⟩
  | 3, _, h => by cases h; exact ⟨rfl, by decide⟩
  | 4, _, h => by cases h; exact ⟨rfl, by decide⟩
  | 5, _, h => by cases h; exact ⟨rfl, by decide⟩
  | 6, _, h => by cases h; exact ⟨rfl, by decide⟩
  | 7, _, h => by cases h; exact ⟨rfl, by decide⟩
  | 8, _, h => by cases h; exact ⟨rfl, by decide⟩
  | 9, _, h => by cases h; exact ⟨rfl, by decide⟩
  | 10, _, h => by cases h; exact ⟨rfl, by decide⟩
  | 11, _, h => by cases h; exact ⟨rfl, by decide⟩
  | 12, _, h => by cases h; exact ⟨rfl, by decide⟩
  | _ + 13, _, h => by cases h
theorem am_lt13 {c : Nat} (h : c < 13) : c < am_NC := Nat.lt_of_lt_of_le h (by decide)
/-- an object's cell -/
theorem am_Wd.obj {Γ : AMG} {ρ : Nat → Nat → Nat} {I : II} {Lg : LJ} {R : RR} {G : GG} {H : Heap} {c i : Nat} (hW : am_Wd Γ ρ I Lg R G H) {r : vw_C} (hr : vwCl[c]? = some r) (hi : i < G.2 c) : va_at Γ.D vwCl (ρ c i, .inr (c, (List.range r.2.2).map (am_val ρ I Lg R G c i))) H := by
  obtain ⟨hck, hc⟩ := am_ckN c r hr
  have h := hW.1 c i (am_lt13 hc) hi
  unfold am_E at h
  rw [hck] at h
  exact h
section AMW
variable {Γ : AMG} {M : MD} {ρ : Nat → Nat → Nat} {p : Program} {e : Env} {Rm : Room} {s : State} {m : MethodId} {args : Array Value} {below : List Frame} {meth : Method} {c0 : Code} {H : Heap} {locs : List Loc} {cells slots : Nat} {Z : State → Prop}
variable {I : II} {Lg : LJ} {R : RR} {G : GG} {pc : Nat} {ls : Array Slot} {rest : List Value}
theorem am_getW (C : am_Cx Γ M p s m args meth c0) (hW : am_Wd Γ ρ I Lg R G H) {c i k idx : Nat} {r : vw_C} (hr : vwCl[c]? = some r) (hi : i < G.2 c) (hk : k < r.2.2) (hlink : Cond.fieldLink M.1 idx (r.2.1 k).1 (r.2.1 k).2.1 (r.2.1 k).2.2.1 ∈ am_BIG) (hd : decode M.2.2.1 pc = .ok (.getfield idx, 3))
    (kk : W p Γ.l e Rm s m args below meth c0 H locs cells slots Z (F0 m (pc + 3) ls (am_val ρ I Lg R G c i k :: rest))) : W p Γ.l e Rm s m args below meth c0 H locs cells slots Z (F0 m pc ls (.ref (ρ c i) :: rest)) := by
  have hP : va_P Γ.D vwCl [(ρ c i, .inr (c, (List.range r.2.2).map (am_val ρ I Lg R G c i)))] H := by
    intro j q hq
    match j, hq with
    | 0, hq => cases hq; exact hW.obj hr hi
  exact va_get (C := r.1) (T := r.2.1) (N := r.2.2) C.1 C.2.1 C.2.2.2.2.2.2.1 (am_wsin c r hr) C.2.2.2.2.2.1 C.2.2.2.2.2.2.2.2.1.1 hP 0 rfl hr k hk (C.2.2.2.2.2.2.1 _ hlink) (fun _ h => h) (by simp [hk]) hd kk
theorem am_putW (C : am_Cx Γ M p s m args meth c0) (hW : am_Wd Γ ρ I Lg R G H) (hl : ∀ q ∈ locs, Γ.HH.size ≤ q.base) {c i k idx : Nat} {r : vw_C} {v : Value} (hr : vwCl[c]? = some r) (hi : i < G.2 c) (hk : k < r.2.2) (hlink : Cond.fieldLink M.1 idx (r.2.1 k).1 (r.2.1 k).2.1 (r.2.1 k).2.2.1 ∈ am_BIG)
    (hfin : (r.2.1 k).2.2.2 = false ∨ (r.2.1 k).2.2.2 = true ∧ M.2.1.name = "<init>" ∧ (r.2.1 k).1 = M.1) (hn : narrow (am_ty c k) v = v) (hfit : fits (am_ty c k) v = true) (hd : decode M.2.2.1 pc = .ok (.putfield idx, 3))
    (kk : ∀ (H1 : Heap) (locs1 : List Loc), H1.size = H.size → (∀ q, q ≠ ρ c i → H1[q]? = H[q]?) → va_at Γ.D vwCl (ρ c i, .inr (c, ((List.range r.2.2).map (am_val ρ I Lg R G c i)).set k v)) H1 → (∀ q ∈ locs1, Γ.HH.size ≤ q.base) →
      W p Γ.l e Rm s m args below meth c0 H1 locs1 cells slots Z (F0 m (pc + 3) ls rest)) : W p Γ.l e Rm s m args below meth c0 H locs cells slots Z (F0 m pc ls (v :: .ref (ρ c i) :: rest)) := by
  obtain ⟨hx, hb, hml, hret, hlk, hown, hts, hin, ⟨hK, -⟩, -⟩ := C
  obtain ⟨hty, hnm⟩ := am_fld c r hr
  have hap := va_apart (own := M.1) hts (am_wsin c r hr) (am_ty c) hty hnm hK hr
  have hlow := hW.2.2.1 c i (am_lt13 (am_ckN c r hr).2) hi
  have hlen : k < ((List.range r.2.2).map (am_val ρ I Lg R G c i)).length := by simpa using hk
  obtain ⟨r', h1, cell, q1, q2, q3, q4⟩ := hW.obj hr hi
  have hrr : r' = r := Option.some.inj (h1.symm.trans hr)
  subst hrr
  obtain ⟨hS, hfc, kC, hkC, hkind⟩ := hK.1 c _ hr
  obtain ⟨cf, kf, fi, f, hif, hsl⟩ := hS k hk
  have hlay := hts _ (am_wsin c r' hr _ (u_in_lay hk))
  have hst := (u_facts hfc hkC (u_lays hts (am_wsin c r' hr) hk) hif).1
  have hl1 : ∀ q ∈ locs ++ [⟨ρ c i, f.slot⟩], Γ.HH.size ≤ q.base := fun q hq => (List.mem_append.mp hq).elim (hl q) (fun h => by rw [List.mem_singleton.mp h]; exact hlow)
  have fin : ∀ H' : Heap, H'[ρ c i]? = some (cell.setSlot f.slot v) → va_at Γ.D vwCl (ρ c i, .inr (c, ((List.range r'.2.2).map (am_val ρ I Lg R G c i)).set k v)) H' := fun H' e1 => by
    rw [hsl] at e1
    exact ⟨_, hr, t_OB.to (V := updV (vp_V ((List.range r'.2.2).map (am_val ρ I Lg R G c i))) k v) ⟨_, e1, q2, q3, t_set q4 hap hk v⟩ (fun j _ => vp_updV_set hlen v j)⟩
  have hlt : f.slot < cell.slots.size := by rw [hsl]; exact k2_hasslot (q4 k hk)
  unfold u_lay at hlay
  rcases hfin with hf | ⟨hf, hnI, hdecl⟩
  · rw [if_neg (by rw [hf]; decide)] at hlay
    have h6 := u_store hfc hkC hkind hlay hif (hty k hk) hn hfit
    exact W.putK hx hb (f := f) ⟨hown, hts _ hlink, ⟨_, _, _, hif⟩, hst⟩ (by rw [q2]; exact h6) q1 q3 hlt rfl rfl hd fun H' e1 e2 e3 => kk H' _ e2 e3 (fin H' e1) hl1
  · rw [if_pos hf] at hlay
    have hcf : m.cls = cf := by
      obtain ⟨_, _, c', _, _, _, -, -, hf', -, -, -, hown2, -⟩ := Cond.laysFinal_spec hlay
      have e1 : c' = cf := by have := hif.symm.trans hf'; simp at this; exact this.1.symm
      rw [hdecl] at hown2
      rw [← e1]; exact Option.some.inj (hown.symm.trans hown2)
    have h6 := u_fits hfc hkC hkind (Or.inr hlay) hif (hty k hk) hn hfit
    exact W.putFinK hx hb hown (hts _ hlink) hif hst hcf (hin hnI) (by rw [q2]; exact h6) q1 q3 hlt rfl rfl hd fun H' e1 e2 e3 => kk H' _ e2 e3 (fin H' e1) hl1
end AMW
end
section
/-! Rules that read and write cells. -/
theorem am_Ext.of2 {ρ ρ' : Nat → Nat → Nat} {G G1 G' : GG} (h : G1.2 = G.2) (hx : am_Ext ρ G1 ρ' G') : am_Ext ρ G ρ' G' := ⟨fun c => by rw [← h]; exact hx.1 c, fun c i k => hx.2 c i (k.imp (fun z => by rw [h]; exact z) id)⟩
theorem am_okR.of2 {G G1 : GG} {c i : Nat} (h : G1.2 = G.2) (hx : am_okR G c i) : am_okR G1 c i := hx.imp (fun z => by rw [h]; exact z) id
theorem am_ok.of2 {G G1 : GG} {v : AV} (h : G1.2 = G.2) (hx : am_ok G v) : am_ok G1 v := by
  match v, hx with
  | .inl _, _ => trivial
  | .inr (.inl _), _ => trivial
  | .inr (.inr none), _ => trivial
  | .inr (.inr (some (c, i))), hx => exact am_okR.of2 h hx
theorem am_set_map {N k : Nat} {f g : Nat → Value} {v : Value} (h : ∀ j, j < N → g j = if j = k then v else f j) : ((List.range N).map f).set k v = (List.range N).map g := by
  apply List.ext_getElem
  · simp
  · intro j h1 h2
    have hj : j < N := by simpa using h2
    rw [List.getElem_set, List.getElem_map, List.getElem_map, List.getElem_range, h j hj]
    by_cases e : j = k
    · simp [e]
    · simp [e, Ne.symm e]
def am_aV (ρ : Nat → Nat → Nat) (I : II) (Lg : LJ) (R : RR) (G : GG) (c i k : Nat) : Value := match am_ck c with
  | (1, _, v, _) => .int (I v i k)
  | (2, _, v, _) => .int (I v i k)
  | (3, _, v, _) => .long (Lg v i k)
  | _ => va_rf ((am_ref R G c i k).map (fun p => ρ p.1 p.2))
/-- an array's cell -/
theorem am_E_arr {Γ : AMG} {ρ : Nat → Nat → Nat} {I : II} {Lg : LJ} {R : RR} {G : GG} {c i a n x y t : Nat} (hck : am_ck c = (a + 1, n, x, y, t)) : ∃ w : vp_A, am_E Γ ρ I Lg R G c i = .inl (Γ.cy t, w) ∧ w.1 = n ∧ ∀ cA, vp_cell cA w = arrV cA n (am_aV ρ I Lg R G c i) := by
  unfold am_E am_aV
  rw [hck]
  match a, hck with
  | 0, _ => exact ⟨_, rfl, rfl, fun _ => rfl⟩
  | 1, _ => exact ⟨_, rfl, rfl, fun _ => rfl⟩
  | 2, _ => exact ⟨_, rfl, rfl, fun _ => rfl⟩
  | _ + 3, _ => exact ⟨_, rfl, rfl, fun _ => rfl⟩
theorem am_ckNC {c a n x y t : Nat} (hck : am_ck c = (a + 1, n, x, y, t)) (ha : a < 5) : c < am_NC := by
  apply Decidable.byContradiction
  intro h
  have h1 : am_ck c = (9, 0, 0, 0, 0) := am_lk_out _ _ am_NC c (by decide +kernel) (Nat.not_lt.mp h)
  rw [h1] at hck
  have h2 : 9 = a + 1 := congrArg Prod.fst hck
  omega
theorem am_Wd.arr {Γ : AMG} {ρ : Nat → Nat → Nat} {I : II} {Lg : LJ} {R : RR} {G : GG} {H : Heap} {c i a n x y t : Nat} (hW : am_Wd Γ ρ I Lg R G H) (hck : am_ck c = (a + 1, n, x, y, t)) (ha : a < 5) (hi : i < G.2 c) : H[ρ c i]? = some (arrV (Γ.cy t) n (am_aV ρ I Lg R G c i)) := by
  obtain ⟨w, h1, -, h3⟩ := am_E_arr (Γ := Γ) (ρ := ρ) (I := I) (Lg := Lg) (R := R) (G := G) (i := i) hck
  have h := hW.1 c i (am_ckNC hck ha) hi
  rw [h1] at h
  have h4 : H[ρ c i]? = some (vp_cell (Γ.cy t) w) := h
  rw [h4, h3]
theorem am_at_arr {Γ : AMG} {ρ : Nat → Nat → Nat} {I : II} {Lg : LJ} {R : RR} {G : GG} {H : Heap} {c i a n x y t : Nat} (hck : am_ck c = (a + 1, n, x, y, t)) (h : H[ρ c i]? = some (arrV (Γ.cy t) n (am_aV ρ I Lg R G c i))) : va_at Γ.D vwCl (ρ c i, am_E Γ ρ I Lg R G c i) H := by
  obtain ⟨w, h1, -, h3⟩ := am_E_arr (Γ := Γ) (ρ := ρ) (I := I) (Lg := Lg) (R := R) (G := G) (i := i) hck
  rw [h1]
  show H[ρ c i]? = some (vp_cell (Γ.cy t) w)
  rw [h, h3]
theorem am_vin {j : Int32} {n : Nat} (h0 : 0 ≤ j.toInt) (h1 : j.toInt < n) : vp_in j n := vp_in_iff.mpr ⟨h0, h1⟩
theorem am_vlt {j : Int32} {n : Nat} (h0 : 0 ≤ j.toInt) (h1 : j.toInt < n) : j.toNatClampNeg < n := Nat.not_le.mp fun q => am_vin h0 h1 (Or.inr q)
theorem am_up3_ne {α : Type} {f : Nat → Nat → Nat → α} {o : Nat → Nat × Nat} {v c k i j : Nat} {x : α} (hv : o v = (c, k)) : ∀ v2 i2, ¬ ((o v2).1 = c ∧ i2 = i) → up3 f v i j x v2 i2 = f v2 i2 := by
  intro v2 i2 hne
  funext j2
  unfold up3
  rw [if_neg]
  rintro ⟨rfl, rfl, -⟩
  exact hne ⟨by rw [hv], rfl⟩
theorem am_up3_v {α : Type} {f : Nat → Nat → Nat → α} {o : Nat → Nat × Nat} {v v2 c k k2 i j : Nat} {x : α} (hv : o v = (c, k)) (hv2 : o v2 = (c, k2)) (hne : ¬ k2 = k) : up3 f v i j x v2 i j = f v2 i j := by
  unfold up3
  rw [if_neg]
  rintro ⟨rfl, -, -⟩
  rw [hv] at hv2
  exact hne (congrArg Prod.snd hv2).symm
section AMR
variable {Γ : AMG} {M : MD} {Q : QQ} {d k n pc pc' pc2 : Nat} {L L' : LL} {st st' : List AV} {I I' : II} {Lg Lg' : LJ} {R R' : RR} {G G' : GG}
/-- a step that reads the heap -/
theorem am_J.rd (hs : ∀ (ρ : Nat → Nat → Nat) (p : Program) (e : Env) (Rm : Room) (s : State) (m : MethodId) (args : Array Value) (below : List Frame) (meth : Method) (c : Code) (H : Heap) (locs : List Loc) (cells slots : Nat) (Z : State → Prop) (ls : Array Slot), am_Cx Γ M p s m args meth c → am_Wd Γ ρ I Lg R G H → am_okS G st →
      (am_okS G st' → W p Γ.l e Rm s m args below meth c H locs cells slots Z (F0 m pc' ls (st'.map (am_con ρ)))) → W p Γ.l e Rm s m args below meth c H locs cells slots Z (F0 m pc ls (st.map (am_con ρ))))
    (h : am_J Γ M Q d k n pc' L st' I Lg R G) : am_J Γ M Q d k n pc L st I Lg R G := by
  intro ρ p e Rm s m args below meth c H locs cells slots Z C h1 h2 h3 h4 hW hl hoL hoS ret ls hL
  exact hs ρ p e Rm s m args below meth c H locs cells slots Z ls C hW hoS (fun hoS' => h ρ p e Rm s m args below meth c H locs cells slots Z C h1 h2 h3 h4 hW hl hoL hoS' ret ls hL)
/-- a step that writes the heap -/
theorem am_J.wr (hs : ∀ (ρ : Nat → Nat → Nat) (p : Program) (e : Env) (Rm : Room) (s : State) (m : MethodId) (args : Array Value) (below : List Frame) (meth : Method) (c : Code) (H : Heap) (locs : List Loc) (cells slots : Nat) (Z : State → Prop) (ls : Array Slot), am_Cx Γ M p s m args meth c → am_Wd Γ ρ I Lg R G H → am_okS G st → (∀ q ∈ locs, Γ.HH.size ≤ q.base) →
      (∀ (H1 : Heap) (locs1 : List Loc), am_Wd Γ ρ I' Lg' R' G' H1 → (∀ q ∈ locs1, Γ.HH.size ≤ q.base) → W p Γ.l e Rm s m args below meth c H1 locs1 cells slots Z (F0 m pc' ls (st'.map (am_con ρ)))) → W p Γ.l e Rm s m args below meth c H locs cells slots Z (F0 m pc ls (st.map (am_con ρ))))
    (hG : G'.2 = G.2) (ho : am_okS G st → am_okS G st') (h : am_J Γ M Q d k n pc' L st' I' Lg' R' G') : am_J Γ M Q d k n pc L st I Lg R G := by
  intro ρ p e Rm s m args below meth c H locs cells slots Z C h1 h2 h3 h4 hW hl hoL hoS ret ls hL
  exact hs ρ p e Rm s m args below meth c H locs cells slots Z ls C hW hoS hl (fun H1 locs1 hW1 hl1 => h ρ p e Rm s m args below meth c H1 locs1 cells slots Z C h1 h2 h3 h4 hW1 hl1 ⟨hoL.1, fun v hv => (hoL.2 v hv).of2 hG⟩ (fun v hv => (ho hoS v hv).of2 hG) (fun ρ' r I2 Lg2 R2 G2 H2 locs2 cells2 slots2 pc2 ls2 a1 a2 a3 a4 a5 a6 a7 a8 => ret ρ' r I2 Lg2 R2 G2 H2 locs2 cells2 slots2 pc2 ls2 a1 (a2.of2 hG) a3 a4 a5 a6 a7 a8) ls hL)
theorem am_okR.lt {c i : Nat} (h : am_okR G c i) (hc : c < am_NC) : i < G.2 c := h.elim (fun z => z.2) (fun z => absurd hc (Nat.not_lt.mpr z))
theorem ar_getI {c i f idx : Nat} {r : vw_C} {v : Nat} {z : Nat × Nat} (hr : vwCl[c]? = some r) (hk : f < r.2.2) (hlink : Cond.fieldLink M.1 idx (r.2.1 f).1 (r.2.1 f).2.1 (r.2.1 f).2.2.1 ∈ am_BIG) (hs : am_slot c f = (0, v, z)) (hd : decode M.2.2.1 pc = .ok (.getfield idx, 3)) (h : am_J Γ M Q d k n (pc + 3) L (vI (I v i 0) :: st) I Lg R G) : am_J Γ M Q d k n pc L (vR c i :: st) I Lg R G :=
  am_J.rd (fun ρ p e Rm s m args below meth c0 H locs cells slots Z ls C hW hoS kk => am_getW C hW hr (hoS.hd.lt (am_lt13 (am_ckN c r hr).2)) hk hlink hd (by
    have e1 : am_val ρ I Lg R G c i f = (.int (I v i 0)) := by unfold am_val; rw [hs]; rfl
    rw [e1]
    exact kk (hoS.tl.i))) h
theorem ar_getZ {c i f idx : Nat} {r : vw_C} {v : Nat} {z : Nat × Nat} (hr : vwCl[c]? = some r) (hk : f < r.2.2) (hlink : Cond.fieldLink M.1 idx (r.2.1 f).1 (r.2.1 f).2.1 (r.2.1 f).2.2.1 ∈ am_BIG) (hs : am_slot c f = (1, v, z)) (hd : decode M.2.2.1 pc = .ok (.getfield idx, 3)) (h : am_J Γ M Q d k n (pc + 3) L (vI (I v i 0) :: st) I Lg R G) : am_J Γ M Q d k n pc L (vR c i :: st) I Lg R G :=
  am_J.rd (fun ρ p e Rm s m args below meth c0 H locs cells slots Z ls C hW hoS kk => am_getW C hW hr (hoS.hd.lt (am_lt13 (am_ckN c r hr).2)) hk hlink hd (by
    have e1 : am_val ρ I Lg R G c i f = (.int (I v i 0)) := by unfold am_val; rw [hs]; rfl
    rw [e1]
    exact kk (hoS.tl.i))) h
theorem ar_getJ {c i f idx : Nat} {r : vw_C} {v : Nat} {z : Nat × Nat} (hr : vwCl[c]? = some r) (hk : f < r.2.2) (hlink : Cond.fieldLink M.1 idx (r.2.1 f).1 (r.2.1 f).2.1 (r.2.1 f).2.2.1 ∈ am_BIG) (hs : am_slot c f = (2, v, z)) (hd : decode M.2.2.1 pc = .ok (.getfield idx, 3)) (h : am_J Γ M Q d k n (pc + 3) L (vL (Lg v i 0) :: st) I Lg R G) : am_J Γ M Q d k n pc L (vR c i :: st) I Lg R G :=
  am_J.rd (fun ρ p e Rm s m args below meth c0 H locs cells slots Z ls C hW hoS kk => am_getW C hW hr (hoS.hd.lt (am_lt13 (am_ckN c r hr).2)) hk hlink hd (by
    have e1 : am_val ρ I Lg R G c i f = (.long (Lg v i 0)) := by unfold am_val; rw [hs]; rfl
    rw [e1]
    exact kk (hoS.tl.l))) h
theorem ar_getS {c i f idx : Nat} {r : vw_C} {t b z : Nat} (hr : vwCl[c]? = some r) (hk : f < r.2.2) (hlink : Cond.fieldLink M.1 idx (r.2.1 f).1 (r.2.1 f).2.1 (r.2.1 f).2.2.1 ∈ am_BIG) (hs : am_slot c f = (3, t, b, z)) (hin : G.1 c i f = true) (hd : decode M.2.2.1 pc = .ok (.getfield idx, 3)) (h : am_J Γ M Q d k n (pc + 3) L (vR t (am_sidx b z i) :: st) I Lg R G) : am_J Γ M Q d k n pc L (vR c i :: st) I Lg R G :=
  am_J.rd (fun ρ p e Rm s m args below meth c0 H locs cells slots Z ls C hW hoS kk => by
    obtain ⟨hck, h13⟩ := am_ckN c r hr
    have hi := hoS.hd.lt (am_lt13 h13)
    have e2 : am_ref R G c i f = some (t, am_sidx b z i) := by unfold am_ref; rw [hck]; simp only [hs, hin]; rfl
    refine am_getW C hW hr hi hk hlink hd ?_
    have e1 : am_val ρ I Lg R G c i f = .ref (ρ t (am_sidx b z i)) := by unfold am_val; simp only [hs, e2]; rfl
    rw [e1]
    exact kk (am_okS.cons (v := vR t (am_sidx b z i)) (Or.inl (hW.2.2.2.2.2.2.2.1 c i f _ _ (am_lt13 h13) hi e2)) hoS.tl)) h
theorem ar_getD {c i f idx : Nat} {r : vw_C} {v t z : Nat} (hr : vwCl[c]? = some r) (hk : f < r.2.2) (hlink : Cond.fieldLink M.1 idx (r.2.1 f).1 (r.2.1 f).2.1 (r.2.1 f).2.2.1 ∈ am_BIG) (hs : am_slot c f = (4, v, t, z)) (hd : decode M.2.2.1 pc = .ok (.getfield idx, 3)) (h1 : R v i 0 = none → am_J Γ M Q d k n (pc + 3) L (vN :: st) I Lg R G) (h2 : ∀ b, R v i 0 = some b → am_J Γ M Q d k n (pc + 3) L (vR t b :: st) I Lg R G) : am_J Γ M Q d k n pc L (vR c i :: st) I Lg R G := by
  cases hR : R v i 0 with
  | none =>
    refine am_J.rd (fun ρ p e Rm s m args below meth c0 H locs cells slots Z ls C hW hoS kk => ?_) (h1 hR)
    obtain ⟨hck, h13⟩ := am_ckN c r hr
    have hi := hoS.hd.lt (am_lt13 h13)
    have e2 : am_ref R G c i f = none := by unfold am_ref; rw [hck]; simp only [hs, hR]; rfl
    refine am_getW C hW hr hi hk hlink hd ?_
    have e1 : am_val ρ I Lg R G c i f = .null := by unfold am_val; simp only [hs, e2]; rfl
    rw [e1]
    exact kk (am_okS.cons (v := vN) trivial hoS.tl)
  | some b =>
    refine am_J.rd (fun ρ p e Rm s m args below meth c0 H locs cells slots Z ls C hW hoS kk => ?_) (h2 b hR)
    obtain ⟨hck, h13⟩ := am_ckN c r hr
    have hi := hoS.hd.lt (am_lt13 h13)
    have e2 : am_ref R G c i f = some (t, b) := by unfold am_ref; rw [hck]; simp only [hs, hR]; rfl
    refine am_getW C hW hr hi hk hlink hd ?_
    have e1 : am_val ρ I Lg R G c i f = .ref (ρ t b) := by unfold am_val; simp only [hs, e2]; rfl
    rw [e1]
    exact kk (am_okS.cons (v := vR t b) (Or.inl (hW.2.2.2.2.2.2.2.1 c i f _ _ (am_lt13 h13) hi e2)) hoS.tl)
theorem ar_putI {c i f idx : Nat} {r : vw_C} {v : Nat} {x : Int32} {z : Nat × Nat} (hr : vwCl[c]? = some r) (hk : f < r.2.2) (hlink : Cond.fieldLink M.1 idx (r.2.1 f).1 (r.2.1 f).2.1 (r.2.1 f).2.2.1 ∈ am_BIG) (hfin : (r.2.1 f).2.2.2 = false ∨ (r.2.1 f).2.2.2 = true ∧ M.2.1.name = "<init>" ∧ (r.2.1 f).1 = M.1) (hs : am_slot c f = (0, v, z)) (hd : decode M.2.2.1 pc = .ok (.putfield idx, 3)) (h : am_J Γ M Q d k n (pc + 3) L st (up3 I v i 0 x) (Lg) R G) : am_J Γ M Q d k n pc L (vI x :: vR c i :: st) I Lg R G := by
  refine am_J.wr (fun ρ p e Rm s m args below meth c0 H locs cells slots Z ls C hW hoS hl kk => ?_) rfl (fun b => b.tl.tl) h
  obtain ⟨hck, h13⟩ := am_ckN c r hr
  have hi := hoS.tl.hd.lt (am_lt13 h13)
  obtain ⟨-, -, -, hsl⟩ := am_chk0 hck (am_lt13 h13)
  have hv : am_oI v = (c, f) := by have := hsl f hk; rw [hs] at this; exact this
  have ety : am_ty c f = .int := by
    have h9 := am_tagOk_all c h13 f (by rw [hck]; exact hk)
    unfold am_tagOk at h9
    rw [hs] at h9
    generalize am_ty c f = ty at h9
    cases ty <;> first | rfl | cases h9
  refine am_putW (v := .int x) C hW hl hr hi hk hlink hfin (by rw [ety]; rfl) (by rw [ety]; rfl) hd fun H1 locs1 z1 o1 at1 l1 => kk H1 locs1 (hW.upd (am_lt13 h13) hi z1 o1 ?_ (am_up3_ne hv) (fun v2 i2 hne => rfl) (fun _ _ _ => rfl) (fun _ _ _ => rfl) rfl (fun k2 c2 i2 _ hk2 => hW.2.2.2.2.2.2.2.1 c i k2 c2 i2 (am_lt13 h13) hi hk2)) l1
  have e9 : am_E Γ ρ (up3 I v i 0 x) (Lg) R G c i = .inr (c, (List.range r.2.2).map (am_val ρ (up3 I v i 0 x) (Lg) R G c i)) := by unfold am_E; rw [hck]; rfl
  rw [e9, ← am_set_map (k := f) (v := .int x) (f := am_val ρ I Lg R G c i) (fun j hj => ?_)]
  · exact at1
  · have hj9 := hsl j hj
    unfold am_val
    rcases hsj : am_slot c j with ⟨a9, v9, t9, b9⟩
    rw [hsj] at hj9
    by_cases ej : j = f
    · subst ej
      rw [hs] at hsj
      cases hsj
      simp [up3]
    · rw [if_neg ej]
      match a9, hj9 with
      | 0, hj9 => simp only [show up3 I v i 0 x v9 i 0 = I v9 i 0 from am_up3_v hv hj9 ej]
      | 1, hj9 => simp only [show up3 I v i 0 x v9 i 0 = I v9 i 0 from am_up3_v hv hj9 ej]
      | 2, hj9 => simp only []
      | 3, _ => rfl
      | 4, _ => rfl
      | _ + 5, hj9 => exact hj9.elim
theorem ar_putZ {c i f idx : Nat} {r : vw_C} {v : Nat} {x : Int32} {z : Nat × Nat} (hr : vwCl[c]? = some r) (hk : f < r.2.2) (hlink : Cond.fieldLink M.1 idx (r.2.1 f).1 (r.2.1 f).2.1 (r.2.1 f).2.2.1 ∈ am_BIG) (hfin : (r.2.1 f).2.2.2 = false ∨ (r.2.1 f).2.2.2 = true ∧ M.2.1.name = "<init>" ∧ (r.2.1 f).1 = M.1) (hs : am_slot c f = (1, v, z)) (hx : x = zI 0 ∨ x = zI 1) (hd : decode M.2.2.1 pc = .ok (.putfield idx, 3)) (h : am_J Γ M Q d k n (pc + 3) L st (up3 I v i 0 x) (Lg) R G) : am_J Γ M Q d k n pc L (vI x :: vR c i :: st) I Lg R G := by
  refine am_J.wr (fun ρ p e Rm s m args below meth c0 H locs cells slots Z ls C hW hoS hl kk => ?_) rfl (fun b => b.tl.tl) h
  obtain ⟨hck, h13⟩ := am_ckN c r hr
  have hi := hoS.tl.hd.lt (am_lt13 h13)
  obtain ⟨-, -, -, hsl⟩ := am_chk0 hck (am_lt13 h13)
  have hv : am_oI v = (c, f) := by have := hsl f hk; rw [hs] at this; exact this
  have ety : am_ty c f = .boolean := by
    have h9 := am_tagOk_all c h13 f (by rw [hck]; exact hk)
    unfold am_tagOk at h9
    rw [hs] at h9
    generalize am_ty c f = ty at h9
    cases ty <;> first | rfl | cases h9
  refine am_putW (v := .int x) C hW hl hr hi hk hlink hfin (by rw [ety]; rcases hx with rfl | rfl <;> rfl) (by rw [ety]; rcases hx with rfl | rfl <;> rfl) hd fun H1 locs1 z1 o1 at1 l1 => kk H1 locs1 (hW.upd (am_lt13 h13) hi z1 o1 ?_ (am_up3_ne hv) (fun v2 i2 hne => rfl) (fun _ _ _ => rfl) (fun _ _ _ => rfl) rfl (fun k2 c2 i2 _ hk2 => hW.2.2.2.2.2.2.2.1 c i k2 c2 i2 (am_lt13 h13) hi hk2)) l1
  have e9 : am_E Γ ρ (up3 I v i 0 x) (Lg) R G c i = .inr (c, (List.range r.2.2).map (am_val ρ (up3 I v i 0 x) (Lg) R G c i)) := by unfold am_E; rw [hck]; rfl
  rw [e9, ← am_set_map (k := f) (v := .int x) (f := am_val ρ I Lg R G c i) (fun j hj => ?_)]
  · exact at1
  · have hj9 := hsl j hj
    unfold am_val
    rcases hsj : am_slot c j with ⟨a9, v9, t9, b9⟩
    rw [hsj] at hj9
    by_cases ej : j = f
    · subst ej
      rw [hs] at hsj
      cases hsj
      simp [up3]
    · rw [if_neg ej]
      match a9, hj9 with
      | 0, hj9 => simp only [show up3 I v i 0 x v9 i 0 = I v9 i 0 from am_up3_v hv hj9 ej]
      | 1, hj9 => simp only [show up3 I v i 0 x v9 i 0 = I v9 i 0 from am_up3_v hv hj9 ej]
      | 2, hj9 => simp only []
      | 3, _ => rfl
      | 4, _ => rfl
      | _ + 5, hj9 => exact hj9.elim
theorem ar_putJ {c i f idx : Nat} {r : vw_C} {v : Nat} {x : Int64} {z : Nat × Nat} (hr : vwCl[c]? = some r) (hk : f < r.2.2) (hlink : Cond.fieldLink M.1 idx (r.2.1 f).1 (r.2.1 f).2.1 (r.2.1 f).2.2.1 ∈ am_BIG) (hfin : (r.2.1 f).2.2.2 = false ∨ (r.2.1 f).2.2.2 = true ∧ M.2.1.name = "<init>" ∧ (r.2.1 f).1 = M.1) (hs : am_slot c f = (2, v, z)) (hd : decode M.2.2.1 pc = .ok (.putfield idx, 3)) (h : am_J Γ M Q d k n (pc + 3) L st (I) (up3 Lg v i 0 x) R G) : am_J Γ M Q d k n pc L (vL x :: vR c i :: st) I Lg R G := by
  refine am_J.wr (fun ρ p e Rm s m args below meth c0 H locs cells slots Z ls C hW hoS hl kk => ?_) rfl (fun b => b.tl.tl) h
  obtain ⟨hck, h13⟩ := am_ckN c r hr
  have hi := hoS.tl.hd.lt (am_lt13 h13)
  obtain ⟨-, -, -, hsl⟩ := am_chk0 hck (am_lt13 h13)
  have hv : am_oL v = (c, f) := by have := hsl f hk; rw [hs] at this; exact this
  have ety : am_ty c f = .long := by
    have h9 := am_tagOk_all c h13 f (by rw [hck]; exact hk)
    unfold am_tagOk at h9
    rw [hs] at h9
    generalize am_ty c f = ty at h9
    cases ty <;> first | rfl | cases h9
  refine am_putW (v := .long x) C hW hl hr hi hk hlink hfin (by rw [ety]; rfl) (by rw [ety]; rfl) hd fun H1 locs1 z1 o1 at1 l1 => kk H1 locs1 (hW.upd (am_lt13 h13) hi z1 o1 ?_ (fun v2 i2 hne => rfl) (am_up3_ne hv) (fun _ _ _ => rfl) (fun _ _ _ => rfl) rfl (fun k2 c2 i2 _ hk2 => hW.2.2.2.2.2.2.2.1 c i k2 c2 i2 (am_lt13 h13) hi hk2)) l1
  have e9 : am_E Γ ρ (I) (up3 Lg v i 0 x) R G c i = .inr (c, (List.range r.2.2).map (am_val ρ (I) (up3 Lg v i 0 x) R G c i)) := by unfold am_E; rw [hck]; rfl
  rw [e9, ← am_set_map (k := f) (v := .long x) (f := am_val ρ I Lg R G c i) (fun j hj => ?_)]
  · exact at1
  · have hj9 := hsl j hj
    unfold am_val
    rcases hsj : am_slot c j with ⟨a9, v9, t9, b9⟩
    rw [hsj] at hj9
    by_cases ej : j = f
    · subst ej
      rw [hs] at hsj
      cases hsj
      simp [up3]
    · rw [if_neg ej]
      match a9, hj9 with
      | 0, hj9 => simp only []
      | 1, hj9 => simp only []
      | 2, hj9 => simp only [show up3 Lg v i 0 x v9 i 0 = Lg v9 i 0 from am_up3_v hv hj9 ej]
      | 3, _ => rfl
      | 4, _ => rfl
      | _ + 5, hj9 => exact hj9.elim
end AMR
end
section
/-! Rules: references written, rows read and written. -/
theorem am_up3_neG {α : Type} {f : Nat → Nat → Nat → α} {c i k : Nat} {x : α} : ∀ c2 i2, ¬ (c2 = c ∧ i2 = i) → up3 f c i k x c2 i2 = f c2 i2 := by
  intro c2 i2 hne
  funext j2
  unfold up3
  rw [if_neg]
  rintro ⟨rfl, rfl, -⟩
  exact hne ⟨rfl, rfl⟩
theorem am_kept {H H1 : Heap} {locs : List Loc} {z a j : Nat} (hl : ∀ q ∈ locs, z ≤ q.base) (ha : z ≤ a) : ∀ q ∈ locs ++ [⟨a, j⟩], z ≤ Loc.base q := fun q hq => (List.mem_append.mp hq).elim (hl q) (fun h => by rw [List.mem_singleton.mp h]; exact ha)
section AMR
variable {Γ : AMG} {M : MD} {Q : QQ} {d k n pc pc' pc2 : Nat} {L L' : LL} {st st' : List AV} {I I' : II} {Lg Lg' : LJ} {R R' : RR} {G G' : GG}
theorem ar_putS {c i f idx : Nat} {r : vw_C} {t b z b2 : Nat} (hr : vwCl[c]? = some r) (hk : f < r.2.2) (hlink : Cond.fieldLink M.1 idx (r.2.1 f).1 (r.2.1 f).2.1 (r.2.1 f).2.2.1 ∈ am_BIG) (hfin : (r.2.1 f).2.2.2 = false ∨ (r.2.1 f).2.2.2 = true ∧ M.2.1.name = "<init>" ∧ (r.2.1 f).1 = M.1) (hs : am_slot c f = (3, t, b, z)) (hb2 : b2 = am_sidx b z i) (hd : decode M.2.2.1 pc = .ok (.putfield idx, 3)) (h : am_J Γ M Q d k n (pc + 3) L st I Lg R (up3 G.1 c i f true, G.2)) : am_J Γ M Q d k n pc L (vR t b2 :: vR c i :: st) I Lg R G := by
  refine am_J.wr (G' := (up3 G.1 c i f true, G.2)) (fun ρ p e Rm s m args below meth c0 H locs cells slots Z ls C hW hoS hl kk => ?_) rfl (fun b => b.tl.tl) h
  obtain ⟨hck, h13⟩ := am_ckN c r hr
  have hi := hoS.tl.hd.lt (am_lt13 h13)
  have htN : t < am_NC := by have := (am_chk0 hck (am_lt13 h13)).2.2.2 f hk; rw [hs] at this; exact this
  have hb3 : b2 < G.2 t := hoS.hd.lt htN
  have ety : (∃ q, am_ty c f = .object q) ∨ ∃ q, am_ty c f = .array q := by
    have h9 := am_tagOk_all c h13 f (by rw [hck]; exact hk)
    unfold am_tagOk at h9
    rw [hs] at h9
    generalize am_ty c f = ty at h9
    cases ty <;> first | exact Or.inl ⟨_, rfl⟩ | exact Or.inr ⟨_, rfl⟩ | cases h9
  have eref : am_ref R (up3 G.1 c i f true, G.2) c i f = some (t, b2) := by
    unfold am_ref; rw [hck]; simp only [hs, hb2]; simp [up3]
  have eoth : ∀ j, ¬ j = f → am_ref R (up3 G.1 c i f true, G.2) c i j = am_ref R G c i j := by
    intro j hj
    have : up3 G.1 c i f true c i j = G.1 c i j := by simp [up3, hj]
    unfold am_ref
    simp only [this]
  refine am_putW (v := .ref (ρ t b2)) C hW hl hr hi hk hlink hfin (by rcases ety with ⟨q, e9⟩ | ⟨q, e9⟩ <;> rw [e9] <;> rfl) (by rcases ety with ⟨q, e9⟩ | ⟨q, e9⟩ <;> rw [e9] <;> rfl) hd fun H1 locs1 z1 o1 at1 l1 => kk H1 locs1 (hW.upd (am_lt13 h13) hi z1 o1 ?_ (fun _ _ _ => rfl) (fun _ _ _ => rfl) (fun _ _ _ => rfl) am_up3_neG rfl (fun k2 c2 i2 _ hk2 => ?_)) l1
  · have e9 : am_E Γ ρ I Lg R (up3 G.1 c i f true, G.2) c i = .inr (c, (List.range r.2.2).map (am_val ρ I Lg R (up3 G.1 c i f true, G.2) c i)) := by unfold am_E; rw [hck]; rfl
    rw [e9, ← am_set_map (k := f) (v := .ref (ρ t b2)) (f := am_val ρ I Lg R G c i) (fun j hj => ?_)]
    · exact at1
    · by_cases ej : j = f
      · subst ej
        unfold am_val
        simp only [hs, eref, if_true]
        rfl
      · rw [if_neg ej]
        unfold am_val
        simp only [eoth j ej]
  · by_cases ek : k2 = f
    · subst ek
      rw [eref] at hk2
      cases hk2
      exact ⟨htN, hb3⟩
    · rw [eoth k2 ek] at hk2
      exact hW.2.2.2.2.2.2.2.1 c i k2 c2 i2 (am_lt13 h13) hi hk2
theorem ar_putD {c i f idx : Nat} {r : vw_C} {v t z b2 : Nat} (hr : vwCl[c]? = some r) (hk : f < r.2.2) (hlink : Cond.fieldLink M.1 idx (r.2.1 f).1 (r.2.1 f).2.1 (r.2.1 f).2.2.1 ∈ am_BIG) (hfin : (r.2.1 f).2.2.2 = false ∨ (r.2.1 f).2.2.2 = true ∧ M.2.1.name = "<init>" ∧ (r.2.1 f).1 = M.1) (hs : am_slot c f = (4, v, t, z)) (hd : decode M.2.2.1 pc = .ok (.putfield idx, 3)) (h : am_J Γ M Q d k n (pc + 3) L st I Lg (up3 R v i 0 (some b2)) G) : am_J Γ M Q d k n pc L (vR t b2 :: vR c i :: st) I Lg R G := by
  refine am_J.wr (fun ρ p e Rm s m args below meth c0 H locs cells slots Z ls C hW hoS hl kk => ?_) rfl (fun b => b.tl.tl) h
  obtain ⟨hck, h13⟩ := am_ckN c r hr
  have hi := hoS.tl.hd.lt (am_lt13 h13)
  obtain ⟨-, -, -, hsl⟩ := am_chk0 hck (am_lt13 h13)
  have hvt : am_oR v = (c, f) ∧ t < am_NC := by have := hsl f hk; rw [hs] at this; exact this
  have ety : ∃ q, am_ty c f = .object q := by
    have h9 := am_tagOk_all c h13 f (by rw [hck]; exact hk)
    unfold am_tagOk at h9
    rw [hs] at h9
    generalize am_ty c f = ty at h9
    cases ty <;> first | exact ⟨_, rfl⟩ | cases h9
  have eref : am_ref (up3 R v i 0 (some b2)) G c i f = (some b2 : Option Nat).map (fun b => (t, b)) := by
    unfold am_ref; rw [hck]; simp only [hs]; simp [up3]
  have eoth : ∀ j, j < r.2.2 → ¬ j = f → am_ref (up3 R v i 0 (some b2)) G c i j = am_ref R G c i j := by
    intro j hj hne
    have hj9 := hsl j hj
    unfold am_ref
    rw [hck]
    rcases hsj : am_slot c j with ⟨a9, v9, t9, b9⟩
    rw [hsj] at hj9
    match a9, hj9 with
    | 0, _ => rfl
    | 1, _ => rfl
    | 2, _ => rfl
    | 3, _ => rfl
    | 4, hj9 => simp only [show up3 R v i 0 (some b2) v9 i 0 = R v9 i 0 from am_up3_v hvt.1 hj9.1 hne]
    | _ + 5, hj9 => exact hj9.elim
  refine am_putW (v := .ref (ρ t b2)) C hW hl hr hi hk hlink hfin (by obtain ⟨q, e9⟩ := ety; rw [e9]; rfl) (by obtain ⟨q, e9⟩ := ety; rw [e9]; rfl) hd fun H1 locs1 z1 o1 at1 l1 => kk H1 locs1 (hW.upd (am_lt13 h13) hi z1 o1 ?_ (fun _ _ _ => rfl) (fun _ _ _ => rfl) (am_up3_ne hvt.1) (fun _ _ _ => rfl) rfl (fun k2 c2 i2 hkn hk2 => ?_)) l1
  · have e9 : am_E Γ ρ I Lg (up3 R v i 0 (some b2)) G c i = .inr (c, (List.range r.2.2).map (am_val ρ I Lg (up3 R v i 0 (some b2)) G c i)) := by unfold am_E; rw [hck]; rfl
    rw [e9, ← am_set_map (k := f) (v := .ref (ρ t b2)) (f := am_val ρ I Lg R G c i) (fun j hj => ?_)]
    · exact at1
    · by_cases ej : j = f
      · subst ej
        unfold am_val
        simp only [hs, eref, if_true]
        rfl
      · rw [if_neg ej]
        unfold am_val
        simp only [eoth j hj ej]
  · by_cases ek : k2 = f
    · subst ek
      rw [eref] at hk2
      cases hk2
      exact ⟨hvt.2, hoS.hd.lt hvt.2⟩
    · rw [eoth k2 (hkn _ _ _ hck) ek] at hk2
      exact hW.2.2.2.2.2.2.2.1 c i k2 c2 i2 (am_lt13 h13) hi hk2
theorem ar_putN {c i f idx : Nat} {r : vw_C} {v t z : Nat} (hr : vwCl[c]? = some r) (hk : f < r.2.2) (hlink : Cond.fieldLink M.1 idx (r.2.1 f).1 (r.2.1 f).2.1 (r.2.1 f).2.2.1 ∈ am_BIG) (hfin : (r.2.1 f).2.2.2 = false ∨ (r.2.1 f).2.2.2 = true ∧ M.2.1.name = "<init>" ∧ (r.2.1 f).1 = M.1) (hs : am_slot c f = (4, v, t, z)) (hd : decode M.2.2.1 pc = .ok (.putfield idx, 3)) (h : am_J Γ M Q d k n (pc + 3) L st I Lg (up3 R v i 0 (none)) G) : am_J Γ M Q d k n pc L (vN :: vR c i :: st) I Lg R G := by
  refine am_J.wr (fun ρ p e Rm s m args below meth c0 H locs cells slots Z ls C hW hoS hl kk => ?_) rfl (fun b => b.tl.tl) h
  obtain ⟨hck, h13⟩ := am_ckN c r hr
  have hi := hoS.tl.hd.lt (am_lt13 h13)
  obtain ⟨-, -, -, hsl⟩ := am_chk0 hck (am_lt13 h13)
  have hvt : am_oR v = (c, f) ∧ t < am_NC := by have := hsl f hk; rw [hs] at this; exact this
  have ety : ∃ q, am_ty c f = .object q := by
    have h9 := am_tagOk_all c h13 f (by rw [hck]; exact hk)
    unfold am_tagOk at h9
    rw [hs] at h9
    generalize am_ty c f = ty at h9
    cases ty <;> first | exact ⟨_, rfl⟩ | cases h9
  have eref : am_ref (up3 R v i 0 (none)) G c i f = (none : Option Nat).map (fun b => (t, b)) := by
    unfold am_ref; rw [hck]; simp only [hs]; simp [up3]
  have eoth : ∀ j, j < r.2.2 → ¬ j = f → am_ref (up3 R v i 0 (none)) G c i j = am_ref R G c i j := by
    intro j hj hne
    have hj9 := hsl j hj
    unfold am_ref
    rw [hck]
    rcases hsj : am_slot c j with ⟨a9, v9, t9, b9⟩
    rw [hsj] at hj9
    match a9, hj9 with
    | 0, _ => rfl
    | 1, _ => rfl
    | 2, _ => rfl
    | 3, _ => rfl
    | 4, hj9 => simp only [show up3 R v i 0 (none) v9 i 0 = R v9 i 0 from am_up3_v hvt.1 hj9.1 hne]
    | _ + 5, hj9 => exact hj9.elim
  refine am_putW (v := .null) C hW hl hr hi hk hlink hfin (by obtain ⟨q, e9⟩ := ety; rw [e9]; rfl) (by obtain ⟨q, e9⟩ := ety; rw [e9]; rfl) hd fun H1 locs1 z1 o1 at1 l1 => kk H1 locs1 (hW.upd (am_lt13 h13) hi z1 o1 ?_ (fun _ _ _ => rfl) (fun _ _ _ => rfl) (am_up3_ne hvt.1) (fun _ _ _ => rfl) rfl (fun k2 c2 i2 hkn hk2 => ?_)) l1
  · have e9 : am_E Γ ρ I Lg (up3 R v i 0 (none)) G c i = .inr (c, (List.range r.2.2).map (am_val ρ I Lg (up3 R v i 0 (none)) G c i)) := by unfold am_E; rw [hck]; rfl
    rw [e9, ← am_set_map (k := f) (v := .null) (f := am_val ρ I Lg R G c i) (fun j hj => ?_)]
    · exact at1
    · by_cases ej : j = f
      · subst ej
        unfold am_val
        simp only [hs, eref, if_true]
        rfl
      · rw [if_neg ej]
        unfold am_val
        simp only [eoth j hj ej]
  · by_cases ek : k2 = f
    · subst ek
      rw [eref] at hk2
      cases hk2
      
    · rw [eoth k2 (hkn _ _ _ hck) ek] at hk2
      exact hW.2.2.2.2.2.2.2.1 c i k2 c2 i2 (am_lt13 h13) hi hk2
theorem ar_iald {c i N v z t : Nat} {j : Int32} (hck : am_ck c = (1, N, v, z, t)) (h0 : 0 ≤ j.toInt) (h1 : j.toInt < N) (hd : decode M.2.2.1 pc = .ok (.iaload, 1)) (h : am_J Γ M Q d k n (pc + 1) L (vI (I v i j.toInt.toNat) :: st) I Lg R G) : am_J Γ M Q d k n pc L (vI j :: vR c i :: st) I Lg R G :=
  am_J.rd (fun ρ p e Rm s m args below meth c0 H locs cells slots Z ls C hW hoS kk => by
    have hc : c < am_NC := am_ckNC (a := 0) hck (by decide)
    have hi := hoS.tl.hd.lt hc
    have ht : t = 0 := by have := am_chkT_ok c hc; unfold am_chkT at this; rw [hck] at this; simp only [Bool.and_eq_true, beq_iff_eq] at this; exact this.2
    subst ht
    have hlt := am_vlt h0 h1
    have e1 : am_aV ρ I Lg R G c i j.toNatClampNeg = .int (I v i j.toInt.toNat) := by unfold am_aV; rw [hck]; rfl
    exact W.iald (v := .int (I v i j.toInt.toNat)) C.1 C.2.1 (hW.arr (a := 0) hck (by decide) hi) ((C.2.2.2.2.2.2.2.2.1.1.2 0 _ rfl).1 N _) (fun q => by cases q) (by rw [arrV_size]; exact am_vin h0 h1) (by rw [arrV_read _ _ hlt, e1]) rfl rfl hd (kk hoS.tl.tl.i)) h
theorem ar_zald {c i N v z t : Nat} {j : Int32} (hck : am_ck c = (2, N, v, z, t)) (h0 : 0 ≤ j.toInt) (h1 : j.toInt < N) (hd : decode M.2.2.1 pc = .ok (.baload, 1)) (h : am_J Γ M Q d k n (pc + 1) L (vI (I v i j.toInt.toNat) :: st) I Lg R G) : am_J Γ M Q d k n pc L (vI j :: vR c i :: st) I Lg R G :=
  am_J.rd (fun ρ p e Rm s m args below meth c0 H locs cells slots Z ls C hW hoS kk => by
    have hc : c < am_NC := am_ckNC (a := 1) hck (by decide)
    have hi := hoS.tl.hd.lt hc
    have ht : t = 1 := by have := am_chkT_ok c hc; unfold am_chkT at this; rw [hck] at this; simp only [Bool.and_eq_true, beq_iff_eq] at this; exact this.2
    subst ht
    have hlt := am_vlt h0 h1
    have e1 : am_aV ρ I Lg R G c i j.toNatClampNeg = .int (I v i j.toInt.toNat) := by unfold am_aV; rw [hck]; rfl
    exact W.zald (v := .int (I v i j.toInt.toNat)) C.1 C.2.1 (hW.arr (a := 1) hck (by decide) hi) ((C.2.2.2.2.2.2.2.2.1.1.2 1 _ rfl).1 N _) (fun q => by cases q) (by rw [arrV_size]; exact am_vin h0 h1) (by rw [arrV_read _ _ hlt, e1]) rfl rfl hd (kk hoS.tl.tl.i)) h
theorem ar_lald {c i N v z t : Nat} {j : Int32} (hck : am_ck c = (3, N, v, z, t)) (h0 : 0 ≤ j.toInt) (h1 : j.toInt < N) (hd : decode M.2.2.1 pc = .ok (.laload, 1)) (h : am_J Γ M Q d k n (pc + 1) L (vL (Lg v i j.toInt.toNat) :: st) I Lg R G) : am_J Γ M Q d k n pc L (vI j :: vR c i :: st) I Lg R G :=
  am_J.rd (fun ρ p e Rm s m args below meth c0 H locs cells slots Z ls C hW hoS kk => by
    have hc : c < am_NC := am_ckNC (a := 2) hck (by decide)
    have hi := hoS.tl.hd.lt hc
    have ht : t = 2 := by have := am_chkT_ok c hc; unfold am_chkT at this; rw [hck] at this; simp only [Bool.and_eq_true, beq_iff_eq] at this; exact this.2
    subst ht
    have hlt := am_vlt h0 h1
    have e1 : am_aV ρ I Lg R G c i j.toNatClampNeg = .long (Lg v i j.toInt.toNat) := by unfold am_aV; rw [hck]; rfl
    exact W.lald (v := .long (Lg v i j.toInt.toNat)) C.1 C.2.1 (hW.arr (a := 2) hck (by decide) hi) ((C.2.2.2.2.2.2.2.2.1.1.2 2 _ rfl).1 N _) (fun q => by cases q) (by rw [arrV_size]; exact am_vin h0 h1) (by rw [arrV_read _ _ hlt, e1]) rfl rfl hd (kk hoS.tl.tl.l)) h
theorem ar_iast {c i N v z t : Nat} {j : Int32} {x : Int32} (hck : am_ck c = (1, N, v, z, t)) (h0 : 0 ≤ j.toInt) (h1 : j.toInt < N) (hd : decode M.2.2.1 pc = .ok (.iastore, 1)) (h : am_J Γ M Q d k n (pc + 1) L st (up3 I v i j.toInt.toNat x) (Lg) R G) : am_J Γ M Q d k n pc L (vI x :: vI j :: vR c i :: st) I Lg R G := by
  refine am_J.wr (fun ρ p e Rm s m args below meth c0 H locs cells slots Z ls C hW hoS hl kk => ?_) rfl (fun b => b.tl.tl.tl) h
  have hc : c < am_NC := am_ckNC (a := 0) hck (by decide)
  have hi := hoS.tl.tl.hd.lt hc
  have ht : am_oI v = (c, 0) ∧ t = 0 := by have := am_chkT_ok c hc; unfold am_chkT at this; rw [hck] at this; simp only [Bool.and_eq_true, beq_iff_eq] at this; exact this
  obtain ⟨hv, rfl⟩ := ht
  refine W.iast C.1 C.2.1 (hW.arr (a := 0) hck (by decide) hi) ((C.2.2.2.2.2.2.2.2.1.1.2 0 _ rfl).1 N _) (fun q => by cases q) (by rw [arrV_size]; exact am_vin h0 h1) rfl rfl hd fun H1 e z1 oq => kk H1 _ (hW.upd hc hi z1 oq (am_at_arr (a := 0) hck ?_) (am_up3_ne (k := 0) hv) (fun _ _ _ => rfl) (fun _ _ _ => rfl) (fun _ _ _ => rfl) rfl (fun k2 c2 i2 _ hk2 => hW.2.2.2.2.2.2.2.1 c i k2 c2 i2 hc hi hk2)) (am_kept (H := H) (H1 := H1) hl (hW.2.2.1 c i hc hi))
  · skip
    rw [e, arrV_store]
    congr 2
    funext q
    unfold updV am_aV
    rw [hck]
    by_cases hq : q = j.toNatClampNeg
    · rw [if_pos hq]
      subst hq
      simp [up3]
    · rw [if_neg hq]
      simp [up3, hq]
theorem ar_zast {c i N v z t : Nat} {j : Int32} {x : Int32} (hck : am_ck c = (2, N, v, z, t)) (h0 : 0 ≤ j.toInt) (h1 : j.toInt < N) (hx : x = zI 0 ∨ x = zI 1) (hd : decode M.2.2.1 pc = .ok (.bastore, 1)) (h : am_J Γ M Q d k n (pc + 1) L st (up3 I v i j.toInt.toNat x) (Lg) R G) : am_J Γ M Q d k n pc L (vI x :: vI j :: vR c i :: st) I Lg R G := by
  refine am_J.wr (fun ρ p e Rm s m args below meth c0 H locs cells slots Z ls C hW hoS hl kk => ?_) rfl (fun b => b.tl.tl.tl) h
  have hc : c < am_NC := am_ckNC (a := 1) hck (by decide)
  have hi := hoS.tl.tl.hd.lt hc
  have ht : am_oI v = (c, 0) ∧ t = 1 := by have := am_chkT_ok c hc; unfold am_chkT at this; rw [hck] at this; simp only [Bool.and_eq_true, beq_iff_eq] at this; exact this
  obtain ⟨hv, rfl⟩ := ht
  refine W.zast C.1 C.2.1 (hW.arr (a := 1) hck (by decide) hi) ((C.2.2.2.2.2.2.2.2.1.1.2 1 _ rfl).1 N _) (fun q => by cases q) (by rw [arrV_size]; exact am_vin h0 h1) rfl rfl hd fun H1 e z1 oq => kk H1 _ (hW.upd hc hi z1 oq (am_at_arr (a := 1) hck ?_) (am_up3_ne (k := 0) hv) (fun _ _ _ => rfl) (fun _ _ _ => rfl) (fun _ _ _ => rfl) rfl (fun k2 c2 i2 _ hk2 => hW.2.2.2.2.2.2.2.1 c i k2 c2 i2 hc hi hk2)) (am_kept (H := H) (H1 := H1) hl (hW.2.2.1 c i hc hi))
  · have enar : narrow .boolean (.int x) = .int x := by rcases hx with rfl | rfl <;> rfl
    rw [enar] at e
    rw [e, arrV_store]
    congr 2
    funext q
    unfold updV am_aV
    rw [hck]
    by_cases hq : q = j.toNatClampNeg
    · rw [if_pos hq]
      subst hq
      simp [up3]
    · rw [if_neg hq]
      simp [up3, hq]
theorem ar_last {c i N v z t : Nat} {j : Int32} {x : Int64} (hck : am_ck c = (3, N, v, z, t)) (h0 : 0 ≤ j.toInt) (h1 : j.toInt < N) (hd : decode M.2.2.1 pc = .ok (.lastore, 1)) (h : am_J Γ M Q d k n (pc + 1) L st (I) (up3 Lg v i j.toInt.toNat x) R G) : am_J Γ M Q d k n pc L (vL x :: vI j :: vR c i :: st) I Lg R G := by
  refine am_J.wr (fun ρ p e Rm s m args below meth c0 H locs cells slots Z ls C hW hoS hl kk => ?_) rfl (fun b => b.tl.tl.tl) h
  have hc : c < am_NC := am_ckNC (a := 2) hck (by decide)
  have hi := hoS.tl.tl.hd.lt hc
  have ht : am_oL v = (c, 0) ∧ t = 2 := by have := am_chkT_ok c hc; unfold am_chkT at this; rw [hck] at this; simp only [Bool.and_eq_true, beq_iff_eq] at this; exact this
  obtain ⟨hv, rfl⟩ := ht
  refine W.last C.1 C.2.1 (hW.arr (a := 2) hck (by decide) hi) ((C.2.2.2.2.2.2.2.2.1.1.2 2 _ rfl).1 N _) (fun q => by cases q) (by rw [arrV_size]; exact am_vin h0 h1) rfl rfl hd fun H1 e z1 oq => kk H1 _ (hW.upd hc hi z1 oq (am_at_arr (a := 2) hck ?_) (fun _ _ _ => rfl) (am_up3_ne (k := 0) hv) (fun _ _ _ => rfl) (fun _ _ _ => rfl) rfl (fun k2 c2 i2 _ hk2 => hW.2.2.2.2.2.2.2.1 c i k2 c2 i2 hc hi hk2)) (am_kept (H := H) (H1 := H1) hl (hW.2.2.1 c i hc hi))
  · skip
    rw [e, arrV_store]
    congr 2
    funext q
    unfold updV am_aV
    rw [hck]
    by_cases hq : q = j.toNatClampNeg
    · rw [if_pos hq]
      subst hq
      simp [up3]
    · rw [if_neg hq]
      simp [up3, hq]
theorem am_tyR {Γ : AMG} {t y : Nat} (h : y = 4 ∧ t = 7 ∨ (y = 5 ∧ t = 8 ∨ (y = 6 ∧ t = 0 ∨ y = 7))) : ∃ ty, (am_tys Γ)[y]? = some (Γ.cy y, ty) ∧ ty.isReference = true := by
  rcases h with ⟨rfl, -⟩ | ⟨rfl, -⟩ | ⟨rfl, -⟩ | rfl <;> exact ⟨_, rfl, rfl⟩
theorem ar_aaldS {c i N t b y : Nat} {j : Int32} (hck : am_ck c = (4, N, t, b, y)) (h0 : 0 ≤ j.toInt) (h1 : j.toInt < N) (hin : G.1 c i j.toInt.toNat = true) (hd : decode M.2.2.1 pc = .ok (.aaload, 1)) (h : am_J Γ M Q d k n (pc + 1) L (vR t (am_aidx b j.toInt.toNat) :: st) I Lg R G) : am_J Γ M Q d k n pc L (vI j :: vR c i :: st) I Lg R G :=
  am_J.rd (fun ρ p e Rm s m args below meth c0 H locs cells slots Z ls C hW hoS kk => by
    have hc : c < am_NC := am_ckNC (a := 3) hck (by decide)
    have hi := hoS.tl.hd.lt hc
    have ht := am_chkT_ok c hc
    unfold am_chkT at ht
    rw [hck] at ht
    simp only [Bool.and_eq_true, Bool.or_eq_true, beq_iff_eq] at ht
    obtain ⟨ty, hty, hrf⟩ := am_tyR (Γ := Γ) ht.2
    have hlt := am_vlt h0 h1
    have e2 : am_ref R G c i j.toInt.toNat = some (t, am_aidx b j.toInt.toNat) := by unfold am_ref; rw [hck]; simp only [hin, (Nat.blt_eq.mpr hlt : Nat.blt j.toInt.toNat N = true), Bool.and_self]; rfl
    have e1 : am_aV ρ I Lg R G c i j.toNatClampNeg = .ref (ρ t (am_aidx b j.toInt.toNat)) := by
      unfold am_aV; rw [hck]
      show va_rf ((am_ref R G c i j.toInt.toNat).map (fun p => ρ p.1 p.2)) = _
      rw [e2]; rfl
    exact W.aald (v := .ref (ρ t (am_aidx b j.toInt.toNat))) C.1 C.2.1 (hW.arr (a := 3) hck (by decide) hi) ((C.2.2.2.2.2.2.2.2.1.1.2 y _ hty).1 N _) hrf (fun q => by cases q) (by rw [arrV_size]; exact am_vin h0 h1) (by rw [arrV_read _ _ hlt, e1]) rfl rfl hd (kk (am_okS.cons (v := vR t (am_aidx b j.toInt.toNat)) (Or.inl (hW.2.2.2.2.2.2.2.1 c i _ _ _ hc hi e2)) hoS.tl.tl))) h
theorem ar_aaldN {c i N v t y : Nat} {j : Int32} (hck : am_ck c = (5, N, v, t, y)) (h0 : 0 ≤ j.toInt) (h1 : j.toInt < N) (hR : R v i j.toInt.toNat = none) (hd : decode M.2.2.1 pc = .ok (.aaload, 1)) (h : am_J Γ M Q d k n (pc + 1) L (vN :: st) I Lg R G) : am_J Γ M Q d k n pc L (vI j :: vR c i :: st) I Lg R G :=
  am_J.rd (fun ρ p e Rm s m args below meth c0 H locs cells slots Z ls C hW hoS kk => by
    have hc : c < am_NC := am_ckNC (a := 4) hck (by decide)
    have hi := hoS.tl.hd.lt hc
    have ht : t = 1 ∧ y = 3 := by have := am_chkT_ok c hc; unfold am_chkT at this; rw [hck] at this; simp only [Bool.and_eq_true, beq_iff_eq] at this; exact this.2
    obtain ⟨rfl, rfl⟩ := ht
    have hlt := am_vlt h0 h1
    have e2 : am_ref R G c i j.toInt.toNat = (none : Option Nat).map (fun b => (1, b)) := by unfold am_ref; rw [hck]; simp only [hR]
    have e1 : am_aV ρ I Lg R G c i j.toNatClampNeg = .null := by
      unfold am_aV; rw [hck]
      show va_rf ((am_ref R G c i j.toInt.toNat).map (fun p => ρ p.1 p.2)) = _
      rw [e2]; rfl
    exact W.aald (v := .null) C.1 C.2.1 (hW.arr (a := 4) hck (by decide) hi) ((C.2.2.2.2.2.2.2.2.1.1.2 3 _ rfl).1 N _) rfl (fun q => by cases q) (by rw [arrV_size]; exact am_vin h0 h1) (by rw [arrV_read _ _ hlt, e1]) rfl rfl hd (kk (am_okS.cons (v := vN) trivial hoS.tl.tl))) h
theorem ar_aaldD {c i N v t y b : Nat} {j : Int32} (hck : am_ck c = (5, N, v, t, y)) (h0 : 0 ≤ j.toInt) (h1 : j.toInt < N) (hR : R v i j.toInt.toNat = some b) (hd : decode M.2.2.1 pc = .ok (.aaload, 1)) (h : am_J Γ M Q d k n (pc + 1) L (vR t b :: st) I Lg R G) : am_J Γ M Q d k n pc L (vI j :: vR c i :: st) I Lg R G :=
  am_J.rd (fun ρ p e Rm s m args below meth c0 H locs cells slots Z ls C hW hoS kk => by
    have hc : c < am_NC := am_ckNC (a := 4) hck (by decide)
    have hi := hoS.tl.hd.lt hc
    have ht : t = 1 ∧ y = 3 := by have := am_chkT_ok c hc; unfold am_chkT at this; rw [hck] at this; simp only [Bool.and_eq_true, beq_iff_eq] at this; exact this.2
    obtain ⟨rfl, rfl⟩ := ht
    have hlt := am_vlt h0 h1
    have e2 : am_ref R G c i j.toInt.toNat = (some b : Option Nat).map (fun b => (1, b)) := by unfold am_ref; rw [hck]; simp only [hR]
    have e1 : am_aV ρ I Lg R G c i j.toNatClampNeg = .ref (ρ 1 b) := by
      unfold am_aV; rw [hck]
      show va_rf ((am_ref R G c i j.toInt.toNat).map (fun p => ρ p.1 p.2)) = _
      rw [e2]; rfl
    exact W.aald (v := .ref (ρ 1 b)) C.1 C.2.1 (hW.arr (a := 4) hck (by decide) hi) ((C.2.2.2.2.2.2.2.2.1.1.2 3 _ rfl).1 N _) rfl (fun q => by cases q) (by rw [arrV_size]; exact am_vin h0 h1) (by rw [arrV_read _ _ hlt, e1]) rfl rfl hd (kk (am_okS.cons (v := vR 1 b) (Or.inl (hW.2.2.2.2.2.2.2.1 c i _ _ _ hc hi e2)) hoS.tl.tl))) h
theorem ar_alen {c i a9 N x y t : Nat} (hck : am_ck c = (a9 + 1, N, x, y, t)) (ha : a9 < 5) (hd : decode M.2.2.1 pc = .ok (.arraylength, 1)) (h : am_J Γ M Q d k n (pc + 1) L (vI (zI N) :: st) I Lg R G) : am_J Γ M Q d k n pc L (vR c i :: st) I Lg R G :=
  am_J.rd (fun ρ p e Rm s m args below meth c0 H locs cells slots Z ls C hW hoS kk => by
    have hc : c < am_NC := am_ckNC hck ha
    have hi := hoS.hd.lt hc
    have hty : ∃ ty, (am_tys Γ)[t]? = some (Γ.cy t, ty) := by
      have ht := am_chkT_ok c hc
      unfold am_chkT at ht
      rw [hck] at ht
      match a9, ha, ht with
      | 0, _, ht => simp only [Bool.and_eq_true, beq_iff_eq] at ht; rw [ht.2]; exact ⟨_, rfl⟩
      | 1, _, ht => simp only [Bool.and_eq_true, beq_iff_eq] at ht; rw [ht.2]; exact ⟨_, rfl⟩
      | 2, _, ht => simp only [Bool.and_eq_true, beq_iff_eq] at ht; rw [ht.2]; exact ⟨_, rfl⟩
      | 3, _, ht =>
        simp only [Bool.and_eq_true, Bool.or_eq_true, beq_iff_eq] at ht
        obtain ⟨ty, hty, -⟩ := am_tyR (Γ := Γ) ht.2
        exact ⟨ty, hty⟩
      | 4, _, ht => simp only [Bool.and_eq_true, beq_iff_eq] at ht; rw [ht.2.2]; exact ⟨_, rfl⟩
      | q + 5, h5, _ => omega
    obtain ⟨ty, hty⟩ := hty
    exact W.alen (n := zI N) C.1 C.2.1 (hW.arr hck ha hi) ((C.2.2.2.2.2.2.2.2.1.1.2 t _ hty).1 N _) (by rw [arrV_size]; rfl) rfl rfl hd (kk hoS.tl.i)) h
end AMR
end
section
/-! Cells are made. -/
theorem am_ref_zero {I : II} {Lg : LJ} {R : RR} {G : GG} {c i : Nat} (hc : c < am_NC) (h : am_zero c i I Lg R G) (k : Nat) : am_ref R G c i k = none := by
  obtain ⟨-, -, h3, h4⟩ := h
  unfold am_ref
  rcases hck : am_ck c with ⟨a, x, n, y, t⟩
  match a, hck with
  | 0, hck =>
    obtain ⟨e, hlt, -, hs⟩ := am_chk0 hck hc
    subst e
    by_cases hkn : k < n
    · have h1 := hs k hkn
      rcases hsl : am_slot x k with ⟨a, v, t, b⟩
      rw [hsl] at h1
      match a, h1 with
      | 0, _ => rfl
      | 1, _ => rfl
      | 2, _ => rfl
      | 3, _ => simp only [h4]; rfl
      | 4, h1 => simp only [h3 v 0 (by rw [h1.1])]; rfl
      | _ + 5, h1 => exact h1.elim
    · have hb : am_slot x k = (9, 0, 0, 0) := am_slot_out hck hlt (Nat.not_lt.mp hkn)
      rw [hb]
      rfl
  | 1, _ => rfl
  | 2, _ => rfl
  | 3, _ => rfl
  | 4, _ => simp only [h4, Bool.and_false]; rfl
  | 5, hck =>
    have h1 := am_chkT_ok c hc
    unfold am_chkT at h1
    rw [hck] at h1
    simp only [Bool.and_eq_true, beq_iff_eq] at h1
    simp only [h3 n k (by rw [h1.1])]
    rfl
  | _ + 6, _ => rfl
theorem am_ref_G2 {R : RR} {G G' : GG} (h : G'.1 = G.1) (c i k : Nat) : am_ref R G' c i k = am_ref R G c i k := by
  unfold am_ref
  rw [h]
/-- other addresses, and more cells counted: a cell that points nowhere else is the same -/
theorem am_E_rho {Γ : AMG} {ρ ρ' : Nat → Nat → Nat} {I : II} {Lg : LJ} {R : RR} {G G' : GG} {c i : Nat} (hG : G'.1 = G.1) (h : ∀ k c2 i2, am_ref R G c i k = some (c2, i2) → ρ' c2 i2 = ρ c2 i2) : am_E Γ ρ' I Lg R G' c i = am_E Γ ρ I Lg R G c i := by
  have hm : ∀ k, (am_ref R G' c i k).map (fun p => ρ' p.1 p.2) = (am_ref R G c i k).map (fun p => ρ p.1 p.2) := by
    intro k
    rw [am_ref_G2 hG]
    cases hr : am_ref R G c i k with
    | none => rfl
    | some q => exact congrArg some (h k q.1 q.2 hr)
  have hv : ∀ k, am_val ρ' I Lg R G' c i k = am_val ρ I Lg R G c i k := by
    intro k
    unfold am_val
    rw [hm k]
  unfold am_E
  rw [show am_val ρ' I Lg R G' c i = am_val ρ I Lg R G c i from funext hv, show (fun k => (am_ref R G' c i k).map (fun p => ρ' p.1 p.2)) = (fun k => (am_ref R G c i k).map (fun p => ρ p.1 p.2)) from funext hm]
def am_newρ (ρ : Nat → Nat → Nat) (c i a : Nat) : Nat → Nat → Nat := fun c' i' => if c' = c ∧ i' = i then a else ρ c' i'
abbrev am_newG (G : GG) (c : Nat) : GG := (G.1, up1 G.2 c (G.2 c + 1))
theorem am_newG_le {G : GG} {c : Nat} (c' : Nat) : G.2 c' ≤ (am_newG G c).2 c' := by
  show _ ≤ up1 G.2 c (G.2 c + 1) c'
  unfold up1
  split
  · next h => subst h; omega
  · exact Nat.le_refl _
theorem am_newρ_old {ρ : Nat → Nat → Nat} {G : GG} {c a c' i' : Nat} (hc : c < am_NC) (h : am_okR G c' i') : am_newρ ρ c (G.2 c) a c' i' = ρ c' i' := by
  unfold am_newρ
  rw [if_neg]
  rintro ⟨rfl, rfl⟩
  rcases h with h | h <;> omega
theorem am_new_ext {ρ : Nat → Nat → Nat} {G : GG} {c a : Nat} (hc : c < am_NC) : am_Ext ρ G (am_newρ ρ c (G.2 c) a) (am_newG G c) := ⟨am_newG_le, fun _ _ h => am_newρ_old hc h⟩
/-- the world behind a new cell -/
theorem am_Wd.new {Γ : AMG} {ρ : Nat → Nat → Nat} {I : II} {Lg : LJ} {R : RR} {G : GG} {H H1 : Heap} {c : Nat} (hW : am_Wd Γ ρ I Lg R G H) (hc : c < am_NC) (hop : G.1 1000 c 0 = false) (hz : H1.size = H.size + 1) (hq : ∀ q, q < H.size → H1[q]? = H[q]?)
    (hat : va_at Γ.D vwCl (H.size, am_E Γ (am_newρ ρ c (G.2 c) H.size) I Lg R (am_newG G c) c (G.2 c)) H1) : am_Wd Γ (am_newρ ρ c (G.2 c) H.size) I Lg R (am_newG G c) H1 := by
  obtain ⟨w1, w2, w3, w4, w5, w6, w7, w8, w9⟩ := hW
  have hcnt : ∀ c' i', i' < (am_newG G c).2 c' → ¬ (c' = c ∧ i' = G.2 c) → i' < G.2 c' := by
    intro c' i' h hne
    have h' : i' < up1 G.2 c (G.2 c + 1) c' := h
    unfold up1 at h'
    split at h'
    · next e =>
      subst e
      have : i' ≠ G.2 c' := fun q => hne ⟨rfl, q⟩
      omega
    · exact h'
  have hold : ∀ c' i', c' < am_NC → i' < G.2 c' → ρ c' i' < H.size := fun c' i' h1 h2 => (w1 c' i' h1 h2).lt
  have hρo : ∀ c' i', c' < am_NC → i' < G.2 c' → am_newρ ρ c (G.2 c) H.size c' i' = ρ c' i' := fun c' i' h1 h2 => am_newρ_old hc (Or.inl ⟨h1, h2⟩)
  have hρn : am_newρ ρ c (G.2 c) H.size c (G.2 c) = H.size := by unfold am_newρ; rw [if_pos ⟨rfl, rfl⟩]
  refine ⟨fun c' i' h1 h2 => ?_, fun c1 i1 c2 i2 h1 h2 h3 h4 h5 => ?_, fun c' i' h1 h2 => ?_, fun k => ?_, fun k => ?_, by omega, fun q hlt => by rw [hq q (by omega)]; exact w7 q hlt, fun c' i' k c2 i2 h1 h2 h3 => ?_, fun c' i' h1 h2 h3 => ?_⟩
  · by_cases e : c' = c ∧ i' = G.2 c
    · obtain ⟨rfl, rfl⟩ := e
      rw [hρn]
      exact hat
    · have h3 := hcnt c' i' h2 e
      rw [hρo c' i' h1 h3, am_E_rho (ρ := ρ) (ρ' := am_newρ ρ c (G.2 c) H.size) (G := G) (G' := am_newG G c) rfl (fun k c2 i2 hr => hρo c2 i2 (w8 c' i' k c2 i2 h1 h3 hr).1 (w8 c' i' k c2 i2 h1 h3 hr).2)]
      exact (w1 c' i' h1 h3).kept (hq _ (hold c' i' h1 h3))
  · by_cases e1 : c1 = c ∧ i1 = G.2 c <;> by_cases e2 : c2 = c ∧ i2 = G.2 c
    · exact ⟨e1.1.trans e2.1.symm, e1.2.trans e2.2.symm⟩
    · obtain ⟨rfl, rfl⟩ := e1
      have := hcnt c2 i2 h4 e2
      rw [hρn, hρo c2 i2 h2 this] at h5
      have := hold c2 i2 h2 this
      omega
    · obtain ⟨rfl, rfl⟩ := e2
      have := hcnt c1 i1 h3 e1
      rw [hρn, hρo c1 i1 h1 this] at h5
      have := hold c1 i1 h1 this
      omega
    · rw [hρo c1 i1 h1 (hcnt c1 i1 h3 e1), hρo c2 i2 h2 (hcnt c2 i2 h4 e2)] at h5
      exact w2 c1 i1 c2 i2 h1 h2 (hcnt c1 i1 h3 e1) (hcnt c2 i2 h4 e2) h5
  · by_cases e : c' = c ∧ i' = G.2 c
    · obtain ⟨rfl, rfl⟩ := e
      rw [hρn]
      exact w6
    · rw [hρo c' i' h1 (hcnt c' i' h2 e)]
      exact w3 c' i' h1 (hcnt c' i' h2 e)
  · rw [am_newρ_old hc (Or.inr (by decide))]
    exact w4 k
  · rw [am_newρ_old hc (Or.inr (by decide))]
    exact w5 k
  · rw [am_ref_G2 (G := G) (G' := am_newG G c) rfl] at h3
    by_cases e : c' = c ∧ i' = G.2 c
    · obtain ⟨rfl, rfl⟩ := e
      rw [am_ref_zero h1 (w9 c' (G.2 c') h1 (Nat.le_refl _) hop) k] at h3
      cases h3
    · have := w8 c' i' k c2 i2 h1 (hcnt c' i' h2 e) h3
      exact ⟨this.1, Nat.lt_of_lt_of_le this.2 (am_newG_le c2)⟩
  · exact w9 c' i' h1 (Nat.le_trans (am_newG_le c') h2) h3
theorem am_val_zero {ρ : Nat → Nat → Nat} {I : II} {Lg : LJ} {R : RR} {G : GG} {c i k : Nat} (h13 : c < 13) (hk : k < (am_ck c).2.2.1) (h : am_zero c i I Lg R G) : am_val ρ I Lg R G c i k = defaultValue (am_ty c k) := by
  have hz := am_ref_zero (am_lt13 h13) h k
  obtain ⟨h1, h2, -, -⟩ := h
  have htag := am_tagOk_all c h13 k hk
  rcases hck : am_ck c with ⟨a, x, n, y, t⟩
  rw [hck] at hk
  have ha : am_ck c = (0, x, n, (y, t)) := by
    have : ∀ c, c < 13 → (am_ck c).1 = 0 := by decide +kernel
    have h9 := this c h13
    rw [hck] at h9
    rw [hck, show a = 0 from h9]
  obtain ⟨-, -, -, hs⟩ := am_chk0 ha (am_lt13 h13)
  have h9 := hs k hk
  unfold am_tagOk at htag
  unfold am_val
  rw [hz]
  rcases hsl : am_slot c k with ⟨a, v, t, b⟩
  rw [hsl] at h9 htag
  match a, h9, htag with
  | 0, h9, htag =>
    have e : am_ty c k = .int := by generalize am_ty c k = ty at htag; cases ty <;> first | rfl | cases htag
    rw [e]
    show Value.int (I v i 0) = _
    rw [h1 v 0 (by rw [show am_oI v = (c, k) from h9])]
    rfl
  | 1, h9, htag =>
    have e : am_ty c k = .boolean := by generalize am_ty c k = ty at htag; cases ty <;> first | rfl | cases htag
    rw [e]
    show Value.int (I v i 0) = _
    rw [h1 v 0 (by rw [show am_oI v = (c, k) from h9])]
    rfl
  | 2, h9, htag =>
    have e : am_ty c k = .long := by generalize am_ty c k = ty at htag; cases ty <;> first | rfl | cases htag
    rw [e]
    show Value.long (Lg v i 0) = _
    rw [h2 v 0 (by rw [show am_oL v = (c, k) from h9])]
    rfl
  | 3, h9, htag => generalize am_ty c k = ty at htag ⊢; cases ty <;> first | rfl | cases htag
  | 4, h9, htag => generalize am_ty c k = ty at htag ⊢; cases ty <;> first | rfl | cases htag
  | _ + 5, h9, _ => exact h9.elim
theorem am_atA {Γ : AMG} {ρ : Nat → Nat → Nat} {I : II} {Lg : LJ} {R : RR} {G : GG} {H : Heap} {c i a n x y t b : Nat} (hck : am_ck c = (a + 1, n, x, y, t)) (h : H[b]? = some (arrV (Γ.cy t) n (am_aV ρ I Lg R G c i))) : va_at Γ.D vwCl (b, am_E Γ ρ I Lg R G c i) H := by
  obtain ⟨w, h1, -, h3⟩ := am_E_arr (Γ := Γ) (ρ := ρ) (I := I) (Lg := Lg) (R := R) (G := G) (i := i) hck
  rw [h1]
  show H[b]? = some (vp_cell (Γ.cy t) w)
  rw [h, h3]
section AMR
variable {Γ : AMG} {M : MD} {Q : QQ} {d k n pc pc' pc2 : Nat} {L L' : LL} {st st' : List AV} {I I' : II} {Lg Lg' : LJ} {R R' : RR} {G G' : GG}
/-- a step that makes a cell -/
theorem am_J.mk {c N : Nat} (hc : c < am_NC) (hop : G.1 1000 c 0 = false) (hs : ∀ (ρ : Nat → Nat → Nat) (p : Program) (e : Env) (Rm : Room) (s : State) (m : MethodId) (args : Array Value) (below : List Frame) (meth : Method) (c0 : Code) (H : Heap) (locs : List Loc) (cells slots : Nat) (Z : State → Prop) (ls : Array Slot), am_Cx Γ M p s m args meth c0 → am_Wd Γ ρ I Lg R G H → am_zero c (G.2 c) I Lg R G → cells + 1 ≤ Rm.cells → slots + N ≤ Rm.slots →
      (∀ H1 : Heap, H1.size = H.size + 1 → (∀ q, q < H.size → H1[q]? = H[q]?) → va_at Γ.D vwCl (H.size, am_E Γ (am_newρ ρ c (G.2 c) H.size) I Lg R (am_newG G c) c (G.2 c)) H1 → W p Γ.l e Rm s m args below meth c0 H1 locs (cells + 1) (slots + N) Z (F0 m pc' ls (.ref H.size :: st'.map (am_con ρ)))) → W p Γ.l e Rm s m args below meth c0 H locs cells slots Z (F0 m pc ls (st.map (am_con ρ))))
    (hst : ∀ v ∈ st', v ∈ st) (h : am_zero c (G.2 c) I Lg R G → am_J Γ M Q d k n pc' L (vR c (G.2 c) :: st') I Lg R (am_newG G c)) : am_J Γ M Q d (k + 1) (n + N) pc L st I Lg R G := by
  intro ρ p e Rm s m args below meth c0 H locs cells slots Z C h1 h2 h3 h4 hW hl hoL hoS ret ls hL
  have hz := hW.2.2.2.2.2.2.2.2 c (G.2 c) hc (Nat.le_refl _) hop
  have hext : am_Ext ρ G (am_newρ ρ c (G.2 c) H.size) (am_newG G c) := am_new_ext hc
  refine hs ρ p e Rm s m args below meth c0 H locs cells slots Z ls C hW hz (by omega) (by omega) (fun H1 z1 o1 at1 => ?_)
  have hcon : ∀ v, am_ok G v → am_con (am_newρ ρ c (G.2 c) H.size) v = am_con ρ v := by
    intro v hv
    match v, hv with
    | .inl _, _ => rfl
    | .inr (.inl _), _ => rfl
    | .inr (.inr none), _ => rfl
    | .inr (.inr (some (a, b))), hv => exact congrArg Value.ref (hext.2 a b hv)
  have hokx : ∀ v, am_ok G v → am_ok (am_newG G c) v := by
    intro v hv
    match v, hv with
    | .inl _, _ => trivial
    | .inr (.inl _), _ => trivial
    | .inr (.inr none), _ => trivial
    | .inr (.inr (some (a, b))), hv => exact am_okR.ext hext hv
  have key := h hz (am_newρ ρ c (G.2 c) H.size) p e Rm s m args below meth c0 H1 locs (cells + 1) (slots + N) Z C h1 h2 (by omega) (by omega) (hW.new hc hop z1 o1 at1) hl ⟨hoL.1, fun v hv => hokx v (hoL.2 v hv)⟩ (am_okS.cons (v := vR c (G.2 c)) (Or.inl ⟨hc, by show _ < up1 G.2 c (G.2 c + 1) c; simp [up1]⟩) (fun v hv => hokx v (hoS v (hst v hv))))
    (fun ρ' r I2 Lg2 R2 G2 H2 locs2 cells2 slots2 pc2 ls2 a1 a2 a3 a4 a5 a6 a7 a8 => ret ρ' r I2 Lg2 R2 G2 H2 locs2 cells2 slots2 pc2 ls2 a1 (hext.tr a2) a3 a4 (by omega) (by omega) a7 a8) ls ⟨hL.1, hL.2.1, fun j v hv => by rw [hcon v (hoL.at hv)]; exact hL.2.2 j v hv⟩
  have e1 : (vR c (G.2 c) :: st').map (am_con (am_newρ ρ c (G.2 c) H.size)) = .ref H.size :: st'.map (am_con ρ) := by
    rw [List.map_cons]
    congr 1
    · show Value.ref (am_newρ ρ c (G.2 c) H.size c (G.2 c)) = _
      unfold am_newρ
      rw [if_pos ⟨rfl, rfl⟩]
    · exact List.map_congr_left (fun v hv => hcon v (hoS v (hst v hv)))
  rw [e1] at key
  exact key
theorem ar_new {c N idx : Nat} {r : vw_C} (hop : G.1 1000 c 0 = false) (hr : vwCl[c]? = some r) (hN : r.2.2 = N) (hcl : Cond.classLink M.1 idx r.1 ∈ am_BIG) (hinst : Cond.instantiable r.1 r.2.2 ∈ am_BIG) (hini : Cond.initialized r.1 ∈ am_BIG) (hd : decode M.2.2.1 pc = .ok (.new idx, 3)) (h : am_zero c (G.2 c) I Lg R G → am_J Γ M Q d k n (pc + 3) L (vR c (G.2 c) :: st) I Lg R (am_newG G c)) : am_J Γ M Q d (k + 1) (n + N) pc L st I Lg R G := by
  subst hN
  obtain ⟨hck, h13⟩ := am_ckN c r hr
  refine am_J.mk (am_lt13 h13) hop (fun ρ p e Rm s m args below meth c0 H locs cells slots Z ls C hW hz hc1 hc2 kk => ?_) (fun _ h => h) h
  have hts := C.2.2.2.2.2.2.1
  have hKn := C.2.2.2.2.2.2.2.2.1.1.1 c _ hr
  refine W.newcK C.1 C.2.1 C.2.2.2.2.2.1 (hts _ hcl) (hts _ hinst) (hts _ hini) rfl hd hc1 hc2 hKn.2.1 rfl fun H1 kC hkC e1 z1 o1 => kk H1 z1 o1 ?_
  obtain ⟨hty, -⟩ := am_fld c r hr
  have hb := (u_born (am_ty c) hts (am_wsin c r hr) hKn hkC e1 hty)
  have hz' : am_zero c (G.2 c) I Lg R (am_newG G c) := hz
  have e9 : am_E Γ (am_newρ ρ c (G.2 c) H.size) I Lg R (am_newG G c) c (G.2 c) = .inr (c, (List.range r.2.2).map (am_val (am_newρ ρ c (G.2 c) H.size) I Lg R (am_newG G c) c (G.2 c))) := by unfold am_E; rw [hck]; rfl
  rw [e9]
  refine ⟨_, hr, hb.to (fun j hj => ?_)⟩
  have hv := am_val_zero (ρ := am_newρ ρ c (G.2 c) H.size) (k := j) h13 (by rw [hck]; exact hj) hz'
  rw [← hv]
  unfold vp_V
  rw [List.getD_eq_getElem?_getD, List.getElem?_map, List.getElem?_range hj]
  rfl
def am_dv : Nat → Value
  | 0 => .int 0
  | 1 => .int 0
  | 2 => .long 0
  | _ => .null
theorem am_aV_zero {ρ : Nat → Nat → Nat} {a N x y t c i : Nat} (hck : am_ck c = (a + 1, N, x, y, t)) (ha : a < 5) (h : am_zero c i I Lg R G) : am_aV ρ I Lg R G c i = fun _ => am_dv a := by
  have hc := am_ckNC hck ha
  funext j
  have hz := am_ref_zero hc h j
  obtain ⟨h1, h2, -, -⟩ := h
  have h9 := am_chkT_ok c hc
  unfold am_chkT at h9
  unfold am_aV
  rw [hck] at h9 ⊢
  match a, ha, h9 with
  | 0, _, h9 =>
    simp only [Bool.and_eq_true, beq_iff_eq] at h9
    show Value.int (I x i j) = .int 0
    rw [h1 x j (by rw [h9.1])]
  | 1, _, h9 =>
    simp only [Bool.and_eq_true, beq_iff_eq] at h9
    show Value.int (I x i j) = .int 0
    rw [h1 x j (by rw [h9.1])]
  | 2, _, h9 =>
    simp only [Bool.and_eq_true, beq_iff_eq] at h9
    show Value.long (Lg x i j) = .long 0
    rw [h2 x j (by rw [h9.1])]
  | 3, _, _ => simp only [hz]; rfl
  | 4, _, _ => simp only [hz]; rfl
  | q + 5, h5, _ => omega
def am_atype : Nat → ArrayType
  | 0 => .int
  | 1 => .boolean
  | _ => .long
theorem am_aVG {ρ : Nat → Nat → Nat} {c i : Nat} (hG : G'.1 = G.1) : am_aV ρ I Lg R G' c i = am_aV ρ I Lg R G c i := by
  funext j
  unfold am_aV
  rw [am_ref_G2 hG]
theorem ar_newa {c a N x y t : Nat} (hop : G.1 1000 c 0 = false) (hck : am_ck c = (a + 1, N, x, y, t)) (ha : a < 3) (hN : N ≤ 1000000) (harr : Cond.arrayClass (newarray.typeOf (am_atype a)) ∈ am_BIG) (hd : decode M.2.2.1 pc = .ok (.newarray (am_atype a), 2)) (h : am_zero c (G.2 c) I Lg R G → am_J Γ M Q d k n (pc + 2) L (vR c (G.2 c) :: st) I Lg R (am_newG G c)) : am_J Γ M Q d (k + 1) (n + N) pc L (vI (zI N) :: st) I Lg R G := by
  have hc := am_ckNC hck (by omega)
  refine am_J.mk hc hop (fun ρ p e Rm s m args below meth c0 H locs cells slots Z ls C hW hz hc1 hc2 kk => ?_) (fun _ h => List.mem_cons_of_mem _ h) h
  have hzN : zI N = nI N := Int32.ofInt_eq_ofNat
  have hn0 : ¬ zI N < 0 := by rw [hzN]; exact nI_pos (by omega)
  have hnN : (zI N).toNatClampNeg = N := by rw [hzN]; exact nI_clamp (by omega)
  refine va_newaK C.1 C.2.1 (C.2.2.2.2.2.2.1 _ harr) rfl hd rfl hn0 hnN (by match a, ha with | 0, _ => show N * 4 ≤ _; omega | 1, _ => show N * 1 ≤ _; omega | 2, _ => show N * 8 ≤ _; omega) hc1 hc2 rfl fun H1 cA e1 z1 o1 hAr hnm => kk H1 z1 o1 (am_atA (a := a) hck ?_)
  rw [am_aV_zero hck (by omega) (show am_zero c (G.2 c) I Lg R (am_newG G c) from hz), e1]
  have ht := am_chkT_ok c hc
  unfold am_chkT at ht
  rw [hck] at ht
  match a, ha, ht with
  | 0, _, ht =>
    simp only [Bool.and_eq_true, beq_iff_eq] at ht
    rw [ht.2]
    have h2 : s.vm.findClass ("[" ++ (FieldType.int).toString) = some (Γ.cy 0) := (C.2.2.2.2.2.2.2.2.1.1.2 0 _ rfl).2
    rw [Option.some.inj (hnm.symm.trans h2)]
    rfl
  | 1, _, ht =>
    simp only [Bool.and_eq_true, beq_iff_eq] at ht
    rw [ht.2]
    have h2 : s.vm.findClass ("[" ++ (FieldType.boolean).toString) = some (Γ.cy 1) := (C.2.2.2.2.2.2.2.2.1.1.2 1 _ rfl).2
    rw [Option.some.inj (hnm.symm.trans h2)]
    rfl
  | 2, _, ht =>
    simp only [Bool.and_eq_true, beq_iff_eq] at ht
    rw [ht.2]
    have h2 : s.vm.findClass ("[" ++ (FieldType.long).toString) = some (Γ.cy 2) := (C.2.2.2.2.2.2.2.2.1.1.2 2 _ rfl).2
    rw [Option.some.inj (hnm.symm.trans h2)]
    rfl
end AMR
end
section
/-! Calls. -/
def am_cat : AV → Nat
  | .inr (.inl _) => 2
  | _ => 1
theorem am_cat_con (ρ : Nat → Nat → Nat) (v : AV) : (am_con ρ v).category = am_cat v := by
  match v with
  | .inl _ => rfl
  | .inr (.inl _) => rfl
  | .inr (.inr none) => rfl
  | .inr (.inr (some (a, b))) => rfl
def am_cats (st : List AV) : Nat := match st with
  | [] => 0
  | v :: r => am_cat v + am_cats r
theorem am_cats_con (ρ : Nat → Nat → Nat) : ∀ st : List AV, ((st.map (am_con ρ)).map fun v => v.category).sum = am_cats st
  | [] => rfl
  | v :: r => by
    rw [List.map_cons, List.map_cons, List.sum_cons, am_cats_con ρ r, am_cat_con]
    rfl
/-- a method that can be called -/
def am_Mok (M : MD) : Prop := Cond.code M.2.1 M.2.2.1 M.2.2.2.1 M.2.2.2.2.1 ∈ am_BIG ∧ M.2.1.cls = M.1 ∧ M.2.1.cls ≠ "java/lang/invoke/MethodHandle" ∧ M.2.1.cls ≠ "java/lang/invoke/VarHandle" ∧ (parseMethodDescriptor M.2.1.desc).map (fun d => d.parameters.length) = some M.2.2.2.2.2 ∧ M.2.2.2.1 ≤ 29
theorem am_BIG_good {ws : List Cond} (h : ∀ w ∈ ws, w ∈ am_BIG) : GoodIn am_BIG ws := fun w hw => ⟨h w hw, good_of_word (List.mem_filter.mp (h w hw)).2⟩
theorem am_ws_in {M : MD} (h : am_Mok M) : ∀ w ∈ am_ws M, w ∈ am_BIG := fun w hw => (List.mem_cons.mp hw).elim (fun e => by rw [e]; exact h.1) id
theorem am_Pc_blind {Γ : AMG} {ρ : Nat → Nat → Nat} {args : List AV} {I : II} {Lg : LJ} {R : RR} {G : GG} (hg : am_GK Γ) : FrameBlind (am_Pc Γ ρ args I Lg R G) := fun a U g mk q => ⟨q.1, ⟨va_K.moved (u := U) (U := U.calling g mk a) (Vm.Alike.refl U.vm) q.2.1.1, hg.2 U (U.calling g mk a) q.2.1.2 rfl⟩, q.2.2⟩
theorem am_K.warm {Γ : AMG} {s U : State} (hg : am_GK Γ) (h : am_K Γ s) (hW : s.WarmedH U.vm) : am_K Γ U := ⟨va_K.moved hW.alike h.1, hg.1 s U h.2 hW⟩
section AMR
variable {Γ : AMG} {M M2 : MD} {Q : QQ} {d k n k2 n2 pc pc' pc2 : Nat} {L L' : LL} {st st' As rest : List AV} {I I' : II} {Lg Lg' : LJ} {R R' : RR} {G G' : GG}
/-- a call that is run: what is behind it -/
theorem am_J.call {ρ : Nat → Nat → Nat} {p : Program} {e : Env} {Rm : Room} {s : State} {m : MethodId} {args a : Array Value} {below : List Frame} {meth : Method} {c : Code} {H : Heap} {locs : List Loc} {cells slots : Nat} {Z : State → Prop} {ls : Array Slot} {st0 : List Value}
    (run : va_Run p Γ.l e Rm s m args below meth c H locs cells slots k2 n2 (F0 m pc ls st0) (rest.map (am_con ρ)) (am_Qc Γ (fun r I' Lg' R' G' => am_J Γ M Q d k n (pc + 3) L (r.toList ++ rest) I' Lg' R' G') ρ G a) (fun q => Γ.HH.size ≤ q))
    (C : am_Cx Γ M p s m args meth c) (h1 : d ≤ Rm.frames) (h2 : am_LOC * d ≤ Rm.locals) (h3 : cells + (k2 + k) ≤ Rm.cells) (h4 : slots + (n2 + n) ≤ Rm.slots) (hl : ∀ q ∈ locs, Γ.HH.size ≤ q.base) (hoL : am_okL M.2.2.2.1 G L) (hoR : am_okS G rest)
    (ret : ∀ (ρ' : Nat → Nat → Nat) (r : Option AV) (I' : II) (Lg' : LJ) (R' : RR) (G' : GG) (H' : Heap) (locs' : List Loc) (cells' slots' pc' : Nat) (ls' : Array Slot), am_Wd Γ ρ' I' Lg' R' G' H' → am_Ext ρ G ρ' G' → (∀ v ∈ r, am_ok G' v) → (∀ q ∈ locs', Γ.HH.size ≤ q.base) → cells' ≤ cells + (k2 + k) → slots' ≤ slots + (n2 + n) → Q r I' Lg' R' G' → am_At M pc' r →
      W p Γ.l e Rm s m args below meth c H' locs' cells' slots' Z (F0 m pc' ls' (r.toList.map (am_con ρ'))))
    (hL : am_hL ρ ls L) : W p Γ.l e Rm s m args below meth c H locs cells slots Z (F0 m pc ls st0) := by
  intro T hT X
  obtain ⟨v, st₀, t, T', L1, h0, X', hL1, e1, e2, ⟨ρ', r, I', Lg', R', G', hv, hW', hx, hr, hq⟩, stp⟩ := run T hT X
  have hv2 : v = r.map (am_con ρ') := Outcome.returned.inj hv
  subst hv2
  have hcon : ∀ w, am_ok G w → am_con ρ' w = am_con ρ w := by
    intro w hw
    match w, hw with
    | .inl _, _ => rfl
    | .inr (.inl _), _ => rfl
    | .inr (.inr none), _ => rfl
    | .inr (.inr (some (a, b))), hw => exact congrArg Value.ref (hx.2 a b hw)
  have hokx : ∀ w, am_ok G w → am_ok G' w := by
    intro w hw
    match w, hw with
    | .inl _, _ => trivial
    | .inr (.inl _), _ => trivial
    | .inr (.inr none), _ => trivial
    | .inr (.inr (some (a, b))), hw => exact am_okR.ext hx hw
  rw [← e1] at hW'
  obtain ⟨t2, a1, b1⟩ := hq ρ' p e Rm s m args below meth c T'.heap (locs ++ L1) (cells + k2) (slots + n2) Z C h1 h2 (by omega) (by omega) hW' (fun q hq => (List.mem_append.mp hq).elim (hl q) (hL1 q)) ⟨hoL.1, fun w hw => hokx w (hoL.2 w hw)⟩ (fun w hw => (List.mem_append.mp hw).elim (fun z => hr w (Option.mem_toList.mp z)) (fun z => hokx w (hoR w z)))
    (fun ρ2 r2 I2 Lg2 R2 G2 H2 locs2 cells2 slots2 pc2 ls2 b1 b2 b3 b4 b5 b6 b7 b8 => ret ρ2 r2 I2 Lg2 R2 G2 H2 locs2 cells2 slots2 pc2 ls2 b1 (hx.tr b2) b3 b4 (by omega) (by omega) b7 b8) ls ⟨hL.1, hL.2.1, fun j w hw => by rw [hcon w (hoL.at hw)]; exact hL.2.2 j w hw⟩ T' rfl X'
  refine ⟨t2, stp t2 ?_, b1⟩
  have e9 : (r.toList ++ rest).map (am_con ρ') = (r.map (am_con ρ')).toList ++ rest.map (am_con ρ) := by
    rw [List.map_append]
    congr 1
    · cases r <;> rfl
    · exact List.map_congr_left (fun w hw => hcon w (hoR w hw))
  rw [e9] at a1
  exact a1
theorem ar_invV {c i idx : Nat} {r : vw_C} (hst : st = As.reverse ++ vR c i :: rest) (hr : vwCl[c]? = some r) (hrM : r.1 = M2.1) (hok : am_Mok M2) (h1 : Cond.methodLink M.1 idx M2.2.1 ∈ am_BIG) (h2 : Cond.instanceMethod M2.2.1 ∈ am_BIG) (h3 : Cond.selects M2.1 M2.2.1 M2.2.1 ∈ am_BIG) (h4 : Cond.initialized M2.1 ∈ am_BIG)
    (hlen : As.length = M2.2.2.2.2.2) (hcat : am_cats rest ≤ 8) (hd : decode M.2.2.1 pc = .ok (.invokevirtual idx, 3)) (h : am_Sp Γ d k2 n2 M2 (vR c i :: As) I Lg R G (fun r I' Lg' R' G' => am_J Γ M Q (d + 1) k n (pc + 3) L (r.toList ++ rest) I' Lg' R' G')) : am_J Γ M Q (d + 1) (k2 + k) (n2 + n) pc L st I Lg R G := by
  subst hst
  intro ρ p e Rm s m args below meth c0 H locs cells slots Z C g1 g2 g3 g4 hW hl hoL hoS ret ls hL
  have hrecv : am_ok G (vR c i) := hoS (vR c i) (by simp)
  have hargs : am_okS G (vR c i :: As) := fun v hv => (List.mem_cons.mp hv).elim (fun e => by rw [e]; exact hrecv) (fun z => hoS v (by simp [z]))
  have hrest : am_okS G rest := fun v hv => hoS v (by simp [hv])
  have hi : i < G.2 c := am_okR.lt hrecv (am_lt13 (am_ckN c r hr).2)
  have hGK : am_GK Γ := C.2.2.2.2.2.2.2.2.2
  have hK : am_K Γ s := C.2.2.2.2.2.2.2.2.1
  have hts := C.2.2.2.2.2.2.1
  have hM := h ρ hGK hargs
  have hgood : GoodIn am_BIG (wsV M.1 idx M2.1 M2.2.1 (am_ws M2)) := am_BIG_good (fun w hw => by
    rcases List.mem_append.mp hw with hw | hw
    · simp only [List.mem_cons, List.not_mem_nil, or_false] at hw
      rcases hw with rfl | rfl | rfl | rfl
      · exact h1
      · exact h2
      · exact h3
      · exact h4
    · exact am_ws_in hok w hw)
  have hl29 := hok.2.2.2.2.2
  refine am_J.call (k2 := k2) (n2 := n2) (rest := rest) (st0 := (As.reverse ++ vR c i :: rest).map (am_con ρ)) (va_runV (C := M2.1) (As := As.map (am_con ρ)) (rest := rest.map (am_con ρ)) ⟨C.1, C.2.1, C.2.2.1, C.2.2.2.2.2.1, hts⟩ hM (cwV (ws' := am_BIG) M2.2.2.2.2.2 hts hgood rfl rfl rfl ⟨hok.2.1, hok.2.2.1, hok.2.2.2.1, hok.2.2.2.2.1⟩ ⟨by show d + 1 ≤ _; exact g1, by show 8 + (M2.2.2.2.1 + 11) + am_LOC * d ≤ _; have e9 : am_LOC * (d + 1) = am_LOC * d + 48 := rfl; omega⟩) ⟨am_Pc_blind hGK, ?_, fun U hU hWm => ⟨rfl, hK.warm hGK hWm, by rw [hU]; exact hW⟩⟩ rfl (by simpa using hlen) (hL.1.trans hoL.1) (by show List.map _ _ = _; simp [am_con]) (lv_room (by rw [am_cats_con]; exact hcat)) hd ⟨by omega, by omega⟩) C g1 g2 g3 g4 hl hoL hrest ret hL
  obtain ⟨q', z1, cell, z2, z3, z4, -⟩ := hW.obj hr hi
  exact ⟨cell, z2, by rw [z4]; rfl, by rw [z3, ← hrM]; exact (hK.1.1 c r hr).2.1⟩
theorem ar_invS {idx : Nat} (hst : st = As.reverse ++ rest) (hok : am_Mok M2) (h1 : Cond.methodLink M.1 idx M2.2.1 ∈ am_BIG) (h2 : Cond.static M2.2.1 ∈ am_BIG) (h4 : Cond.initialized M2.1 ∈ am_BIG)
    (hlen : As.length = M2.2.2.2.2.2) (hcat : am_cats rest ≤ 8) (hd : decode M.2.2.1 pc = .ok (.invokestatic idx, 3)) (h : am_Sp Γ d k2 n2 M2 As I Lg R G (fun r I' Lg' R' G' => am_J Γ M Q (d + 1) k n (pc + 3) L (r.toList ++ rest) I' Lg' R' G')) : am_J Γ M Q (d + 1) (k2 + k) (n2 + n) pc L st I Lg R G := by
  subst hst
  intro ρ p e Rm s m args below meth c0 H locs cells slots Z C g1 g2 g3 g4 hW hl hoL hoS ret ls hL
  have hargs : am_okS G As := fun v hv => hoS v (by simp [hv])
  have hrest : am_okS G rest := fun v hv => hoS v (by simp [hv])
  have hGK : am_GK Γ := C.2.2.2.2.2.2.2.2.2
  have hK : am_K Γ s := C.2.2.2.2.2.2.2.2.1
  have hts := C.2.2.2.2.2.2.1
  have hM := h ρ hGK hargs
  have hl29 := hok.2.2.2.2.2
  exact am_J.call (k2 := k2) (n2 := n2) (rest := rest) (st0 := (As.reverse ++ rest).map (am_con ρ)) (va_runS (As := As.map (am_con ρ)) (rest := rest.map (am_con ρ)) ⟨C.1, C.2.1, C.2.2.1, C.2.2.2.2.2.1, hts⟩ hM ⟨callB_of (ws' := am_BIG) M2.2.2.2.2.2 hts (am_BIG_good (am_ws_in hok)) rfl rfl rfl (by rw [hok.2.1]; exact hts _ h4) (hts _ h1) ⟨hok.2.2.1, hok.2.2.2.1, hok.2.2.2.2.1⟩ ⟨by show d + 1 ≤ _; exact g1, by show 8 + (M2.2.2.2.1 + 11) + am_LOC * d ≤ _; have e9 : am_LOC * (d + 1) = am_LOC * d + 48 := rfl; omega⟩, hts _ h2⟩ ⟨am_Pc_blind hGK, fun U hU hWm => ⟨rfl, hK.warm hGK hWm, by rw [hU]; exact hW⟩⟩ rfl (by simpa using hlen) (hL.1.trans hoL.1) (by show List.map _ _ = _; simp) (lv_room (by rw [am_cats_con]; exact hcat)) hd ⟨by omega, by omega⟩) C g1 g2 g3 g4 hl hoL hrest ret hL
theorem ar_invI {c i idx : Nat} (hst : st = As.reverse ++ vR c i :: rest) (hok : am_Mok M2) (hni : M2.2.1.name = "<init>") (hrt : M2.2.2.2.2.1 = none) (h1 : Cond.methodLink M.1 idx M2.2.1 ∈ am_BIG) (h2 : Cond.instanceMethod M2.2.1 ∈ am_BIG) (h4 : Cond.initialized M2.1 ∈ am_BIG)
    (hlen : As.length = M2.2.2.2.2.2) (hcat : am_cats rest ≤ 8) (hd : decode M.2.2.1 pc = .ok (.invokespecial idx, 3)) (h : am_Sp Γ d k2 n2 M2 (vR c i :: As) I Lg R G (fun r I' Lg' R' G' => am_J Γ M Q (d + 1) k n (pc + 3) L (r.toList ++ rest) I' Lg' R' G')) : am_J Γ M Q (d + 1) (k2 + k) (n2 + n) pc L st I Lg R G := by
  subst hst
  intro ρ p e Rm s m args below meth c0 H locs cells slots Z C g1 g2 g3 g4 hW hl hoL hoS ret ls hL
  have hargs : am_okS G (vR c i :: As) := fun v hv => (List.mem_cons.mp hv).elim (fun e => by rw [e]; exact hoS (vR c i) (by simp)) (fun z => hoS v (by simp [z]))
  have hrest : am_okS G rest := fun v hv => hoS v (by simp [hv])
  have hGK : am_GK Γ := C.2.2.2.2.2.2.2.2.2
  have hK : am_K Γ s := C.2.2.2.2.2.2.2.2.1
  have hts := C.2.2.2.2.2.2.1
  have hM := h ρ hGK hargs
  have hl29 := hok.2.2.2.2.2
  obtain ⟨own2, y2, by2, mx2, rt2, na2⟩ := M2
  dsimp only at hrt
  subst hrt
  exact am_J.call (k2 := k2) (n2 := n2) (rest := rest) (st0 := (As.reverse ++ vR c i :: rest).map (am_con ρ)) (va_runI (As := As.map (am_con ρ)) (rest := rest.map (am_con ρ)) ⟨C.1, C.2.1, C.2.2.1, C.2.2.2.2.2.1, hts⟩ hM (cwI (ws' := am_BIG) na2 hts (am_BIG_good (am_ws_in hok)) rfl rfl rfl (by rw [hok.2.1]; exact hts _ h4) (hts _ h1) (hts _ h2) hni ⟨hok.2.2.1, hok.2.2.2.1, hok.2.2.2.2.1⟩ ⟨by show d + 1 ≤ _; exact g1, by show 8 + (mx2 + 11) + am_LOC * d ≤ _; have e9 : am_LOC * (d + 1) = am_LOC * d + 48 := rfl; dsimp only at hl29; omega⟩) ⟨am_Pc_blind hGK, fun U hU hWm => ⟨rfl, hK.warm hGK hWm, by rw [hU]; exact hW⟩⟩ rfl (by simpa using hlen) (hL.1.trans hoL.1) (by show List.map _ _ = _; simp [am_con]) (lv_room (by rw [am_cats_con]; exact hcat)) hd ⟨by omega, by omega⟩) C g1 g2 g3 g4 hl hoL hrest ret hL
/-- a private constructor of a nest mate -/
theorem ar_invN {c i idx : Nat} {host : String} (hst : st = As.reverse ++ vR c i :: rest) (hok : am_Mok M2) (hni : M2.2.1.name = "<init>") (hrt : M2.2.2.2.2.1 = none) (h1 : ∀ U, Γ.KX U → va_Nw (.methodLinkNest M.1 idx M2.2.1 host) U) (h2 : Cond.instanceMethod M2.2.1 ∈ am_BIG) (h4 : Cond.initialized M2.1 ∈ am_BIG)
    (hlen : As.length = M2.2.2.2.2.2) (hcat : am_cats rest ≤ 8) (hd : decode M.2.2.1 pc = .ok (.invokespecial idx, 3)) (h : am_Sp Γ d k2 n2 M2 (vR c i :: As) I Lg R G (fun r I' Lg' R' G' => am_J Γ M Q (d + 1) k n (pc + 3) L (r.toList ++ rest) I' Lg' R' G')) : am_J Γ M Q (d + 1) (k2 + k) (n2 + n) pc L st I Lg R G := by
  subst hst
  intro ρ p e Rm s m args below meth c0 H locs cells slots Z C g1 g2 g3 g4 hW hl hoL hoS ret ls hL
  have hargs : am_okS G (vR c i :: As) := fun v hv => (List.mem_cons.mp hv).elim (fun e => by rw [e]; exact hoS (vR c i) (by simp)) (fun z => hoS v (by simp [z]))
  have hrest : am_okS G rest := fun v hv => hoS v (by simp [hv])
  have hGK : am_GK Γ := C.2.2.2.2.2.2.2.2.2
  have hK : am_K Γ s := C.2.2.2.2.2.2.2.2.1
  have hts := C.2.2.2.2.2.2.1
  have hM := h ρ hGK hargs
  have hl29 := hok.2.2.2.2.2
  obtain ⟨own2, y2, by2, mx2, rt2, na2⟩ := M2
  dsimp only at hrt
  subst hrt
  exact am_J.call (k2 := k2) (n2 := n2) (rest := rest) (st0 := (As.reverse ++ vR c i :: rest).map (am_con ρ)) (va_runIN (As := As.map (am_con ρ)) (rest := rest.map (am_con ρ)) (Ts := am_BIG) ⟨C.1, C.2.1, C.2.2.1, C.2.2.2.2.2.1, hts⟩ hM ⟨va_cnB (ws' := am_BIG) na2 hts (am_BIG_good (am_ws_in hok)) rfl rfl rfl (h1 s hK.2) (by rw [hok.2.1]; exact hts _ h4) ⟨hok.2.2.1, hok.2.2.2.1, hok.2.2.2.2.1⟩ ⟨by show d + 1 ≤ _; exact g1, by show 8 + (mx2 + 11) + am_LOC * d ≤ _; have e9 : am_LOC * (d + 1) = am_LOC * d + 48 := rfl; dsimp only at hl29; omega⟩, hni, hts _ h2⟩ ⟨am_Pc_blind hGK, fun U hU hWm => ⟨rfl, hK.warm hGK hWm, by rw [hU]; exact hW⟩⟩ rfl (by simpa using hlen) (hL.1.trans hoL.1) (by show List.map _ _ = _; simp [am_con]) (lv_room (by rw [am_cats_con]; exact hcat)) hd ⟨by omega, by omega⟩) C g1 g2 g3 g4 hl hoL hrest ret hL
end AMR
end
section
/-! A contract out of the judgement: how a method is entered and left; what is weaker. -/
theorem am_J.mono {Γ : AMG} {M : MD} {Q Q2 : QQ} {d k n pc : Nat} {L : LL} {st : List AV} {I : II} {Lg : LJ} {R : RR} {G : GG} (h : am_J Γ M Q d k n pc L st I Lg R G) (hq : ∀ r I' Lg' R' G', Q r I' Lg' R' G' → Q2 r I' Lg' R' G') : am_J Γ M Q2 d k n pc L st I Lg R G :=
  fun ρ p e Rm s m args below meth c H locs cells slots Z C h1 h2 h3 h4 hW hl hoL hoS ret ls hL => h ρ p e Rm s m args below meth c H locs cells slots Z C h1 h2 h3 h4 hW hl hoL hoS (fun ρ' r I' Lg' R' G' H' locs' cells' slots' pc' ls' b1 b2 b3 b4 b5 b6 b7 b8 => ret ρ' r I' Lg' R' G' H' locs' cells' slots' pc' ls' b1 b2 b3 b4 b5 b6 (hq _ _ _ _ _ b7) b8) ls hL
/-- what stands in a local is forgotten -/
theorem am_J.drop {Γ : AMG} {M : MD} {Q : QQ} {d k n pc : Nat} {L L' : LL} {st : List AV} {I : II} {Lg : LJ} {R : RR} {G : GG} (hlen : L'.length = L.length) (hs : ∀ (i : Nat) (v : AV), L'[i]? = some (some v) → L[i]? = some (some v)) (h : am_J Γ M Q d k n pc L' st I Lg R G) : am_J Γ M Q d k n pc L st I Lg R G :=
  am_J.step (fun ρ p e Rm s m args below meth c H locs cells slots Z ls C hl kk => kk ls ⟨hl.1.trans hlen.symm, hl.2.1, fun i v hv => hl.2.2 i v (hs i v hv)⟩) (fun a b => ⟨⟨hlen.trans a.1, fun v hv => by
    obtain ⟨i, hi⟩ := List.getElem?_of_mem hv
    exact a.at (hs i v hi)⟩, b⟩) h
def am_dropR : LL → LL → Bool
  | [], [] => true
  | none :: a, _ :: b => am_dropR a b
  | some _ :: _, none :: _ => false
  | some _ :: a, some _ :: b => am_dropR a b
  | _, _ => false
/-- the slots of the arguments -/
def am_slots : List AV → LL
  | [] => []
  | .inr (.inl x) :: r => some (vL x) :: none :: am_slots r
  | .inl x :: r => some (vI x) :: am_slots r
  | .inr (.inr o) :: r => some (.inr (.inr o)) :: am_slots r
def am_pad : Nat → LL → LL
  | 0, l => l
  | n + 1, [] => none :: am_pad n []
  | n + 1, x :: l => x :: am_pad n l
theorem am_pad_get : ∀ (n : Nat) (l : LL) (i : Nat) (v : AV), (am_pad n l)[i]? = some (some v) → l[i]? = some (some v)
  | 0, _, _, _, h => h
  | n + 1, [], 0, _, h => by cases h
  | n + 1, [], i + 1, v, h => by
    have h1 := am_pad_get n [] i v (by simpa [am_pad] using h)
    simp at h1
  | n + 1, x :: l, 0, v, h => h
  | n + 1, x :: l, i + 1, v, h => by
    have h1 := am_pad_get n l i v (by simpa [am_pad] using h)
    simpa using h1
theorem am_pad_len : ∀ (n : Nat) (l : LL), l.length ≤ n → (am_pad n l).length = n
  | 0, [], _ => rfl
  | 0, _ :: _, h => absurd h (by simp)
  | n + 1, [], _ => by simp [am_pad, am_pad_len n [] (by simp)]
  | n + 1, x :: l, h => by simp [am_pad, am_pad_len n l (by simpa using h)]
theorem am_slots_len (ρ : Nat → Nat → Nat) : ∀ args : List AV, (am_slots args).length = (lg_sl (args.map (am_con ρ))).length
  | [] => rfl
  | .inr (.inl x) :: r => by
    have h := am_slots_len ρ r
    simp only [am_slots, List.length_cons, h, lg_sl, List.map_cons, List.flatMap_cons, am_con, Value.category, List.length_append]
    simp
    omega
  | .inl x :: r => by
    have h := am_slots_len ρ r
    simp only [am_slots, List.length_cons, h, lg_sl, List.map_cons, List.flatMap_cons, am_con, Value.category, List.length_append]
    simp
    omega
  | .inr (.inr none) :: r => by
    have h := am_slots_len ρ r
    simp only [am_slots, List.length_cons, h, lg_sl, List.map_cons, List.flatMap_cons, am_con, Value.category, List.length_append]
    simp
    omega
  | .inr (.inr (some (a, b))) :: r => by
    have h := am_slots_len ρ r
    simp only [am_slots, List.length_cons, h, lg_sl, List.map_cons, List.flatMap_cons, am_con, Value.category, List.length_append]
    simp
    omega
theorem am_slots_get (ρ : Nat → Nat → Nat) : ∀ (args : List AV) (o i : Nat) (v : AV), (am_slots args)[i]? = some (some v) → (o + i, am_con ρ v) ∈ lv_args o (args.map (am_con ρ))
  | [], _, _, _, h => by simp [am_slots] at h
  | .inr (.inl x) :: r, o, 0, v, h => by
    simp only [am_slots, List.getElem?_cons_zero, Option.some.injEq] at h
    subst h
    exact List.mem_cons_self
  | .inr (.inl x) :: r, o, 1, v, h => by simp [am_slots] at h
  | .inr (.inl x) :: r, o, i + 2, v, h => by
    have h1 := am_slots_get ρ r (o + 2) i v (by simpa [am_slots] using h)
    refine List.mem_cons_of_mem _ ?_
    rw [if_pos (show (am_con ρ (Sum.inr (Sum.inl x))).category = 2 from rfl), show o + (i + 2) = o + 2 + i by omega]
    exact h1
  | .inl x :: r, o, 0, v, h => by
    simp only [am_slots, List.getElem?_cons_zero, Option.some.injEq] at h
    subst h
    exact List.mem_cons_self
  | .inl x :: r, o, i + 1, v, h => by
    have h1 := am_slots_get ρ r (o + 1) i v (by simpa [am_slots] using h)
    refine List.mem_cons_of_mem _ ?_
    rw [if_neg (by simp [am_con, Value.category]), show o + (i + 1) = o + 1 + i by omega]
    exact h1
  | .inr (.inr q) :: r, o, 0, v, h => by
    simp only [am_slots, List.getElem?_cons_zero, Option.some.injEq] at h
    subst h
    exact List.mem_cons_self
  | .inr (.inr q) :: r, o, i + 1, v, h => by
    have h1 := am_slots_get ρ r (o + 1) i v (by simpa [am_slots] using h)
    refine List.mem_cons_of_mem _ ?_
    rw [if_neg (by obtain _ | ⟨a, b⟩ := q <;> simp [am_con, Value.category]), show o + (i + 1) = o + 1 + i by omega]
    exact h1
theorem am_slots_ok {G : GG} : ∀ (args : List AV), am_okS G args → ∀ v, some v ∈ am_slots args → am_ok G v
  | [], _, v, h => by simp [am_slots] at h
  | .inr (.inl x) :: r, hs, v, h => by
    simp only [am_slots, List.mem_cons, Option.some.injEq] at h
    rcases h with rfl | h | h
    · trivial
    · cases h
    · exact am_slots_ok r (fun w hw => hs w (List.mem_cons_of_mem _ hw)) v h
  | .inl x :: r, hs, v, h => by
    simp only [am_slots, List.mem_cons, Option.some.injEq] at h
    rcases h with rfl | h
    · trivial
    · exact am_slots_ok r (fun w hw => hs w (List.mem_cons_of_mem _ hw)) v h
  | .inr (.inr q) :: r, hs, v, h => by
    simp only [am_slots, List.mem_cons, Option.some.injEq] at h
    rcases h with rfl | h
    · exact hs _ List.mem_cons_self
    · exact am_slots_ok r (fun w hw => hs w (List.mem_cons_of_mem _ hw)) v h
/-- the contract out of the judgement at the method's entry -/
theorem am_Sp.of {Γ : AMG} {M : MD} {Q : QQ} {d k n : Nat} {args : List AV} {I : II} {Lg : LJ} {R : RR} {G : GG} (hpl : plainName M.2.1.cls = true) (hown : M.2.1.cls = M.1) (hlen : (am_slots args).length ≤ M.2.2.2.1) (h : am_J Γ M Q d k n 0 (am_pad M.2.2.2.1 (am_slots args)) [] I Lg R G) : am_Sp Γ d k n M args I Lg R G Q := by
  intro ρ hGK hargs
  refine Met.ofW (cc := M.2.2.1) (maxL := M.2.2.2.1) (ret := M.2.2.2.2.1) hpl rfl ?_
  intro p e s m args9 below meth c s₁ B hml hv
  obtain ⟨rfl, hK, hW⟩ := hv
  have hts := atoms_spec (ws := am_ws M) B.pre
  have hown2 : s.vm.findClass M.1 = some m.cls := by rw [← hown]; exact findClass_of_methodNamed B.named
  have hin : meth.name = M.2.1.name := (name_of_methodNamed B.named B.method).1
  have hle : (lg_sl (args.map (am_con ρ))).length ≤ M.2.2.2.1 := by rw [← am_slots_len]; exact hlen
  have hl := lv_entry (args.map (am_con ρ)) (n := M.2.2.2.1) hle
  rw [lg_entry_eq]
  have hb := B.bytes
  have hr := B.returns
  have hx := B.exec
  have hlocks := B.notSynchronized
  refine h ρ p e (headSpec (am_ws M) (am_rm d k n)).room s m _ below meth c s.heap [] 0 0 _ ⟨hx, hb, hml, hr, hlocks, hown2, fun w hw => hts w (List.mem_cons_of_mem _ hw), fun z => hin.trans z, hK, hGK⟩ (Nat.le_refl _) (Nat.le_refl _) (by show 0 + k ≤ k; omega) (by show 0 + n ≤ n; omega) hW (fun q hq => by cases hq) ⟨am_pad_len _ _ hlen, fun v hv => ?_⟩ (fun v hv => by cases hv) ?_ _ ⟨hl.1.trans (am_pad_len _ _ hlen).symm, hl.2.1, fun i v hv => ?_⟩
  · obtain ⟨i, hi⟩ := List.getElem?_of_mem hv
    exact am_slots_ok args hargs v (List.mem_of_getElem? (am_pad_get _ _ i v hi))
  · intro ρ' r I' Lg' R' G' H' locs' cells' slots' pc' ls' b1 b2 b3 b4 b5 b6 b7 b8
    refine W.widen (k := k) (n := n) (by omega) (by omega) ?_
    match r, b3, b7, b8 with
    | none, b3, b7, b8 => exact W.vret hx hb (hr.trans b8.2) (fun t ht hWm => ⟨ρ', none, I', Lg', R', G', rfl, by rw [ht]; exact b1, b2, b3, b7⟩) b4 b8.1
    | some (.inl x), b3, b7, b8 =>
      obtain ⟨b8, b9 | ⟨b9, b10⟩⟩ := b8
      · exact W.iret hx hb (hr.trans b9) (fun t ht hWm => ⟨ρ', some (.inl x), I', Lg', R', G', rfl, by rw [ht]; exact b1, b2, b3, b7⟩) b4 b8
      · exact W.zret hx hb (hr.trans b9) (by rcases b10 with rfl | rfl <;> rfl) (fun t ht hWm => ⟨ρ', some (.inl x), I', Lg', R', G', rfl, by rw [ht]; exact b1, b2, b3, b7⟩) b4 b8
    | some (.inr (.inl x)), b3, b7, b8 => exact W.lret hx hb (hr.trans b8.2) (fun t ht hWm => ⟨ρ', some (.inr (.inl x)), I', Lg', R', G', rfl, by rw [ht]; exact b1, b2, b3, b7⟩) b4 b8.1
    | some (.inr (.inr none)), b3, b7, b8 =>
      obtain ⟨b8, nm, b9⟩ := b8
      exact W.aret (v := .null) hx hb (hr.trans b9) (Or.inl ⟨nm, rfl⟩) (Or.inl rfl) (fun t ht hWm => ⟨ρ', some vN, I', Lg', R', G', rfl, by rw [ht]; exact b1, b2, b3, b7⟩) b4 b8
    | some (.inr (.inr (some (a, b)))), b3, b7, b8 =>
      obtain ⟨b8, nm, b9⟩ := b8
      exact W.aret (v := .ref (ρ' a b)) hx hb (hr.trans b9) (Or.inl ⟨nm, rfl⟩) (Or.inr ⟨_, rfl⟩) (fun t ht hWm => ⟨ρ', some (vR a b), I', Lg', R', G', rfl, by rw [ht]; exact b1, b2, b3, b7⟩) b4 b8
  · have h1 := am_slots_get ρ args 0 i v (am_pad_get _ _ i v hv)
    rw [Nat.zero_add] at h1
    exact hl.2.2 _ h1
theorem am_Sp.mono {Γ : AMG} {M : MD} {Q Q2 : QQ} {d k n : Nat} {args : List AV} {I : II} {Lg : LJ} {R : RR} {G : GG} (h : am_Sp Γ d k n M args I Lg R G Q) (hq : ∀ r I' Lg' R' G', Q r I' Lg' R' G' → Q2 r I' Lg' R' G') : am_Sp Γ d k n M args I Lg R G Q2 := by
  intro ρ hGK hargs p e ha hc hk s m a below hf happ hP hK
  obtain ⟨n1, o, h1, h2, h3, ⟨ρ', r, I', Lg', R', G', e1, e2, e3, e4, e5⟩, hL⟩ := h ρ hGK hargs p e ha hc hk s m a below hf happ hP hK
  exact ⟨n1, o, h1, h2, h3, ⟨ρ', r, I', Lg', R', G', e1, e2, e3, e4, hq _ _ _ _ _ e5⟩, hL⟩
end
section
/-! More rules: returns, Math, Object's constructor, references compared, switches, texts, the script, references stored in rows. -/
def am_max (x y : Int32) : Int32 := if x < y then y else x
def am_min (x y : Int32) : Int32 := if y < x then y else x
def am_abs (x : Int32) : Int32 := if 0 ≤ x then x else 0 - x
section AMR
variable {Γ : AMG} {M : MD} {Q : QQ} {d k n pc pc' pc2 : Nat} {L L' : LL} {st st' : List AV} {I I' : II} {Lg Lg' : LJ} {R R' : RR} {G G' : GG}
theorem ar_ret (hd : decode M.2.2.1 pc = .ok (.return_, 1)) (hr : M.2.2.2.2.1 = none) (h : Q none I Lg R G) : am_J Γ M Q d k n pc L [] I Lg R G :=
  fun ρ p e Rm s m args below meth c H locs cells slots Z C h1 h2 h3 h4 hW hl hoL hoS ret ls hL => ret ρ none I Lg R G H locs cells slots pc ls hW am_Ext.rf (fun v hv => by cases hv) hl (by omega) (by omega) h ⟨hd, hr⟩
theorem ar_iret {x : Int32} (hd : decode M.2.2.1 pc = .ok (.ireturn, 1)) (hr : M.2.2.2.2.1 = some .int ∨ M.2.2.2.2.1 = some .boolean ∧ (x = zI 0 ∨ x = zI 1)) (h : Q (some (vI x)) I Lg R G) : am_J Γ M Q d k n pc L [vI x] I Lg R G :=
  fun ρ p e Rm s m args below meth c H locs cells slots Z C h1 h2 h3 h4 hW hl hoL hoS ret ls hL => ret ρ (some (vI x)) I Lg R G H locs cells slots pc ls hW am_Ext.rf (fun v hv => by cases hv; trivial) hl (by omega) (by omega) h ⟨hd, hr⟩
theorem ar_lret {x : Int64} (hd : decode M.2.2.1 pc = .ok (.lreturn, 1)) (hr : M.2.2.2.2.1 = some .long) (h : Q (some (vL x)) I Lg R G) : am_J Γ M Q d k n pc L [vL x] I Lg R G :=
  fun ρ p e Rm s m args below meth c H locs cells slots Z C h1 h2 h3 h4 hW hl hoL hoS ret ls hL => ret ρ (some (vL x)) I Lg R G H locs cells slots pc ls hW am_Ext.rf (fun v hv => by cases hv; trivial) hl (by omega) (by omega) h ⟨hd, hr⟩
theorem ar_aret {o : Option (Nat × Nat)} (hd : decode M.2.2.1 pc = .ok (.areturn, 1)) (hr : ∃ q, M.2.2.2.2.1 = some (.object q)) (h : Q (some (.inr (.inr o))) I Lg R G) : am_J Γ M Q d k n pc L [.inr (.inr o)] I Lg R G :=
  fun ρ p e Rm s m args below meth c H locs cells slots Z C h1 h2 h3 h4 hW hl hoL hoS ret ls hL => ret ρ (some (.inr (.inr o))) I Lg R G H locs cells slots pc ls hW am_Ext.rf (fun v hv => by cases hv; exact hoS _ List.mem_cons_self) hl (by omega) (by omega) h ⟨hd, hr⟩
/-- a step for which there must be room for a frame -/
theorem am_J.fr (hs : ∀ (ρ : Nat → Nat → Nat) (p : Program) (e : Env) (Rm : Room) (s : State) (m : MethodId) (args : Array Value) (below : List Frame) (meth : Method) (c : Code) (H : Heap) (locs : List Loc) (cells slots : Nat) (Z : State → Prop) (ls : Array Slot), am_Cx Γ M p s m args meth c → am_Wd Γ ρ I Lg R G H → am_okS G st → d + 1 ≤ Rm.frames → am_LOC * (d + 1) ≤ Rm.locals → cells ≤ Rm.cells → slots ≤ Rm.slots → ls.size = c.maxLocals →
      (am_okS G st' → W p Γ.l e Rm s m args below meth c H locs cells slots Z (F0 m pc' ls (st'.map (am_con ρ)))) → W p Γ.l e Rm s m args below meth c H locs cells slots Z (F0 m pc ls (st.map (am_con ρ))))
    (h : am_J Γ M Q (d + 1) k n pc' L st' I Lg R G) : am_J Γ M Q (d + 1) k n pc L st I Lg R G := by
  intro ρ p e Rm s m args below meth c H locs cells slots Z C h1 h2 h3 h4 hW hl hoL hoS ret ls hL
  exact hs ρ p e Rm s m args below meth c H locs cells slots Z ls C hW hoS h1 h2 (by omega) (by omega) (hL.1.trans (hoL.1.trans C.2.2.1.symm)) (fun hoS' => h ρ p e Rm s m args below meth c H locs cells slots Z C h1 h2 h3 h4 hW hl hoL hoS' ret ls hL)
theorem ar_mmax {x y : Int32} {idx : Nat} (h1 : Cond.methodLink M.1 idx Lib.Math.max.name ∈ am_BIG) (h2 : Cond.static Lib.Math.max.name ∈ am_BIG) (h3 : Cond.initialized "java/lang/Math" ∈ am_BIG) (h4 : Cond.code Lib.Math.max.name Lib.Math.max.code 2 (some .int) ∈ am_BIG) (hcat : am_cats st ≤ 8) (hd : decode M.2.2.1 pc = .ok (.invokestatic idx, 3)) (h : am_J Γ M Q (d + 1) k n (pc + 3) L (vI (am_max x y) :: st) I Lg R G) : am_J Γ M Q (d + 1) k n pc L (vI y :: vI x :: st) I Lg R G :=
  am_J.fr (fun ρ p e Rm s m args below meth c0 H locs cells slots Z ls C hW hoS g1 g2 g3 g4 g5 kk => by
    have hts := C.2.2.2.2.2.2.1
    exact va_mmax C.1 C.2.1 g5.symm C.2.2.2.2.2.1 (hts _ h1) (hts _ h2) (hts _ h3) (hts _ h4) (by omega) (by rw [am_cats_con]; have e9 : am_LOC * (d + 1) = am_LOC * d + 48 := rfl; omega) g3 g4 hd (kk hoS.tl.tl.i)) h
theorem ar_mmin {x y : Int32} {idx : Nat} (h1 : Cond.methodLink M.1 idx Lib.Math.min.name ∈ am_BIG) (h2 : Cond.static Lib.Math.min.name ∈ am_BIG) (h3 : Cond.initialized "java/lang/Math" ∈ am_BIG) (h4 : Cond.code Lib.Math.min.name Lib.Math.min.code 2 (some .int) ∈ am_BIG) (hcat : am_cats st ≤ 8) (hd : decode M.2.2.1 pc = .ok (.invokestatic idx, 3)) (h : am_J Γ M Q (d + 1) k n (pc + 3) L (vI (am_min x y) :: st) I Lg R G) : am_J Γ M Q (d + 1) k n pc L (vI y :: vI x :: st) I Lg R G :=
  am_J.fr (fun ρ p e Rm s m args below meth c0 H locs cells slots Z ls C hW hoS g1 g2 g3 g4 g5 kk => by
    have hts := C.2.2.2.2.2.2.1
    exact va_mmin C.1 C.2.1 g5.symm C.2.2.2.2.2.1 (hts _ h1) (hts _ h2) (hts _ h3) (hts _ h4) (by omega) (by rw [am_cats_con]; have e9 : am_LOC * (d + 1) = am_LOC * d + 48 := rfl; omega) g3 g4 hd (kk hoS.tl.tl.i)) h
theorem ar_mabs {x : Int32} {idx : Nat} (h1 : Cond.methodLink M.1 idx Lib.Math.abs.name ∈ am_BIG) (h2 : Cond.static Lib.Math.abs.name ∈ am_BIG) (h3 : Cond.initialized "java/lang/Math" ∈ am_BIG) (h4 : Cond.code Lib.Math.abs.name Lib.Math.abs.code 1 (some .int) ∈ am_BIG) (hcat : am_cats st ≤ 8) (hd : decode M.2.2.1 pc = .ok (.invokestatic idx, 3)) (h : am_J Γ M Q (d + 1) k n (pc + 3) L (vI (am_abs x) :: st) I Lg R G) : am_J Γ M Q (d + 1) k n pc L (vI x :: st) I Lg R G :=
  am_J.fr (fun ρ p e Rm s m args below meth c0 H locs cells slots Z ls C hW hoS g1 g2 g3 g4 g5 kk => by
    have hts := C.2.2.2.2.2.2.1
    exact va_mabs C.1 C.2.1 g5.symm C.2.2.2.2.2.1 (hts _ h1) (hts _ h2) (hts _ h3) (hts _ h4) (by omega) (by rw [am_cats_con]; have e9 : am_LOC * (d + 1) = am_LOC * d + 48 := rfl; omega) g3 g4 hd (kk hoS.tl.i)) h
theorem ar_obj {a b idx : Nat} (h1 : Cond.methodLink M.1 idx Lib.objectInit ∈ am_BIG) (h2 : Cond.instanceMethod Lib.objectInit ∈ am_BIG) (h4 : Cond.code Lib.objectInit ⟨#[0xb1]⟩ 1 none ∈ am_BIG) (hcat : am_cats st ≤ 8) (hd : decode M.2.2.1 pc = .ok (.invokespecial idx, 3)) (h : am_J Γ M Q (d + 1) k n (pc + 3) L st I Lg R G) : am_J Γ M Q (d + 1) k n pc L (vR a b :: st) I Lg R G :=
  am_J.fr (fun ρ p e Rm s m args below meth c0 H locs cells slots Z ls C hW hoS g1 g2 g3 g4 g5 kk => by
    have hts := C.2.2.2.2.2.2.1
    have e8 := am_cats_con ρ st
    exact W.objInit C.1 C.2.1 C.2.2.2.2.2.1 (hts _ h1) (hts _ h2) (hts _ h4) rfl g5 rfl hd (by omega) (by have e9 : am_LOC * (d + 1) = am_LOC * d + 48 := rfl; have h0 : 2 * (F0 m pc ls ((vR a b :: st).map (am_con ρ))).monitorRoom + ((st.map (am_con ρ)).map fun v => v.category).sum ≤ 8 := lv_room (by rw [e8]; exact hcat); omega) (kk hoS.tl)) h
theorem am_rf_con (ρ : Nat → Nat → Nat) (o : Option (Nat × Nat)) : am_con ρ (.inr (.inr o)) = va_rf (o.map (fun p => ρ p.1 p.2)) := by
  obtain _ | ⟨a, b⟩ := o <;> rfl
/-- two references to cells that are there: the same address only if the same cell -/
theorem am_ref_eq {ρ : Nat → Nat → Nat} {H : Heap} (hW : am_Wd Γ ρ I Lg R G H) {c i c2 i2 : Nat} (hc : c < am_NC) (hc2 : c2 < am_NC) (h1 : am_okR G c i) (h2 : am_okR G c2 i2) : some (ρ c i) = some (ρ c2 i2) ↔ c = c2 ∧ i = i2 :=
  ⟨fun h => hW.2.1 c i c2 i2 hc hc2 (h1.lt hc) (h2.lt hc2) (Option.some.inj h), fun h => by rw [h.1, h.2]⟩
theorem ar_acne {c i c2 i2 : Nat} {off : Int} {tgt : Nat} (hc : c < am_NC) (hc2 : c2 < am_NC) (hd : decode M.2.2.1 pc = .ok (.if_acmp .ne off, 3)) (ht : (pc : Int) + off = (tgt : Int)) (h1 : ¬ (c = c2 ∧ i = i2) → am_J Γ M Q d k n tgt L st I Lg R G) (h2 : c = c2 ∧ i = i2 → am_J Γ M Q d k n (pc + 3) L st I Lg R G) : am_J Γ M Q d k n pc L (vR c2 i2 :: vR c i :: st) I Lg R G := by
  intro ρ p e Rm s m args below meth c0 H locs cells slots Z C g1 g2 g3 g4 hW hl hoL hoS ret ls hL
  have he := am_ref_eq hW hc hc2 hoS.tl.hd hoS.hd
  exact lv_acmp_ne (rx := some (ρ c i)) (ry := some (ρ c2 i2)) C.1 C.2.1 hd ht (fun q => h1 (fun z => q (he.mpr z)) ρ p e Rm s m args below meth c0 H locs cells slots Z C g1 g2 g3 g4 hW hl hoL hoS.tl.tl ret ls hL) (fun q => h2 (he.mp q) ρ p e Rm s m args below meth c0 H locs cells slots Z C g1 g2 g3 g4 hW hl hoL hoS.tl.tl ret ls hL)
theorem ar_aceq {c i c2 i2 : Nat} {off : Int} {tgt : Nat} (hc : c < am_NC) (hc2 : c2 < am_NC) (hd : decode M.2.2.1 pc = .ok (.if_acmp .eq off, 3)) (ht : (pc : Int) + off = (tgt : Int)) (h1 : c = c2 ∧ i = i2 → am_J Γ M Q d k n tgt L st I Lg R G) (h2 : ¬ (c = c2 ∧ i = i2) → am_J Γ M Q d k n (pc + 3) L st I Lg R G) : am_J Γ M Q d k n pc L (vR c2 i2 :: vR c i :: st) I Lg R G := by
  intro ρ p e Rm s m args below meth c0 H locs cells slots Z C g1 g2 g3 g4 hW hl hoL hoS ret ls hL
  have he := am_ref_eq hW hc hc2 hoS.tl.hd hoS.hd
  exact lv_acmp_eq (rx := some (ρ c i)) (ry := some (ρ c2 i2)) C.1 C.2.1 hd ht (fun q => h1 (he.mp q) ρ p e Rm s m args below meth c0 H locs cells slots Z C g1 g2 g3 g4 hW hl hoL hoS.tl.tl ret ls hL) (fun q => h2 (fun z => q (he.mpr z)) ρ p e Rm s m args below meth c0 H locs cells slots Z C g1 g2 g3 g4 hW hl hoL hoS.tl.tl ret ls hL)
theorem ar_tsIn {dflt lo hi : Int} {offs : Array Int} {len : Nat} {x : Int32} {off : Int} {tgt : Nat} (hd : decode M.2.2.1 pc = .ok (.tableswitch dflt lo hi offs, len)) (h1 : ¬ x.toInt < lo) (h2 : ¬ hi < x.toInt) (ho : offs[(x.toInt - lo).toNat]? = some off) (ht : (pc : Int) + off = (tgt : Int)) (h : am_J Γ M Q d k n tgt L st I Lg R G) : am_J Γ M Q d k n pc L (vI x :: st) I Lg R G :=
  am_J.step (fun ρ p e Rm s m args below meth c H locs cells slots Z ls C hl kk => lv_tableIn C.1 C.2.1 hd h1 h2 ho ht (kk ls hl)) (fun a b => ⟨a, b.tl⟩) h
theorem ar_tsOut {dflt lo hi : Int} {offs : Array Int} {len : Nat} {x : Int32} {tgt : Nat} (hd : decode M.2.2.1 pc = .ok (.tableswitch dflt lo hi offs, len)) (h1 : x.toInt < lo ∨ hi < x.toInt) (ht : (pc : Int) + dflt = (tgt : Int)) (h : am_J Γ M Q d k n tgt L st I Lg R G) : am_J Γ M Q d k n pc L (vI x :: st) I Lg R G :=
  am_J.step (fun ρ p e Rm s m args below meth c H locs cells slots Z ls C hl kk => lv_tableOut C.1 C.2.1 hd h1 ht (kk ls hl)) (fun a b => ⟨a, b.tl⟩) h
theorem ar_lsw {dflt : Int} {ps : Array (Int × Int)} {len : Nat} {x : Int32} {off : Int} {tgt : Nat} (hd : decode M.2.2.1 pc = .ok (.lookupswitch dflt ps, len)) (hp : (ps.toList.zip (ps.toList.drop 1)).all (fun (a, next) => a.1 < next.1) = true) (ho : Op.lookupswitch.offset ps.toList dflt x.toInt = off) (ht : (pc : Int) + off = (tgt : Int)) (h : am_J Γ M Q d k n tgt L st I Lg R G) : am_J Γ M Q d k n pc L (vI x :: st) I Lg R G :=
  am_J.step (fun ρ p e Rm s m args below meth c H locs cells slots Z ls C hl kk => lv_lookup C.1 C.2.1 hd hp ho ht (kk ls hl)) (fun a b => ⟨a, b.tl⟩) h
theorem ar_ldcS {idx q : Nat} {tx : String} (hR : ∀ U, Γ.KX U → vk_R M.1 idx tx (Γ.SA q) U) (hd : decode M.2.2.1 pc = .ok (.ldc idx, 2)) (h : am_J Γ M Q d k n (pc + 2) L (vR am_cStr q :: st) I Lg R G) : am_J Γ M Q d k n pc L st I Lg R G :=
  am_J.rd (fun ρ p e Rm s m args below meth c H locs cells slots Z ls C hW hoS kk => by
    refine va_ldcS (q := Γ.SA q) C.1 C.2.1 C.2.2.2.2.2.1 (hR s C.2.2.2.2.2.2.2.2.1.2) hd ?_
    have := kk (am_okS.cons (v := vR am_cStr q) (Or.inr (by decide)) hoS)
    rw [List.map_cons, show am_con ρ (vR am_cStr q) = .ref (Γ.SA q) from congrArg Value.ref (hW.2.2.2.1 q)] at this
    exact this) h
/-- the script is read -/
def am_scr (Γ : AMG) : Prop := ∀ U, Γ.KX U → va_X Γ.scr.1 Γ.scr.2.1 Γ.scr.2.2 U Γ.HH
theorem am_scr_at {ρ : Nat → Nat → Nat} {s : State} {H : Heap} (hs : am_scr Γ) (hK : Γ.KX s) (hW : am_Wd Γ ρ I Lg R G H) : va_X Γ.scr.1 Γ.scr.2.1 Γ.scr.2.2 s H := by
  obtain ⟨cell, h1, h2⟩ := hs s hK
  exact ⟨cell, by rw [hW.2.2.2.2.2.2.1 _ (Array.getElem?_eq_some_iff.mp h1).1]; exact h1, h2⟩
theorem ar_scrL {q : Nat} (hs : am_scr Γ) (hd : decode M.2.2.1 pc = .ok (.arraylength, 1)) (h : am_J Γ M Q d k n (pc + 1) L (vI (zI Γ.scr.2.1) :: st) I Lg R G) : am_J Γ M Q d k n pc L (vR am_cScr q :: st) I Lg R G :=
  am_J.rd (fun ρ p e Rm s m args below meth c H locs cells slots Z ls C hW hoS kk => by
    obtain ⟨cell, h1, h2, h3, h4, h5⟩ := am_scr_at hs C.2.2.2.2.2.2.2.2.1.2 hW
    have h9 : H[ρ am_cScr q]? = some cell := by rw [hW.2.2.2.2.1 q]; exact h1
    exact W.alen (n := zI Γ.scr.2.1) C.1 C.2.1 h9 h2 (by rw [h4]; exact (Int32.ofInt_eq_ofNat).symm) rfl rfl hd (kk hoS.tl.i)) h
theorem ar_scrI {q : Nat} {j : Int32} (hs : am_scr Γ) (h0 : 0 ≤ j.toInt) (h1 : j.toInt < Γ.scr.2.1) (hd : decode M.2.2.1 pc = .ok (.iaload, 1)) (h : am_J Γ M Q d k n (pc + 1) L (vI (Γ.scr.2.2 j.toInt.toNat) :: st) I Lg R G) : am_J Γ M Q d k n pc L (vI j :: vR am_cScr q :: st) I Lg R G :=
  am_J.rd (fun ρ p e Rm s m args below meth c H locs cells slots Z ls C hW hoS kk => by
    obtain ⟨cell, g1, g2, g3, g4, g5⟩ := am_scr_at hs C.2.2.2.2.2.2.2.2.1.2 hW
    have h9 : H[ρ am_cScr q]? = some cell := by rw [hW.2.2.2.2.1 q]; exact g1
    exact W.iald (v := .int (Γ.scr.2.2 j.toInt.toNat)) C.1 C.2.1 h9 g2 g3 (by rw [g4]; exact am_vin h0 h1) (g5 _ (am_vlt h0 h1)) rfl rfl hd (kk hoS.tl.tl.i)) h
theorem am_tyO {Γ : AMG} {t y : Nat} (h : y = 4 ∧ t = 7 ∨ (y = 5 ∧ t = 8 ∨ (y = 6 ∧ t = 0 ∨ y = 3 ∧ t = 1))) : ∃ r : vw_C, vwCl[t]? = some r ∧ (am_tys Γ)[y]? = some (Γ.cy y, .object r.1) := by
  rcases h with ⟨rfl, rfl⟩ | ⟨rfl, rfl⟩ | ⟨rfl, rfl⟩ | ⟨rfl, rfl⟩ <;> exact ⟨_, rfl, rfl⟩
theorem am_aast {ρ : Nat → Nat → Nat} {p : Program} {e : Env} {Rm : Room} {s : State} {m : MethodId} {args : Array Value} {below : List Frame} {meth : Method} {c0 : Code} {H : Heap} {locs : List Loc} {cells slots : Nat} {Z : State → Prop} {ls : Array Slot} {rest : List Value} (C : am_Cx Γ M p s m args meth c0) (hW : am_Wd Γ ρ I Lg R G H) {c i a N x y t b z : Nat} {j : Int32} (hck : am_ck c = (a + 1, N, x, z, y)) (ha : a < 5) (hi : i < G.2 c) (hty : y = 4 ∧ t = 7 ∨ (y = 5 ∧ t = 8 ∨ (y = 6 ∧ t = 0 ∨ y = 3 ∧ t = 1))) (hb : b < G.2 t) (h0 : 0 ≤ j.toInt) (h1 : j.toInt < N) (hd : decode M.2.2.1 pc = .ok (.aastore, 1))
    (kk : ∀ H1 : Heap, H1[ρ c i]? = some (arrV (Γ.cy y) N (updV (am_aV ρ I Lg R G c i) j.toInt.toNat (.ref (ρ t b)))) → H1.size = H.size → (∀ q, q ≠ ρ c i → H1[q]? = H[q]?) → W p Γ.l e Rm s m args below meth c0 H1 (locs ++ [⟨ρ c i, j.toInt.toNat⟩]) cells slots Z (F0 m (pc + 1) ls rest)) : W p Γ.l e Rm s m args below meth c0 H locs cells slots Z (F0 m pc ls (.ref (ρ t b) :: .int j :: .ref (ρ c i) :: rest)) := by
  obtain ⟨r, hr, hy⟩ := am_tyO (Γ := Γ) hty
  have hK := C.2.2.2.2.2.2.2.2.1.1
  have hlt := am_vlt h0 h1
  obtain ⟨r', hr', cellV, g1, g2, g3, -⟩ := hW.obj hr hb
  have hcls := (hK.1 t r hr).2
  obtain ⟨kA, comp, k1, k2, k3, -⟩ := (hK.2 y _ hy).2
  have hcomp : comp = Γ.D.1 t := Option.some.inj (k3.symm.trans hcls.1)
  subst hcomp
  obtain ⟨kC, hkC, -⟩ := hcls.2
  refine W.aast C.1 C.2.1 (hW.arr hck ha hi) (fun q h => by cases h) (fun h => by cases h) k1 k2 rfl hkC ⟨fun q => am_vin h0 h1 (Or.inl q), by rw [arrV_size]; exact hlt⟩ g1 (fun q h => by rw [g3] at h; cases h) (by rw [g2]; exact hkC) (by rw [g2]; exact va_assign hcls) rfl rfl hd fun H1 e1 z1 oq => kk H1 (by rw [e1, arrV_store]; rfl) z1 oq
theorem ar_aastS {c i N t b y b2 : Nat} {j : Int32} (hck : am_ck c = (4, N, t, b, y)) (hy7 : y < 7) (h0 : 0 ≤ j.toInt) (h1 : j.toInt < N) (hb2 : b2 = am_aidx b j.toInt.toNat) (hd : decode M.2.2.1 pc = .ok (.aastore, 1)) (h : am_J Γ M Q d k n (pc + 1) L st I Lg R (up3 G.1 c i j.toInt.toNat true, G.2)) : am_J Γ M Q d k n pc L (vR t b2 :: vI j :: vR c i :: st) I Lg R G := by
  refine am_J.wr (G' := (up3 G.1 c i j.toInt.toNat true, G.2)) (fun ρ p e Rm s m args below meth c0 H locs cells slots Z ls C hW hoS hl kk => ?_) rfl (fun b => b.tl.tl.tl) h
  have hc : c < am_NC := am_ckNC (a := 3) hck (by decide)
  have hi := hoS.tl.tl.hd.lt hc
  have ht := am_chkT_ok c hc
  unfold am_chkT at ht
  rw [hck] at ht
  simp only [Bool.and_eq_true, Bool.or_eq_true, beq_iff_eq] at ht
  have htN : t < am_NC := Nat.blt_eq.mp ht.1
  have hb3 := hoS.hd.lt htN
  have eref : am_ref R (up3 G.1 c i j.toInt.toNat true, G.2) c i j.toInt.toNat = some (t, b2) := by
    have hbl : Nat.blt j.toInt.toNat N = true := Nat.blt_eq.mpr (am_vlt h0 h1)
    unfold am_ref; rw [hck, hb2]; simp only [hbl, Bool.true_and]; simp [up3]
  have eoth : ∀ q, ¬ q = j.toInt.toNat → am_ref R (up3 G.1 c i j.toInt.toNat true, G.2) c i q = am_ref R G c i q := by
    intro q hq
    have : up3 G.1 c i j.toInt.toNat true c i q = G.1 c i q := by simp only [up3]; rw [if_neg]; exact fun z => hq z.2.2
    unfold am_ref
    simp only [this]
  refine am_aast (a := 3) (t := t) C hW hck (by decide) hi (by omega) hb3 h0 h1 hd fun H1 e1 z1 oq => kk H1 _ (hW.upd hc hi z1 oq (am_at_arr (a := 3) hck ?_) (fun _ _ _ => rfl) (fun _ _ _ => rfl) (fun _ _ _ => rfl) am_up3_neG rfl (fun k2 c2 i2 _ hk2 => ?_)) (am_kept (H := H) (H1 := H1) hl (hW.2.2.1 c i hc hi))
  · rw [e1]
    congr 2
    funext q
    unfold updV am_aV
    rw [hck]
    by_cases hq : q = j.toInt.toNat
    · rw [if_pos hq, hq]
      show _ = va_rf ((am_ref R (up3 G.1 c i j.toInt.toNat true, G.2) c i j.toInt.toNat).map (fun p => ρ p.1 p.2))
      rw [eref]; rfl
    · rw [if_neg hq]
      show va_rf ((am_ref R G c i q).map (fun p => ρ p.1 p.2)) = va_rf ((am_ref R (up3 G.1 c i j.toInt.toNat true, G.2) c i q).map (fun p => ρ p.1 p.2))
      rw [eoth q hq]
  · by_cases ek : k2 = j.toInt.toNat
    · rw [ek, eref] at hk2
      cases hk2
      exact ⟨htN, hb3⟩
    · rw [eoth k2 ek] at hk2
      exact hW.2.2.2.2.2.2.2.1 c i k2 c2 i2 hc hi hk2
theorem ar_aastD {c i N v t y b2 : Nat} {j : Int32} (hck : am_ck c = (5, N, v, t, y)) (h0 : 0 ≤ j.toInt) (h1 : j.toInt < N) (hd : decode M.2.2.1 pc = .ok (.aastore, 1)) (h : am_J Γ M Q d k n (pc + 1) L st I Lg (up3 R v i j.toInt.toNat (some b2)) G) : am_J Γ M Q d k n pc L (vR t b2 :: vI j :: vR c i :: st) I Lg R G := by
  refine am_J.wr (fun ρ p e Rm s m args below meth c0 H locs cells slots Z ls C hW hoS hl kk => ?_) rfl (fun b => b.tl.tl.tl) h
  have hc : c < am_NC := am_ckNC (a := 4) hck (by decide)
  have hi := hoS.tl.tl.hd.lt hc
  have ht := am_chkT_ok c hc
  unfold am_chkT at ht
  rw [hck] at ht
  simp only [Bool.and_eq_true, beq_iff_eq] at ht
  obtain ⟨hv, rfl, rfl⟩ := ht
  have hb3 := hoS.hd.lt (show 1 < am_NC by decide)
  have eref : ∀ q, am_ref (up3 R v i j.toInt.toNat (some b2)) G c i q = if q = j.toInt.toNat then some (1, b2) else am_ref R G c i q := by
    intro q
    unfold am_ref; rw [hck]
    by_cases hq : q = j.toInt.toNat
    · simp [up3, hq]
    · have e8 : up3 R v i j.toInt.toNat (some b2) v i q = R v i q := by simp only [up3]; rw [if_neg]; exact fun z => hq z.2.2
      rw [if_neg hq]
      show (up3 R v i j.toInt.toNat (some b2) v i q).map _ = _
      rw [e8]
      rfl
  refine am_aast (a := 4) (t := 1) C hW hck (by decide) hi (by omega) hb3 h0 h1 hd fun H1 e1 z1 oq => kk H1 _ (hW.upd hc hi z1 oq (am_at_arr (a := 4) hck ?_) (fun _ _ _ => rfl) (fun _ _ _ => rfl) (am_up3_ne hv) (fun _ _ _ => rfl) rfl (fun k2 c2 i2 _ hk2 => ?_)) (am_kept (H := H) (H1 := H1) hl (hW.2.2.1 c i hc hi))
  · rw [e1]
    congr 2
    funext q
    unfold updV am_aV
    rw [hck]
    show _ = va_rf ((am_ref (up3 R v i j.toInt.toNat (some b2)) G c i q).map (fun p => ρ p.1 p.2))
    rw [eref q]
    by_cases hq : q = j.toInt.toNat
    · rw [if_pos hq, if_pos hq]; rfl
    · rw [if_neg hq, if_neg hq]; rfl
  · rw [eref k2] at hk2
    split at hk2
    · cases hk2
      exact ⟨by decide, hb3⟩
    · exact hW.2.2.2.2.2.2.2.1 c i k2 c2 i2 hc hi hk2
end AMR
end
section
/-! The walk: what is to be shown, out of the code. -/
def am_get (L : LL) (i : Nat) (K : AV → Prop) : Prop := match L, i with
  | [], _ => False
  | some v :: _, 0 => K v
  | none :: _, 0 => False
  | _ :: xs, i + 1 => am_get xs i K
def am_set : LL → Nat → Option AV → (LL → Prop) → Prop
  | [], _, _, _ => False
  | _ :: xs, 0, o, K => K (o :: xs)
  | x :: xs, 1, o, K => am_set xs 0 o (fun ys => match x with
    | some (.inr (.inl _)) => K (none :: ys)
    | some (.inl y) => K (some (.inl y) :: ys)
    | some (.inr (.inr y)) => K (some (.inr (.inr y)) :: ys)
    | none => K (none :: ys))
  | x :: xs, n + 2, o, K => am_set xs (n + 1) o (fun ys => K (x :: ys))
def am_set2 : LL → Nat → (LL → Prop) → Prop
  | [], _, _ => False
  | _ :: xs, 0, K => K (none :: xs)
  | x :: xs, n + 1, K => am_set2 xs n (fun ys => K (x :: ys))
def am_pop : Nat → List AV → List AV → (List AV → List AV → Prop) → Prop
  | 0, st, acc, K => K acc st
  | _ + 1, [], _, _ => False
  | n + 1, v :: st, acc, K => am_pop n st (v :: acc) K
def am_sidxK (b m i : Nat) (K : Nat → Prop) : Prop := match m with
  | 0 => K b
  | _ => K i
def am_aidxK (b j : Nat) (K : Nat → Prop) : Prop := match b with
  | 0 => K j
  | _ => K (b + j)
def am_sw : List Nat → Int → (Nat → Prop) → Prop
  | key :: t :: r, x, K => (x = (key : Int) → K t) ∧ am_sw r x K
  | _, _, _ => True
/-- a value, a state: named, where that is wanted -/
def am_nmV (nm : Bool) (x : Int32) (K : Int32 → Prop) : Prop := match nm with
  | true => ∀ x' : Int32, x' = x → K x'
  | false => K x
def am_nmI (nm : Bool) (I : II) (K : II → Prop) : Prop := match nm with
  | true => ∀ I' : II, I' = I → K I'
  | false => K I
abbrev GO : Type := Nat → Nat → Nat → LL → List AV → II → LJ → RR → GG → Prop
def am_hop (Γ : AMG) (M : MD) (Q : QQ) (nm : Bool) (d pc : Nat) (ce : CE) (go : GO) (k n : Nat) (L : LL) (st : List AV) (I : II) (Lg : LJ) (R : RR) (G : GG) : Prop := match ce with
  | (ins, nx, _, ann, M2) => match ins with
    | .iconst z => go k n nx L (vI (zI z) :: st) I Lg R G
    | .bipush z => go k n nx L (vI (zI z) :: st) I Lg R G
    | .sipush z => go k n nx L (vI (zI z) :: st) I Lg R G
    | .ldc _ => (match ann with
      | 0 :: z :: _ => go k n nx L (vI (zI z) :: st) I Lg R G
      | _ => am_J Γ M Q d k n pc L st I Lg R G)
    | .ldc2_w _ => (match ann with
      | z :: _ => go k n nx L (vL (zL z) :: st) I Lg R G
      | _ => False)
    | .lconst _ => (match ann with
      | z :: _ => go k n nx L (vL (zL z) :: st) I Lg R G
      | _ => False)
    | .iload_n j => am_get L j (fun v => match v with
      | .inl x => go k n nx L (vI x :: st) I Lg R G
      | _ => False)
    | .iload j => am_get L j (fun v => match v with
      | .inl x => go k n nx L (vI x :: st) I Lg R G
      | _ => False)
    | .lload_n j => am_get L j (fun v => match v with
      | .inr (.inl x) => go k n nx L (vL x :: st) I Lg R G
      | _ => False)
    | .lload j => am_get L j (fun v => match v with
      | .inr (.inl x) => go k n nx L (vL x :: st) I Lg R G
      | _ => False)
    | .aload_n j => am_get L j (fun v => match v with
      | .inr (.inr x) => go k n nx L (.inr (.inr x) :: st) I Lg R G
      | _ => False)
    | .aload j => am_get L j (fun v => match v with
      | .inr (.inr x) => go k n nx L (.inr (.inr x) :: st) I Lg R G
      | _ => False)
    | .istore_n j => (match st with
      | .inl x :: r => am_nmV nm x (fun x => am_set L j (some (vI x)) (fun L2 => go k n nx L2 r I Lg R G))
      | _ => False)
    | .istore j => (match st with
      | .inl x :: r => am_nmV nm x (fun x => am_set L j (some (vI x)) (fun L2 => go k n nx L2 r I Lg R G))
      | _ => False)
    | .astore_n j => (match st with
      | .inr (.inr x) :: r => am_set L j (some (.inr (.inr x))) (fun L2 => go k n nx L2 r I Lg R G)
      | _ => False)
    | .astore j => (match st with
      | .inr (.inr x) :: r => am_set L j (some (.inr (.inr x))) (fun L2 => go k n nx L2 r I Lg R G)
      | _ => False)
    | .lstore_n j => (match st with
      | .inr (.inl x) :: r => am_set L j (some (vL x)) (fun L2 => am_set2 L2 (j + 1) (fun L3 => go k n nx L3 r I Lg R G))
      | _ => False)
    | .lstore j => (match st with
      | .inr (.inl x) :: r => am_set L j (some (vL x)) (fun L2 => am_set2 L2 (j + 1) (fun L3 => go k n nx L3 r I Lg R G))
      | _ => False)
    | .iinc j z => am_get L j (fun v => match v with
      | .inl x => am_nmV nm (x + zI z) (fun x => am_set L j (some (vI x)) (fun L2 => go k n nx L2 st I Lg R G))
      | _ => False)
    | .iadd => (match st with
      | .inl y :: .inl x :: r => go k n nx L (vI (x + y) :: r) I Lg R G
      | _ => False)
    | .isub => (match st with
      | .inl y :: .inl x :: r => go k n nx L (vI (x - y) :: r) I Lg R G
      | _ => False)
    | .imul => (match st with
      | .inl y :: .inl x :: r => go k n nx L (vI (x * y) :: r) I Lg R G
      | _ => False)
    | .iand => (match st with
      | .inl y :: .inl x :: r => go k n nx L (vI (x &&& y) :: r) I Lg R G
      | _ => False)
    | .ior => (match st with
      | .inl y :: .inl x :: r => go k n nx L (vI (x ||| y) :: r) I Lg R G
      | _ => False)
    | .ixor => (match st with
      | .inl y :: .inl x :: r => go k n nx L (vI (x ^^^ y) :: r) I Lg R G
      | _ => False)
    | .ishl => (match st with
      | .inl y :: .inl x :: r => go k n nx L (vI (x <<< (y &&& 31)) :: r) I Lg R G
      | _ => False)
    | .ishr => (match st with
      | .inl y :: .inl x :: r => go k n nx L (vI (x >>> (y &&& 31)) :: r) I Lg R G
      | _ => False)
    | .iushr => (match st with
      | .inl y :: .inl x :: r => go k n nx L (vI (x.toUInt32 >>> (y.toUInt32 &&& Int32.toUInt32 31)).toInt32 :: r) I Lg R G
      | _ => False)
    | .idiv => (match st with
      | .inl y :: .inl x :: r => y.toInt ≠ 0 ∧ go k n nx L (vI (x / y) :: r) I Lg R G
      | _ => False)
    | .irem => (match st with
      | .inl y :: .inl x :: r => y.toInt ≠ 0 ∧ go k n nx L (vI (x - x / y * y) :: r) I Lg R G
      | _ => False)
    | .ineg => (match st with
      | .inl x :: r => go k n nx L (vI (-x) :: r) I Lg R G
      | _ => False)
    | .i2l => (match st with
      | .inl x :: r => go k n nx L (vL x.toInt64 :: r) I Lg R G
      | _ => False)
    | .ladd => (match st with
      | .inr (.inl y) :: .inr (.inl x) :: r => go k n nx L (vL (x + y) :: r) I Lg R G
      | _ => False)
    | .lsub => (match st with
      | .inr (.inl y) :: .inr (.inl x) :: r => go k n nx L (vL (x - y) :: r) I Lg R G
      | _ => False)
    | .lmul => (match st with
      | .inr (.inl y) :: .inr (.inl x) :: r => go k n nx L (vL (x * y) :: r) I Lg R G
      | _ => False)
    | .lcmp => (match st with
      | .inr (.inl y) :: .inr (.inl x) :: r => go k n nx L (vI (lg_cmp x y) :: r) I Lg R G
      | _ => False)
    | .ifCond c _ => (match st, ann with
      | .inl x :: r, a :: _ => (match c with
        | .eq => (x.toInt = 0 → go k n a L r I Lg R G) ∧ (x.toInt ≠ 0 → go k n nx L r I Lg R G)
        | .ne => (x.toInt ≠ 0 → go k n a L r I Lg R G) ∧ (x.toInt = 0 → go k n nx L r I Lg R G)
        | .lt => (x.toInt < 0 → go k n a L r I Lg R G) ∧ (0 ≤ x.toInt → go k n nx L r I Lg R G)
        | .ge => (0 ≤ x.toInt → go k n a L r I Lg R G) ∧ (x.toInt < 0 → go k n nx L r I Lg R G)
        | .gt => (0 < x.toInt → go k n a L r I Lg R G) ∧ (x.toInt ≤ 0 → go k n nx L r I Lg R G)
        | .le => (x.toInt ≤ 0 → go k n a L r I Lg R G) ∧ (0 < x.toInt → go k n nx L r I Lg R G))
      | _, _ => False)
    | .if_icmp c _ => (match st, ann with
      | .inl y :: .inl x :: r, a :: _ => (match c with
        | .eq => (x.toInt = y.toInt → go k n a L r I Lg R G) ∧ (x.toInt ≠ y.toInt → go k n nx L r I Lg R G)
        | .ne => (x.toInt ≠ y.toInt → go k n a L r I Lg R G) ∧ (x.toInt = y.toInt → go k n nx L r I Lg R G)
        | .lt => (x.toInt < y.toInt → go k n a L r I Lg R G) ∧ (y.toInt ≤ x.toInt → go k n nx L r I Lg R G)
        | .ge => (y.toInt ≤ x.toInt → go k n a L r I Lg R G) ∧ (x.toInt < y.toInt → go k n nx L r I Lg R G)
        | .gt => (y.toInt < x.toInt → go k n a L r I Lg R G) ∧ (x.toInt ≤ y.toInt → go k n nx L r I Lg R G)
        | .le => (x.toInt ≤ y.toInt → go k n a L r I Lg R G) ∧ (y.toInt < x.toInt → go k n nx L r I Lg R G))
      | _, _ => False)
    | .goto _ => (match ann with
      | a :: _ => go k n a L st I Lg R G
      | _ => False)
    | .aconst_null => go k n nx L (vN :: st) I Lg R G
    | .ifnull _ => (match st, ann with
      | .inr (.inr none) :: r, a :: _ => go k n a L r I Lg R G
      | .inr (.inr (some _)) :: r, _ => go k n nx L r I Lg R G
      | _, _ => False)
    | .ifnonnull _ => (match st, ann with
      | .inr (.inr none) :: r, _ => go k n nx L r I Lg R G
      | .inr (.inr (some _)) :: r, a :: _ => go k n a L r I Lg R G
      | _, _ => False)
    | .if_acmp c _ => (match st, ann with
      | .inr (.inr (some (c2, i2))) :: .inr (.inr (some (c1, i1))) :: r, a :: _ => cond (Nat.blt c1 am_NC && Nat.blt c2 am_NC) (match c with
        | .eq => (c1 = c2 ∧ i1 = i2 → go k n a L r I Lg R G) ∧ (¬ (c1 = c2 ∧ i1 = i2) → go k n nx L r I Lg R G)
        | .ne => (¬ (c1 = c2 ∧ i1 = i2) → go k n a L r I Lg R G) ∧ (c1 = c2 ∧ i1 = i2 → go k n nx L r I Lg R G)) False
      | _, _ => False)
    | .dup => (match st with
      | .inl x :: r => go k n nx L (.inl x :: .inl x :: r) I Lg R G
      | .inr (.inr x) :: r => go k n nx L (.inr (.inr x) :: .inr (.inr x) :: r) I Lg R G
      | _ => False)
    | .dup2 => (match st with
      | .inl x :: .inr (.inr y) :: r => go k n nx L (.inl x :: .inr (.inr y) :: .inl x :: .inr (.inr y) :: r) I Lg R G
      | _ => False)
    | .pop => (match st with
      | .inl _ :: r => go k n nx L r I Lg R G
      | .inr (.inr _) :: r => go k n nx L r I Lg R G
      | _ => False)
    | .getfield _ => (match st, ann with
      | .inr (.inr (some (c, i))) :: r, c' :: f :: _ => cond (Nat.beq c c') (match am_slot c' f with
        | (0, v, _) => go k n nx L (vI (I v i 0) :: r) I Lg R G
        | (1, v, _) => go k n nx L (vI (I v i 0) :: r) I Lg R G
        | (2, v, _) => go k n nx L (vL (Lg v i 0) :: r) I Lg R G
        | (3, t, b, m) => cond (G.1 c i f) (am_sidxK b m i (fun q => go k n nx L (vR t q :: r) I Lg R G)) False
        | (4, v, t, _) => (R v i 0 = none → go k n nx L (vN :: r) I Lg R G) ∧ ∀ b, R v i 0 = some b → go k n nx L (vR t b :: r) I Lg R G
        | _ => False) False
      | _, _ => False)
    | .putfield _ => (match st, ann with
      | v0 :: .inr (.inr (some (c, i))) :: r, c' :: f :: _ => cond (Nat.beq c c') (match am_slot c' f, v0 with
        | (0, v, _), .inl x => am_nmV nm x (fun x => am_nmI nm (up3 I v i 0 x) (fun I2 => go k n nx L r I2 Lg R G))
        | (1, v, _), .inl x => (x = zI 0 ∨ x = zI 1) ∧ am_nmV nm x (fun x => am_nmI nm (up3 I v i 0 x) (fun I2 => go k n nx L r I2 Lg R G))
        | (2, v, _), .inr (.inl x) => go k n nx L r I (up3 Lg v i 0 x) R G
        | (3, t, b, m), .inr (.inr (some (t2, b2))) => (t2 = t ∧ b2 = am_sidx b m i) ∧ go k n nx L r I Lg R (up3 G.1 c i f true, G.2)
        | (4, v, t, _), .inr (.inr (some (t2, b2))) => t2 = t ∧ go k n nx L r I Lg (up3 R v i 0 (some b2)) G
        | (4, v, _, _), .inr (.inr none) => go k n nx L r I Lg (up3 R v i 0 none) G
        | _, _ => False) False
      | _, _ => False)
    | .iaload => (match st with
      | .inl j :: .inr (.inr (some (c, i))) :: r => (match am_ck c with
        | (1, N, v, _) => (0 ≤ j.toInt ∧ j.toInt < N) ∧ go k n nx L (vI (I v i j.toInt.toNat) :: r) I Lg R G
        | _ => am_J Γ M Q d k n pc L st I Lg R G)
      | _ => False)
    | .baload => (match st with
      | .inl j :: .inr (.inr (some (c, i))) :: r => (match am_ck c with
        | (2, N, v, _) => (0 ≤ j.toInt ∧ j.toInt < N) ∧ go k n nx L (vI (I v i j.toInt.toNat) :: r) I Lg R G
        | _ => False)
      | _ => False)
    | .laload => (match st with
      | .inl j :: .inr (.inr (some (c, i))) :: r => (match am_ck c with
        | (3, N, v, _) => (0 ≤ j.toInt ∧ j.toInt < N) ∧ go k n nx L (vL (Lg v i j.toInt.toNat) :: r) I Lg R G
        | _ => False)
      | _ => False)
    | .iastore => (match st with
      | .inl x :: .inl j :: .inr (.inr (some (c, i))) :: r => (match am_ck c with
        | (1, N, v, _) => (0 ≤ j.toInt ∧ j.toInt < N) ∧ am_nmV nm x (fun x => am_nmI nm (up3 I v i j.toInt.toNat x) (fun I2 => go k n nx L r I2 Lg R G))
        | _ => False)
      | _ => False)
    | .bastore => (match st with
      | .inl x :: .inl j :: .inr (.inr (some (c, i))) :: r => (match am_ck c with
        | (2, N, v, _) => (0 ≤ j.toInt ∧ j.toInt < N) ∧ (x = zI 0 ∨ x = zI 1) ∧ am_nmV nm x (fun x => am_nmI nm (up3 I v i j.toInt.toNat x) (fun I2 => go k n nx L r I2 Lg R G))
        | _ => False)
      | _ => False)
    | .lastore => (match st with
      | .inr (.inl x) :: .inl j :: .inr (.inr (some (c, i))) :: r => (match am_ck c with
        | (3, N, v, _) => (0 ≤ j.toInt ∧ j.toInt < N) ∧ go k n nx L r I (up3 Lg v i j.toInt.toNat x) R G
        | _ => False)
      | _ => False)
    | .aaload => (match st with
      | .inl j :: .inr (.inr (some (c, i))) :: r => (match am_ck c with
        | (4, N, t, b, _) => (0 ≤ j.toInt ∧ j.toInt < N) ∧ cond (G.1 c i j.toInt.toNat) (am_aidxK b j.toInt.toNat (fun q => go k n nx L (vR t q :: r) I Lg R G)) False
        | (5, N, v, t, _) => (0 ≤ j.toInt ∧ j.toInt < N) ∧ (R v i j.toInt.toNat = none → go k n nx L (vN :: r) I Lg R G) ∧ ∀ b, R v i j.toInt.toNat = some b → go k n nx L (vR t b :: r) I Lg R G
        | _ => False)
      | _ => False)
    | .aastore => (match st with
      | .inr (.inr (some (t2, b2))) :: .inl j :: .inr (.inr (some (c, i))) :: r => (match am_ck c with
        | (4, N, t, b, y) => cond (Nat.blt y 7) ((0 ≤ j.toInt ∧ j.toInt < N) ∧ (t2 = t ∧ b2 = am_aidx b j.toInt.toNat) ∧ go k n nx L r I Lg R (up3 G.1 c i j.toInt.toNat true, G.2)) False
        | (5, N, v, t, _) => (0 ≤ j.toInt ∧ j.toInt < N) ∧ t2 = t ∧ go k n nx L r I Lg (up3 R v i j.toInt.toNat (some b2)) G
        | _ => False)
      | _ => False)
    | .arraylength => (match st with
      | .inr (.inr (some (c, _))) :: r => (match am_ck c with
        | (a9 + 1, N, _) => cond (Nat.blt a9 5) (go k n nx L (vI (zI N) :: r) I Lg R G) (am_J Γ M Q d k n pc L st I Lg R G)
        | _ => False)
      | _ => False)
    | .tableswitch _ lo hi _ => (match st, ann with
      | .inl x :: r, dfl :: ks => (x.toInt < lo ∨ hi < x.toInt → go k n dfl L r I Lg R G) ∧ am_sw ks x.toInt (fun t => go k n t L r I Lg R G)
      | _, _ => False)
    | .invokevirtual _ => (match d, ann with
      | d' + 1, np :: c' :: k2 :: n2 :: _ => cond (Nat.ble k2 k && Nat.ble n2 n) (am_pop np st [] (fun As rest => cond (Nat.ble (am_cats rest) 8) (match As with
        | .inr (.inr (some (c, _))) :: _ => cond (Nat.beq c c') (am_Sp Γ d' k2 n2 M2 As I Lg R G (fun r I' Lg' R' G' => match r with
          | some v => go (k - k2) (n - n2) nx L (v :: rest) I' Lg' R' G'
          | none => go (k - k2) (n - n2) nx L rest I' Lg' R' G')) False
        | _ => False) False)) False
      | _, _ => am_J Γ M Q d k n pc L st I Lg R G)
    | .invokestatic _ => (match d, ann with
      | d' + 1, 0 :: np :: k2 :: n2 :: _ => cond (Nat.ble k2 k && Nat.ble n2 n) (am_pop np st [] (fun As rest => cond (Nat.ble (am_cats rest) 8) (am_Sp Γ d' k2 n2 M2 As I Lg R G (fun r I' Lg' R' G' => match r with
          | some v => go (k - k2) (n - n2) nx L (v :: rest) I' Lg' R' G'
          | none => go (k - k2) (n - n2) nx L rest I' Lg' R' G')) False)) False
      | _ + 1, 1 :: _ => (match st with
        | .inl y :: .inl x :: r => cond (Nat.ble (am_cats r) 8) (go k n nx L (vI (am_max x y) :: r) I Lg R G) False
        | _ => False)
      | _ + 1, 2 :: _ => (match st with
        | .inl y :: .inl x :: r => cond (Nat.ble (am_cats r) 8) (go k n nx L (vI (am_min x y) :: r) I Lg R G) False
        | _ => False)
      | _ + 1, 3 :: _ => (match st with
        | .inl x :: r => cond (Nat.ble (am_cats r) 8) (go k n nx L (vI (am_abs x) :: r) I Lg R G) False
        | _ => False)
      | _, _ => am_J Γ M Q d k n pc L st I Lg R G)
    | .invokespecial _ => (match d, ann with
      | d' + 1, 0 :: np :: k2 :: n2 :: _ => cond (Nat.ble k2 k && Nat.ble n2 n) (am_pop np st [] (fun As rest => cond (Nat.ble (am_cats rest) 8) (match As with
        | .inr (.inr (some _)) :: _ => am_Sp Γ d' k2 n2 M2 As I Lg R G (fun r I' Lg' R' G' => match r with
          | some v => go (k - k2) (n - n2) nx L (v :: rest) I' Lg' R' G'
          | none => go (k - k2) (n - n2) nx L rest I' Lg' R' G')
        | _ => False) False)) False
      | _ + 1, 1 :: _ => (match st with
        | .inr (.inr (some _)) :: r => cond (Nat.ble (am_cats r) 8) (go k n nx L r I Lg R G) False
        | _ => False)
      | _, _ => am_J Γ M Q d k n pc L st I Lg R G)
    | .new _ => (match k, ann with
      | k' + 1, c :: N :: _ => cond (Nat.ble N n && !(G.1 1000 c 0)) (am_zero c (G.2 c) I Lg R G → go k' (n - N) nx L (vR c (G.2 c) :: st) I Lg R (am_newG G c)) False
      | _, _ => am_J Γ M Q d k n pc L st I Lg R G)
    | .newarray _ => (match k, st, ann with
      | k' + 1, .inl x :: r, c :: N :: _ => cond (Nat.ble N n && !(G.1 1000 c 0)) (x = zI N ∧ (am_zero c (G.2 c) I Lg R G → go k' (n - N) nx L (vR c (G.2 c) :: r) I Lg R (am_newG G c))) False
      | _, _, _ => False)
    | .return_ => (match st with
      | [] => Q none I Lg R G
      | _ => False)
    | .ireturn => (match st, ann with
      | [.inl x], 0 :: _ => Q (some (vI x)) I Lg R G
      | [.inl x], 1 :: _ => (x = zI 0 ∨ x = zI 1) ∧ Q (some (vI x)) I Lg R G
      | _, _ => False)
    | .lreturn => (match st with
      | [.inr (.inl x)] => Q (some (vL x)) I Lg R G
      | _ => False)
    | .areturn => (match st with
      | [.inr (.inr x)] => Q (some (.inr (.inr x))) I Lg R G
      | _ => False)
    | _ => am_J Γ M Q d k n pc L st I Lg R G
def am_noM : MD := ("", ⟨"", "", ""⟩, ⟨#[]⟩, 0, none, 0)
def am_ce0 : CE := (.nop, 0, false, [], am_noM)
def am_adv (Γ : AMG) (M : MD) (rows : List (List CE)) (Q : QQ) (nm : Bool) (d : Nat) : Nat → GO
  | 0 => am_J Γ M Q d
  | f + 1 => fun k n pc L st I Lg R G => am_hop Γ M Q nm d pc (am_lk am_ce0 rows pc) (fun k2 n2 pc2 L2 st2 I2 Lg2 R2 G2 => cond (am_lk am_ce0 rows pc2).2.2.1 (am_J Γ M Q d k2 n2 pc2 L2 st2 I2 Lg2 R2 G2) (am_adv Γ M rows Q nm d f k2 n2 pc2 L2 st2 I2 Lg2 R2 G2)) k n L st I Lg R G
end
section
/-! The check of a code table, and the soundness of the walk. -/
def am_tab : Nat → List Jvm.Cond
  | 0 => k2_sels lw_privs
  | 1 => tables_1_1
  | 2 => tables_1_2
  | 3 => tables_1_3
  | 4 => tables_1_4
  | 5 => tables_1_5
  | 6 => tables_1_6
  | 7 => tables_1_7
  | 8 => tables_1_8
  | _ => []
theorem am_tab_in {c : Jvm.Cond} : ∀ t, c ∈ am_tab t → c ∈ lw_tbl := by
  intro t h
  show c ∈ k2_sels lw_privs ++ (tables_1_1 ++ (tables_1_2 ++ (tables_1_3 ++ (tables_1_4 ++ (tables_1_5 ++ (tables_1_6 ++ (tables_1_7 ++ tables_1_8)))))))
  simp only [List.mem_append]
  match t, h with
  | 0, h => exact Or.inl h
  | 1, h => exact Or.inr (Or.inl h)
  | 2, h => exact Or.inr (Or.inr (Or.inl h))
  | 3, h => exact Or.inr (Or.inr (Or.inr (Or.inl h)))
  | 4, h => exact Or.inr (Or.inr (Or.inr (Or.inr (Or.inl h))))
  | 5, h => exact Or.inr (Or.inr (Or.inr (Or.inr (Or.inr (Or.inl h)))))
  | 6, h => exact Or.inr (Or.inr (Or.inr (Or.inr (Or.inr (Or.inr (Or.inl h))))))
  | 7, h => exact Or.inr (Or.inr (Or.inr (Or.inr (Or.inr (Or.inr (Or.inr (Or.inl h)))))))
  | 8, h => exact Or.inr (Or.inr (Or.inr (Or.inr (Or.inr (Or.inr (Or.inr (Or.inr h)))))))
  | _ + 9, h => exact absurd h List.not_mem_nil
/-- the word at that place of a table: w is 1000 times the table and the place -/
def am_at (w : Nat) (c : Jvm.Cond) : Bool := decide ((am_tab (w / 1000))[w % 1000]? = some c) && goodWord c
theorem am_at_in {w : Nat} {c : Jvm.Cond} (h : am_at w c = true) : c ∈ am_BIG := by
  unfold am_at at h
  rw [Bool.and_eq_true, decide_eq_true_eq] at h
  exact List.mem_filter.mpr ⟨am_tab_in _ (List.mem_of_getElem? h.1), h.2⟩
def am_dc (M : MD) (pc : Nat) (ins : Instr) (nx len : Nat) : Bool := decide (decode M.2.2.1 pc = .ok (ins, len)) && nx == pc + len
def am_fck (M : MD) (idx c f w : Nat) : Bool := match vwCl[c]? with
  | some r => Nat.blt f r.2.2 && am_at w (.fieldLink M.1 idx (r.2.1 f).1 (r.2.1 f).2.1 (r.2.1 f).2.2.1)
  | none => false
def am_pck (M : MD) (c f : Nat) : Bool := match vwCl[c]? with
  | some r => !(r.2.1 f).2.2.2 || (decide (M.2.1.name = "<init>") && decide ((r.2.1 f).1 = M.1))
  | none => false
def am_mck (M : MD) : Bool := goodWord (.code M.2.1 M.2.2.1 M.2.2.2.1 M.2.2.2.2.1) && (decide (M.2.1.cls = M.1) && (decide (M.2.1.cls ≠ "java/lang/invoke/MethodHandle") && (decide (M.2.1.cls ≠ "java/lang/invoke/VarHandle") && (decide ((parseMethodDescriptor M.2.1.desc).map (fun d => d.parameters.length) = some M.2.2.2.2.2) && Nat.ble M.2.2.2.1 29))))
def am_swk (pc : Nat) (lo : Int) : List Nat → List Int → Nat → Bool
  | [], [], _ => true
  | key :: t :: ks, off :: offs, i => decide ((key : Int) = lo + (i : Int)) && (decide ((pc : Int) + off = (t : Int)) && am_swk pc lo ks offs (i + 1))
  | _, _, _ => false
def am_chk (M : MD) (pc : Nat) (ce : CE) : Bool := match ce with
  | (ins, nx, _, ann, M2) => match ins with
    | .iconst z => am_dc M pc (.iconst z) nx 1
    | .bipush z => am_dc M pc (.bipush z) nx 2 && decide ((Int8.ofInt z).toInt32 = zI z)
    | .sipush z => am_dc M pc (.sipush z) nx 3 && decide ((Int16.ofInt z).toInt32 = zI z)
    | .ldc i => (match ann with
      | 0 :: z :: w :: _ => am_dc M pc (.ldc i) nx 2 && am_at w (.constant M.1 i (zI z))
      | 0 :: _ => false
      | _ => true)
    | .ldc2_w i => (match ann with
      | z :: w :: _ => am_dc M pc (.ldc2_w i) nx 3 && am_at w (.constantLong M.1 i (zL z))
      | _ => false)
    | .lconst j => (match ann with
      | z :: _ => am_dc M pc (.lconst j) nx 1 && decide (Int64.ofNat (j : Nat) = zL z)
      | _ => false)
    | .ifCond c off => (match ann with
      | t :: _ => am_dc M pc (.ifCond c off) nx 3 && decide ((pc : Int) + off = (t : Int))
      | _ => false)
    | .if_icmp c off => (match ann with
      | t :: _ => am_dc M pc (.if_icmp c off) nx 3 && decide ((pc : Int) + off = (t : Int))
      | _ => false)
    | .if_acmp c off => (match ann with
      | t :: _ => am_dc M pc (.if_acmp c off) nx 3 && decide ((pc : Int) + off = (t : Int))
      | _ => false)
    | .goto off => (match ann with
      | t :: _ => am_dc M pc (.goto off) nx 3 && decide ((pc : Int) + off = (t : Int))
      | _ => false)
    | .ifnull off => (match ann with
      | t :: _ => am_dc M pc (.ifnull off) nx 3 && decide ((pc : Int) + off = (t : Int))
      | _ => false)
    | .ifnonnull off => (match ann with
      | t :: _ => am_dc M pc (.ifnonnull off) nx 3 && decide ((pc : Int) + off = (t : Int))
      | _ => false)
    | .getfield idx => (match ann with
      | c :: f :: w :: _ => am_dc M pc (.getfield idx) nx 3 && am_fck M idx c f w
      | _ => false)
    | .putfield idx => (match ann with
      | c :: f :: w :: _ => am_dc M pc (.putfield idx) nx 3 && (am_fck M idx c f w && am_pck M c f)
      | _ => false)
    | .tableswitch dflt lo hi offs => (match ann with
      | dfl :: ks => decide (decode M.2.2.1 pc = .ok (.tableswitch dflt lo hi offs, nx - pc)) && (decide ((pc : Int) + dflt = (dfl : Int)) && (decide (hi - lo < offs.size) && am_swk pc lo ks offs.toList 0))
      | _ => false)
    | .invokevirtual idx => (match ann with
      | np :: c :: _ :: _ :: w1 :: w2 :: w3 :: w4 :: w5 :: _ => am_dc M pc (.invokevirtual idx) nx 3 && (np == M2.2.2.2.2.2 + 1 && ((match vwCl[c]? with
        | some r => decide (r.1 = M2.1)
        | none => false) && (am_mck M2 && (am_at w1 (.methodLink M.1 idx M2.2.1) && (am_at w2 (.instanceMethod M2.2.1) && (am_at w3 (.selects M2.1 M2.2.1 M2.2.1) && (am_at w4 (.initialized M2.1) && am_at w5 (.code M2.2.1 M2.2.2.1 M2.2.2.2.1 M2.2.2.2.2.1))))))))
      | [] => true
      | _ => false)
    | .invokestatic idx => (match ann with
      | 0 :: np :: _ :: _ :: w1 :: w2 :: w4 :: w5 :: _ => am_dc M pc (.invokestatic idx) nx 3 && (np == M2.2.2.2.2.2 && (am_mck M2 && (am_at w1 (.methodLink M.1 idx M2.2.1) && (am_at w2 (.static M2.2.1) && (am_at w4 (.initialized M2.1) && am_at w5 (.code M2.2.1 M2.2.2.1 M2.2.2.2.1 M2.2.2.2.2.1))))))
      | 1 :: w1 :: w2 :: w3 :: w4 :: _ => am_dc M pc (.invokestatic idx) nx 3 && (am_at w1 (.methodLink M.1 idx Lib.Math.max.name) && (am_at w2 (.static Lib.Math.max.name) && (am_at w3 (.initialized "java/lang/Math") && am_at w4 (.code Lib.Math.max.name Lib.Math.max.code 2 (some .int)))))
      | 2 :: w1 :: w2 :: w3 :: w4 :: _ => am_dc M pc (.invokestatic idx) nx 3 && (am_at w1 (.methodLink M.1 idx Lib.Math.min.name) && (am_at w2 (.static Lib.Math.min.name) && (am_at w3 (.initialized "java/lang/Math") && am_at w4 (.code Lib.Math.min.name Lib.Math.min.code 2 (some .int)))))
      | 3 :: w1 :: w2 :: w3 :: w4 :: _ => am_dc M pc (.invokestatic idx) nx 3 && (am_at w1 (.methodLink M.1 idx Lib.Math.abs.name) && (am_at w2 (.static Lib.Math.abs.name) && (am_at w3 (.initialized "java/lang/Math") && am_at w4 (.code Lib.Math.abs.name Lib.Math.abs.code 1 (some .int)))))
      | [] => true
      | 9 :: _ => true
      | _ => false)
    | .invokespecial idx => (match ann with
      | 0 :: np :: _ :: _ :: w1 :: w2 :: w4 :: w5 :: _ => am_dc M pc (.invokespecial idx) nx 3 && (np == M2.2.2.2.2.2 + 1 && (am_mck M2 && (decide (M2.2.1.name = "<init>") && (decide (M2.2.2.2.2.1 = none) && (am_at w1 (.methodLink M.1 idx M2.2.1) && (am_at w2 (.instanceMethod M2.2.1) && (am_at w4 (.initialized M2.1) && am_at w5 (.code M2.2.1 M2.2.2.1 M2.2.2.2.1 M2.2.2.2.2.1))))))))
      | 1 :: w1 :: w2 :: w4 :: _ => am_dc M pc (.invokespecial idx) nx 3 && (am_at w1 (.methodLink M.1 idx Lib.objectInit) && (am_at w2 (.instanceMethod Lib.objectInit) && am_at w4 (.code Lib.objectInit ⟨#[0xb1]⟩ 1 none)))
      | [] => true
      | 2 :: _ => true
      | _ => false)
    | .new idx => (match ann with
      | c :: N :: w1 :: w2 :: w3 :: _ => am_dc M pc (.new idx) nx 3 && (match vwCl[c]? with
        | some r => r.2.2 == N && (am_at w1 (.classLink M.1 idx r.1) && (am_at w2 (.instantiable r.1 r.2.2) && am_at w3 (.initialized r.1)))
        | none => false)
      | [] => true
      | _ => false)
    | .newarray ty => (match ann with
      | c :: N :: w :: _ => am_dc M pc (.newarray ty) nx 2 && (match am_ck c with
        | (a + 1, N2, _, _, _) => Nat.blt a 3 && (N2 == N && (Nat.ble N 1000000 && (decide (ty = am_atype a) && am_at w (.arrayClass (newarray.typeOf (am_atype a))))))
        | _ => false)
      | _ => false)
    | .ireturn => (match ann with
      | 0 :: _ => am_dc M pc .ireturn nx 1 && decide (M.2.2.2.2.1 = some .int)
      | 1 :: _ => am_dc M pc .ireturn nx 1 && decide (M.2.2.2.2.1 = some .boolean)
      | _ => false)
    | .return_ => am_dc M pc .return_ nx 1 && decide (M.2.2.2.2.1 = none)
    | .lreturn => am_dc M pc .lreturn nx 1 && decide (M.2.2.2.2.1 = some .long)
    | .areturn => am_dc M pc .areturn nx 1 && (match M.2.2.2.2.1 with
      | some (.object _) => true
      | _ => false)
    | .iadd => am_dc M pc .iadd nx 1
    | .isub => am_dc M pc .isub nx 1
    | .imul => am_dc M pc .imul nx 1
    | .iand => am_dc M pc .iand nx 1
    | .ior => am_dc M pc .ior nx 1
    | .ixor => am_dc M pc .ixor nx 1
    | .ishl => am_dc M pc .ishl nx 1
    | .ishr => am_dc M pc .ishr nx 1
    | .iushr => am_dc M pc .iushr nx 1
    | .idiv => am_dc M pc .idiv nx 1
    | .irem => am_dc M pc .irem nx 1
    | .ineg => am_dc M pc .ineg nx 1
    | .i2l => am_dc M pc .i2l nx 1
    | .ladd => am_dc M pc .ladd nx 1
    | .lsub => am_dc M pc .lsub nx 1
    | .lmul => am_dc M pc .lmul nx 1
    | .lcmp => am_dc M pc .lcmp nx 1
    | .aconst_null => am_dc M pc .aconst_null nx 1
    | .dup => am_dc M pc .dup nx 1
    | .dup2 => am_dc M pc .dup2 nx 1
    | .pop => am_dc M pc .pop nx 1
    | .iaload => am_dc M pc .iaload nx 1
    | .baload => am_dc M pc .baload nx 1
    | .laload => am_dc M pc .laload nx 1
    | .iastore => am_dc M pc .iastore nx 1
    | .bastore => am_dc M pc .bastore nx 1
    | .lastore => am_dc M pc .lastore nx 1
    | .aaload => am_dc M pc .aaload nx 1
    | .aastore => am_dc M pc .aastore nx 1
    | .arraylength => am_dc M pc .arraylength nx 1
    | .iload_n j => am_dc M pc (.iload_n j) nx 1
    | .lload_n j => am_dc M pc (.lload_n j) nx 1
    | .aload_n j => am_dc M pc (.aload_n j) nx 1
    | .istore_n j => am_dc M pc (.istore_n j) nx 1
    | .lstore_n j => am_dc M pc (.lstore_n j) nx 1
    | .astore_n j => am_dc M pc (.astore_n j) nx 1
    | .iload j => am_dc M pc (.iload j) nx 2
    | .lload j => am_dc M pc (.lload j) nx 2
    | .aload j => am_dc M pc (.aload j) nx 2
    | .istore j => am_dc M pc (.istore j) nx 2
    | .lstore j => am_dc M pc (.lstore j) nx 2
    | .astore j => am_dc M pc (.astore j) nx 2
    | .iinc j z => am_dc M pc (.iinc j z) nx 3
    | _ => true
theorem am_dc_ok {M : MD} {pc nx len : Nat} {ins : Instr} (h : am_dc M pc ins nx len = true) : decode M.2.2.1 pc = .ok (ins, len) ∧ nx = pc + len := by
  unfold am_dc at h
  rw [Bool.and_eq_true, decide_eq_true_eq, beq_iff_eq] at h
  exact h
theorem am_fck_ok {M : MD} {idx c f w : Nat} (h : am_fck M idx c f w = true) : ∃ r : vw_C, vwCl[c]? = some r ∧ f < r.2.2 ∧ Jvm.Cond.fieldLink M.1 idx (r.2.1 f).1 (r.2.1 f).2.1 (r.2.1 f).2.2.1 ∈ am_BIG := by
  unfold am_fck at h
  cases hr : vwCl[c]? with
  | none => rw [hr] at h; cases h
  | some r =>
    rw [hr] at h
    simp only [Bool.and_eq_true] at h
    exact ⟨r, rfl, Nat.blt_eq.mp h.1, am_at_in h.2⟩
theorem am_pck_ok {M : MD} {c f : Nat} {r : vw_C} (hr : vwCl[c]? = some r) (h : am_pck M c f = true) : (r.2.1 f).2.2.2 = false ∨ (r.2.1 f).2.2.2 = true ∧ M.2.1.name = "<init>" ∧ (r.2.1 f).1 = M.1 := by
  unfold am_pck at h
  rw [hr] at h
  simp only [Bool.or_eq_true, Bool.and_eq_true, decide_eq_true_eq, Bool.not_eq_true'] at h
  rcases h with h | h
  · exact Or.inl h
  · cases hb : (r.2.1 f).2.2.2 with
    | false => exact Or.inl rfl
    | true => exact Or.inr ⟨rfl, h⟩
theorem am_mck_ok {M : MD} {w : Nat} (h : am_mck M = true) (h5 : am_at w (.code M.2.1 M.2.2.1 M.2.2.2.1 M.2.2.2.2.1) = true) : am_Mok M := by
  unfold am_mck at h
  simp only [Bool.and_eq_true, decide_eq_true_eq] at h
  exact ⟨am_at_in h5, h.2.1, h.2.2.1, h.2.2.2.1, h.2.2.2.2.1, Nat.le_of_ble_eq_true h.2.2.2.2.2⟩
theorem am_get_ok : ∀ {L : LL} {i : Nat} {K : AV → Prop}, am_get L i K → ∃ v, L[i]? = some (some v) ∧ K v
  | [], _, _, h => h.elim
  | some v :: _, 0, _, h => ⟨v, rfl, h⟩
  | none :: _, 0, _, h => h.elim
  | some _ :: xs, i + 1, K, h => am_get_ok (L := xs) (i := i) (K := K) h
  | none :: xs, i + 1, K, h => am_get_ok (L := xs) (i := i) (K := K) h
theorem am_set_ok : ∀ {L : LL} {i : Nat} {o : Option AV} {K : LL → Prop}, am_set L i o K → i < L.length ∧ K (am_st L i o)
  | [], _, _, _, h => h.elim
  | _ :: xs, 0, o, K, h => ⟨by simp, h⟩
  | x :: xs, 1, o, K, h => by
    obtain ⟨h1, h2⟩ := am_set_ok (L := xs) (i := 0) (o := o) h
    refine ⟨by simpa using h1, ?_⟩
    match x, h2 with
    | some (.inr (.inl _)), h2 => exact h2
    | some (.inl _), h2 => exact h2
    | some (.inr (.inr _)), h2 => exact h2
    | none, h2 => exact h2
  | x :: xs, n + 2, o, K, h => by
    obtain ⟨h1, h2⟩ := am_set_ok (L := xs) (i := n + 1) (o := o) h
    exact ⟨by simp only [List.length_cons]; omega, h2⟩
theorem am_set2_ok : ∀ {L : LL} {i : Nat} {K : LL → Prop}, am_set2 L i K → i < L.length ∧ K (L.set i none)
  | [], _, _, h => h.elim
  | _ :: xs, 0, K, h => ⟨by simp, h⟩
  | x :: xs, n + 1, K, h => by
    obtain ⟨h1, h2⟩ := am_set2_ok (L := xs) (i := n) h
    exact ⟨by simpa using h1, h2⟩
theorem am_pop_ok : ∀ {n : Nat} {st acc : List AV} {K : List AV → List AV → Prop}, am_pop n st acc K → ∃ xs rest, st = xs ++ rest ∧ xs.length = n ∧ K (xs.reverse ++ acc) rest
  | 0, st, acc, K, h => ⟨[], st, rfl, rfl, h⟩
  | _ + 1, [], _, _, h => h.elim
  | n + 1, v :: st, acc, K, h => by
    obtain ⟨xs, rest, h1, h2, h3⟩ := am_pop_ok (n := n) (st := st) (acc := v :: acc) h
    exact ⟨v :: xs, rest, by rw [h1]; rfl, by simp [h2], by simpa using h3⟩
theorem am_sidxK_ok {b m i : Nat} {K : Nat → Prop} (h : am_sidxK b m i K) : K (am_sidx b m i) := by
  match m, h with
  | 0, h => exact h
  | _ + 1, h => exact h
theorem am_aidxK_ok {b j : Nat} {K : Nat → Prop} (h : am_aidxK b j K) : K (am_aidx b j) := by
  match b, h with
  | 0, h => exact h
  | _ + 1, h => exact h
theorem am_swk_ok {pc : Nat} {lo : Int} {x : Int} {K : Nat → Prop} : ∀ {ks : List Nat} {offs : List Int} {i : Nat}, am_swk pc lo ks offs i = true → am_sw ks x K → ∀ j, j < offs.length → x = lo + ((i + j : Nat) : Int) → ∃ off t, offs[j]? = some off ∧ (pc : Int) + off = ((t : Nat) : Int) ∧ K t
  | [], [], _, _, _, j, hj, _ => absurd hj (by simp)
  | key :: t :: ks, off :: offs, i, h, hs, j, hj, hx => by
    simp only [am_swk, Bool.and_eq_true, decide_eq_true_eq] at h
    obtain ⟨h1, h2, h3⟩ := h
    match j, hj, hx with
    | 0, _, hx => exact ⟨off, t, rfl, h2, hs.1 (by rw [hx, h1]; simp)⟩
    | j + 1, hj, hx =>
      obtain ⟨off2, t2, e1, e2, e3⟩ := am_swk_ok (ks := ks) (offs := offs) (i := i + 1) h3 hs.2 j (by simpa using hj) (by rw [hx]; congr 2; omega)
      exact ⟨off2, t2, by simpa using e1, e2, e3⟩
  | [], _ :: _, _, h, _, _, _, _ => by cases h
  | [_], [], _, h, _, _, _, _ => by cases h
  | [_], _ :: _, _, h, _, _, _, _ => by cases h
  | _ :: _ :: _, [], _, h, _, _, _, _ => by cases h
theorem am_nmV_ok {nm : Bool} {x : Int32} {K : Int32 → Prop} (h : am_nmV nm x K) : K x := by
  cases nm
  · exact h
  · exact h x rfl
theorem am_nmI_ok {nm : Bool} {I : II} {K : II → Prop} (h : am_nmI nm I K) : K I := by
  cases nm
  · exact h
  · exact h I rfl
theorem am_cond {b : Bool} {A : Prop} (h : cond b A False) : b = true ∧ A := by
  cases b with
  | false => exact h.elim
  | true => exact ⟨rfl, h⟩
set_option maxHeartbeats 4000000 in
theorem am_hop_ok {Γ : AMG} {M : MD} {Q : QQ} {d k n pc : Nat} {L : LL} {st : List AV} {I : II} {Lg : LJ} {R : RR} {G : GG} {ce : CE} {nm : Bool} {go : GO} (hv : am_chk M pc ce = true) (hgo : ∀ k n pc L st I Lg R G, go k n pc L st I Lg R G → am_J Γ M Q d k n pc L st I Lg R G)
    (h : am_hop Γ M Q nm d pc ce go k n L st I Lg R G) : am_J Γ M Q d k n pc L st I Lg R G := by
  obtain ⟨ins, nx, hdb, ann, M2⟩ := ce
  cases ins
  case iconst z =>
    obtain ⟨hd, rfl⟩ := am_dc_ok hv
    exact ar_iconst hd (hgo _ _ _ _ _ _ _ _ _ h)
  case bipush z =>
    have hv2 := Bool.and_eq_true_iff.mp hv
    obtain ⟨hd, rfl⟩ := am_dc_ok hv2.1
    exact ar_bipush (of_decide_eq_true hv2.2) hd (hgo _ _ _ _ _ _ _ _ _ h)
  case sipush z =>
    have hv2 := Bool.and_eq_true_iff.mp hv
    obtain ⟨hd, rfl⟩ := am_dc_ok hv2.1
    exact ar_sipush (of_decide_eq_true hv2.2) hd (hgo _ _ _ _ _ _ _ _ _ h)
  case ldc i =>
    match ann, hv, h with
    | 0 :: z :: w :: _, hv, h =>
      have hv2 := Bool.and_eq_true_iff.mp hv
      obtain ⟨hd, rfl⟩ := am_dc_ok hv2.1
      exact ar_ldc (am_at_in hv2.2) hd (hgo _ _ _ _ _ _ _ _ _ h)
    | [], _, h => exact h
    | [0], hv, _ => cases hv
    | [0, _], hv, _ => cases hv
    | (_ + 1) :: _, _, h => exact h
  case ldc2_w i =>
    match ann, hv, h with
    | z :: w :: _, hv, h =>
      have hv2 := Bool.and_eq_true_iff.mp hv
      obtain ⟨hd, rfl⟩ := am_dc_ok hv2.1
      exact ar_ldc2 (am_at_in hv2.2) hd (hgo _ _ _ _ _ _ _ _ _ h)
    | [], hv, _ => cases hv
    | [_], hv, _ => cases hv
  case lconst j =>
    match ann, hv, h with
    | z :: _, hv, h =>
      have hv2 := Bool.and_eq_true_iff.mp hv
      obtain ⟨hd, rfl⟩ := am_dc_ok hv2.1
      exact ar_lconst (of_decide_eq_true hv2.2) hd (hgo _ _ _ _ _ _ _ _ _ h)
    | [], hv, _ => cases hv
  case iload_n j =>
    obtain ⟨hd, rfl⟩ := am_dc_ok hv
    obtain ⟨v, hg, h⟩ := am_get_ok h
    match v, hg, h with
    | .inl x, hg, h => exact ar_iload_n hg hd (hgo _ _ _ _ _ _ _ _ _ h)
    | .inr _, _, h => exact h.elim
  case iload j =>
    obtain ⟨hd, rfl⟩ := am_dc_ok hv
    obtain ⟨v, hg, h⟩ := am_get_ok h
    match v, hg, h with
    | .inl x, hg, h => exact ar_iload hg hd (hgo _ _ _ _ _ _ _ _ _ h)
    | .inr _, _, h => exact h.elim
  case lload_n j =>
    obtain ⟨hd, rfl⟩ := am_dc_ok hv
    obtain ⟨v, hg, h⟩ := am_get_ok h
    match v, hg, h with
    | .inr (.inl x), hg, h => exact ar_lload_n hg hd (hgo _ _ _ _ _ _ _ _ _ h)
    | .inl _, _, h => exact h.elim
    | .inr (.inr _), _, h => exact h.elim
  case lload j =>
    obtain ⟨hd, rfl⟩ := am_dc_ok hv
    obtain ⟨v, hg, h⟩ := am_get_ok h
    match v, hg, h with
    | .inr (.inl x), hg, h => exact ar_lload hg hd (hgo _ _ _ _ _ _ _ _ _ h)
    | .inl _, _, h => exact h.elim
    | .inr (.inr _), _, h => exact h.elim
  case aload_n j =>
    obtain ⟨hd, rfl⟩ := am_dc_ok hv
    obtain ⟨v, hg, h⟩ := am_get_ok h
    match v, hg, h with
    | .inr (.inr x), hg, h => exact ar_aload_n hg hd (hgo _ _ _ _ _ _ _ _ _ h)
    | .inl _, _, h => exact h.elim
    | .inr (.inl _), _, h => exact h.elim
  case aload j =>
    obtain ⟨hd, rfl⟩ := am_dc_ok hv
    obtain ⟨v, hg, h⟩ := am_get_ok h
    match v, hg, h with
    | .inr (.inr x), hg, h => exact ar_aload hg hd (hgo _ _ _ _ _ _ _ _ _ h)
    | .inl _, _, h => exact h.elim
    | .inr (.inl _), _, h => exact h.elim
  case istore_n j =>
    obtain ⟨hd, rfl⟩ := am_dc_ok hv
    match st, h with
    | .inl x :: r, h =>
      obtain ⟨h1, h2⟩ := am_set_ok (am_nmV_ok h)
      exact ar_istore_n h1 hd (hgo _ _ _ _ _ _ _ _ _ h2)
    | [], h => exact h.elim
    | .inr _ :: _, h => exact h.elim
  case istore j =>
    obtain ⟨hd, rfl⟩ := am_dc_ok hv
    match st, h with
    | .inl x :: r, h =>
      obtain ⟨h1, h2⟩ := am_set_ok (am_nmV_ok h)
      exact ar_istore h1 hd (hgo _ _ _ _ _ _ _ _ _ h2)
    | [], h => exact h.elim
    | .inr _ :: _, h => exact h.elim
  case astore_n j =>
    obtain ⟨hd, rfl⟩ := am_dc_ok hv
    match st, h with
    | .inr (.inr x) :: r, h =>
      obtain ⟨h1, h2⟩ := am_set_ok h
      exact ar_astore_n h1 hd (hgo _ _ _ _ _ _ _ _ _ h2)
    | [], h => exact h.elim
    | .inl _ :: _, h => exact h.elim
    | .inr (.inl _) :: _, h => exact h.elim
  case astore j =>
    obtain ⟨hd, rfl⟩ := am_dc_ok hv
    match st, h with
    | .inr (.inr x) :: r, h =>
      obtain ⟨h1, h2⟩ := am_set_ok h
      exact ar_astore h1 hd (hgo _ _ _ _ _ _ _ _ _ h2)
    | [], h => exact h.elim
    | .inl _ :: _, h => exact h.elim
    | .inr (.inl _) :: _, h => exact h.elim
  case lstore_n j =>
    obtain ⟨hd, rfl⟩ := am_dc_ok hv
    match st, h with
    | .inr (.inl x) :: r, h =>
      obtain ⟨h1, h2⟩ := am_set_ok h
      obtain ⟨h3, h4⟩ := am_set2_ok h2
      rw [am_st_len] at h3
      exact ar_lstore_n h3 hd (hgo _ _ _ _ _ _ _ _ _ h4)
    | [], h => exact h.elim
    | .inl _ :: _, h => exact h.elim
    | .inr (.inr _) :: _, h => exact h.elim
  case lstore j =>
    obtain ⟨hd, rfl⟩ := am_dc_ok hv
    match st, h with
    | .inr (.inl x) :: r, h =>
      obtain ⟨h1, h2⟩ := am_set_ok h
      obtain ⟨h3, h4⟩ := am_set2_ok h2
      rw [am_st_len] at h3
      exact ar_lstore h3 hd (hgo _ _ _ _ _ _ _ _ _ h4)
    | [], h => exact h.elim
    | .inl _ :: _, h => exact h.elim
    | .inr (.inr _) :: _, h => exact h.elim
  case iinc j z =>
    obtain ⟨hd, rfl⟩ := am_dc_ok hv
    obtain ⟨v, hg, h⟩ := am_get_ok h
    match v, hg, h with
    | .inl x, hg, h =>
      obtain ⟨h1, h2⟩ := am_set_ok (am_nmV_ok h)
      exact ar_iinc hg hd (hgo _ _ _ _ _ _ _ _ _ h2)
    | .inr _, _, h => exact h.elim
  case iadd =>
    obtain ⟨hd, rfl⟩ := am_dc_ok hv
    match st, h with
    | .inl y :: .inl x :: r, h =>
      exact ar_iadd hd (hgo _ _ _ _ _ _ _ _ _ h)
    | [], h => exact h.elim
    | [.inl _], h => exact h.elim
    | .inr _ :: _, h => exact h.elim
    | .inl _ :: .inr _ :: _, h => exact h.elim
  case isub =>
    obtain ⟨hd, rfl⟩ := am_dc_ok hv
    match st, h with
    | .inl y :: .inl x :: r, h =>
      exact ar_isub hd (hgo _ _ _ _ _ _ _ _ _ h)
    | [], h => exact h.elim
    | [.inl _], h => exact h.elim
    | .inr _ :: _, h => exact h.elim
    | .inl _ :: .inr _ :: _, h => exact h.elim
  case imul =>
    obtain ⟨hd, rfl⟩ := am_dc_ok hv
    match st, h with
    | .inl y :: .inl x :: r, h =>
      exact ar_imul hd (hgo _ _ _ _ _ _ _ _ _ h)
    | [], h => exact h.elim
    | [.inl _], h => exact h.elim
    | .inr _ :: _, h => exact h.elim
    | .inl _ :: .inr _ :: _, h => exact h.elim
  case iand =>
    obtain ⟨hd, rfl⟩ := am_dc_ok hv
    match st, h with
    | .inl y :: .inl x :: r, h =>
      exact ar_iand hd (hgo _ _ _ _ _ _ _ _ _ h)
    | [], h => exact h.elim
    | [.inl _], h => exact h.elim
    | .inr _ :: _, h => exact h.elim
    | .inl _ :: .inr _ :: _, h => exact h.elim
  case ior =>
    obtain ⟨hd, rfl⟩ := am_dc_ok hv
    match st, h with
    | .inl y :: .inl x :: r, h =>
      exact ar_ior hd (hgo _ _ _ _ _ _ _ _ _ h)
    | [], h => exact h.elim
    | [.inl _], h => exact h.elim
    | .inr _ :: _, h => exact h.elim
    | .inl _ :: .inr _ :: _, h => exact h.elim
  case ixor =>
    obtain ⟨hd, rfl⟩ := am_dc_ok hv
    match st, h with
    | .inl y :: .inl x :: r, h =>
      exact ar_ixor hd (hgo _ _ _ _ _ _ _ _ _ h)
    | [], h => exact h.elim
    | [.inl _], h => exact h.elim
    | .inr _ :: _, h => exact h.elim
    | .inl _ :: .inr _ :: _, h => exact h.elim
  case ishl =>
    obtain ⟨hd, rfl⟩ := am_dc_ok hv
    match st, h with
    | .inl y :: .inl x :: r, h =>
      exact ar_ishl hd (hgo _ _ _ _ _ _ _ _ _ h)
    | [], h => exact h.elim
    | [.inl _], h => exact h.elim
    | .inr _ :: _, h => exact h.elim
    | .inl _ :: .inr _ :: _, h => exact h.elim
  case ishr =>
    obtain ⟨hd, rfl⟩ := am_dc_ok hv
    match st, h with
    | .inl y :: .inl x :: r, h =>
      exact ar_ishr hd (hgo _ _ _ _ _ _ _ _ _ h)
    | [], h => exact h.elim
    | [.inl _], h => exact h.elim
    | .inr _ :: _, h => exact h.elim
    | .inl _ :: .inr _ :: _, h => exact h.elim
  case iushr =>
    obtain ⟨hd, rfl⟩ := am_dc_ok hv
    match st, h with
    | .inl y :: .inl x :: r, h =>
      exact ar_iushr hd (hgo _ _ _ _ _ _ _ _ _ h)
    | [], h => exact h.elim
    | [.inl _], h => exact h.elim
    | .inr _ :: _, h => exact h.elim
    | .inl _ :: .inr _ :: _, h => exact h.elim
  case idiv =>
    obtain ⟨hd, rfl⟩ := am_dc_ok hv
    match st, h with
    | .inl y :: .inl x :: r, h =>
      exact ar_idiv h.1 hd (hgo _ _ _ _ _ _ _ _ _ h.2)
    | [], h => exact h.elim
    | [.inl _], h => exact h.elim
    | .inr _ :: _, h => exact h.elim
    | .inl _ :: .inr _ :: _, h => exact h.elim
  case irem =>
    obtain ⟨hd, rfl⟩ := am_dc_ok hv
    match st, h with
    | .inl y :: .inl x :: r, h =>
      exact ar_irem h.1 hd (hgo _ _ _ _ _ _ _ _ _ h.2)
    | [], h => exact h.elim
    | [.inl _], h => exact h.elim
    | .inr _ :: _, h => exact h.elim
    | .inl _ :: .inr _ :: _, h => exact h.elim
  case ineg =>
    obtain ⟨hd, rfl⟩ := am_dc_ok hv
    match st, h with
    | .inl x :: r, h =>
      exact ar_ineg hd (hgo _ _ _ _ _ _ _ _ _ h)
    | [], h => exact h.elim
    | .inr _ :: _, h => exact h.elim
  case i2l =>
    obtain ⟨hd, rfl⟩ := am_dc_ok hv
    match st, h with
    | .inl x :: r, h =>
      exact ar_i2l hd (hgo _ _ _ _ _ _ _ _ _ h)
    | [], h => exact h.elim
    | .inr _ :: _, h => exact h.elim
  case ladd =>
    obtain ⟨hd, rfl⟩ := am_dc_ok hv
    match st, h with
    | .inr (.inl y) :: .inr (.inl x) :: r, h =>
      exact ar_ladd hd (hgo _ _ _ _ _ _ _ _ _ h)
    | [], h => exact h.elim
    | .inl _ :: _, h => exact h.elim
    | .inr (.inr _) :: _, h => exact h.elim
    | [.inr (.inl _)], h => exact h.elim
    | .inr (.inl _) :: .inl _ :: _, h => exact h.elim
    | .inr (.inl _) :: .inr (.inr _) :: _, h => exact h.elim
  case lsub =>
    obtain ⟨hd, rfl⟩ := am_dc_ok hv
    match st, h with
    | .inr (.inl y) :: .inr (.inl x) :: r, h =>
      exact ar_lsub hd (hgo _ _ _ _ _ _ _ _ _ h)
    | [], h => exact h.elim
    | .inl _ :: _, h => exact h.elim
    | .inr (.inr _) :: _, h => exact h.elim
    | [.inr (.inl _)], h => exact h.elim
    | .inr (.inl _) :: .inl _ :: _, h => exact h.elim
    | .inr (.inl _) :: .inr (.inr _) :: _, h => exact h.elim
  case lmul =>
    obtain ⟨hd, rfl⟩ := am_dc_ok hv
    match st, h with
    | .inr (.inl y) :: .inr (.inl x) :: r, h =>
      exact ar_lmul hd (hgo _ _ _ _ _ _ _ _ _ h)
    | [], h => exact h.elim
    | .inl _ :: _, h => exact h.elim
    | .inr (.inr _) :: _, h => exact h.elim
    | [.inr (.inl _)], h => exact h.elim
    | .inr (.inl _) :: .inl _ :: _, h => exact h.elim
    | .inr (.inl _) :: .inr (.inr _) :: _, h => exact h.elim
  case lcmp =>
    obtain ⟨hd, rfl⟩ := am_dc_ok hv
    match st, h with
    | .inr (.inl y) :: .inr (.inl x) :: r, h =>
      exact ar_lcmp hd (hgo _ _ _ _ _ _ _ _ _ h)
    | [], h => exact h.elim
    | .inl _ :: _, h => exact h.elim
    | .inr (.inr _) :: _, h => exact h.elim
    | [.inr (.inl _)], h => exact h.elim
    | .inr (.inl _) :: .inl _ :: _, h => exact h.elim
    | .inr (.inl _) :: .inr (.inr _) :: _, h => exact h.elim
  case ifCond c off =>
    match ann, hv, h with
    | [], hv, _ => cases hv
    | t :: _, hv, h =>
      have hv2 := Bool.and_eq_true_iff.mp hv
      obtain ⟨hd, rfl⟩ := am_dc_ok hv2.1
      have ht := of_decide_eq_true hv2.2
      match st, h with
      | .inl x :: r, h =>
        cases c with
        | eq => exact ar_if_eq hd ht (fun q => hgo _ _ _ _ _ _ _ _ _ (h.1 q)) (fun q => hgo _ _ _ _ _ _ _ _ _ (h.2 q))
        | ne => exact ar_if_ne hd ht (fun q => hgo _ _ _ _ _ _ _ _ _ (h.1 q)) (fun q => hgo _ _ _ _ _ _ _ _ _ (h.2 q))
        | lt => exact ar_if_lt hd ht (fun q => hgo _ _ _ _ _ _ _ _ _ (h.1 q)) (fun q => hgo _ _ _ _ _ _ _ _ _ (h.2 q))
        | ge => exact ar_if_ge hd ht (fun q => hgo _ _ _ _ _ _ _ _ _ (h.1 q)) (fun q => hgo _ _ _ _ _ _ _ _ _ (h.2 q))
        | gt => exact ar_if_gt hd ht (fun q => hgo _ _ _ _ _ _ _ _ _ (h.1 q)) (fun q => hgo _ _ _ _ _ _ _ _ _ (h.2 q))
        | le => exact ar_if_le hd ht (fun q => hgo _ _ _ _ _ _ _ _ _ (h.1 q)) (fun q => hgo _ _ _ _ _ _ _ _ _ (h.2 q))
      | [], h => exact h.elim
      | .inr _ :: _, h => exact h.elim
  case if_icmp c off =>
    match ann, hv, h with
    | [], hv, _ => cases hv
    | t :: _, hv, h =>
      have hv2 := Bool.and_eq_true_iff.mp hv
      obtain ⟨hd, rfl⟩ := am_dc_ok hv2.1
      have ht := of_decide_eq_true hv2.2
      match st, h with
      | .inl y :: .inl x :: r, h =>
        cases c with
        | eq => exact ar_ic_eq hd ht (fun q => hgo _ _ _ _ _ _ _ _ _ (h.1 q)) (fun q => hgo _ _ _ _ _ _ _ _ _ (h.2 q))
        | ne => exact ar_ic_ne hd ht (fun q => hgo _ _ _ _ _ _ _ _ _ (h.1 q)) (fun q => hgo _ _ _ _ _ _ _ _ _ (h.2 q))
        | lt => exact ar_ic_lt hd ht (fun q => hgo _ _ _ _ _ _ _ _ _ (h.1 q)) (fun q => hgo _ _ _ _ _ _ _ _ _ (h.2 q))
        | ge => exact ar_ic_ge hd ht (fun q => hgo _ _ _ _ _ _ _ _ _ (h.1 q)) (fun q => hgo _ _ _ _ _ _ _ _ _ (h.2 q))
        | gt => exact ar_ic_gt hd ht (fun q => hgo _ _ _ _ _ _ _ _ _ (h.1 q)) (fun q => hgo _ _ _ _ _ _ _ _ _ (h.2 q))
        | le => exact ar_ic_le hd ht (fun q => hgo _ _ _ _ _ _ _ _ _ (h.1 q)) (fun q => hgo _ _ _ _ _ _ _ _ _ (h.2 q))
      | [], h => exact h.elim
      | [.inl _], h => exact h.elim
      | .inr _ :: _, h => exact h.elim
      | .inl _ :: .inr _ :: _, h => exact h.elim
  case goto off =>
    match ann, hv, h with
    | [], hv, _ => cases hv
    | t :: _, hv, h =>
      have hv2 := Bool.and_eq_true_iff.mp hv
      obtain ⟨hd, rfl⟩ := am_dc_ok hv2.1
      exact ar_goto hd (of_decide_eq_true hv2.2) (hgo _ _ _ _ _ _ _ _ _ h)
  case aconst_null =>
    obtain ⟨hd, rfl⟩ := am_dc_ok hv
    exact ar_null hd (hgo _ _ _ _ _ _ _ _ _ h)
  case ifnull off =>
    match ann, hv, h with
    | [], hv, _ => cases hv
    | t :: _, hv, h =>
      have hv2 := Bool.and_eq_true_iff.mp hv
      obtain ⟨hd, rfl⟩ := am_dc_ok hv2.1
      have ht := of_decide_eq_true hv2.2
      match st, h with
      | .inr (.inr none) :: r, h => exact ar_ifnullN hd ht (hgo _ _ _ _ _ _ _ _ _ h)
      | .inr (.inr (some (a, b))) :: r, h => exact ar_ifnull hd (hgo _ _ _ _ _ _ _ _ _ h)
      | [], h => exact h.elim
      | .inl _ :: _, h => exact h.elim
      | .inr (.inl _) :: _, h => exact h.elim
  case ifnonnull off =>
    match ann, hv, h with
    | [], hv, _ => cases hv
    | t :: _, hv, h =>
      have hv2 := Bool.and_eq_true_iff.mp hv
      obtain ⟨hd, rfl⟩ := am_dc_ok hv2.1
      have ht := of_decide_eq_true hv2.2
      match st, h with
      | .inr (.inr none) :: r, h => exact ar_ifnonnullN hd (hgo _ _ _ _ _ _ _ _ _ h)
      | .inr (.inr (some (a, b))) :: r, h => exact ar_ifnonnull hd ht (hgo _ _ _ _ _ _ _ _ _ h)
      | [], h => exact h.elim
      | .inl _ :: _, h => exact h.elim
      | .inr (.inl _) :: _, h => exact h.elim
  case if_acmp c off =>
    match ann, hv, h with
    | [], hv, _ => cases hv
    | t :: _, hv, h =>
      have hv2 := Bool.and_eq_true_iff.mp hv
      obtain ⟨hd, rfl⟩ := am_dc_ok hv2.1
      have ht := of_decide_eq_true hv2.2
      match st, h with
      | .inr (.inr (some (c2, i2))) :: .inr (.inr (some (c1, i1))) :: r, h =>
        obtain ⟨hb, h⟩ := am_cond h
        have hb2 := Bool.and_eq_true_iff.mp hb
        cases c with
        | eq => exact ar_aceq (Nat.blt_eq.mp hb2.1) (Nat.blt_eq.mp hb2.2) hd ht (fun q => hgo _ _ _ _ _ _ _ _ _ (h.1 q)) (fun q => hgo _ _ _ _ _ _ _ _ _ (h.2 q))
        | ne => exact ar_acne (Nat.blt_eq.mp hb2.1) (Nat.blt_eq.mp hb2.2) hd ht (fun q => hgo _ _ _ _ _ _ _ _ _ (h.1 q)) (fun q => hgo _ _ _ _ _ _ _ _ _ (h.2 q))
      | [], h => exact h.elim
      | .inl _ :: _, h => exact h.elim
      | .inr (.inl _) :: _, h => exact h.elim
      | .inr (.inr none) :: _, h => exact h.elim
      | [.inr (.inr (some _))], h => exact h.elim
      | .inr (.inr (some _)) :: .inl _ :: _, h => exact h.elim
      | .inr (.inr (some _)) :: .inr (.inl _) :: _, h => exact h.elim
      | .inr (.inr (some _)) :: .inr (.inr none) :: _, h => exact h.elim
  case dup =>
    obtain ⟨hd, rfl⟩ := am_dc_ok hv
    match st, h with
    | .inl x :: r, h => exact ar_dup (v := .inl x) (fun _ => rfl) hd (hgo _ _ _ _ _ _ _ _ _ h)
    | .inr (.inr x) :: r, h => exact ar_dup (v := .inr (.inr x)) (fun ρ => by obtain _ | ⟨a, b⟩ := x <;> rfl) hd (hgo _ _ _ _ _ _ _ _ _ h)
    | [], h => exact h.elim
    | .inr (.inl _) :: _, h => exact h.elim
  case dup2 =>
    obtain ⟨hd, rfl⟩ := am_dc_ok hv
    match st, h with
    | .inl x :: .inr (.inr y) :: r, h => exact ar_dup2 (v := .inl x) (w := .inr (.inr y)) (fun _ => rfl) (fun ρ => by obtain _ | ⟨a, b⟩ := y <;> rfl) hd (hgo _ _ _ _ _ _ _ _ _ h)
    | [], h => exact h.elim
    | .inr _ :: _, h => exact h.elim
    | [.inl _], h => exact h.elim
    | .inl _ :: .inl _ :: _, h => exact h.elim
    | .inl _ :: .inr (.inl _) :: _, h => exact h.elim
  case pop =>
    obtain ⟨hd, rfl⟩ := am_dc_ok hv
    match st, h with
    | .inl x :: r, h => exact ar_pop (v := .inl x) (fun _ => rfl) hd (hgo _ _ _ _ _ _ _ _ _ h)
    | .inr (.inr x) :: r, h => exact ar_pop (v := .inr (.inr x)) (fun ρ => by obtain _ | ⟨a, b⟩ := x <;> rfl) hd (hgo _ _ _ _ _ _ _ _ _ h)
    | [], h => exact h.elim
    | .inr (.inl _) :: _, h => exact h.elim
  case getfield idx =>
    match ann, hv, h with
    | [], hv, _ => cases hv
    | [_], hv, _ => cases hv
    | [_, _], hv, _ => cases hv
    | c' :: f :: w :: _, hv, h =>
      have hv2 := Bool.and_eq_true_iff.mp hv
      obtain ⟨hd, rfl⟩ := am_dc_ok hv2.1
      obtain ⟨r, hr, hf, hlk⟩ := am_fck_ok hv2.2
      match st, h with
      | .inr (.inr (some (c, i))) :: rest, h =>
        obtain ⟨hb, h⟩ := am_cond h
        have hb2 : c = c' := Nat.eq_of_beq_eq_true hb
        subst hb2
        rcases hs : am_slot c f with ⟨tg, v, t, b⟩
        rw [hs] at h
        match tg, h, hs with
        | 0, h, hs => exact ar_getI hr hf hlk hs hd (hgo _ _ _ _ _ _ _ _ _ h)
        | 1, h, hs => exact ar_getZ hr hf hlk hs hd (hgo _ _ _ _ _ _ _ _ _ h)
        | 2, h, hs => exact ar_getJ hr hf hlk hs hd (hgo _ _ _ _ _ _ _ _ _ h)
        | 3, h, hs =>
          obtain ⟨hin, h⟩ := am_cond h
          exact ar_getS hr hf hlk hs hin hd (hgo _ _ _ _ _ _ _ _ _ (am_sidxK_ok h))
        | 4, h, hs => exact ar_getD hr hf hlk hs hd (fun q => hgo _ _ _ _ _ _ _ _ _ (h.1 q)) (fun b q => hgo _ _ _ _ _ _ _ _ _ (h.2 b q))
        | _ + 5, h, _ => exact h.elim
      | [], h => exact h.elim
      | .inl _ :: _, h => exact h.elim
      | .inr (.inl _) :: _, h => exact h.elim
      | .inr (.inr none) :: _, h => exact h.elim
  case putfield idx =>
    match ann, hv, h with
    | [], hv, _ => cases hv
    | [_], hv, _ => cases hv
    | [_, _], hv, _ => cases hv
    | c' :: f :: w :: _, hv, h =>
      have hv2 := Bool.and_eq_true_iff.mp hv
      obtain ⟨hd, rfl⟩ := am_dc_ok hv2.1
      have hv3 := Bool.and_eq_true_iff.mp hv2.2
      obtain ⟨r, hr, hf, hlk⟩ := am_fck_ok hv3.1
      have hfin := am_pck_ok hr hv3.2
      match st, h with
      | v0 :: .inr (.inr (some (c, i))) :: rest, h =>
        obtain ⟨hb, h⟩ := am_cond h
        have hb2 : c = c' := Nat.eq_of_beq_eq_true hb
        subst hb2
        rcases hs : am_slot c f with ⟨tg, v, t, b⟩
        rw [hs] at h
        match tg, v0, h, hs with
        | 0, .inl x, h, hs => exact ar_putI hr hf hlk hfin hs hd (hgo _ _ _ _ _ _ _ _ _ (am_nmI_ok (am_nmV_ok h)))
        | 1, .inl x, h, hs => exact ar_putZ hr hf hlk hfin hs h.1 hd (hgo _ _ _ _ _ _ _ _ _ (am_nmI_ok (am_nmV_ok h.2)))
        | 2, .inr (.inl x), h, hs => exact ar_putJ hr hf hlk hfin hs hd (hgo _ _ _ _ _ _ _ _ _ h)
        | 3, .inr (.inr (some (t2, b2))), h, hs =>
          obtain ⟨⟨e1, e2⟩, h2⟩ := h
          subst e1
          exact ar_putS hr hf hlk hfin hs e2 hd (hgo _ _ _ _ _ _ _ _ _ h2)
        | 4, .inr (.inr (some (t2, b2))), h, hs =>
          obtain ⟨e1, h2⟩ := h
          subst e1
          exact ar_putD hr hf hlk hfin hs hd (hgo _ _ _ _ _ _ _ _ _ h2)
        | 4, .inr (.inr none), h, hs => exact ar_putN hr hf hlk hfin hs hd (hgo _ _ _ _ _ _ _ _ _ h)
        | 0, .inr _, h, _ => exact h.elim
        | 1, .inr _, h, _ => exact h.elim
        | 2, .inl _, h, _ => exact h.elim
        | 2, .inr (.inr _), h, _ => exact h.elim
        | 3, .inl _, h, _ => exact h.elim
        | 3, .inr (.inl _), h, _ => exact h.elim
        | 3, .inr (.inr none), h, _ => exact h.elim
        | 4, .inl _, h, _ => exact h.elim
        | 4, .inr (.inl _), h, _ => exact h.elim
        | _ + 5, _, h, _ => exact h.elim
      | [], h => exact h.elim
      | [_], h => exact h.elim
      | _ :: .inl _ :: _, h => exact h.elim
      | _ :: .inr (.inl _) :: _, h => exact h.elim
      | _ :: .inr (.inr none) :: _, h => exact h.elim
  case iaload =>
    obtain ⟨hd, rfl⟩ := am_dc_ok hv
    match st, h with
    | .inl j :: .inr (.inr (some (c, i))) :: r, h =>
      rcases hck : am_ck c with ⟨a9, N, v, t, y⟩
      dsimp only [am_hop] at h
      rw [hck] at h
      match a9, h, hck with
      | 0, h, _ => exact h
      | 1, h, hck => exact ar_iald hck h.1.1 h.1.2 hd (hgo _ _ _ _ _ _ _ _ _ h.2)
      | _ + 2, h, _ => exact h
    | [], h => exact h.elim
    | [.inl _], h => exact h.elim
    | .inr _ :: _, h => exact h.elim
    | .inl _ :: .inl _ :: _, h => exact h.elim
    | .inl _ :: .inr (.inl _) :: _, h => exact h.elim
    | .inl _ :: .inr (.inr none) :: _, h => exact h.elim
  case baload =>
    obtain ⟨hd, rfl⟩ := am_dc_ok hv
    match st, h with
    | .inl j :: .inr (.inr (some (c, i))) :: r, h =>
      rcases hck : am_ck c with ⟨a9, N, v, t, y⟩
      dsimp only [am_hop] at h
      rw [hck] at h
      match a9, h, hck with
      | 0, h, _ => exact h.elim
      | 1, h, _ => exact h.elim
      | 2, h, hck =>
        exact ar_zald hck h.1.1 h.1.2 hd (hgo _ _ _ _ _ _ _ _ _ h.2)
      | _ + 3, h, _ => exact h.elim
    | [], h => exact h.elim
    | [.inl _], h => exact h.elim
    | .inr _ :: _, h => exact h.elim
    | .inl _ :: .inl _ :: _, h => exact h.elim
    | .inl _ :: .inr (.inl _) :: _, h => exact h.elim
    | .inl _ :: .inr (.inr none) :: _, h => exact h.elim
  case laload =>
    obtain ⟨hd, rfl⟩ := am_dc_ok hv
    match st, h with
    | .inl j :: .inr (.inr (some (c, i))) :: r, h =>
      rcases hck : am_ck c with ⟨a9, N, v, t, y⟩
      dsimp only [am_hop] at h
      rw [hck] at h
      match a9, h, hck with
      | 0, h, _ => exact h.elim
      | 1, h, _ => exact h.elim
      | 2, h, _ => exact h.elim
      | 3, h, hck =>
        exact ar_lald hck h.1.1 h.1.2 hd (hgo _ _ _ _ _ _ _ _ _ h.2)
      | _ + 4, h, _ => exact h.elim
    | [], h => exact h.elim
    | [.inl _], h => exact h.elim
    | .inr _ :: _, h => exact h.elim
    | .inl _ :: .inl _ :: _, h => exact h.elim
    | .inl _ :: .inr (.inl _) :: _, h => exact h.elim
    | .inl _ :: .inr (.inr none) :: _, h => exact h.elim
  case aaload =>
    obtain ⟨hd, rfl⟩ := am_dc_ok hv
    match st, h with
    | .inl j :: .inr (.inr (some (c, i))) :: r, h =>
      rcases hck : am_ck c with ⟨a9, N, v, t, y⟩
      dsimp only [am_hop] at h
      rw [hck] at h
      match a9, h, hck with
      | 0, h, _ => exact h.elim
      | 1, h, _ => exact h.elim
      | 2, h, _ => exact h.elim
      | 3, h, _ => exact h.elim
      | 4, h, hck =>
        obtain ⟨⟨h0, h1⟩, h⟩ := h
        obtain ⟨hin, h⟩ := am_cond h
        exact ar_aaldS hck h0 h1 hin hd (hgo _ _ _ _ _ _ _ _ _ (am_aidxK_ok h))
      | 5, h, hck =>
        obtain ⟨⟨h0, h1⟩, h2, h3⟩ := h
        cases hR : R v i j.toInt.toNat with
        | none => exact ar_aaldN hck h0 h1 hR hd (hgo _ _ _ _ _ _ _ _ _ (h2 hR))
        | some b => exact ar_aaldD hck h0 h1 hR hd (hgo _ _ _ _ _ _ _ _ _ (h3 b hR))
      | _ + 6, h, _ => exact h.elim
    | [], h => exact h.elim
    | [.inl _], h => exact h.elim
    | .inr _ :: _, h => exact h.elim
    | .inl _ :: .inl _ :: _, h => exact h.elim
    | .inl _ :: .inr (.inl _) :: _, h => exact h.elim
    | .inl _ :: .inr (.inr none) :: _, h => exact h.elim
  case iastore =>
    obtain ⟨hd, rfl⟩ := am_dc_ok hv
    match st, h with
    | .inl x :: .inl j :: .inr (.inr (some (c, i))) :: r, h =>
      rcases hck : am_ck c with ⟨a9, N, v, t, y⟩
      dsimp only [am_hop] at h
      rw [hck] at h
      match a9, h, hck with
      | 0, h, _ => exact h.elim
      | 1, h, hck =>
        exact ar_iast hck h.1.1 h.1.2 hd (hgo _ _ _ _ _ _ _ _ _ (am_nmI_ok (am_nmV_ok h.2)))
      | _ + 2, h, _ => exact h.elim
    | [], h => exact h.elim
    | .inr _ :: _, h => exact h.elim
    | [.inl _], h => exact h.elim
    | .inl _ :: .inr _ :: _, h => exact h.elim
    | [.inl _, .inl _], h => exact h.elim
    | .inl _ :: .inl _ :: .inl _ :: _, h => exact h.elim
    | .inl _ :: .inl _ :: .inr (.inl _) :: _, h => exact h.elim
    | .inl _ :: .inl _ :: .inr (.inr none) :: _, h => exact h.elim
  case bastore =>
    obtain ⟨hd, rfl⟩ := am_dc_ok hv
    match st, h with
    | .inl x :: .inl j :: .inr (.inr (some (c, i))) :: r, h =>
      rcases hck : am_ck c with ⟨a9, N, v, t, y⟩
      dsimp only [am_hop] at h
      rw [hck] at h
      match a9, h, hck with
      | 0, h, _ => exact h.elim
      | 1, h, _ => exact h.elim
      | 2, h, hck =>
        exact ar_zast hck h.1.1 h.1.2 h.2.1 hd (hgo _ _ _ _ _ _ _ _ _ (am_nmI_ok (am_nmV_ok h.2.2)))
      | _ + 3, h, _ => exact h.elim
    | [], h => exact h.elim
    | .inr _ :: _, h => exact h.elim
    | [.inl _], h => exact h.elim
    | .inl _ :: .inr _ :: _, h => exact h.elim
    | [.inl _, .inl _], h => exact h.elim
    | .inl _ :: .inl _ :: .inl _ :: _, h => exact h.elim
    | .inl _ :: .inl _ :: .inr (.inl _) :: _, h => exact h.elim
    | .inl _ :: .inl _ :: .inr (.inr none) :: _, h => exact h.elim
  case lastore =>
    obtain ⟨hd, rfl⟩ := am_dc_ok hv
    match st, h with
    | .inr (.inl x) :: .inl j :: .inr (.inr (some (c, i))) :: r, h =>
      rcases hck : am_ck c with ⟨a9, N, v, t, y⟩
      dsimp only [am_hop] at h
      rw [hck] at h
      match a9, h, hck with
      | 0, h, _ => exact h.elim
      | 1, h, _ => exact h.elim
      | 2, h, _ => exact h.elim
      | 3, h, hck =>
        exact ar_last hck h.1.1 h.1.2 hd (hgo _ _ _ _ _ _ _ _ _ h.2)
      | _ + 4, h, _ => exact h.elim
    | [], h => exact h.elim
    | .inl _ :: _, h => exact h.elim
    | .inr (.inr _) :: _, h => exact h.elim
    | [.inr (.inl _)], h => exact h.elim
    | .inr (.inl _) :: .inr _ :: _, h => exact h.elim
    | [.inr (.inl _), .inl _], h => exact h.elim
    | .inr (.inl _) :: .inl _ :: .inl _ :: _, h => exact h.elim
    | .inr (.inl _) :: .inl _ :: .inr (.inl _) :: _, h => exact h.elim
    | .inr (.inl _) :: .inl _ :: .inr (.inr none) :: _, h => exact h.elim
  case aastore =>
    obtain ⟨hd, rfl⟩ := am_dc_ok hv
    match st, h with
    | .inr (.inr (some (t2, b2))) :: .inl j :: .inr (.inr (some (c, i))) :: r, h =>
      rcases hck : am_ck c with ⟨a9, N, v, t, y⟩
      dsimp only [am_hop] at h
      rw [hck] at h
      match a9, h, hck with
      | 0, h, _ => exact h.elim
      | 1, h, _ => exact h.elim
      | 2, h, _ => exact h.elim
      | 3, h, _ => exact h.elim
      | 4, h, hck =>
        obtain ⟨hy, h⟩ := am_cond h
        obtain ⟨⟨h0, h1⟩, ⟨e1, e2⟩, h2⟩ := h
        subst e1
        exact ar_aastS hck (Nat.blt_eq.mp hy) h0 h1 e2 hd (hgo _ _ _ _ _ _ _ _ _ h2)
      | 5, h, hck =>
        obtain ⟨⟨h0, h1⟩, e1, h2⟩ := h
        subst e1
        exact ar_aastD hck h0 h1 hd (hgo _ _ _ _ _ _ _ _ _ h2)
      | _ + 6, h, _ => exact h.elim
    | [], h => exact h.elim
    | .inl _ :: _, h => exact h.elim
    | .inr (.inl _) :: _, h => exact h.elim
    | .inr (.inr none) :: _, h => exact h.elim
    | [.inr (.inr (some _))], h => exact h.elim
    | .inr (.inr (some _)) :: .inr _ :: _, h => exact h.elim
    | [.inr (.inr (some _)), .inl _], h => exact h.elim
    | .inr (.inr (some _)) :: .inl _ :: .inl _ :: _, h => exact h.elim
    | .inr (.inr (some _)) :: .inl _ :: .inr (.inl _) :: _, h => exact h.elim
    | .inr (.inr (some _)) :: .inl _ :: .inr (.inr none) :: _, h => exact h.elim
  case arraylength =>
    obtain ⟨hd, rfl⟩ := am_dc_ok hv
    match st, h with
    | .inr (.inr (some (c, i))) :: r, h =>
      rcases hck : am_ck c with ⟨a9, N, v, t, y⟩
      dsimp only [am_hop] at h
      rw [hck] at h
      match a9, h, hck with
      | 0, h, _ => exact h.elim
      | a9 + 1, h, hck =>
        have h9 : cond (Nat.blt a9 5) (go k n (pc + 1) L (vI (zI N) :: r) I Lg R G) (am_J Γ M Q d k n pc L (vR c i :: r) I Lg R G) := h
        cases hb : Nat.blt a9 5 with
        | false => rw [hb] at h9; exact h9
        | true => rw [hb] at h9; exact ar_alen hck (Nat.blt_eq.mp hb) hd (hgo _ _ _ _ _ _ _ _ _ h9)
    | [], h => exact h.elim
    | .inl _ :: _, h => exact h.elim
    | .inr (.inl _) :: _, h => exact h.elim
    | .inr (.inr none) :: _, h => exact h.elim
  case tableswitch dflt lo hi offs =>
    match ann, hv, h with
    | [], hv, _ => cases hv
    | dfl :: ks, hv, h =>
      have hv2 := Bool.and_eq_true_iff.mp hv
      have hd := of_decide_eq_true hv2.1
      have hv3 := Bool.and_eq_true_iff.mp hv2.2
      have hdf := of_decide_eq_true hv3.1
      have hv4 := Bool.and_eq_true_iff.mp hv3.2
      have hsz := of_decide_eq_true hv4.1
      match st, h with
      | .inl x :: r, h =>
        by_cases hx : x.toInt < lo ∨ hi < x.toInt
        · exact ar_tsOut hd hx hdf (hgo _ _ _ _ _ _ _ _ _ (h.1 hx))
        · have hx1 : ¬ x.toInt < lo := fun q => hx (Or.inl q)
          have hx2 : ¬ hi < x.toInt := fun q => hx (Or.inr q)
          obtain ⟨off, t, e1, e2, e3⟩ := am_swk_ok hv4.2 h.2 (x.toInt - lo).toNat (by rw [Array.length_toList]; omega) (by omega)
          exact ar_tsIn hd hx1 hx2 (by rw [← Array.getElem?_toList]; exact e1) e2 (hgo _ _ _ _ _ _ _ _ _ e3)
      | [], h => exact h.elim
      | .inr _ :: _, h => exact h.elim
  case invokevirtual idx =>
    match d, ann, hv, h with
    | d9, [], hv, h => cases d9 <;> exact h
    | _, [_], hv, h => cases hv
    | _, [_, _], hv, h => cases hv
    | _, [_, _, _], hv, h => cases hv
    | _, [_, _, _, _], hv, h => cases hv
    | _, [_, _, _, _, _], hv, h => cases hv
    | _, [_, _, _, _, _, _], hv, h => cases hv
    | _, [_, _, _, _, _, _, _], hv, h => cases hv
    | _, [_, _, _, _, _, _, _, _], hv, h => cases hv
    | 0, _ :: _ :: _ :: _ :: _ :: _ :: _ :: _ :: _ :: _, hv, h => exact h
    | d + 1, np :: c' :: k2 :: n2 :: w1 :: w2 :: w3 :: w4 :: w5 :: _, hv, h =>
      have hv2 := Bool.and_eq_true_iff.mp hv
      obtain ⟨hd, rfl⟩ := am_dc_ok hv2.1
      have hv3 := Bool.and_eq_true_iff.mp hv2.2
      have hnp : np = M2.2.2.2.2.2 + 1 := beq_iff_eq.mp hv3.1
      have hv4 := Bool.and_eq_true_iff.mp hv3.2
      have hv5 := Bool.and_eq_true_iff.mp hv4.2
      have hv6 := Bool.and_eq_true_iff.mp hv5.2
      have hv7 := Bool.and_eq_true_iff.mp hv6.2
      have hv8 := Bool.and_eq_true_iff.mp hv7.2
      have hv9 := Bool.and_eq_true_iff.mp hv8.2
      obtain ⟨hkn, h⟩ := am_cond h
      have hkn2 := Bool.and_eq_true_iff.mp hkn
      have hk2 := Nat.le_of_ble_eq_true hkn2.1
      have hn2 := Nat.le_of_ble_eq_true hkn2.2
      obtain ⟨xs, rest, e1, e2, h⟩ := am_pop_ok h
      rw [List.append_nil] at h
      obtain ⟨hct, h⟩ := am_cond h
      generalize hAs : xs.reverse = As at h
      match As, hAs, h with
      | .inr (.inr (some (c, i))) :: As, hAs, h =>
        obtain ⟨hb, h3⟩ := am_cond h
        have hb2 : c = c' := Nat.eq_of_beq_eq_true hb
        subst hb2
        have hvc := hv4.1
        cases hr : vwCl[c]? with
        | none => rw [hr] at hvc; cases hvc
        | some r =>
          rw [hr] at hvc
          have hxs : xs = As.reverse ++ [vR c i] := by rw [← List.reverse_reverse xs, hAs, List.reverse_cons]
          have hln : As.length = M2.2.2.2.2.2 := by have : (xs.reverse).length = np := by rw [List.length_reverse]; exact e2
                                                    rw [hAs, hnp] at this; simpa using this
          have key : am_J Γ M Q (d + 1) (k2 + (k - k2)) (n2 + (n - n2)) pc L st I Lg R G := ar_invV (As := As) (rest := rest) (by rw [e1, hxs]; simp) hr (of_decide_eq_true hvc) (am_mck_ok hv5.1 hv9.2) (am_at_in hv6.1) (am_at_in hv7.1) (am_at_in hv8.1) (am_at_in hv9.1) hln (Nat.le_of_ble_eq_true hct) hd (am_Sp.mono h3 (fun r I' Lg' R' G' hq => by cases r <;> exact hgo _ _ _ _ _ _ _ _ _ hq))
          rw [show k2 + (k - k2) = k by omega, show n2 + (n - n2) = n by omega] at key
          exact key
      | [], _, h => exact h.elim
      | .inl _ :: _, _, h => exact h.elim
      | .inr (.inl _) :: _, _, h => exact h.elim
      | .inr (.inr none) :: _, _, h => exact h.elim
  case invokestatic idx =>
    match d, ann, hv, h with
    | d9, [], hv, h => cases d9 <;> exact h
    | 0, 0 :: _ :: _ :: _ :: _ :: _ :: _ :: _ :: _, hv, h => exact h
    | 0, 1 :: _ :: _ :: _ :: _ :: _, hv, h => exact h
    | 0, 2 :: _ :: _ :: _ :: _ :: _, hv, h => exact h
    | 0, 3 :: _ :: _ :: _ :: _ :: _, hv, h => exact h
    | d9, 9 :: _, hv, h => cases d9 <;> exact h
    | _, [0], hv, h => cases hv
    | _, [0, _], hv, h => cases hv
    | _, [0, _, _], hv, h => cases hv
    | _, [0, _, _, _], hv, h => cases hv
    | _, [0, _, _, _, _], hv, h => cases hv
    | _, [0, _, _, _, _, _], hv, h => cases hv
    | _, [0, _, _, _, _, _, _], hv, h => cases hv
    | _, [1], hv, h => cases hv
    | _, [1, _], hv, h => cases hv
    | _, [1, _, _], hv, h => cases hv
    | _, [1, _, _, _], hv, h => cases hv
    | _, [2], hv, h => cases hv
    | _, [2, _], hv, h => cases hv
    | _, [2, _, _], hv, h => cases hv
    | _, [2, _, _, _], hv, h => cases hv
    | _, [3], hv, h => cases hv
    | _, [3, _], hv, h => cases hv
    | _, [3, _, _], hv, h => cases hv
    | _, [3, _, _, _], hv, h => cases hv
    | _, 4 :: _, hv, h => cases hv
    | _, 5 :: _, hv, h => cases hv
    | _, 6 :: _, hv, h => cases hv
    | _, 7 :: _, hv, h => cases hv
    | _, 8 :: _, hv, h => cases hv
    | _, (_ + 10) :: _, hv, h => cases hv
    | d + 1, 0 :: np :: k2 :: n2 :: w1 :: w2 :: w4 :: w5 :: _, hv, h =>
      have hv2 := Bool.and_eq_true_iff.mp hv
      obtain ⟨hd, rfl⟩ := am_dc_ok hv2.1
      have hv3 := Bool.and_eq_true_iff.mp hv2.2
      have hnp : np = M2.2.2.2.2.2 := beq_iff_eq.mp hv3.1
      have hv5 := Bool.and_eq_true_iff.mp hv3.2
      have hv6 := Bool.and_eq_true_iff.mp hv5.2
      have hv7 := Bool.and_eq_true_iff.mp hv6.2
      have hv9 := Bool.and_eq_true_iff.mp hv7.2
      obtain ⟨hkn, h⟩ := am_cond h
      have hkn2 := Bool.and_eq_true_iff.mp hkn
      have hk2 := Nat.le_of_ble_eq_true hkn2.1
      have hn2 := Nat.le_of_ble_eq_true hkn2.2
      obtain ⟨xs, rest, e1, e2, h⟩ := am_pop_ok h
      rw [List.append_nil] at h
      obtain ⟨hct, h⟩ := am_cond h
      have key : am_J Γ M Q (d + 1) (k2 + (k - k2)) (n2 + (n - n2)) pc L st I Lg R G := ar_invS (As := xs.reverse) (rest := rest) (by rw [e1, List.reverse_reverse]) (am_mck_ok hv5.1 hv9.2) (am_at_in hv6.1) (am_at_in hv7.1) (am_at_in hv9.1) (by rw [List.length_reverse, e2, hnp]) (Nat.le_of_ble_eq_true hct) hd (am_Sp.mono h (fun r I' Lg' R' G' hq => by cases r <;> exact hgo _ _ _ _ _ _ _ _ _ hq))
      rw [show k2 + (k - k2) = k by omega, show n2 + (n - n2) = n by omega] at key
      exact key
    | d + 1, 1 :: w1 :: w2 :: w3 :: w4 :: _, hv, h =>
      have hv2 := Bool.and_eq_true_iff.mp hv
      obtain ⟨hd, rfl⟩ := am_dc_ok hv2.1
      have hv3 := Bool.and_eq_true_iff.mp hv2.2
      have hv4 := Bool.and_eq_true_iff.mp hv3.2
      have hv5 := Bool.and_eq_true_iff.mp hv4.2
      match st, h with
      | .inl y :: .inl x :: r, h =>
        obtain ⟨hct, h⟩ := am_cond h
        exact ar_mmax (am_at_in hv3.1) (am_at_in hv4.1) (am_at_in hv5.1) (am_at_in hv5.2) (Nat.le_of_ble_eq_true hct) hd (hgo _ _ _ _ _ _ _ _ _ h)
      | [], h => exact h.elim
      | [.inl _], h => exact h.elim
      | .inr _ :: _, h => exact h.elim
      | .inl _ :: .inr _ :: _, h => exact h.elim
    | d + 1, 2 :: w1 :: w2 :: w3 :: w4 :: _, hv, h =>
      have hv2 := Bool.and_eq_true_iff.mp hv
      obtain ⟨hd, rfl⟩ := am_dc_ok hv2.1
      have hv3 := Bool.and_eq_true_iff.mp hv2.2
      have hv4 := Bool.and_eq_true_iff.mp hv3.2
      have hv5 := Bool.and_eq_true_iff.mp hv4.2
      match st, h with
      | .inl y :: .inl x :: r, h =>
        obtain ⟨hct, h⟩ := am_cond h
        exact ar_mmin (am_at_in hv3.1) (am_at_in hv4.1) (am_at_in hv5.1) (am_at_in hv5.2) (Nat.le_of_ble_eq_true hct) hd (hgo _ _ _ _ _ _ _ _ _ h)
      | [], h => exact h.elim
      | [.inl _], h => exact h.elim
      | .inr _ :: _, h => exact h.elim
      | .inl _ :: .inr _ :: _, h => exact h.elim
    | d + 1, 3 :: w1 :: w2 :: w3 :: w4 :: _, hv, h =>
      have hv2 := Bool.and_eq_true_iff.mp hv
      obtain ⟨hd, rfl⟩ := am_dc_ok hv2.1
      have hv3 := Bool.and_eq_true_iff.mp hv2.2
      have hv4 := Bool.and_eq_true_iff.mp hv3.2
      have hv5 := Bool.and_eq_true_iff.mp hv4.2
      match st, h with
      | .inl x :: r, h =>
        obtain ⟨hct, h⟩ := am_cond h
        exact ar_mabs (am_at_in hv3.1) (am_at_in hv4.1) (am_at_in hv5.1) (am_at_in hv5.2) (Nat.le_of_ble_eq_true hct) hd (hgo _ _ _ _ _ _ _ _ _ h)
      | [], h => exact h.elim
      | .inr _ :: _, h => exact h.elim
  case invokespecial idx =>
    match d, ann, hv, h with
    | d9, [], hv, h => cases d9 <;> exact h
    | 0, 0 :: _ :: _ :: _ :: _ :: _ :: _ :: _ :: _, hv, h => exact h
    | 0, 1 :: _ :: _ :: _ :: _, hv, h => exact h
    | d9, 2 :: _, hv, h => cases d9 <;> exact h
    | _, [0], hv, h => cases hv
    | _, [0, _], hv, h => cases hv
    | _, [0, _, _], hv, h => cases hv
    | _, [0, _, _, _], hv, h => cases hv
    | _, [0, _, _, _, _], hv, h => cases hv
    | _, [0, _, _, _, _, _], hv, h => cases hv
    | _, [0, _, _, _, _, _, _], hv, h => cases hv
    | _, [1], hv, h => cases hv
    | _, [1, _], hv, h => cases hv
    | _, [1, _, _], hv, h => cases hv
    | _, (_ + 3) :: _, hv, h => cases hv
    | d + 1, 0 :: np :: k2 :: n2 :: w1 :: w2 :: w4 :: w5 :: _, hv, h =>
      have hv2 := Bool.and_eq_true_iff.mp hv
      obtain ⟨hd, rfl⟩ := am_dc_ok hv2.1
      have hv3 := Bool.and_eq_true_iff.mp hv2.2
      have hnp : np = M2.2.2.2.2.2 + 1 := beq_iff_eq.mp hv3.1
      have hv4 := Bool.and_eq_true_iff.mp hv3.2
      have hv5 := Bool.and_eq_true_iff.mp hv4.2
      have hv6 := Bool.and_eq_true_iff.mp hv5.2
      have hv7 := Bool.and_eq_true_iff.mp hv6.2
      have hv8 := Bool.and_eq_true_iff.mp hv7.2
      have hv9 := Bool.and_eq_true_iff.mp hv8.2
      obtain ⟨hkn, h⟩ := am_cond h
      have hkn2 := Bool.and_eq_true_iff.mp hkn
      have hk2 := Nat.le_of_ble_eq_true hkn2.1
      have hn2 := Nat.le_of_ble_eq_true hkn2.2
      obtain ⟨xs, rest, e1, e2, h⟩ := am_pop_ok h
      rw [List.append_nil] at h
      obtain ⟨hct, h⟩ := am_cond h
      generalize hAs : xs.reverse = As at h
      match As, hAs, h with
      | .inr (.inr (some (c, i))) :: As, hAs, h =>
        have hxs : xs = As.reverse ++ [vR c i] := by rw [← List.reverse_reverse xs, hAs, List.reverse_cons]
        have hln : As.length = M2.2.2.2.2.2 := by have : (xs.reverse).length = np := by rw [List.length_reverse]; exact e2
                                                  rw [hAs, hnp] at this; simpa using this
        have key : am_J Γ M Q (d + 1) (k2 + (k - k2)) (n2 + (n - n2)) pc L st I Lg R G := ar_invI (As := As) (rest := rest) (by rw [e1, hxs]; simp) (am_mck_ok hv4.1 hv9.2) (of_decide_eq_true hv5.1) (of_decide_eq_true hv6.1) (am_at_in hv7.1) (am_at_in hv8.1) (am_at_in hv9.1) hln (Nat.le_of_ble_eq_true hct) hd (am_Sp.mono h (fun r I' Lg' R' G' hq => by cases r <;> exact hgo _ _ _ _ _ _ _ _ _ hq))
        rw [show k2 + (k - k2) = k by omega, show n2 + (n - n2) = n by omega] at key
        exact key
      | [], _, h => exact h.elim
      | .inl _ :: _, _, h => exact h.elim
      | .inr (.inl _) :: _, _, h => exact h.elim
      | .inr (.inr none) :: _, _, h => exact h.elim
    | d + 1, 1 :: w1 :: w2 :: w4 :: _, hv, h =>
      have hv2 := Bool.and_eq_true_iff.mp hv
      obtain ⟨hd, rfl⟩ := am_dc_ok hv2.1
      have hv3 := Bool.and_eq_true_iff.mp hv2.2
      have hv4 := Bool.and_eq_true_iff.mp hv3.2
      match st, h with
      | .inr (.inr (some (a, b))) :: r, h =>
        obtain ⟨hct, h⟩ := am_cond h
        exact ar_obj (am_at_in hv3.1) (am_at_in hv4.1) (am_at_in hv4.2) (Nat.le_of_ble_eq_true hct) hd (hgo _ _ _ _ _ _ _ _ _ h)
      | [], h => exact h.elim
      | .inl _ :: _, h => exact h.elim
      | .inr (.inl _) :: _, h => exact h.elim
      | .inr (.inr none) :: _, h => exact h.elim
  case new idx =>
    match k, ann, hv, h with
    | k9, [], _, h => cases k9 <;> exact h
    | _, [_], hv, _ => cases hv
    | _, [_, _], hv, _ => cases hv
    | _, [_, _, _], hv, _ => cases hv
    | _, [_, _, _, _], hv, _ => cases hv
    | 0, _ :: _ :: _ :: _ :: _ :: _, hv, h => exact h
    | k + 1, c :: N :: w1 :: w2 :: w3 :: _, hv, h =>
      have hv2 := Bool.and_eq_true_iff.mp hv
      obtain ⟨hd, rfl⟩ := am_dc_ok hv2.1
      have hvc := hv2.2
      cases hr : vwCl[c]? with
      | none => rw [hr] at hvc; cases hvc
      | some r =>
        rw [hr] at hvc
        have hv3 := Bool.and_eq_true_iff.mp hvc
        have hv4 := Bool.and_eq_true_iff.mp hv3.2
        have hv5 := Bool.and_eq_true_iff.mp hv4.2
        obtain ⟨hN, h⟩ := am_cond h
        have hN1 := Bool.and_eq_true_iff.mp hN
        have hN2 := Nat.le_of_ble_eq_true hN1.1
        have hop : G.1 1000 c 0 = false := by have := hN1.2; simpa using this
        have key : am_J Γ M Q d (k + 1) (n - N + N) pc L st I Lg R G := ar_new hop hr (beq_iff_eq.mp hv3.1) (am_at_in hv4.1) (am_at_in hv5.1) (am_at_in hv5.2) hd (fun z => hgo _ _ _ _ _ _ _ _ _ (h z))
        rw [show n - N + N = n by omega] at key
        exact key
  case newarray ty =>
    match k, st, ann, hv, h with
    | _, _, [], hv, _ => cases hv
    | _, _, [_], hv, _ => cases hv
    | _, _, [_, _], hv, _ => cases hv
    | 0, [], _ :: _ :: _ :: _, hv, h => exact h.elim
    | 0, .inl _ :: _, _ :: _ :: _ :: _, hv, h => exact h.elim
    | 0, .inr _ :: _, _ :: _ :: _ :: _, hv, h => exact h.elim
    | k + 1, [], _ :: _ :: _ :: _, hv, h => exact h.elim
    | k + 1, .inr _ :: _, _ :: _ :: _ :: _, hv, h => exact h.elim
    | k + 1, .inl x :: r, c :: N :: w :: _, hv, h =>
      have hv2 := Bool.and_eq_true_iff.mp hv
      obtain ⟨hd, rfl⟩ := am_dc_ok hv2.1
      have hvc := hv2.2
      obtain ⟨hN, h1⟩ := am_cond h
      have hN1 := Bool.and_eq_true_iff.mp hN
      have hN2 := Nat.le_of_ble_eq_true hN1.1
      have hop : G.1 1000 c 0 = false := by have := hN1.2; simpa using this
      obtain ⟨ex, h2⟩ := h1
      subst ex
      rcases hck : am_ck c with ⟨a9, N9, v, t, y⟩
      rw [hck] at hvc
      match a9, hvc, hck with
      | 0, hvc, _ => cases hvc
      | a9 + 1, hvc, hck =>
        have hv3 := Bool.and_eq_true_iff.mp hvc
        have hv4 := Bool.and_eq_true_iff.mp hv3.2
        have hv5 := Bool.and_eq_true_iff.mp hv4.2
        have hv6 := Bool.and_eq_true_iff.mp hv5.2
        have e1 : N9 = N := beq_iff_eq.mp hv4.1
        subst e1
        have e2 : ty = am_atype a9 := of_decide_eq_true hv6.1
        subst e2
        have key : am_J Γ M Q d (k + 1) (n - N9 + N9) pc L (vI (zI N9) :: r) I Lg R G := ar_newa hop hck (Nat.blt_eq.mp hv3.1) (Nat.le_of_ble_eq_true hv5.1) (am_at_in hv6.2) hd (fun z => hgo _ _ _ _ _ _ _ _ _ (h2 z))
        rw [show n - N9 + N9 = n by omega] at key
        exact key
  case ireturn =>
    match ann, hv, h with
    | [], hv, _ => cases hv
    | (_ + 2) :: _, hv, _ => cases hv
    | 0 :: _, hv, h =>
      have hv2 := Bool.and_eq_true_iff.mp hv
      obtain ⟨hd, -⟩ := am_dc_ok hv2.1
      match st, h with
      | [.inl x], h => exact ar_iret hd (Or.inl (of_decide_eq_true hv2.2)) h
      | [], h => exact h.elim
      | .inr _ :: _, h => exact h.elim
      | .inl _ :: _ :: _, h => exact h.elim
    | 1 :: _, hv, h =>
      have hv2 := Bool.and_eq_true_iff.mp hv
      obtain ⟨hd, -⟩ := am_dc_ok hv2.1
      match st, h with
      | [.inl x], h => exact ar_iret hd (Or.inr ⟨of_decide_eq_true hv2.2, h.1⟩) h.2
      | [], h => exact h.elim
      | .inr _ :: _, h => exact h.elim
      | .inl _ :: _ :: _, h => exact h.elim
  case return_ =>
    have hv2 := Bool.and_eq_true_iff.mp hv
    obtain ⟨hd, -⟩ := am_dc_ok hv2.1
    match st, h with
    | [], h => exact ar_ret hd (of_decide_eq_true hv2.2) h
    | _ :: _, h => exact h.elim
  case lreturn =>
    have hv2 := Bool.and_eq_true_iff.mp hv
    obtain ⟨hd, -⟩ := am_dc_ok hv2.1
    match st, h with
    | [.inr (.inl x)], h => exact ar_lret hd (of_decide_eq_true hv2.2) h
    | [], h => exact h.elim
    | .inl _ :: _, h => exact h.elim
    | .inr (.inr _) :: _, h => exact h.elim
    | .inr (.inl _) :: _ :: _, h => exact h.elim
  case areturn =>
    have hv2 := Bool.and_eq_true_iff.mp hv
    obtain ⟨hd, -⟩ := am_dc_ok hv2.1
    have hv3 := hv2.2
    have hq : ∃ q, M.2.2.2.2.1 = some (.object q) := by
      generalize M.2.2.2.2.1 = rt at hv3
      match rt, hv3 with
      | some (.object q), _ => exact ⟨q, rfl⟩
      | none, hv3 => cases hv3
      | some (.array _), hv3 => cases hv3
      | some .int, hv3 => cases hv3
      | some .long, hv3 => cases hv3
      | some .boolean, hv3 => cases hv3
      | some .byte, hv3 => cases hv3
      | some .short, hv3 => cases hv3
      | some .char, hv3 => cases hv3
      | some .float, hv3 => cases hv3
      | some .double, hv3 => cases hv3
    match st, h with
    | [.inr (.inr x)], h => exact ar_aret hd hq h
    | [], h => exact h.elim
    | .inl _ :: _, h => exact h.elim
    | .inr (.inl _) :: _, h => exact h.elim
    | .inr (.inr _) :: _ :: _, h => exact h.elim
  all_goals exact h
/-- a code table that fits the method's code -/
def am_vld (M : MD) (rows : List (List CE)) (n : Nat) : Bool := am_rowsOk n rows && (List.range n).all (fun pc => am_chk M pc (am_lk am_ce0 rows pc))
theorem am_vld_ok {M : MD} {rows : List (List CE)} {n : Nat} (h : am_vld M rows n = true) (pc : Nat) : am_chk M pc (am_lk am_ce0 rows pc) = true := by
  unfold am_vld at h
  have h2 := Bool.and_eq_true_iff.mp h
  by_cases hp : pc < n
  · exact List.all_eq_true.mp h2.2 pc (List.mem_range.mpr hp)
  · rw [am_lk_out _ _ n pc h2.1 (Nat.not_lt.mp hp)]
    rfl
/-- THE WALK IS SOUND -/
theorem am_goA {Γ : AMG} {M : MD} {Q : QQ} {nm : Bool} {rows : List (List CE)} (hv : ∀ pc, am_chk M pc (am_lk am_ce0 rows pc) = true) : ∀ (f : Nat) {d k n pc : Nat} {L : LL} {st : List AV} {I : II} {Lg : LJ} {R : RR} {G : GG}, am_adv Γ M rows Q nm d f k n pc L st I Lg R G → am_J Γ M Q d k n pc L st I Lg R G
  | 0, _, _, _, _, _, _, _, _, _, _, h => h
  | f + 1, d, k, n, pc, L, st, I, Lg, R, G, h => by
    have h2 : am_hop Γ M Q nm d pc (am_lk am_ce0 rows pc) (fun k2 n2 pc2 L2 st2 I2 Lg2 R2 G2 => cond (am_lk am_ce0 rows pc2).2.2.1 (am_J Γ M Q d k2 n2 pc2 L2 st2 I2 Lg2 R2 G2) (am_adv Γ M rows Q nm d f k2 n2 pc2 L2 st2 I2 Lg2 R2 G2)) k n L st I Lg R G := h
    refine am_hop_ok (hv pc) (fun k2 n2 pc2 L2 st2 I2 Lg2 R2 G2 h3 => ?_) h2
    cases hb : (am_lk am_ce0 rows pc2).2.2.1 with
    | false => rw [hb] at h3; exact am_goA hv f h3
    | true => rw [hb] at h3; exact h3
theorem am_go {Γ : AMG} {M : MD} {Q : QQ} {rows : List (List CE)} (hv : ∀ pc, am_chk M pc (am_lk am_ce0 rows pc) = true) (f : Nat) {d k n pc : Nat} {L : LL} {st : List AV} {I : II} {Lg : LJ} {R : RR} {G : GG} (h : am_adv Γ M rows Q false d f k n pc L st I Lg R G) : am_J Γ M Q d k n pc L st I Lg R G := am_goA hv f h
/-- the walk that names what it stores -/
theorem am_goN {Γ : AMG} {M : MD} {Q : QQ} {rows : List (List CE)} (hv : ∀ pc, am_chk M pc (am_lk am_ce0 rows pc) = true) (f : Nat) {d k n pc : Nat} {L : LL} {st : List AV} {I : II} {Lg : LJ} {R : RR} {G : GG} (h : am_adv Γ M rows Q true d f k n pc L st I Lg R G) : am_J Γ M Q d k n pc L st I Lg R G := am_goA hv f h
/-- a contract, by the walk from the entry -/
theorem am_run {Γ : AMG} {M : MD} {Q : QQ} {rows : List (List CE)} {d k n : Nat} {args : List AV} {I : II} {Lg : LJ} {R : RR} {G : GG} (hv : ∀ pc, am_chk M pc (am_lk am_ce0 rows pc) = true) (f : Nat) (L : LL) (hL : am_pad M.2.2.2.1 (am_slots args) = L) (hpl : plainName M.2.1.cls = true) (hown : M.2.1.cls = M.1) (hlen : Nat.ble (am_slots args).length M.2.2.2.1 = true) (h : am_adv Γ M rows Q false d f k n 0 L [] I Lg R G) : am_Sp Γ d k n M args I Lg R G Q :=
  am_Sp.of hpl hown (Nat.le_of_ble_eq_true hlen) (by rw [hL]; exact am_goA hv f h)
theorem am_runN {Γ : AMG} {M : MD} {Q : QQ} {rows : List (List CE)} {d k n : Nat} {args : List AV} {I : II} {Lg : LJ} {R : RR} {G : GG} (hv : ∀ pc, am_chk M pc (am_lk am_ce0 rows pc) = true) (f : Nat) (L : LL) (hL : am_pad M.2.2.2.1 (am_slots args) = L) (hpl : plainName M.2.1.cls = true) (hown : M.2.1.cls = M.1) (hlen : Nat.ble (am_slots args).length M.2.2.2.1 = true) (h : am_adv Γ M rows Q true d f k n 0 L [] I Lg R G) : am_Sp Γ d k n M args I Lg R G Q :=
  am_Sp.of hpl hown (Nat.le_of_ble_eq_true hlen) (by rw [hL]; exact am_goA hv f h)
end
