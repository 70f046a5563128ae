-- ===== PART A: goes FIRST, ahead of the names: the tables' words, and 'selects' of the private methods out of them =====
/-- a private method of a class that the tables say can be made, by its rows of tables_1 -/
def lw_okq (q : MethodName × Nat) : Prop := (q.1.cls ≠ "java/lang/invoke/MethodHandle" ∧ q.1.cls ≠ "java/lang/invoke/VarHandle") ∧ Cond.instantiable q.1.cls q.2 ∈ tables_1 ∧ Cond.privateMethod q.1 ∈ tables_1 ∧ Cond.instanceMethod q.1 ∈ tables_1
theorem lw_p0 : lw_okq (⟨"StarEye$Text", "sortOf", "(I)I"⟩, 13) := ⟨⟨by decide +kernel, by decide +kernel⟩, List.mem_of_getElem? (i := 31) (by decide +kernel), List.mem_of_getElem? (i := 564) (by decide +kernel), List.mem_of_getElem? (i := 565) (by decide +kernel)⟩
theorem lw_p1 : lw_okq (⟨"StarEye$Text", "ownWord", "()I"⟩, 13) := ⟨⟨by decide +kernel, by decide +kernel⟩, List.mem_of_getElem? (i := 31) (by decide +kernel), List.mem_of_getElem? (i := 568) (by decide +kernel), List.mem_of_getElem? (i := 569) (by decide +kernel)⟩
theorem lw_p2 : lw_okq (⟨"StarEye$BookReader", "readLine", "(LStarEye$Text;LStarEye$Book;)Z"⟩, 1) := ⟨⟨by decide +kernel, by decide +kernel⟩, List.mem_of_getElem? (i := 145) (by decide +kernel), List.mem_of_getElem? (i := 572) (by decide +kernel), List.mem_of_getElem? (i := 573) (by decide +kernel)⟩
theorem lw_p3 : lw_okq (⟨"StarEye$BookReader", "readStar", "(LStarEye$Text;LStarEye$Book;)Z"⟩, 1) := ⟨⟨by decide +kernel, by decide +kernel⟩, List.mem_of_getElem? (i := 145) (by decide +kernel), List.mem_of_getElem? (i := 584) (by decide +kernel), List.mem_of_getElem? (i := 585) (by decide +kernel)⟩
theorem lw_p4 : lw_okq (⟨"StarEye$BookReader", "readEye", "(LStarEye$Text;LStarEye$Book;)Z"⟩, 1) := ⟨⟨by decide +kernel, by decide +kernel⟩, List.mem_of_getElem? (i := 145) (by decide +kernel), List.mem_of_getElem? (i := 618) (by decide +kernel), List.mem_of_getElem? (i := 619) (by decide +kernel)⟩
theorem lw_p5 : lw_okq (⟨"StarEye$BookReader", "readNoise", "(LStarEye$Text;LStarEye$Book;)Z"⟩, 1) := ⟨⟨by decide +kernel, by decide +kernel⟩, List.mem_of_getElem? (i := 145) (by decide +kernel), List.mem_of_getElem? (i := 622) (by decide +kernel), List.mem_of_getElem? (i := 623) (by decide +kernel)⟩
theorem lw_p6 : lw_okq (⟨"StarEye$BookReader", "readOff", "(LStarEye$Text;LStarEye$Book;)Z"⟩, 1) := ⟨⟨by decide +kernel, by decide +kernel⟩, List.mem_of_getElem? (i := 145) (by decide +kernel), List.mem_of_getElem? (i := 626) (by decide +kernel), List.mem_of_getElem? (i := 627) (by decide +kernel)⟩
theorem lw_p7 : lw_okq (⟨"StarEye$BookReader", "readBar", "(LStarEye$Text;LStarEye$Book;)Z"⟩, 1) := ⟨⟨by decide +kernel, by decide +kernel⟩, List.mem_of_getElem? (i := 145) (by decide +kernel), List.mem_of_getElem? (i := 630) (by decide +kernel), List.mem_of_getElem? (i := 631) (by decide +kernel)⟩
theorem lw_p8 : lw_okq (⟨"StarEye$BookReader", "readStep", "(LStarEye$Text;LStarEye$Book;)Z"⟩, 1) := ⟨⟨by decide +kernel, by decide +kernel⟩, List.mem_of_getElem? (i := 145) (by decide +kernel), List.mem_of_getElem? (i := 634) (by decide +kernel), List.mem_of_getElem? (i := 635) (by decide +kernel)⟩
theorem lw_p9 : lw_okq (⟨"StarEye$BookReader", "readLean", "(LStarEye$Text;LStarEye$Book;)Z"⟩, 1) := ⟨⟨by decide +kernel, by decide +kernel⟩, List.mem_of_getElem? (i := 145) (by decide +kernel), List.mem_of_getElem? (i := 638) (by decide +kernel), List.mem_of_getElem? (i := 639) (by decide +kernel)⟩
theorem lw_p10 : lw_okq (⟨"StarEye$BookReader", "readRoom", "(LStarEye$Text;LStarEye$Book;)Z"⟩, 1) := ⟨⟨by decide +kernel, by decide +kernel⟩, List.mem_of_getElem? (i := 145) (by decide +kernel), List.mem_of_getElem? (i := 650) (by decide +kernel), List.mem_of_getElem? (i := 651) (by decide +kernel)⟩
theorem lw_p11 : lw_okq (⟨"StarEye$PictureReader", "readRows", "(LStarEye$Text;I)Z"⟩, 11) := ⟨⟨by decide +kernel, by decide +kernel⟩, List.mem_of_getElem? (i := 155) (by decide +kernel), List.mem_of_getElem? (i := 690) (by decide +kernel), List.mem_of_getElem? (i := 691) (by decide +kernel)⟩
theorem lw_p12 : lw_okq (⟨"StarEye$PictureReader", "gather", "(ILStarEye$Picture;)V"⟩, 11) := ⟨⟨by decide +kernel, by decide +kernel⟩, List.mem_of_getElem? (i := 155) (by decide +kernel), List.mem_of_getElem? (i := 769) (by decide +kernel), List.mem_of_getElem? (i := 770) (by decide +kernel)⟩
theorem lw_p13 : lw_okq (⟨"StarEye$PictureReader", "reach", "(II)V"⟩, 11) := ⟨⟨by decide +kernel, by decide +kernel⟩, List.mem_of_getElem? (i := 155) (by decide +kernel), List.mem_of_getElem? (i := 773) (by decide +kernel), List.mem_of_getElem? (i := 774) (by decide +kernel)⟩
theorem lw_p14 : lw_okq (⟨"StarEye$Picture", "isAhead", "(IIII)Z"⟩, 13) := ⟨⟨by decide +kernel, by decide +kernel⟩, List.mem_of_getElem? (i := 700) (by decide +kernel), List.mem_of_getElem? (i := 788) (by decide +kernel), List.mem_of_getElem? (i := 789) (by decide +kernel)⟩
theorem lw_p15 : lw_okq (⟨"StarEye$RulesReader", "readRule", "(LStarEye$Text;LStarEye$Rules;)Z"⟩, 0) := ⟨⟨by decide +kernel, by decide +kernel⟩, List.mem_of_getElem? (i := 196) (by decide +kernel), List.mem_of_getElem? (i := 814) (by decide +kernel), List.mem_of_getElem? (i := 815) (by decide +kernel)⟩
def lw_privs_1 : List (MethodName × Nat) := [(⟨"StarEye$Text", "sortOf", "(I)I"⟩, 13), (⟨"StarEye$Text", "ownWord", "()I"⟩, 13), (⟨"StarEye$BookReader", "readLine", "(LStarEye$Text;LStarEye$Book;)Z"⟩, 1), (⟨"StarEye$BookReader", "readStar", "(LStarEye$Text;LStarEye$Book;)Z"⟩, 1), (⟨"StarEye$BookReader", "readEye", "(LStarEye$Text;LStarEye$Book;)Z"⟩, 1), (⟨"StarEye$BookReader", "readNoise", "(LStarEye$Text;LStarEye$Book;)Z"⟩, 1), (⟨"StarEye$BookReader", "readOff", "(LStarEye$Text;LStarEye$Book;)Z"⟩, 1), (⟨"StarEye$BookReader", "readBar", "(LStarEye$Text;LStarEye$Book;)Z"⟩, 1), (⟨"StarEye$BookReader", "readStep", "(LStarEye$Text;LStarEye$Book;)Z"⟩, 1), (⟨"StarEye$BookReader", "readLean", "(LStarEye$Text;LStarEye$Book;)Z"⟩, 1), (⟨"StarEye$BookReader", "readRoom", "(LStarEye$Text;LStarEye$Book;)Z"⟩, 1), (⟨"StarEye$PictureReader", "readRows", "(LStarEye$Text;I)Z"⟩, 11), (⟨"StarEye$PictureReader", "gather", "(ILStarEye$Picture;)V"⟩, 11), (⟨"StarEye$PictureReader", "reach", "(II)V"⟩, 11), (⟨"StarEye$Picture", "isAhead", "(IIII)Z"⟩, 13), (⟨"StarEye$RulesReader", "readRule", "(LStarEye$Text;LStarEye$Rules;)Z"⟩, 0)]
theorem lw_r1 : ∀ q ∈ lw_privs_1, lw_okq q := List.forall_mem_cons.mpr ⟨lw_p0, List.forall_mem_cons.mpr ⟨lw_p1, List.forall_mem_cons.mpr ⟨lw_p2, List.forall_mem_cons.mpr ⟨lw_p3, List.forall_mem_cons.mpr ⟨lw_p4, List.forall_mem_cons.mpr ⟨lw_p5, List.forall_mem_cons.mpr ⟨lw_p6, List.forall_mem_cons.mpr ⟨lw_p7, List.forall_mem_cons.mpr ⟨lw_p8, List.forall_mem_cons.mpr ⟨lw_p9, List.forall_mem_cons.mpr ⟨lw_p10, List.forall_mem_cons.mpr ⟨lw_p11, List.forall_mem_cons.mpr ⟨lw_p12, List.forall_mem_cons.mpr ⟨lw_p13, List.forall_mem_cons.mpr ⟨lw_p14, List.forall_mem_cons.mpr ⟨lw_p15, fun _ h => absurd h List.not_mem_nil⟩⟩⟩⟩⟩⟩⟩⟩⟩⟩⟩⟩⟩⟩⟩⟩
theorem lw_p16 : lw_okq (⟨"StarEye$RulesReader", "readEither", "(LStarEye$Text;LStarEye$Rules;I)Z"⟩, 0) := ⟨⟨by decide +kernel, by decide +kernel⟩, List.mem_of_getElem? (i := 196) (by decide +kernel), List.mem_of_getElem? (i := 821) (by decide +kernel), List.mem_of_getElem? (i := 822) (by decide +kernel)⟩
theorem lw_p17 : lw_okq (⟨"StarEye$RulesReader", "readBoth", "(LStarEye$Text;LStarEye$Rules;I)Z"⟩, 0) := ⟨⟨by decide +kernel, by decide +kernel⟩, List.mem_of_getElem? (i := 196) (by decide +kernel), List.mem_of_getElem? (i := 825) (by decide +kernel), List.mem_of_getElem? (i := 826) (by decide +kernel)⟩
theorem lw_p18 : lw_okq (⟨"StarEye$RulesReader", "readOne", "(LStarEye$Text;LStarEye$Rules;I)Z"⟩, 0) := ⟨⟨by decide +kernel, by decide +kernel⟩, List.mem_of_getElem? (i := 196) (by decide +kernel), List.mem_of_getElem? (i := 829) (by decide +kernel), List.mem_of_getElem? (i := 830) (by decide +kernel)⟩
theorem lw_p19 : lw_okq (⟨"StarEye$RulesReader", "readSum", "(LStarEye$Text;LStarEye$Rules;I)Z"⟩, 0) := ⟨⟨by decide +kernel, by decide +kernel⟩, List.mem_of_getElem? (i := 196) (by decide +kernel), List.mem_of_getElem? (i := 839) (by decide +kernel), List.mem_of_getElem? (i := 840) (by decide +kernel)⟩
theorem lw_p20 : lw_okq (⟨"StarEye$RulesReader", "readUnit", "(LStarEye$Text;LStarEye$Rules;I)Z"⟩, 0) := ⟨⟨by decide +kernel, by decide +kernel⟩, List.mem_of_getElem? (i := 196) (by decide +kernel), List.mem_of_getElem? (i := 843) (by decide +kernel), List.mem_of_getElem? (i := 844) (by decide +kernel)⟩
theorem lw_p21 : lw_okq (⟨"StarEye$Story", "isSpeckless", "(II)Z"⟩, 8) := ⟨⟨by decide +kernel, by decide +kernel⟩, List.mem_of_getElem? (i := 314) (by decide +kernel), List.mem_of_getElem? (i := 884) (by decide +kernel), List.mem_of_getElem? (i := 885) (by decide +kernel)⟩
theorem lw_p22 : lw_okq (⟨"StarEye$Story", "stays", "(III)Z"⟩, 8) := ⟨⟨by decide +kernel, by decide +kernel⟩, List.mem_of_getElem? (i := 314) (by decide +kernel), List.mem_of_getElem? (i := 906) (by decide +kernel), List.mem_of_getElem? (i := 907) (by decide +kernel)⟩
theorem lw_p23 : lw_okq (⟨"StarEye", "kindOf", "(LStarEye$Picture;II)I"⟩, 15) := ⟨⟨by decide +kernel, by decide +kernel⟩, List.mem_of_getElem? (i := 23) (by decide +kernel), List.mem_of_getElem? (i := 925) (by decide +kernel), List.mem_of_getElem? (i := 926) (by decide +kernel)⟩
theorem lw_p24 : lw_okq (⟨"StarEye", "knownAndNamed", "(II)LStarEye$Picture;"⟩, 15) := ⟨⟨by decide +kernel, by decide +kernel⟩, List.mem_of_getElem? (i := 23) (by decide +kernel), List.mem_of_getElem? (i := 953) (by decide +kernel), List.mem_of_getElem? (i := 954) (by decide +kernel)⟩
theorem lw_p25 : lw_okq (⟨"StarEye$Namer", "place", "(LStarEye$Picture;LStarEye$Book;)V"⟩, 6) := ⟨⟨by decide +kernel, by decide +kernel⟩, List.mem_of_getElem? (i := 255) (by decide +kernel), List.mem_of_getElem? (i := 961) (by decide +kernel), List.mem_of_getElem? (i := 962) (by decide +kernel)⟩
theorem lw_p26 : lw_okq (⟨"StarEye$Namer", "findFits", "(LStarEye$Picture;IILStarEye$Book;)V"⟩, 6) := ⟨⟨by decide +kernel, by decide +kernel⟩, List.mem_of_getElem? (i := 255) (by decide +kernel), List.mem_of_getElem? (i := 968) (by decide +kernel), List.mem_of_getElem? (i := 969) (by decide +kernel)⟩
theorem lw_p27 : lw_okq (⟨"StarEye$Namer", "nameFrom", "(IILStarEye$Picture;LStarEye$Book;)V"⟩, 6) := ⟨⟨by decide +kernel, by decide +kernel⟩, List.mem_of_getElem? (i := 255) (by decide +kernel), List.mem_of_getElem? (i := 981) (by decide +kernel), List.mem_of_getElem? (i := 982) (by decide +kernel)⟩
theorem lw_p28 : lw_okq (⟨"StarEye$Namer", "packed", "()J"⟩, 6) := ⟨⟨by decide +kernel, by decide +kernel⟩, List.mem_of_getElem? (i := 255) (by decide +kernel), List.mem_of_getElem? (i := 985) (by decide +kernel), List.mem_of_getElem? (i := 986) (by decide +kernel)⟩
theorem lw_p29 : lw_okq (⟨"StarEye$Namer", "openStars", "(ILStarEye$Book;)I"⟩, 6) := ⟨⟨by decide +kernel, by decide +kernel⟩, List.mem_of_getElem? (i := 255) (by decide +kernel), List.mem_of_getElem? (i := 994) (by decide +kernel), List.mem_of_getElem? (i := 995) (by decide +kernel)⟩
theorem lw_p30 : lw_okq (⟨"StarEye$Namer", "liesAlike", "(IILStarEye$Book;)Z"⟩, 6) := ⟨⟨by decide +kernel, by decide +kernel⟩, List.mem_of_getElem? (i := 255) (by decide +kernel), List.mem_of_getElem? (i := 1003) (by decide +kernel), List.mem_of_getElem? (i := 1004) (by decide +kernel)⟩
theorem lw_p31 : lw_okq (⟨"StarEye$Namer", "pointSide", "(III)I"⟩, 6) := ⟨⟨by decide +kernel, by decide +kernel⟩, List.mem_of_getElem? (i := 255) (by decide +kernel), List.mem_of_getElem? (i := 1007) (by decide +kernel), List.mem_of_getElem? (i := 1008) (by decide +kernel)⟩
def lw_privs_2 : List (MethodName × Nat) := [(⟨"StarEye$RulesReader", "readEither", "(LStarEye$Text;LStarEye$Rules;I)Z"⟩, 0), (⟨"StarEye$RulesReader", "readBoth", "(LStarEye$Text;LStarEye$Rules;I)Z"⟩, 0), (⟨"StarEye$RulesReader", "readOne", "(LStarEye$Text;LStarEye$Rules;I)Z"⟩, 0), (⟨"StarEye$RulesReader", "readSum", "(LStarEye$Text;LStarEye$Rules;I)Z"⟩, 0), (⟨"StarEye$RulesReader", "readUnit", "(LStarEye$Text;LStarEye$Rules;I)Z"⟩, 0), (⟨"StarEye$Story", "isSpeckless", "(II)Z"⟩, 8), (⟨"StarEye$Story", "stays", "(III)Z"⟩, 8), (⟨"StarEye", "kindOf", "(LStarEye$Picture;II)I"⟩, 15), (⟨"StarEye", "knownAndNamed", "(II)LStarEye$Picture;"⟩, 15), (⟨"StarEye$Namer", "place", "(LStarEye$Picture;LStarEye$Book;)V"⟩, 6), (⟨"StarEye$Namer", "findFits", "(LStarEye$Picture;IILStarEye$Book;)V"⟩, 6), (⟨"StarEye$Namer", "nameFrom", "(IILStarEye$Picture;LStarEye$Book;)V"⟩, 6), (⟨"StarEye$Namer", "packed", "()J"⟩, 6), (⟨"StarEye$Namer", "openStars", "(ILStarEye$Book;)I"⟩, 6), (⟨"StarEye$Namer", "liesAlike", "(IILStarEye$Book;)Z"⟩, 6), (⟨"StarEye$Namer", "pointSide", "(III)I"⟩, 6)]
theorem lw_r2 : ∀ q ∈ lw_privs_2, lw_okq q := List.forall_mem_cons.mpr ⟨lw_p16, List.forall_mem_cons.mpr ⟨lw_p17, List.forall_mem_cons.mpr ⟨lw_p18, List.forall_mem_cons.mpr ⟨lw_p19, List.forall_mem_cons.mpr ⟨lw_p20, List.forall_mem_cons.mpr ⟨lw_p21, List.forall_mem_cons.mpr ⟨lw_p22, List.forall_mem_cons.mpr ⟨lw_p23, List.forall_mem_cons.mpr ⟨lw_p24, List.forall_mem_cons.mpr ⟨lw_p25, List.forall_mem_cons.mpr ⟨lw_p26, List.forall_mem_cons.mpr ⟨lw_p27, List.forall_mem_cons.mpr ⟨lw_p28, List.forall_mem_cons.mpr ⟨lw_p29, List.forall_mem_cons.mpr ⟨lw_p30, List.forall_mem_cons.mpr ⟨lw_p31, fun _ h => absurd h List.not_mem_nil⟩⟩⟩⟩⟩⟩⟩⟩⟩⟩⟩⟩⟩⟩⟩⟩
theorem lw_p32 : lw_okq (⟨"StarEye", "toldOf", "(LStarEye$Picture;)I"⟩, 15) := ⟨⟨by decide +kernel, by decide +kernel⟩, List.mem_of_getElem? (i := 23) (by decide +kernel), List.mem_of_getElem? (i := 1064) (by decide +kernel), List.mem_of_getElem? (i := 1065) (by decide +kernel)⟩
theorem lw_p33 : lw_okq (⟨"StarEye", "findTurn", "(III)Z"⟩, 15) := ⟨⟨by decide +kernel, by decide +kernel⟩, List.mem_of_getElem? (i := 23) (by decide +kernel), List.mem_of_getElem? (i := 1072) (by decide +kernel), List.mem_of_getElem? (i := 1073) (by decide +kernel)⟩
theorem lw_p34 : lw_okq (⟨"StarEye$Turn", "clear", "()V"⟩, 8) := ⟨⟨by decide +kernel, by decide +kernel⟩, List.mem_of_getElem? (i := 280) (by decide +kernel), List.mem_of_getElem? (i := 1080) (by decide +kernel), List.mem_of_getElem? (i := 1081) (by decide +kernel)⟩
theorem lw_p35 : lw_okq (⟨"StarEye$Turn", "addPair", "(IIII)V"⟩, 8) := ⟨⟨by decide +kernel, by decide +kernel⟩, List.mem_of_getElem? (i := 280) (by decide +kernel), List.mem_of_getElem? (i := 1094) (by decide +kernel), List.mem_of_getElem? (i := 1095) (by decide +kernel)⟩
theorem lw_p36 : lw_okq (⟨"StarEye", "followAll", "(LStarEye$Picture;ILStarEye$Picture;III)I"⟩, 15) := ⟨⟨by decide +kernel, by decide +kernel⟩, List.mem_of_getElem? (i := 23) (by decide +kernel), List.mem_of_getElem? (i := 1132) (by decide +kernel), List.mem_of_getElem? (i := 1133) (by decide +kernel)⟩
theorem lw_p37 : lw_okq (⟨"StarEye$Survey", "lookFrom", "(LStarEye$Book;II)V"⟩, 14) := ⟨⟨by decide +kernel, by decide +kernel⟩, List.mem_of_getElem? (i := 203) (by decide +kernel), List.mem_of_getElem? (i := 1171) (by decide +kernel), List.mem_of_getElem? (i := 1172) (by decide +kernel)⟩
theorem lw_p38 : lw_okq (⟨"StarEye$Survey", "addWant", "(II)V"⟩, 14) := ⟨⟨by decide +kernel, by decide +kernel⟩, List.mem_of_getElem? (i := 203) (by decide +kernel), List.mem_of_getElem? (i := 1181) (by decide +kernel), List.mem_of_getElem? (i := 1182) (by decide +kernel)⟩
theorem lw_p39 : lw_okq (⟨"StarEye$Survey", "chooseBelow", "(III)Z"⟩, 14) := ⟨⟨by decide +kernel, by decide +kernel⟩, List.mem_of_getElem? (i := 203) (by decide +kernel), List.mem_of_getElem? (i := 1194) (by decide +kernel), List.mem_of_getElem? (i := 1195) (by decide +kernel)⟩
theorem lw_p40 : lw_okq (⟨"StarEye$Survey", "canMeet", "(III)Z"⟩, 14) := ⟨⟨by decide +kernel, by decide +kernel⟩, List.mem_of_getElem? (i := 203) (by decide +kernel), List.mem_of_getElem? (i := 1198) (by decide +kernel), List.mem_of_getElem? (i := 1199) (by decide +kernel)⟩
theorem lw_p41 : lw_okq (⟨"StarEye$Survey", "orderByLight", "(LStarEye$Book;)V"⟩, 14) := ⟨⟨by decide +kernel, by decide +kernel⟩, List.mem_of_getElem? (i := 203) (by decide +kernel), List.mem_of_getElem? (i := 1211) (by decide +kernel), List.mem_of_getElem? (i := 1212) (by decide +kernel)⟩
theorem lw_p42 : lw_okq (⟨"StarEye$Survey", "countBytes", "(LStarEye$Book;)V"⟩, 14) := ⟨⟨by decide +kernel, by decide +kernel⟩, List.mem_of_getElem? (i := 203) (by decide +kernel), List.mem_of_getElem? (i := 1219) (by decide +kernel), List.mem_of_getElem? (i := 1220) (by decide +kernel)⟩
theorem lw_p43 : lw_okq (⟨"StarEye", "trustOf", "(II)I"⟩, 15) := ⟨⟨by decide +kernel, by decide +kernel⟩, List.mem_of_getElem? (i := 23) (by decide +kernel), List.mem_of_getElem? (i := 1244) (by decide +kernel), List.mem_of_getElem? (i := 1245) (by decide +kernel)⟩
theorem lw_p44 : lw_okq (⟨"StarEye$Rules", "worthOf", "(II[I)I"⟩, 7) := ⟨⟨by decide +kernel, by decide +kernel⟩, List.mem_of_getElem? (i := 450) (by decide +kernel), List.mem_of_getElem? (i := 1252) (by decide +kernel), List.mem_of_getElem? (i := 1253) (by decide +kernel)⟩
theorem lw_p45 : lw_okq (⟨"StarEye$Rules", "push", "(II[I)I"⟩, 7) := ⟨⟨by decide +kernel, by decide +kernel⟩, List.mem_of_getElem? (i := 450) (by decide +kernel), List.mem_of_getElem? (i := 1256) (by decide +kernel), List.mem_of_getElem? (i := 1257) (by decide +kernel)⟩
theorem lw_p46 : lw_okq (⟨"StarEye$Rules", "turnOver", "(I)V"⟩, 7) := ⟨⟨by decide +kernel, by decide +kernel⟩, List.mem_of_getElem? (i := 450) (by decide +kernel), List.mem_of_getElem? (i := 1260) (by decide +kernel), List.mem_of_getElem? (i := 1261) (by decide +kernel)⟩
theorem lw_p47 : lw_okq (⟨"StarEye$Rules", "join", "(II)I"⟩, 7) := ⟨⟨by decide +kernel, by decide +kernel⟩, List.mem_of_getElem? (i := 450) (by decide +kernel), List.mem_of_getElem? (i := 1264) (by decide +kernel), List.mem_of_getElem? (i := 1265) (by decide +kernel)⟩
def lw_privs_3 : List (MethodName × Nat) := [(⟨"StarEye", "toldOf", "(LStarEye$Picture;)I"⟩, 15), (⟨"StarEye", "findTurn", "(III)Z"⟩, 15), (⟨"StarEye$Turn", "clear", "()V"⟩, 8), (⟨"StarEye$Turn", "addPair", "(IIII)V"⟩, 8), (⟨"StarEye", "followAll", "(LStarEye$Picture;ILStarEye$Picture;III)I"⟩, 15), (⟨"StarEye$Survey", "lookFrom", "(LStarEye$Book;II)V"⟩, 14), (⟨"StarEye$Survey", "addWant", "(II)V"⟩, 14), (⟨"StarEye$Survey", "chooseBelow", "(III)Z"⟩, 14), (⟨"StarEye$Survey", "canMeet", "(III)Z"⟩, 14), (⟨"StarEye$Survey", "orderByLight", "(LStarEye$Book;)V"⟩, 14), (⟨"StarEye$Survey", "countBytes", "(LStarEye$Book;)V"⟩, 14), (⟨"StarEye", "trustOf", "(II)I"⟩, 15), (⟨"StarEye$Rules", "worthOf", "(II[I)I"⟩, 7), (⟨"StarEye$Rules", "push", "(II[I)I"⟩, 7), (⟨"StarEye$Rules", "turnOver", "(I)V"⟩, 7), (⟨"StarEye$Rules", "join", "(II)I"⟩, 7)]
theorem lw_r3 : ∀ q ∈ lw_privs_3, lw_okq q := List.forall_mem_cons.mpr ⟨lw_p32, List.forall_mem_cons.mpr ⟨lw_p33, List.forall_mem_cons.mpr ⟨lw_p34, List.forall_mem_cons.mpr ⟨lw_p35, List.forall_mem_cons.mpr ⟨lw_p36, List.forall_mem_cons.mpr ⟨lw_p37, List.forall_mem_cons.mpr ⟨lw_p38, List.forall_mem_cons.mpr ⟨lw_p39, List.forall_mem_cons.mpr ⟨lw_p40, List.forall_mem_cons.mpr ⟨lw_p41, List.forall_mem_cons.mpr ⟨lw_p42, List.forall_mem_cons.mpr ⟨lw_p43, List.forall_mem_cons.mpr ⟨lw_p44, List.forall_mem_cons.mpr ⟨lw_p45, List.forall_mem_cons.mpr ⟨lw_p46, List.forall_mem_cons.mpr ⟨lw_p47, fun _ h => absurd h List.not_mem_nil⟩⟩⟩⟩⟩⟩⟩⟩⟩⟩⟩⟩⟩⟩⟩⟩
theorem lw_p48 : lw_okq (⟨"StarEyeModel", "plain", "()V"⟩, 94) := ⟨⟨by decide +kernel, by decide +kernel⟩, List.mem_of_getElem? (i := 1294) (by decide +kernel), List.mem_of_getElem? (i := 1300) (by decide +kernel), List.mem_of_getElem? (i := 1301) (by decide +kernel)⟩
theorem lw_p49 : lw_okq (⟨"StarEyeModel", "four", "(I)V"⟩, 94) := ⟨⟨by decide +kernel, by decide +kernel⟩, List.mem_of_getElem? (i := 1294) (by decide +kernel), List.mem_of_getElem? (i := 1595) (by decide +kernel), List.mem_of_getElem? (i := 1596) (by decide +kernel)⟩
theorem lw_p50 : lw_okq (⟨"StarEyeModel", "start", "()V"⟩, 94) := ⟨⟨by decide +kernel, by decide +kernel⟩, List.mem_of_getElem? (i := 1294) (by decide +kernel), List.mem_of_getElem? (i := 1607) (by decide +kernel), List.mem_of_getElem? (i := 1608) (by decide +kernel)⟩
theorem lw_p51 : lw_okq (⟨"StarEyeModel", "token", "()V"⟩, 94) := ⟨⟨by decide +kernel, by decide +kernel⟩, List.mem_of_getElem? (i := 1294) (by decide +kernel), List.mem_of_getElem? (i := 1611) (by decide +kernel), List.mem_of_getElem? (i := 1612) (by decide +kernel)⟩
theorem lw_p52 : lw_okq (⟨"StarEyeModel", "here", "(I)I"⟩, 94) := ⟨⟨by decide +kernel, by decide +kernel⟩, List.mem_of_getElem? (i := 1294) (by decide +kernel), List.mem_of_getElem? (i := 1615) (by decide +kernel), List.mem_of_getElem? (i := 1616) (by decide +kernel)⟩
theorem lw_p53 : lw_okq (⟨"StarEyeModel", "isSign", "(I)Z"⟩, 94) := ⟨⟨by decide +kernel, by decide +kernel⟩, List.mem_of_getElem? (i := 1294) (by decide +kernel), List.mem_of_getElem? (i := 1625) (by decide +kernel), List.mem_of_getElem? (i := 1626) (by decide +kernel)⟩
theorem lw_p54 : lw_okq (⟨"StarEyeModel", "lineOf", "()I"⟩, 94) := ⟨⟨by decide +kernel, by decide +kernel⟩, List.mem_of_getElem? (i := 1294) (by decide +kernel), List.mem_of_getElem? (i := 1629) (by decide +kernel), List.mem_of_getElem? (i := 1630) (by decide +kernel)⟩
theorem lw_p55 : lw_okq (⟨"StarEyeModel", "isWord", "(J)Z"⟩, 94) := ⟨⟨by decide +kernel, by decide +kernel⟩, List.mem_of_getElem? (i := 1294) (by decide +kernel), List.mem_of_getElem? (i := 1634) (by decide +kernel), List.mem_of_getElem? (i := 1635) (by decide +kernel)⟩
theorem lw_p56 : lw_okq (⟨"StarEyeModel", "readStar", "()V"⟩, 94) := ⟨⟨by decide +kernel, by decide +kernel⟩, List.mem_of_getElem? (i := 1294) (by decide +kernel), List.mem_of_getElem? (i := 1645) (by decide +kernel), List.mem_of_getElem? (i := 1646) (by decide +kernel)⟩
theorem lw_p57 : lw_okq (⟨"StarEyeModel", "isName", "()Z"⟩, 94) := ⟨⟨by decide +kernel, by decide +kernel⟩, List.mem_of_getElem? (i := 1294) (by decide +kernel), List.mem_of_getElem? (i := 1649) (by decide +kernel), List.mem_of_getElem? (i := 1650) (by decide +kernel)⟩
theorem lw_p58 : lw_okq (⟨"StarEyeModel", "wrong", "(I)V"⟩, 94) := ⟨⟨by decide +kernel, by decide +kernel⟩, List.mem_of_getElem? (i := 1294) (by decide +kernel), List.mem_of_getElem? (i := 1672) (by decide +kernel), List.mem_of_getElem? (i := 1673) (by decide +kernel)⟩
theorem lw_p59 : lw_okq (⟨"StarEyeModel", "want", "(J)V"⟩, 94) := ⟨⟨by decide +kernel, by decide +kernel⟩, List.mem_of_getElem? (i := 1294) (by decide +kernel), List.mem_of_getElem? (i := 1676) (by decide +kernel), List.mem_of_getElem? (i := 1677) (by decide +kernel)⟩
theorem lw_p60 : lw_okq (⟨"StarEyeModel", "toldNumber", "(II)I"⟩, 94) := ⟨⟨by decide +kernel, by decide +kernel⟩, List.mem_of_getElem? (i := 1294) (by decide +kernel), List.mem_of_getElem? (i := 1680) (by decide +kernel), List.mem_of_getElem? (i := 1681) (by decide +kernel)⟩
theorem lw_p61 : lw_okq (⟨"StarEyeModel", "readTold", "(I)V"⟩, 94) := ⟨⟨by decide +kernel, by decide +kernel⟩, List.mem_of_getElem? (i := 1294) (by decide +kernel), List.mem_of_getElem? (i := 1684) (by decide +kernel), List.mem_of_getElem? (i := 1685) (by decide +kernel)⟩
theorem lw_p62 : lw_okq (⟨"StarEyeModel", "toldBy", "(JII)I"⟩, 94) := ⟨⟨by decide +kernel, by decide +kernel⟩, List.mem_of_getElem? (i := 1294) (by decide +kernel), List.mem_of_getElem? (i := 1688) (by decide +kernel), List.mem_of_getElem? (i := 1689) (by decide +kernel)⟩
theorem lw_p63 : lw_okq (⟨"StarEyeModel", "signed", "(II)I"⟩, 94) := ⟨⟨by decide +kernel, by decide +kernel⟩, List.mem_of_getElem? (i := 1294) (by decide +kernel), List.mem_of_getElem? (i := 1692) (by decide +kernel), List.mem_of_getElem? (i := 1693) (by decide +kernel)⟩
def lw_privs_4 : List (MethodName × Nat) := [(⟨"StarEyeModel", "plain", "()V"⟩, 94), (⟨"StarEyeModel", "four", "(I)V"⟩, 94), (⟨"StarEyeModel", "start", "()V"⟩, 94), (⟨"StarEyeModel", "token", "()V"⟩, 94), (⟨"StarEyeModel", "here", "(I)I"⟩, 94), (⟨"StarEyeModel", "isSign", "(I)Z"⟩, 94), (⟨"StarEyeModel", "lineOf", "()I"⟩, 94), (⟨"StarEyeModel", "isWord", "(J)Z"⟩, 94), (⟨"StarEyeModel", "readStar", "()V"⟩, 94), (⟨"StarEyeModel", "isName", "()Z"⟩, 94), (⟨"StarEyeModel", "wrong", "(I)V"⟩, 94), (⟨"StarEyeModel", "want", "(J)V"⟩, 94), (⟨"StarEyeModel", "toldNumber", "(II)I"⟩, 94), (⟨"StarEyeModel", "readTold", "(I)V"⟩, 94), (⟨"StarEyeModel", "toldBy", "(JII)I"⟩, 94), (⟨"StarEyeModel", "signed", "(II)I"⟩, 94)]
theorem lw_r4 : ∀ q ∈ lw_privs_4, lw_okq q := List.forall_mem_cons.mpr ⟨lw_p48, List.forall_mem_cons.mpr ⟨lw_p49, List.forall_mem_cons.mpr ⟨lw_p50, List.forall_mem_cons.mpr ⟨lw_p51, List.forall_mem_cons.mpr ⟨lw_p52, List.forall_mem_cons.mpr ⟨lw_p53, List.forall_mem_cons.mpr ⟨lw_p54, List.forall_mem_cons.mpr ⟨lw_p55, List.forall_mem_cons.mpr ⟨lw_p56, List.forall_mem_cons.mpr ⟨lw_p57, List.forall_mem_cons.mpr ⟨lw_p58, List.forall_mem_cons.mpr ⟨lw_p59, List.forall_mem_cons.mpr ⟨lw_p60, List.forall_mem_cons.mpr ⟨lw_p61, List.forall_mem_cons.mpr ⟨lw_p62, List.forall_mem_cons.mpr ⟨lw_p63, fun _ h => absurd h List.not_mem_nil⟩⟩⟩⟩⟩⟩⟩⟩⟩⟩⟩⟩⟩⟩⟩⟩
theorem lw_p64 : lw_okq (⟨"StarEyeModel", "readPicture", "()V"⟩, 94) := ⟨⟨by decide +kernel, by decide +kernel⟩, List.mem_of_getElem? (i := 1294) (by decide +kernel), List.mem_of_getElem? (i := 1704) (by decide +kernel), List.mem_of_getElem? (i := 1705) (by decide +kernel)⟩
theorem lw_p65 : lw_okq (⟨"StarEyeModel", "counts", "(II)Z"⟩, 94) := ⟨⟨by decide +kernel, by decide +kernel⟩, List.mem_of_getElem? (i := 1294) (by decide +kernel), List.mem_of_getElem? (i := 1728) (by decide +kernel), List.mem_of_getElem? (i := 1729) (by decide +kernel)⟩
theorem lw_p66 : lw_okq (⟨"StarEyeModel", "lookAt", "(II)V"⟩, 94) := ⟨⟨by decide +kernel, by decide +kernel⟩, List.mem_of_getElem? (i := 1294) (by decide +kernel), List.mem_of_getElem? (i := 1732) (by decide +kernel), List.mem_of_getElem? (i := 1733) (by decide +kernel)⟩
theorem lw_p67 : lw_okq (⟨"StarEyeModel", "findDots", "(I)V"⟩, 94) := ⟨⟨by decide +kernel, by decide +kernel⟩, List.mem_of_getElem? (i := 1294) (by decide +kernel), List.mem_of_getElem? (i := 1736) (by decide +kernel), List.mem_of_getElem? (i := 1737) (by decide +kernel)⟩
theorem lw_p68 : lw_okq (⟨"StarEyeModel", "isBright", "(II)Z"⟩, 94) := ⟨⟨by decide +kernel, by decide +kernel⟩, List.mem_of_getElem? (i := 1294) (by decide +kernel), List.mem_of_getElem? (i := 1740) (by decide +kernel), List.mem_of_getElem? (i := 1741) (by decide +kernel)⟩
theorem lw_p69 : lw_okq (⟨"StarEyeModel", "spread", "(III)V"⟩, 94) := ⟨⟨by decide +kernel, by decide +kernel⟩, List.mem_of_getElem? (i := 1294) (by decide +kernel), List.mem_of_getElem? (i := 1744) (by decide +kernel), List.mem_of_getElem? (i := 1745) (by decide +kernel)⟩
theorem lw_p70 : lw_okq (⟨"StarEyeModel", "measure", "(II)V"⟩, 94) := ⟨⟨by decide +kernel, by decide +kernel⟩, List.mem_of_getElem? (i := 1294) (by decide +kernel), List.mem_of_getElem? (i := 1748) (by decide +kernel), List.mem_of_getElem? (i := 1749) (by decide +kernel)⟩
theorem lw_p71 : lw_okq (⟨"StarEyeModel", "isAhead", "(II)Z"⟩, 94) := ⟨⟨by decide +kernel, by decide +kernel⟩, List.mem_of_getElem? (i := 1294) (by decide +kernel), List.mem_of_getElem? (i := 1752) (by decide +kernel), List.mem_of_getElem? (i := 1753) (by decide +kernel)⟩
theorem lw_p72 : lw_okq (⟨"StarEyeModel", "pixelOf", "(I)I"⟩, 94) := ⟨⟨by decide +kernel, by decide +kernel⟩, List.mem_of_getElem? (i := 1294) (by decide +kernel), List.mem_of_getElem? (i := 1756) (by decide +kernel), List.mem_of_getElem? (i := 1757) (by decide +kernel)⟩
theorem lw_p73 : lw_okq (⟨"StarEyeModel", "kinds", "(I)I"⟩, 94) := ⟨⟨by decide +kernel, by decide +kernel⟩, List.mem_of_getElem? (i := 1294) (by decide +kernel), List.mem_of_getElem? (i := 1760) (by decide +kernel), List.mem_of_getElem? (i := 1761) (by decide +kernel)⟩
theorem lw_p74 : lw_okq (⟨"StarEyeModel", "starLength", "(II)I"⟩, 94) := ⟨⟨by decide +kernel, by decide +kernel⟩, List.mem_of_getElem? (i := 1294) (by decide +kernel), List.mem_of_getElem? (i := 1776) (by decide +kernel), List.mem_of_getElem? (i := 1777) (by decide +kernel)⟩
theorem lw_p75 : lw_okq (⟨"StarEyeModel", "seekNamings", "(II)V"⟩, 94) := ⟨⟨by decide +kernel, by decide +kernel⟩, List.mem_of_getElem? (i := 1294) (by decide +kernel), List.mem_of_getElem? (i := 1792) (by decide +kernel), List.mem_of_getElem? (i := 1793) (by decide +kernel)⟩
theorem lw_p76 : lw_okq (⟨"StarEyeModel", "layLengths", "()V"⟩, 94) := ⟨⟨by decide +kernel, by decide +kernel⟩, List.mem_of_getElem? (i := 1294) (by decide +kernel), List.mem_of_getElem? (i := 1796) (by decide +kernel), List.mem_of_getElem? (i := 1797) (by decide +kernel)⟩
theorem lw_p77 : lw_okq (⟨"StarEyeModel", "pointLength", "(II)I"⟩, 94) := ⟨⟨by decide +kernel, by decide +kernel⟩, List.mem_of_getElem? (i := 1294) (by decide +kernel), List.mem_of_getElem? (i := 1800) (by decide +kernel), List.mem_of_getElem? (i := 1801) (by decide +kernel)⟩
theorem lw_p78 : lw_okq (⟨"StarEyeModel", "pointX", "(I)I"⟩, 94) := ⟨⟨by decide +kernel, by decide +kernel⟩, List.mem_of_getElem? (i := 1294) (by decide +kernel), List.mem_of_getElem? (i := 1804) (by decide +kernel), List.mem_of_getElem? (i := 1805) (by decide +kernel)⟩
theorem lw_p79 : lw_okq (⟨"StarEyeModel", "pointY", "(I)I"⟩, 94) := ⟨⟨by decide +kernel, by decide +kernel⟩, List.mem_of_getElem? (i := 1294) (by decide +kernel), List.mem_of_getElem? (i := 1808) (by decide +kernel), List.mem_of_getElem? (i := 1809) (by decide +kernel)⟩
def lw_privs_5 : List (MethodName × Nat) := [(⟨"StarEyeModel", "readPicture", "()V"⟩, 94), (⟨"StarEyeModel", "counts", "(II)Z"⟩, 94), (⟨"StarEyeModel", "lookAt", "(II)V"⟩, 94), (⟨"StarEyeModel", "findDots", "(I)V"⟩, 94), (⟨"StarEyeModel", "isBright", "(II)Z"⟩, 94), (⟨"StarEyeModel", "spread", "(III)V"⟩, 94), (⟨"StarEyeModel", "measure", "(II)V"⟩, 94), (⟨"StarEyeModel", "isAhead", "(II)Z"⟩, 94), (⟨"StarEyeModel", "pixelOf", "(I)I"⟩, 94), (⟨"StarEyeModel", "kinds", "(I)I"⟩, 94), (⟨"StarEyeModel", "starLength", "(II)I"⟩, 94), (⟨"StarEyeModel", "seekNamings", "(II)V"⟩, 94), (⟨"StarEyeModel", "layLengths", "()V"⟩, 94), (⟨"StarEyeModel", "pointLength", "(II)I"⟩, 94), (⟨"StarEyeModel", "pointX", "(I)I"⟩, 94), (⟨"StarEyeModel", "pointY", "(I)I"⟩, 94)]
theorem lw_r5 : ∀ q ∈ lw_privs_5, lw_okq q := List.forall_mem_cons.mpr ⟨lw_p64, List.forall_mem_cons.mpr ⟨lw_p65, List.forall_mem_cons.mpr ⟨lw_p66, List.forall_mem_cons.mpr ⟨lw_p67, List.forall_mem_cons.mpr ⟨lw_p68, List.forall_mem_cons.mpr ⟨lw_p69, List.forall_mem_cons.mpr ⟨lw_p70, List.forall_mem_cons.mpr ⟨lw_p71, List.forall_mem_cons.mpr ⟨lw_p72, List.forall_mem_cons.mpr ⟨lw_p73, List.forall_mem_cons.mpr ⟨lw_p74, List.forall_mem_cons.mpr ⟨lw_p75, List.forall_mem_cons.mpr ⟨lw_p76, List.forall_mem_cons.mpr ⟨lw_p77, List.forall_mem_cons.mpr ⟨lw_p78, List.forall_mem_cons.mpr ⟨lw_p79, fun _ h => absurd h List.not_mem_nil⟩⟩⟩⟩⟩⟩⟩⟩⟩⟩⟩⟩⟩⟩⟩⟩
theorem lw_p80 : lw_okq (⟨"StarEyeModel", "seekNaming", "(II)V"⟩, 94) := ⟨⟨by decide +kernel, by decide +kernel⟩, List.mem_of_getElem? (i := 1294) (by decide +kernel), List.mem_of_getElem? (i := 1812) (by decide +kernel), List.mem_of_getElem? (i := 1813) (by decide +kernel)⟩
theorem lw_p81 : lw_okq (⟨"StarEyeModel", "unnamed", "(I)I"⟩, 94) := ⟨⟨by decide +kernel, by decide +kernel⟩, List.mem_of_getElem? (i := 1294) (by decide +kernel), List.mem_of_getElem? (i := 1819) (by decide +kernel), List.mem_of_getElem? (i := 1820) (by decide +kernel)⟩
theorem lw_p82 : lw_okq (⟨"StarEyeModel", "goes", "(I)Z"⟩, 94) := ⟨⟨by decide +kernel, by decide +kernel⟩, List.mem_of_getElem? (i := 1294) (by decide +kernel), List.mem_of_getElem? (i := 1823) (by decide +kernel), List.mem_of_getElem? (i := 1824) (by decide +kernel)⟩
theorem lw_p83 : lw_okq (⟨"StarEyeModel", "fit", "(IIII)Z"⟩, 94) := ⟨⟨by decide +kernel, by decide +kernel⟩, List.mem_of_getElem? (i := 1294) (by decide +kernel), List.mem_of_getElem? (i := 1827) (by decide +kernel), List.mem_of_getElem? (i := 1828) (by decide +kernel)⟩
theorem lw_p84 : lw_okq (⟨"StarEyeModel", "lieAlike", "(IIIIII)Z"⟩, 94) := ⟨⟨by decide +kernel, by decide +kernel⟩, List.mem_of_getElem? (i := 1294) (by decide +kernel), List.mem_of_getElem? (i := 1834) (by decide +kernel), List.mem_of_getElem? (i := 1835) (by decide +kernel)⟩
theorem lw_p85 : lw_okq (⟨"StarEyeModel", "hasNaming", "(III)Z"⟩, 94) := ⟨⟨by decide +kernel, by decide +kernel⟩, List.mem_of_getElem? (i := 1294) (by decide +kernel), List.mem_of_getElem? (i := 1848) (by decide +kernel), List.mem_of_getElem? (i := 1849) (by decide +kernel)⟩
theorem lw_p86 : lw_okq (⟨"StarEyeModel", "isNamed", "(II)Z"⟩, 94) := ⟨⟨by decide +kernel, by decide +kernel⟩, List.mem_of_getElem? (i := 1294) (by decide +kernel), List.mem_of_getElem? (i := 1852) (by decide +kernel), List.mem_of_getElem? (i := 1853) (by decide +kernel)⟩
theorem lw_p87 : lw_okq (⟨"StarEyeModel", "seekOdds", "(I)V"⟩, 94) := ⟨⟨by decide +kernel, by decide +kernel⟩, List.mem_of_getElem? (i := 1294) (by decide +kernel), List.mem_of_getElem? (i := 1861) (by decide +kernel), List.mem_of_getElem? (i := 1862) (by decide +kernel)⟩
theorem lw_p88 : lw_okq (⟨"StarEyeModel", "fitting", "(II)I"⟩, 94) := ⟨⟨by decide +kernel, by decide +kernel⟩, List.mem_of_getElem? (i := 1294) (by decide +kernel), List.mem_of_getElem? (i := 1865) (by decide +kernel), List.mem_of_getElem? (i := 1866) (by decide +kernel)⟩
theorem lw_p89 : lw_okq (⟨"StarEyeModel", "reduce", "(JJ)V"⟩, 94) := ⟨⟨by decide +kernel, by decide +kernel⟩, List.mem_of_getElem? (i := 1294) (by decide +kernel), List.mem_of_getElem? (i := 1869) (by decide +kernel), List.mem_of_getElem? (i := 1870) (by decide +kernel)⟩
theorem lw_p90 : lw_okq (⟨"StarEyeModel", "tells", "()Z"⟩, 94) := ⟨⟨by decide +kernel, by decide +kernel⟩, List.mem_of_getElem? (i := 1294) (by decide +kernel), List.mem_of_getElem? (i := 1880) (by decide +kernel), List.mem_of_getElem? (i := 1881) (by decide +kernel)⟩
theorem lw_p91 : lw_okq (⟨"StarEyeModel", "seekTurn", "(I)V"⟩, 94) := ⟨⟨by decide +kernel, by decide +kernel⟩, List.mem_of_getElem? (i := 1294) (by decide +kernel), List.mem_of_getElem? (i := 1888) (by decide +kernel), List.mem_of_getElem? (i := 1889) (by decide +kernel)⟩
theorem lw_p92 : lw_okq (⟨"StarEyeModel", "ownX", "(II)J"⟩, 94) := ⟨⟨by decide +kernel, by decide +kernel⟩, List.mem_of_getElem? (i := 1294) (by decide +kernel), List.mem_of_getElem? (i := 1892) (by decide +kernel), List.mem_of_getElem? (i := 1893) (by decide +kernel)⟩
theorem lw_p93 : lw_okq (⟨"StarEyeModel", "ownY", "(II)J"⟩, 94) := ⟨⟨by decide +kernel, by decide +kernel⟩, List.mem_of_getElem? (i := 1294) (by decide +kernel), List.mem_of_getElem? (i := 1897) (by decide +kernel), List.mem_of_getElem? (i := 1898) (by decide +kernel)⟩
theorem lw_p94 : lw_okq (⟨"StarEyeModel", "stretchOf", "(I)J"⟩, 94) := ⟨⟨by decide +kernel, by decide +kernel⟩, List.mem_of_getElem? (i := 1294) (by decide +kernel), List.mem_of_getElem? (i := 1910) (by decide +kernel), List.mem_of_getElem? (i := 1911) (by decide +kernel)⟩
theorem lw_p95 : lw_okq (⟨"StarEyeModel", "seekFollowed", "(IIIII)Z"⟩, 94) := ⟨⟨by decide +kernel, by decide +kernel⟩, List.mem_of_getElem? (i := 1294) (by decide +kernel), List.mem_of_getElem? (i := 1919) (by decide +kernel), List.mem_of_getElem? (i := 1920) (by decide +kernel)⟩
def lw_privs_6 : List (MethodName × Nat) := [(⟨"StarEyeModel", "seekNaming", "(II)V"⟩, 94), (⟨"StarEyeModel", "unnamed", "(I)I"⟩, 94), (⟨"StarEyeModel", "goes", "(I)Z"⟩, 94), (⟨"StarEyeModel", "fit", "(IIII)Z"⟩, 94), (⟨"StarEyeModel", "lieAlike", "(IIIIII)Z"⟩, 94), (⟨"StarEyeModel", "hasNaming", "(III)Z"⟩, 94), (⟨"StarEyeModel", "isNamed", "(II)Z"⟩, 94), (⟨"StarEyeModel", "seekOdds", "(I)V"⟩, 94), (⟨"StarEyeModel", "fitting", "(II)I"⟩, 94), (⟨"StarEyeModel", "reduce", "(JJ)V"⟩, 94), (⟨"StarEyeModel", "tells", "()Z"⟩, 94), (⟨"StarEyeModel", "seekTurn", "(I)V"⟩, 94), (⟨"StarEyeModel", "ownX", "(II)J"⟩, 94), (⟨"StarEyeModel", "ownY", "(II)J"⟩, 94), (⟨"StarEyeModel", "stretchOf", "(I)J"⟩, 94), (⟨"StarEyeModel", "seekFollowed", "(IIIII)Z"⟩, 94)]
theorem lw_r6 : ∀ q ∈ lw_privs_6, lw_okq q := List.forall_mem_cons.mpr ⟨lw_p80, List.forall_mem_cons.mpr ⟨lw_p81, List.forall_mem_cons.mpr ⟨lw_p82, List.forall_mem_cons.mpr ⟨lw_p83, List.forall_mem_cons.mpr ⟨lw_p84, List.forall_mem_cons.mpr ⟨lw_p85, List.forall_mem_cons.mpr ⟨lw_p86, List.forall_mem_cons.mpr ⟨lw_p87, List.forall_mem_cons.mpr ⟨lw_p88, List.forall_mem_cons.mpr ⟨lw_p89, List.forall_mem_cons.mpr ⟨lw_p90, List.forall_mem_cons.mpr ⟨lw_p91, List.forall_mem_cons.mpr ⟨lw_p92, List.forall_mem_cons.mpr ⟨lw_p93, List.forall_mem_cons.mpr ⟨lw_p94, List.forall_mem_cons.mpr ⟨lw_p95, fun _ h => absurd h List.not_mem_nil⟩⟩⟩⟩⟩⟩⟩⟩⟩⟩⟩⟩⟩⟩⟩⟩
theorem lw_p96 : lw_okq (⟨"StarEyeModel", "seekStar", "(III)Z"⟩, 94) := ⟨⟨by decide +kernel, by decide +kernel⟩, List.mem_of_getElem? (i := 1294) (by decide +kernel), List.mem_of_getElem? (i := 1935) (by decide +kernel), List.mem_of_getElem? (i := 1936) (by decide +kernel)⟩
theorem lw_p97 : lw_okq (⟨"StarEyeModel", "seenFrom", "(III)I"⟩, 94) := ⟨⟨by decide +kernel, by decide +kernel⟩, List.mem_of_getElem? (i := 1294) (by decide +kernel), List.mem_of_getElem? (i := 1950) (by decide +kernel), List.mem_of_getElem? (i := 1951) (by decide +kernel)⟩
theorem lw_p98 : lw_okq (⟨"StarEyeModel", "sees", "(III)Z"⟩, 94) := ⟨⟨by decide +kernel, by decide +kernel⟩, List.mem_of_getElem? (i := 1294) (by decide +kernel), List.mem_of_getElem? (i := 1954) (by decide +kernel), List.mem_of_getElem? (i := 1955) (by decide +kernel)⟩
theorem lw_p99 : lw_okq (⟨"StarEyeModel", "isEnough", "(I)Z"⟩, 94) := ⟨⟨by decide +kernel, by decide +kernel⟩, List.mem_of_getElem? (i := 1294) (by decide +kernel), List.mem_of_getElem? (i := 1965) (by decide +kernel), List.mem_of_getElem? (i := 1966) (by decide +kernel)⟩
theorem lw_p100 : lw_okq (⟨"StarEyeModel", "readRule", "()V"⟩, 94) := ⟨⟨by decide +kernel, by decide +kernel⟩, List.mem_of_getElem? (i := 1294) (by decide +kernel), List.mem_of_getElem? (i := 1982) (by decide +kernel), List.mem_of_getElem? (i := 1983) (by decide +kernel)⟩
theorem lw_p101 : lw_okq (⟨"StarEyeModel", "isOpen", "()Z"⟩, 94) := ⟨⟨by decide +kernel, by decide +kernel⟩, List.mem_of_getElem? (i := 1294) (by decide +kernel), List.mem_of_getElem? (i := 1986) (by decide +kernel), List.mem_of_getElem? (i := 1987) (by decide +kernel)⟩
theorem lw_p102 : lw_okq (⟨"StarEyeModel", "sign", "()I"⟩, 94) := ⟨⟨by decide +kernel, by decide +kernel⟩, List.mem_of_getElem? (i := 1294) (by decide +kernel), List.mem_of_getElem? (i := 1990) (by decide +kernel), List.mem_of_getElem? (i := 1991) (by decide +kernel)⟩
theorem lw_p103 : lw_okq (⟨"StarEyeModel", "settle", "(I)V"⟩, 94) := ⟨⟨by decide +kernel, by decide +kernel⟩, List.mem_of_getElem? (i := 1294) (by decide +kernel), List.mem_of_getElem? (i := 1994) (by decide +kernel), List.mem_of_getElem? (i := 1995) (by decide +kernel)⟩
theorem lw_p104 : lw_okq (⟨"StarEyeModel", "upper", "()I"⟩, 94) := ⟨⟨by decide +kernel, by decide +kernel⟩, List.mem_of_getElem? (i := 1294) (by decide +kernel), List.mem_of_getElem? (i := 1998) (by decide +kernel), List.mem_of_getElem? (i := 1999) (by decide +kernel)⟩
theorem lw_p105 : lw_okq (⟨"StarEyeModel", "pop", "()V"⟩, 94) := ⟨⟨by decide +kernel, by decide +kernel⟩, List.mem_of_getElem? (i := 1294) (by decide +kernel), List.mem_of_getElem? (i := 2002) (by decide +kernel), List.mem_of_getElem? (i := 2003) (by decide +kernel)⟩
theorem lw_p106 : lw_okq (⟨"StarEyeModel", "note", "(II)V"⟩, 94) := ⟨⟨by decide +kernel, by decide +kernel⟩, List.mem_of_getElem? (i := 1294) (by decide +kernel), List.mem_of_getElem? (i := 2006) (by decide +kernel), List.mem_of_getElem? (i := 2007) (by decide +kernel)⟩
theorem lw_p107 : lw_okq (⟨"StarEyeModel", "hold", "(I)V"⟩, 94) := ⟨⟨by decide +kernel, by decide +kernel⟩, List.mem_of_getElem? (i := 1294) (by decide +kernel), List.mem_of_getElem? (i := 2013) (by decide +kernel), List.mem_of_getElem? (i := 2014) (by decide +kernel)⟩
theorem lw_p108 : lw_okq (⟨"StarEyeModel", "operand", "(I)I"⟩, 94) := ⟨⟨by decide +kernel, by decide +kernel⟩, List.mem_of_getElem? (i := 1294) (by decide +kernel), List.mem_of_getElem? (i := 2017) (by decide +kernel), List.mem_of_getElem? (i := 2018) (by decide +kernel)⟩
theorem lw_p109 : lw_okq (⟨"StarEyeModel", "known", "()I"⟩, 94) := ⟨⟨by decide +kernel, by decide +kernel⟩, List.mem_of_getElem? (i := 1294) (by decide +kernel), List.mem_of_getElem? (i := 2021) (by decide +kernel), List.mem_of_getElem? (i := 2022) (by decide +kernel)⟩
theorem lw_p110 : lw_okq (⟨"StarEyeModel", "trustOf", "(II)I"⟩, 94) := ⟨⟨by decide +kernel, by decide +kernel⟩, List.mem_of_getElem? (i := 1294) (by decide +kernel), List.mem_of_getElem? (i := 2029) (by decide +kernel), List.mem_of_getElem? (i := 2030) (by decide +kernel)⟩
theorem lw_p111 : lw_okq (⟨"StarEyeModel", "holds", "(I)Z"⟩, 94) := ⟨⟨by decide +kernel, by decide +kernel⟩, List.mem_of_getElem? (i := 1294) (by decide +kernel), List.mem_of_getElem? (i := 2033) (by decide +kernel), List.mem_of_getElem? (i := 2034) (by decide +kernel)⟩
def lw_privs_7 : List (MethodName × Nat) := [(⟨"StarEyeModel", "seekStar", "(III)Z"⟩, 94), (⟨"StarEyeModel", "seenFrom", "(III)I"⟩, 94), (⟨"StarEyeModel", "sees", "(III)Z"⟩, 94), (⟨"StarEyeModel", "isEnough", "(I)Z"⟩, 94), (⟨"StarEyeModel", "readRule", "()V"⟩, 94), (⟨"StarEyeModel", "isOpen", "()Z"⟩, 94), (⟨"StarEyeModel", "sign", "()I"⟩, 94), (⟨"StarEyeModel", "settle", "(I)V"⟩, 94), (⟨"StarEyeModel", "upper", "()I"⟩, 94), (⟨"StarEyeModel", "pop", "()V"⟩, 94), (⟨"StarEyeModel", "note", "(II)V"⟩, 94), (⟨"StarEyeModel", "hold", "(I)V"⟩, 94), (⟨"StarEyeModel", "operand", "(I)I"⟩, 94), (⟨"StarEyeModel", "known", "()I"⟩, 94), (⟨"StarEyeModel", "trustOf", "(II)I"⟩, 94), (⟨"StarEyeModel", "holds", "(I)Z"⟩, 94)]
theorem lw_r7 : ∀ q ∈ lw_privs_7, lw_okq q := List.forall_mem_cons.mpr ⟨lw_p96, List.forall_mem_cons.mpr ⟨lw_p97, List.forall_mem_cons.mpr ⟨lw_p98, List.forall_mem_cons.mpr ⟨lw_p99, List.forall_mem_cons.mpr ⟨lw_p100, List.forall_mem_cons.mpr ⟨lw_p101, List.forall_mem_cons.mpr ⟨lw_p102, List.forall_mem_cons.mpr ⟨lw_p103, List.forall_mem_cons.mpr ⟨lw_p104, List.forall_mem_cons.mpr ⟨lw_p105, List.forall_mem_cons.mpr ⟨lw_p106, List.forall_mem_cons.mpr ⟨lw_p107, List.forall_mem_cons.mpr ⟨lw_p108, List.forall_mem_cons.mpr ⟨lw_p109, List.forall_mem_cons.mpr ⟨lw_p110, List.forall_mem_cons.mpr ⟨lw_p111, fun _ h => absurd h List.not_mem_nil⟩⟩⟩⟩⟩⟩⟩⟩⟩⟩⟩⟩⟩⟩⟩⟩
def lw_privs : List (MethodName × Nat) := lw_privs_1 ++ (lw_privs_2 ++ (lw_privs_3 ++ (lw_privs_4 ++ (lw_privs_5 ++ (lw_privs_6 ++ (lw_privs_7))))))
def lw_tbl : List Cond := k2_sels lw_privs ++ tables_1
theorem lw_privs_ok : ∀ q ∈ lw_privs, lw_okq q := by
  show ∀ q ∈ lw_privs_1 ++ (lw_privs_2 ++ (lw_privs_3 ++ (lw_privs_4 ++ (lw_privs_5 ++ (lw_privs_6 ++ (lw_privs_7)))))), lw_okq q
  exact List.forall_mem_append.mpr ⟨lw_r1, List.forall_mem_append.mpr ⟨lw_r2, List.forall_mem_append.mpr ⟨lw_r3, List.forall_mem_append.mpr ⟨lw_r4, List.forall_mem_append.mpr ⟨lw_r5, List.forall_mem_append.mpr ⟨lw_r6, lw_r7⟩⟩⟩⟩⟩⟩
-- ===== end of PART A; then your names; then what follows =====
/-! ===== BEGIN words of one list among another's, by their places ===== -/
theorem goodIn_r {big : List Cond} (ws : List Cond) (ps : List Nat) (hp : ws = ps.filterMap (fun i => big[i]?)) (h : ws.all goodWord = true) : GoodIn big ws := by
  intro w hw
  have h1 := List.all_eq_true.mp h w hw
  rw [hp] at hw
  obtain ⟨i, -, hi⟩ := List.mem_filterMap.mp hw
  have hm : w ∈ big := by first | exact List.mem_of_getElem? hi | exact List.getElem?_mem hi
  exact ⟨hm, good_of_word h1⟩
theorem goodIn_app {big a b : List Cond} (ha : GoodIn big a) (hb : GoodIn big b) : GoodIn big (a ++ b) := fun w h => (List.mem_append.mp h).elim (ha w) (hb w)
theorem goodIn_ca {big a b : List Cond} {c : Cond} (ha : GoodIn big (c :: a)) (hb : GoodIn big b) : GoodIn big (c :: (a ++ b)) := fun w h => (List.mem_cons.mp h).elim (fun e => ha w (List.mem_cons.mpr (Or.inl e))) (fun h => (List.mem_append.mp h).elim (fun h => ha w (List.mem_cons.mpr (Or.inr h))) (hb w))
theorem goodIn_sub {big ws : List Cond} (hm : ∀ w ∈ ws, w ∈ big) (h : ws.all goodWord = true) : GoodIn big ws := fun w hw => ⟨hm w hw, good_of_word (List.all_eq_true.mp h w hw)⟩
/-! ===== END ===== -/

/-! ===== BEGIN printed: names, fields, word lists, decode rows ===== -/
def RX0 : String := "StarEye$Book"
def TX0 : u_T := fun k => match k with
  | 0 => ("StarEye$Book", "names", "[J", true)
  | 1 => ("StarEye$Book", "x", "[I", true)
  | 2 => ("StarEye$Book", "y", "[I", true)
  | 3 => ("StarEye$Book", "light", "[I", true)
  | 4 => ("StarEye$Book", "lengths", "[I", true)
  | 5 => ("StarEye$Book", "stars", "I", false)
  | 6 => ("StarEye$Book", "wide", "I", false)
  | 7 => ("StarEye$Book", "unit", "I", false)
  | 8 => ("StarEye$Book", "far", "I", false)
  | 9 => ("StarEye$Book", "noise", "I", false)
  | 10 => ("StarEye$Book", "off", "I", false)
  | 11 => ("StarEye$Book", "bar", "I", false)
  | 12 => ("StarEye$Book", "step", "I", false)
  | 13 => ("StarEye$Book", "needs", "I", false)
  | 14 => ("StarEye$Book", "leanX", "I", false)
  | 15 => ("StarEye$Book", "leanY", "I", false)
  | 16 => ("StarEye$Book", "roomStar", "I", false)
  | _ => ("StarEye$Book", "roomPair", "I", false)
def tyX0 : Nat → FieldType := fun k => match k with
  | 0 => .array .long
  | 1 => .array .int
  | 2 => .array .int
  | 3 => .array .int
  | 4 => .array .int
  | 5 => .int
  | 6 => .int
  | 7 => .int
  | 8 => .int
  | 9 => .int
  | 10 => .int
  | 11 => .int
  | 12 => .int
  | 13 => .int
  | 14 => .int
  | 15 => .int
  | 16 => .int
  | _ => .int
abbrev wsX00 : List Cond := u_ws RX0 TX0 18
theorem nmX0 : ∀ a, a < 18 → ∀ b, b < 18 → a ≠ b → (TX0 a).2.1 ≠ (TX0 b).2.1 := by decide +kernel
theorem tyX0_ok : ∀ k, k < 18 → parseFieldDescriptor (TX0 k).2.2.1 = some (tyX0 k) := by decide +kernel
abbrev cX0_init : ByteArray := prog_2_method_1_code
def yX0_init : MethodName := ⟨RX0, "<init>", "()V"⟩
abbrev cX0_clear : ByteArray := prog_2_method_2_code
def yX0_clear : MethodName := ⟨RX0, "clear", "()V"⟩
abbrev cX0_has : ByteArray := prog_2_method_3_code
def yX0_has : MethodName := ⟨RX0, "has", "(I)Z"⟩
abbrev cX0_pairs : ByteArray := prog_2_method_4_code
def yX0_pairs : MethodName := ⟨RX0, "pairs", "()J"⟩
abbrev cX0_lightOf : ByteArray := prog_2_method_5_code
def yX0_lightOf : MethodName := ⟨RX0, "lightOf", "(I)I"⟩
abbrev cX0_skyX : ByteArray := prog_2_method_6_code
def yX0_skyX : MethodName := ⟨RX0, "skyX", "(I)I"⟩
abbrev cX0_skyY : ByteArray := prog_2_method_7_code
def yX0_skyY : MethodName := ⟨RX0, "skyY", "(I)I"⟩
abbrev cX0_isNameTold : ByteArray := prog_2_method_8_code
def yX0_isNameTold : MethodName := ⟨RX0, "isNameTold", "(J)Z"⟩
abbrev cX0_isNearStar : ByteArray := prog_2_method_9_code
def yX0_isNearStar : MethodName := ⟨RX0, "isNearStar", "(II)Z"⟩
abbrev cX0_arePairAlong : ByteArray := prog_2_method_10_code
def yX0_arePairAlong : MethodName := ⟨RX0, "arePairAlong", "(III)Z"⟩
abbrev cX0_isSeenFrom : ByteArray := prog_2_method_11_code
def yX0_isSeenFrom : MethodName := ⟨RX0, "isSeenFrom", "(III)Z"⟩
abbrev cX0_add : ByteArray := prog_2_method_12_code
def yX0_add : MethodName := ⟨RX0, "add", "(JIII)V"⟩
abbrev cX0_measure : ByteArray := prog_2_method_13_code
def yX0_measure : MethodName := ⟨RX0, "measure", "()V"⟩
abbrev cX0_lengthOf : ByteArray := prog_2_method_14_code
def yX0_lengthOf : MethodName := ⟨RX0, "lengthOf", "(II)I"⟩
def RX1 : String := "StarEye$BookReader"
def TX1 : u_T := fun k => match k with
  | _ => ("StarEye$BookReader", "linesTold", "I", false)
def tyX1 : Nat → FieldType := fun k => match k with
  | _ => .int
abbrev wsX10 : List Cond := u_ws RX1 TX1 1
theorem nmX1 : ∀ a, a < 1 → ∀ b, b < 1 → a ≠ b → (TX1 a).2.1 ≠ (TX1 b).2.1 := by decide +kernel
theorem tyX1_ok : ∀ k, k < 1 → parseFieldDescriptor (TX1 k).2.2.1 = some (tyX1 k) := by decide +kernel
abbrev cX1_init : ByteArray := prog_3_method_1_code
def yX1_init : MethodName := ⟨RX1, "<init>", "()V"⟩
abbrev cX1_read : ByteArray := prog_3_method_2_code
def yX1_read : MethodName := ⟨RX1, "read", "(LStarEye$Text;LStarEye$Book;)Z"⟩
abbrev cX1_readLine : ByteArray := prog_3_method_3_code
def yX1_readLine : MethodName := ⟨RX1, "readLine", "(LStarEye$Text;LStarEye$Book;)Z"⟩
abbrev cX1_readStar : ByteArray := prog_3_method_4_code
def yX1_readStar : MethodName := ⟨RX1, "readStar", "(LStarEye$Text;LStarEye$Book;)Z"⟩
abbrev cX1_readEye : ByteArray := prog_3_method_5_code
def yX1_readEye : MethodName := ⟨RX1, "readEye", "(LStarEye$Text;LStarEye$Book;)Z"⟩
abbrev cX1_readNoise : ByteArray := prog_3_method_6_code
def yX1_readNoise : MethodName := ⟨RX1, "readNoise", "(LStarEye$Text;LStarEye$Book;)Z"⟩
abbrev cX1_readOff : ByteArray := prog_3_method_7_code
def yX1_readOff : MethodName := ⟨RX1, "readOff", "(LStarEye$Text;LStarEye$Book;)Z"⟩
abbrev cX1_readBar : ByteArray := prog_3_method_8_code
def yX1_readBar : MethodName := ⟨RX1, "readBar", "(LStarEye$Text;LStarEye$Book;)Z"⟩
abbrev cX1_readStep : ByteArray := prog_3_method_9_code
def yX1_readStep : MethodName := ⟨RX1, "readStep", "(LStarEye$Text;LStarEye$Book;)Z"⟩
abbrev cX1_readLean : ByteArray := prog_3_method_10_code
def yX1_readLean : MethodName := ⟨RX1, "readLean", "(LStarEye$Text;LStarEye$Book;)Z"⟩
abbrev cX1_readRoom : ByteArray := prog_3_method_11_code
def yX1_readRoom : MethodName := ⟨RX1, "readRoom", "(LStarEye$Text;LStarEye$Book;)Z"⟩
def RX2 : String := "StarEye$Namer"
def TX2 : u_T := fun k => match k with
  | 0 => ("StarEye$Namer", "fits", "[I", true)
  | 1 => ("StarEye$Namer", "x", "[I", true)
  | 2 => ("StarEye$Namer", "y", "[I", true)
  | 3 => ("StarEye$Namer", "stars", "[I", true)
  | 4 => ("StarEye$Namer", "points", "I", false)
  | _ => ("StarEye$Namer", "goal", "I", false)
def tyX2 : Nat → FieldType := fun k => match k with
  | 0 => .array .int
  | 1 => .array .int
  | 2 => .array .int
  | 3 => .array .int
  | 4 => .int
  | _ => .int
abbrev wsX20 : List Cond := u_ws RX2 TX2 6
theorem nmX2 : ∀ a, a < 6 → ∀ b, b < 6 → a ≠ b → (TX2 a).2.1 ≠ (TX2 b).2.1 := by decide +kernel
theorem tyX2_ok : ∀ k, k < 6 → parseFieldDescriptor (TX2 k).2.2.1 = some (tyX2 k) := by decide +kernel
abbrev cX2_init : ByteArray := prog_4_method_1_code
def yX2_init : MethodName := ⟨RX2, "<init>", "()V"⟩
abbrev cX2_pairOf : ByteArray := prog_4_method_2_code
def yX2_pairOf : MethodName := ⟨RX2, "pairOf", "(II)I"⟩
abbrev cX2_nameAll : ByteArray := prog_4_method_3_code
def yX2_nameAll : MethodName := ⟨RX2, "nameAll", "(LStarEye$Picture;ILStarEye$Book;)V"⟩
abbrev cX2_place : ByteArray := prog_4_method_4_code
def yX2_place : MethodName := ⟨RX2, "place", "(LStarEye$Picture;LStarEye$Book;)V"⟩
abbrev cX2_findFits : ByteArray := prog_4_method_5_code
def yX2_findFits : MethodName := ⟨RX2, "findFits", "(LStarEye$Picture;IILStarEye$Book;)V"⟩
abbrev cX2_nameFrom : ByteArray := prog_4_method_6_code
def yX2_nameFrom : MethodName := ⟨RX2, "nameFrom", "(IILStarEye$Picture;LStarEye$Book;)V"⟩
abbrev cX2_packed : ByteArray := prog_4_method_7_code
def yX2_packed : MethodName := ⟨RX2, "packed", "()J"⟩
abbrev cX2_openStars : ByteArray := prog_4_method_8_code
def yX2_openStars : MethodName := ⟨RX2, "openStars", "(ILStarEye$Book;)I"⟩
abbrev cX2_liesAlike : ByteArray := prog_4_method_9_code
def yX2_liesAlike : MethodName := ⟨RX2, "liesAlike", "(IILStarEye$Book;)Z"⟩
abbrev cX2_pointSide : ByteArray := prog_4_method_10_code
def yX2_pointSide : MethodName := ⟨RX2, "pointSide", "(III)I"⟩
abbrev cX2_starSide : ByteArray := prog_4_method_11_code
def yX2_starSide : MethodName := ⟨RX2, "starSide", "(IIILStarEye$Book;)I"⟩
def RX3 : String := "StarEye$Picture"
def TX3 : u_T := fun k => match k with
  | 0 => ("StarEye$Picture", "x", "[I", true)
  | 1 => ("StarEye$Picture", "y", "[I", true)
  | 2 => ("StarEye$Picture", "light", "[I", true)
  | 3 => ("StarEye$Picture", "pixels", "[I", true)
  | 4 => ("StarEye$Picture", "middles", "[I", true)
  | 5 => ("StarEye$Picture", "dots", "I", false)
  | 6 => ("StarEye$Picture", "smears", "I", false)
  | 7 => ("StarEye$Picture", "allLight", "I", false)
  | 8 => ("StarEye$Picture", "pairFits", "[I", true)
  | 9 => ("StarEye$Picture", "found", "[J", true)
  | 10 => ("StarEye$Picture", "namedFrom", "I", false)
  | 11 => ("StarEye$Picture", "namings", "I", false)
  | _ => ("StarEye$Picture", "namedPoints", "I", false)
def tyX3 : Nat → FieldType := fun k => match k with
  | 0 => .array .int
  | 1 => .array .int
  | 2 => .array .int
  | 3 => .array .int
  | 4 => .array .int
  | 5 => .int
  | 6 => .int
  | 7 => .int
  | 8 => .array .int
  | 9 => .array .long
  | 10 => .int
  | 11 => .int
  | _ => .int
abbrev wsX30 : List Cond := u_ws RX3 TX3 13
theorem nmX3 : ∀ a, a < 13 → ∀ b, b < 13 → a ≠ b → (TX3 a).2.1 ≠ (TX3 b).2.1 := by decide +kernel
theorem tyX3_ok : ∀ k, k < 13 → parseFieldDescriptor (TX3 k).2.2.1 = some (tyX3 k) := by decide +kernel
abbrev cX3_init : ByteArray := prog_5_method_1_code
def yX3_init : MethodName := ⟨RX3, "<init>", "()V"⟩
abbrev cX3_insert : ByteArray := prog_5_method_2_code
def yX3_insert : MethodName := ⟨RX3, "insert", "(IIIIZ)V"⟩
abbrev cX3_isAhead : ByteArray := prog_5_method_3_code
def yX3_isAhead : MethodName := ⟨RX3, "isAhead", "(IIII)Z"⟩
abbrev cX3_finish : ByteArray := prog_5_method_4_code
def yX3_finish : MethodName := ⟨RX3, "finish", "()V"⟩
abbrev cX3_allDots : ByteArray := prog_5_method_5_code
def yX3_allDots : MethodName := ⟨RX3, "allDots", "()I"⟩
abbrev cX3_hasMiddleIn : ByteArray := prog_5_method_6_code
def yX3_hasMiddleIn : MethodName := ⟨RX3, "hasMiddleIn", "(II)Z"⟩
abbrev cX3_nearestPoint : ByteArray := prog_5_method_7_code
def yX3_nearestPoint : MethodName := ⟨RX3, "nearestPoint", "(IIIII)I"⟩
abbrev cX3_hasNaming : ByteArray := prog_5_method_8_code
def yX3_hasNaming : MethodName := ⟨RX3, "hasNaming", "(I)Z"⟩
abbrev cX3_addNaming : ByteArray := prog_5_method_9_code
def yX3_addNaming : MethodName := ⟨RX3, "addNaming", "(J)V"⟩
abbrev cX3_starOf : ByteArray := prog_5_method_10_code
def yX3_starOf : MethodName := ⟨RX3, "starOf", "(II)I"⟩
abbrev cX3_dotNamed : ByteArray := prog_5_method_11_code
def yX3_dotNamed : MethodName := ⟨RX3, "dotNamed", "(I)I"⟩
abbrev cX3_oddsUpper : ByteArray := prog_5_method_12_code
def yX3_oddsUpper : MethodName := ⟨RX3, "oddsUpper", "(I)J"⟩
abbrev cX3_oddsLower : ByteArray := prog_5_method_13_code
def yX3_oddsLower : MethodName := ⟨RX3, "oddsLower", "(J)J"⟩
def RX4 : String := "StarEye$PictureReader"
def TX4 : u_T := fun k => match k with
  | 0 => ("StarEye$PictureReader", "lights", "[I", true)
  | 1 => ("StarEye$PictureReader", "reached", "[I", true)
  | 2 => ("StarEye$PictureReader", "reachedCount", "I", false)
  | 3 => ("StarEye$PictureReader", "noise", "I", false)
  | 4 => ("StarEye$PictureReader", "light", "I", false)
  | 5 => ("StarEye$PictureReader", "sumX", "I", false)
  | 6 => ("StarEye$PictureReader", "sumY", "I", false)
  | 7 => ("StarEye$PictureReader", "left", "I", false)
  | 8 => ("StarEye$PictureReader", "right", "I", false)
  | 9 => ("StarEye$PictureReader", "above", "I", false)
  | _ => ("StarEye$PictureReader", "below", "I", false)
def tyX4 : Nat → FieldType := fun k => match k with
  | 0 => .array .int
  | 1 => .array .int
  | 2 => .int
  | 3 => .int
  | 4 => .int
  | 5 => .int
  | 6 => .int
  | 7 => .int
  | 8 => .int
  | 9 => .int
  | _ => .int
abbrev wsX40 : List Cond := u_ws RX4 TX4 11
theorem nmX4 : ∀ a, a < 11 → ∀ b, b < 11 → a ≠ b → (TX4 a).2.1 ≠ (TX4 b).2.1 := by decide +kernel
theorem tyX4_ok : ∀ k, k < 11 → parseFieldDescriptor (TX4 k).2.2.1 = some (tyX4 k) := by decide +kernel
abbrev cX4_init : ByteArray := prog_6_method_1_code
def yX4_init : MethodName := ⟨RX4, "<init>", "()V"⟩
abbrev cX4_read : ByteArray := prog_6_method_2_code
def yX4_read : MethodName := ⟨RX4, "read", "(LStarEye$Text;LStarEye$Book;)LStarEye$Picture;"⟩
abbrev cX4_readRows : ByteArray := prog_6_method_3_code
def yX4_readRows : MethodName := ⟨RX4, "readRows", "(LStarEye$Text;I)Z"⟩
abbrev cX4_gather : ByteArray := prog_6_method_4_code
def yX4_gather : MethodName := ⟨RX4, "gather", "(ILStarEye$Picture;)V"⟩
abbrev cX4_reach : ByteArray := prog_6_method_5_code
def yX4_reach : MethodName := ⟨RX4, "reach", "(II)V"⟩
def RX5 : String := "StarEye$Rules"
def TX5 : u_T := fun k => match k with
  | 0 => ("StarEye$Rules", "code", "[I", true)
  | 1 => ("StarEye$Rules", "ends", "[I", true)
  | 2 => ("StarEye$Rules", "trusts", "[I", true)
  | 3 => ("StarEye$Rules", "stack", "[I", true)
  | 4 => ("StarEye$Rules", "count", "I", false)
  | 5 => ("StarEye$Rules", "units", "I", false)
  | _ => ("StarEye$Rules", "size", "I", false)
def tyX5 : Nat → FieldType := fun k => match k with
  | 0 => .array .int
  | 1 => .array .int
  | 2 => .array .int
  | 3 => .array .int
  | 4 => .int
  | 5 => .int
  | _ => .int
abbrev wsX50 : List Cond := u_ws RX5 TX5 7
theorem nmX5 : ∀ a, a < 7 → ∀ b, b < 7 → a ≠ b → (TX5 a).2.1 ≠ (TX5 b).2.1 := by decide +kernel
theorem tyX5_ok : ∀ k, k < 7 → parseFieldDescriptor (TX5 k).2.2.1 = some (tyX5 k) := by decide +kernel
abbrev cX5_init : ByteArray := prog_7_method_1_code
def yX5_init : MethodName := ⟨RX5, "<init>", "()V"⟩
abbrev cX5_clear : ByteArray := prog_7_method_2_code
def yX5_clear : MethodName := ⟨RX5, "clear", "()V"⟩
abbrev cX5_emit : ByteArray := prog_7_method_3_code
def yX5_emit : MethodName := ⟨RX5, "emit", "(I)V"⟩
abbrev cX5_endRule : ByteArray := prog_7_method_4_code
def yX5_endRule : MethodName := ⟨RX5, "endRule", "(I)V"⟩
abbrev cX5_weigh : ByteArray := prog_7_method_5_code
def yX5_weigh : MethodName := ⟨RX5, "weigh", "([I)I"⟩
abbrev cX5_worthOf : ByteArray := prog_7_method_6_code
def yX5_worthOf : MethodName := ⟨RX5, "worthOf", "(II[I)I"⟩
abbrev cX5_push : ByteArray := prog_7_method_7_code
def yX5_push : MethodName := ⟨RX5, "push", "(II[I)I"⟩
abbrev cX5_turnOver : ByteArray := prog_7_method_8_code
def yX5_turnOver : MethodName := ⟨RX5, "turnOver", "(I)V"⟩
abbrev cX5_join : ByteArray := prog_7_method_9_code
def yX5_join : MethodName := ⟨RX5, "join", "(II)I"⟩
abbrev cX5_joined : ByteArray := prog_7_method_10_code
def yX5_joined : MethodName := ⟨RX5, "joined", "(III)I"⟩
def RX6 : String := "StarEye$RulesReader"
def TX6 : u_T := fun k => match k with
  | _ => ("", "", "", false)
def tyX6 : Nat → FieldType := fun k => match k with
  | _ => .int
abbrev wsX60 : List Cond := u_ws RX6 TX6 0
theorem nmX6 : ∀ a, a < 0 → ∀ b, b < 0 → a ≠ b → (TX6 a).2.1 ≠ (TX6 b).2.1 := by decide +kernel
theorem tyX6_ok : ∀ k, k < 0 → parseFieldDescriptor (TX6 k).2.2.1 = some (tyX6 k) := by decide +kernel
abbrev cX6_init : ByteArray := prog_8_method_1_code
def yX6_init : MethodName := ⟨RX6, "<init>", "()V"⟩
abbrev cX6_read : ByteArray := prog_8_method_2_code
def yX6_read : MethodName := ⟨RX6, "read", "(LStarEye$Text;LStarEye$Rules;)Z"⟩
abbrev cX6_readRule : ByteArray := prog_8_method_3_code
def yX6_readRule : MethodName := ⟨RX6, "readRule", "(LStarEye$Text;LStarEye$Rules;)Z"⟩
abbrev cX6_readEither : ByteArray := prog_8_method_4_code
def yX6_readEither : MethodName := ⟨RX6, "readEither", "(LStarEye$Text;LStarEye$Rules;I)Z"⟩
abbrev cX6_readBoth : ByteArray := prog_8_method_5_code
def yX6_readBoth : MethodName := ⟨RX6, "readBoth", "(LStarEye$Text;LStarEye$Rules;I)Z"⟩
abbrev cX6_readOne : ByteArray := prog_8_method_6_code
def yX6_readOne : MethodName := ⟨RX6, "readOne", "(LStarEye$Text;LStarEye$Rules;I)Z"⟩
abbrev cX6_comparisonAt : ByteArray := prog_8_method_7_code
def yX6_comparisonAt : MethodName := ⟨RX6, "comparisonAt", "(LStarEye$Text;)I"⟩
abbrev cX6_readSum : ByteArray := prog_8_method_8_code
def yX6_readSum : MethodName := ⟨RX6, "readSum", "(LStarEye$Text;LStarEye$Rules;I)Z"⟩
abbrev cX6_readUnit : ByteArray := prog_8_method_9_code
def yX6_readUnit : MethodName := ⟨RX6, "readUnit", "(LStarEye$Text;LStarEye$Rules;I)Z"⟩
abbrev cX6_quantityAt : ByteArray := prog_8_method_10_code
def yX6_quantityAt : MethodName := ⟨RX6, "quantityAt", "(LStarEye$Text;)I"⟩
def RX7 : String := "StarEye$Story"
def TX7 : u_T := fun k => match k with
  | 0 => ("StarEye$Story", "pictures", "[LStarEye$Picture;", true)
  | 1 => ("StarEye$Story", "toldAt", "[I", true)
  | 2 => ("StarEye$Story", "untoldAt", "[I", true)
  | 3 => ("StarEye$Story", "specklessColumns", "[I", true)
  | 4 => ("StarEye$Story", "count", "I", false)
  | 5 => ("StarEye$Story", "time", "I", false)
  | 6 => ("StarEye$Story", "specklessPixels", "I", false)
  | _ => ("StarEye$Story", "kept", "Z", false)
def tyX7 : Nat → FieldType := fun k => match k with
  | 0 => .array (.object "StarEye$Picture")
  | 1 => .array .int
  | 2 => .array .int
  | 3 => .array .int
  | 4 => .int
  | 5 => .int
  | 6 => .int
  | _ => .boolean
abbrev wsX70 : List Cond := u_ws RX7 TX7 8
theorem nmX7 : ∀ a, a < 8 → ∀ b, b < 8 → a ≠ b → (TX7 a).2.1 ≠ (TX7 b).2.1 := by decide +kernel
theorem tyX7_ok : ∀ k, k < 8 → parseFieldDescriptor (TX7 k).2.2.1 = some (tyX7 k) := by decide +kernel
abbrev cX7_init : ByteArray := prog_9_method_1_code
def yX7_init : MethodName := ⟨RX7, "<init>", "()V"⟩
abbrev cX7_clear : ByteArray := prog_9_method_2_code
def yX7_clear : MethodName := ⟨RX7, "clear", "()V"⟩
abbrev cX7_copyFrom : ByteArray := prog_9_method_3_code
def yX7_copyFrom : MethodName := ⟨RX7, "copyFrom", "(LStarEye$Story;)V"⟩
abbrev cX7_add : ByteArray := prog_9_method_4_code
def yX7_add : MethodName := ⟨RX7, "add", "(LStarEye$Picture;)I"⟩
abbrev cX7_drop : ByteArray := prog_9_method_5_code
def yX7_drop : MethodName := ⟨RX7, "drop", "(I)Z"⟩
abbrev cX7_known : ByteArray := prog_9_method_6_code
def yX7_known : MethodName := ⟨RX7, "known", "(II)LStarEye$Picture;"⟩
abbrev cX7_setSpeckless : ByteArray := prog_9_method_7_code
def yX7_setSpeckless : MethodName := ⟨RX7, "setSpeckless", "(IIZ)Z"⟩
abbrev cX7_isSpeckless : ByteArray := prog_9_method_8_code
def yX7_isSpeckless : MethodName := ⟨RX7, "isSpeckless", "(II)Z"⟩
abbrev cX7_specksOf : ByteArray := prog_9_method_9_code
def yX7_specksOf : MethodName := ⟨RX7, "specksOf", "(LStarEye$Picture;I)I"⟩
abbrev cX7_stays : ByteArray := prog_9_method_10_code
def yX7_stays : MethodName := ⟨RX7, "stays", "(III)Z"⟩
abbrev cX7_pointsOf : ByteArray := prog_9_method_11_code
def yX7_pointsOf : MethodName := ⟨RX7, "pointsOf", "(LStarEye$Picture;I)I"⟩
def RX8 : String := "StarEye$Survey"
def TX8 : u_T := fun k => match k with
  | 0 => ("StarEye$Survey", "sees", "[I", true)
  | 1 => ("StarEye$Survey", "wants", "[I", true)
  | 2 => ("StarEye$Survey", "order", "[I", true)
  | 3 => ("StarEye$Survey", "bytesOf", "[I", true)
  | 4 => ("StarEye$Survey", "looks", "I", false)
  | 5 => ("StarEye$Survey", "holes", "I", false)
  | 6 => ("StarEye$Survey", "firstHole", "I", false)
  | 7 => ("StarEye$Survey", "wanting", "I", false)
  | 8 => ("StarEye$Survey", "choice", "I", false)
  | 9 => ("StarEye$Survey", "doublePairs", "I", false)
  | 10 => ("StarEye$Survey", "hasLooked", "Z", false)
  | 11 => ("StarEye$Survey", "hasChosen", "Z", false)
  | 12 => ("StarEye$Survey", "hasHeld", "Z", false)
  | _ => ("StarEye$Survey", "hasDoubles", "Z", false)
def tyX8 : Nat → FieldType := fun k => match k with
  | 0 => .array .int
  | 1 => .array .int
  | 2 => .array .int
  | 3 => .array .int
  | 4 => .int
  | 5 => .int
  | 6 => .int
  | 7 => .int
  | 8 => .int
  | 9 => .int
  | 10 => .boolean
  | 11 => .boolean
  | 12 => .boolean
  | _ => .boolean
abbrev wsX80 : List Cond := u_ws RX8 TX8 14
theorem nmX8 : ∀ a, a < 14 → ∀ b, b < 14 → a ≠ b → (TX8 a).2.1 ≠ (TX8 b).2.1 := by decide +kernel
theorem tyX8_ok : ∀ k, k < 14 → parseFieldDescriptor (TX8 k).2.2.1 = some (tyX8 k) := by decide +kernel
abbrev cX8_init : ByteArray := prog_10_method_1_code
def yX8_init : MethodName := ⟨RX8, "<init>", "()V"⟩
abbrev cX8_forget : ByteArray := prog_10_method_2_code
def yX8_forget : MethodName := ⟨RX8, "forget", "()V"⟩
abbrev cX8_lookAround : ByteArray := prog_10_method_3_code
def yX8_lookAround : MethodName := ⟨RX8, "lookAround", "(LStarEye$Book;)V"⟩
abbrev cX8_lookFrom : ByteArray := prog_10_method_4_code
def yX8_lookFrom : MethodName := ⟨RX8, "lookFrom", "(LStarEye$Book;II)V"⟩
abbrev cX8_addWant : ByteArray := prog_10_method_5_code
def yX8_addWant : MethodName := ⟨RX8, "addWant", "(II)V"⟩
abbrev cX8_choose : ByteArray := prog_10_method_6_code
def yX8_choose : MethodName := ⟨RX8, "choose", "(LStarEye$Book;)I"⟩
abbrev cX8_chooseBelow : ByteArray := prog_10_method_7_code
def yX8_chooseBelow : MethodName := ⟨RX8, "chooseBelow", "(III)Z"⟩
abbrev cX8_canMeet : ByteArray := prog_10_method_8_code
def yX8_canMeet : MethodName := ⟨RX8, "canMeet", "(III)Z"⟩
abbrev cX8_hold : ByteArray := prog_10_method_9_code
def yX8_hold : MethodName := ⟨RX8, "hold", "(LStarEye$Book;I)I"⟩
abbrev cX8_orderByLight : ByteArray := prog_10_method_10_code
def yX8_orderByLight : MethodName := ⟨RX8, "orderByLight", "(LStarEye$Book;)V"⟩
abbrev cX8_countBytes : ByteArray := prog_10_method_11_code
def yX8_countBytes : MethodName := ⟨RX8, "countBytes", "(LStarEye$Book;)V"⟩
abbrev cX8_countDoubles : ByteArray := prog_10_method_12_code
def yX8_countDoubles : MethodName := ⟨RX8, "countDoubles", "(LStarEye$Book;)I"⟩
abbrev cX8_isDouble : ByteArray := prog_10_method_13_code
def yX8_isDouble : MethodName := ⟨RX8, "isDouble", "(LStarEye$Book;II)Z"⟩
def RX9 : String := "StarEye$Text"
def TX9 : u_T := fun k => match k with
  | 0 => ("StarEye$Text", "bytes", "[B", true)
  | 1 => ("StarEye$Text", "length", "I", false)
  | 2 => ("StarEye$Text", "fault", "I", false)
  | 3 => ("StarEye$Text", "faultPlace", "I", false)
  | 4 => ("StarEye$Text", "kind", "I", false)
  | 5 => ("StarEye$Text", "place", "I", false)
  | 6 => ("StarEye$Text", "value", "I", false)
  | 7 => ("StarEye$Text", "letters", "J", false)
  | 8 => ("StarEye$Text", "taken", "I", false)
  | 9 => ("StarEye$Text", "takenPlace", "I", false)
  | 10 => ("StarEye$Text", "at", "I", false)
  | 11 => ("StarEye$Text", "ofRules", "Z", false)
  | _ => ("StarEye$Text", "ownWords", "[J", true)
def tyX9 : Nat → FieldType := fun k => match k with
  | 0 => .array .byte
  | 1 => .int
  | 2 => .int
  | 3 => .int
  | 4 => .int
  | 5 => .int
  | 6 => .int
  | 7 => .long
  | 8 => .int
  | 9 => .int
  | 10 => .int
  | 11 => .boolean
  | _ => .array .long
abbrev wsX90 : List Cond := u_ws RX9 TX9 13
theorem nmX9 : ∀ a, a < 13 → ∀ b, b < 13 → a ≠ b → (TX9 a).2.1 ≠ (TX9 b).2.1 := by decide +kernel
theorem tyX9_ok : ∀ k, k < 13 → parseFieldDescriptor (TX9 k).2.2.1 = some (tyX9 k) := by decide +kernel
abbrev cX9_init : ByteArray := prog_11_method_1_code
def yX9_init : MethodName := ⟨RX9, "<init>", "()V"⟩
abbrev cX9_put : ByteArray := prog_11_method_2_code
def yX9_put : MethodName := ⟨RX9, "put", "(I)V"⟩
abbrev cX9_byteAt : ByteArray := prog_11_method_3_code
def yX9_byteAt : MethodName := ⟨RX9, "byteAt", "(I)I"⟩
abbrev cX9_open : ByteArray := prog_11_method_4_code
def yX9_open : MethodName := ⟨RX9, "open", "(Z)V"⟩
abbrev cX9_refuse : ByteArray := prog_11_method_5_code
def yX9_refuse : MethodName := ⟨RX9, "refuse", "(II)Z"⟩
abbrev cX9_refuseHere : ByteArray := prog_11_method_6_code
def yX9_refuseHere : MethodName := ⟨RX9, "refuseHere", "()Z"⟩
abbrev cX9_next : ByteArray := prog_11_method_7_code
def yX9_next : MethodName := ⟨RX9, "next", "()V"⟩
abbrev cX9_ownWord : ByteArray := prog_11_method_8_code
def yX9_ownWord : MethodName := ⟨RX9, "ownWord", "()I"⟩
abbrev cX9_sortOf : ByteArray := prog_11_method_9_code
def yX9_sortOf : MethodName := ⟨RX9, "sortOf", "(I)I"⟩
abbrev cX9_isBlank : ByteArray := prog_11_method_10_code
def yX9_isBlank : MethodName := ⟨RX9, "isBlank", "(I)Z"⟩
abbrev cX9_isDigit : ByteArray := prog_11_method_11_code
def yX9_isDigit : MethodName := ⟨RX9, "isDigit", "(I)Z"⟩
abbrev cX9_isAtWord : ByteArray := prog_11_method_12_code
def yX9_isAtWord : MethodName := ⟨RX9, "isAtWord", "(I)Z"⟩
abbrev cX9_isAtSign : ByteArray := prog_11_method_13_code
def yX9_isAtSign : MethodName := ⟨RX9, "isAtSign", "(C)Z"⟩
abbrev cX9_takeWord : ByteArray := prog_11_method_14_code
def yX9_takeWord : MethodName := ⟨RX9, "takeWord", "(I)Z"⟩
abbrev cX9_takeSign : ByteArray := prog_11_method_15_code
def yX9_takeSign : MethodName := ⟨RX9, "takeSign", "(C)Z"⟩
abbrev cX9_takeNumber : ByteArray := prog_11_method_16_code
def yX9_takeNumber : MethodName := ⟨RX9, "takeNumber", "(II)Z"⟩
abbrev cX9_takeSigned : ByteArray := prog_11_method_17_code
def yX9_takeSigned : MethodName := ⟨RX9, "takeSigned", "(I)Z"⟩
def RX10 : String := "StarEye$Turn"
def TX10 : u_T := fun k => match k with
  | 0 => ("StarEye$Turn", "a", "J", false)
  | 1 => ("StarEye$Turn", "c", "J", false)
  | 2 => ("StarEye$Turn", "s", "J", false)
  | 3 => ("StarEye$Turn", "count", "J", false)
  | 4 => ("StarEye$Turn", "pointsX", "J", false)
  | 5 => ("StarEye$Turn", "pointsY", "J", false)
  | 6 => ("StarEye$Turn", "starsX", "J", false)
  | _ => ("StarEye$Turn", "starsY", "J", false)
def tyX10 : Nat → FieldType := fun k => match k with
  | 0 => .long
  | 1 => .long
  | 2 => .long
  | 3 => .long
  | 4 => .long
  | 5 => .long
  | 6 => .long
  | _ => .long
abbrev wsX100 : List Cond := u_ws RX10 TX10 8
theorem nmX10 : ∀ a, a < 8 → ∀ b, b < 8 → a ≠ b → (TX10 a).2.1 ≠ (TX10 b).2.1 := by decide +kernel
theorem tyX10_ok : ∀ k, k < 8 → parseFieldDescriptor (TX10 k).2.2.1 = some (tyX10 k) := by decide +kernel
abbrev cX10_init : ByteArray := prog_12_method_1_code
def yX10_init : MethodName := ⟨RX10, "<init>", "()V"⟩
abbrev cX10_find : ByteArray := prog_12_method_2_code
def yX10_find : MethodName := ⟨RX10, "find", "(LStarEye$Picture;ILStarEye$Book;)V"⟩
abbrev cX10_clear : ByteArray := prog_12_method_3_code
def yX10_clear : MethodName := ⟨RX10, "clear", "()V"⟩
abbrev cX10_addPair : ByteArray := prog_12_method_4_code
def yX10_addPair : MethodName := ⟨RX10, "addPair", "(IIII)V"⟩
abbrev cX10_lookUpperX : ByteArray := prog_12_method_5_code
def yX10_lookUpperX : MethodName := ⟨RX10, "lookUpperX", "(J)J"⟩
abbrev cX10_lookUpperY : ByteArray := prog_12_method_6_code
def yX10_lookUpperY : MethodName := ⟨RX10, "lookUpperY", "(J)J"⟩
abbrev cX10_lookLower : ByteArray := prog_12_method_7_code
def yX10_lookLower : MethodName := ⟨RX10, "lookLower", "()J"⟩
abbrev cX10_stretchOr : ByteArray := prog_12_method_8_code
def yX10_stretchOr : MethodName := ⟨RX10, "stretchOr", "(J)J"⟩
def RX11 : String := "StarEye"
def TX11 : u_T := fun k => match k with
  | 0 => ("StarEye", "tape", "LStarEye$Text;", true)
  | 1 => ("StarEye", "bookReader", "LStarEye$BookReader;", true)
  | 2 => ("StarEye", "pictureReader", "LStarEye$PictureReader;", true)
  | 3 => ("StarEye", "rulesReader", "LStarEye$RulesReader;", true)
  | 4 => ("StarEye", "survey", "LStarEye$Survey;", true)
  | 5 => ("StarEye", "namer", "LStarEye$Namer;", true)
  | 6 => ("StarEye", "turn", "LStarEye$Turn;", true)
  | 7 => ("StarEye", "story", "LStarEye$Story;", true)
  | 8 => ("StarEye", "boxes", "[LStarEye$Story;", true)
  | 9 => ("StarEye", "quantities", "[I", true)
  | 10 => ("StarEye", "followers", "[I", true)
  | 11 => ("StarEye", "sky", "LStarEye$Book;", false)
  | 12 => ("StarEye", "spareSky", "LStarEye$Book;", false)
  | 13 => ("StarEye", "law", "LStarEye$Rules;", false)
  | _ => ("StarEye", "spareLaw", "LStarEye$Rules;", false)
def tyX11 : Nat → FieldType := fun k => match k with
  | 0 => .object "StarEye$Text"
  | 1 => .object "StarEye$BookReader"
  | 2 => .object "StarEye$PictureReader"
  | 3 => .object "StarEye$RulesReader"
  | 4 => .object "StarEye$Survey"
  | 5 => .object "StarEye$Namer"
  | 6 => .object "StarEye$Turn"
  | 7 => .object "StarEye$Story"
  | 8 => .array (.object "StarEye$Story")
  | 9 => .array .int
  | 10 => .array .int
  | 11 => .object "StarEye$Book"
  | 12 => .object "StarEye$Book"
  | 13 => .object "StarEye$Rules"
  | _ => .object "StarEye$Rules"
abbrev wsX110 : List Cond := u_ws RX11 TX11 15
theorem nmX11 : ∀ a, a < 15 → ∀ b, b < 15 → a ≠ b → (TX11 a).2.1 ≠ (TX11 b).2.1 := by decide +kernel
theorem tyX11_ok : ∀ k, k < 15 → parseFieldDescriptor (TX11 k).2.2.1 = some (tyX11 k) := by decide +kernel
abbrev cX11_init : ByteArray := prog_1_method_1_code
def yX11_init : MethodName := ⟨RX11, "<init>", "()V"⟩
abbrev cX11_feed : ByteArray := prog_1_method_2_code
def yX11_feed : MethodName := ⟨RX11, "feed", "(IIIII)I"⟩
abbrev cX11_end : ByteArray := prog_1_method_3_code
def yX11_end : MethodName := ⟨RX11, "end", "(I)I"⟩
abbrev cX11_book : ByteArray := prog_1_method_4_code
def yX11_book : MethodName := ⟨RX11, "book", "()I"⟩
abbrev cX11_picture : ByteArray := prog_1_method_5_code
def yX11_picture : MethodName := ⟨RX11, "picture", "()I"⟩
abbrev cX11_rules : ByteArray := prog_1_method_6_code
def yX11_rules : MethodName := ⟨RX11, "rules", "()I"⟩
abbrev cX11_fault : ByteArray := prog_1_method_7_code
def yX11_fault : MethodName := ⟨RX11, "fault", "(I)I"⟩
abbrev cX11_untell : ByteArray := prog_1_method_8_code
def yX11_untell : MethodName := ⟨RX11, "untell", "(I)Z"⟩
abbrev cX11_later : ByteArray := prog_1_method_9_code
def yX11_later : MethodName := ⟨RX11, "later", "(I)I"⟩
abbrev cX11_speckless : ByteArray := prog_1_method_10_code
def yX11_speckless : MethodName := ⟨RX11, "speckless", "(IIZ)Z"⟩
abbrev cX11_dots : ByteArray := prog_1_method_11_code
def yX11_dots : MethodName := ⟨RX11, "dots", "(III)I"⟩
abbrev cX11_dot : ByteArray := prog_1_method_12_code
def yX11_dot : MethodName := ⟨RX11, "dot", "(IIII)I"⟩
abbrev cX11_point : ByteArray := prog_1_method_13_code
def yX11_point : MethodName := ⟨RX11, "point", "(III)I"⟩
abbrev cX11_length : ByteArray := prog_1_method_14_code
def yX11_length : MethodName := ⟨RX11, "length", "(II)I"⟩
abbrev cX11_namings : ByteArray := prog_1_method_15_code
def yX11_namings : MethodName := ⟨RX11, "namings", "(III)I"⟩
abbrev cX11_named : ByteArray := prog_1_method_16_code
def yX11_named : MethodName := ⟨RX11, "named", "(IIII)I"⟩
abbrev cX11_odds : ByteArray := prog_1_method_17_code
def yX11_odds : MethodName := ⟨RX11, "odds", "(IIII)J"⟩
abbrev cX11_told : ByteArray := prog_1_method_18_code
def yX11_told : MethodName := ⟨RX11, "told", "(II)I"⟩
abbrev cX11_turn : ByteArray := prog_1_method_19_code
def yX11_turn : MethodName := ⟨RX11, "turn", "(IIII)J"⟩
abbrev cX11_look : ByteArray := prog_1_method_20_code
def yX11_look : MethodName := ⟨RX11, "look", "(IIIII)J"⟩
abbrev cX11_stretch : ByteArray := prog_1_method_21_code
def yX11_stretch : MethodName := ⟨RX11, "stretch", "(III)J"⟩
abbrev cX11_followed : ByteArray := prog_1_method_22_code
def yX11_followed : MethodName := ⟨RX11, "followed", "(IIIIII)I"⟩
abbrev cX11_follow : ByteArray := prog_1_method_23_code
def yX11_follow : MethodName := ⟨RX11, "follow", "(IIIIII)I"⟩
abbrev cX11_wanderers : ByteArray := prog_1_method_24_code
def yX11_wanderers : MethodName := ⟨RX11, "wanderers", "(II)I"⟩
abbrev cX11_shift : ByteArray := prog_1_method_25_code
def yX11_shift : MethodName := ⟨RX11, "shift", "(IIIII)J"⟩
abbrev cX11_liar : ByteArray := prog_1_method_26_code
def yX11_liar : MethodName := ⟨RX11, "liar", "(III)I"⟩
abbrev cX11_looks : ByteArray := prog_1_method_27_code
def yX11_looks : MethodName := ⟨RX11, "looks", "(I)I"⟩
abbrev cX11_chosen : ByteArray := prog_1_method_28_code
def yX11_chosen : MethodName := ⟨RX11, "chosen", "(I)I"⟩
abbrev cX11_held : ByteArray := prog_1_method_29_code
def yX11_held : MethodName := ⟨RX11, "held", "(I)I"⟩
abbrev cX11_doubles : ByteArray := prog_1_method_30_code
def yX11_doubles : MethodName := ⟨RX11, "doubles", "()I"⟩
abbrev cX11_trust : ByteArray := prog_1_method_31_code
def yX11_trust : MethodName := ⟨RX11, "trust", "(II)I"⟩
abbrev cX11_believed : ByteArray := prog_1_method_32_code
def yX11_believed : MethodName := ⟨RX11, "believed", "(I)I"⟩
abbrev cX11_image : ByteArray := prog_1_method_33_code
def yX11_image : MethodName := ⟨RX11, "image", "(I)I"⟩
abbrev cX11_back : ByteArray := prog_1_method_34_code
def yX11_back : MethodName := ⟨RX11, "back", "(I)I"⟩
abbrev cX11_about : ByteArray := prog_1_method_35_code
def yX11_about : MethodName := ⟨RX11, "about", "(I)I"⟩
abbrev cX11_kindOf : ByteArray := prog_1_method_36_code
def yX11_kindOf : MethodName := ⟨RX11, "kindOf", "(LStarEye$Picture;II)I"⟩
abbrev cX11_knownAndNamed : ByteArray := prog_1_method_37_code
def yX11_knownAndNamed : MethodName := ⟨RX11, "knownAndNamed", "(II)LStarEye$Picture;"⟩
abbrev cX11_toldOf : ByteArray := prog_1_method_38_code
def yX11_toldOf : MethodName := ⟨RX11, "toldOf", "(LStarEye$Picture;)I"⟩
abbrev cX11_findTurn : ByteArray := prog_1_method_39_code
def yX11_findTurn : MethodName := ⟨RX11, "findTurn", "(III)Z"⟩
abbrev cX11_canShift : ByteArray := prog_1_method_40_code
def yX11_canShift : MethodName := ⟨RX11, "canShift", "(I)Z"⟩
abbrev cX11_followAll : ByteArray := prog_1_method_41_code
def yX11_followAll : MethodName := ⟨RX11, "followAll", "(LStarEye$Picture;ILStarEye$Picture;III)I"⟩
abbrev cX11_trustOf : ByteArray := prog_1_method_42_code
def yX11_trustOf : MethodName := ⟨RX11, "trustOf", "(II)I"⟩
abbrev cX11_nthBit : ByteArray := prog_1_method_43_code
def yX11_nthBit : MethodName := ⟨RX11, "nthBit", "(II)I"⟩
abbrev cX11_root : ByteArray := prog_1_method_44_code
def yX11_root : MethodName := ⟨RX11, "root", "(J)J"⟩
abbrev cX11_common : ByteArray := prog_1_method_45_code
def yX11_common : MethodName := ⟨RX11, "common", "(JJ)J"⟩
abbrev cX11_inLowestTerms : ByteArray := prog_1_method_46_code
def yX11_inLowestTerms : MethodName := ⟨RX11, "inLowestTerms", "(JJJ)J"⟩
abbrev cX11_square : ByteArray := prog_1_method_47_code
def yX11_square : MethodName := ⟨RX11, "square", "(I)I"⟩
def RX12 : String := "StarEyeModel"
def TX12 : u_T := fun k => match k with
  | 0 => ("StarEyeModel", "tape", "[I", true)
  | 1 => ("StarEyeModel", "taped", "I", false)
  | 2 => ("StarEyeModel", "fault", "I", false)
  | 3 => ("StarEyeModel", "faultPlace", "I", false)
  | 4 => ("StarEyeModel", "at", "I", false)
  | 5 => ("StarEyeModel", "size", "I", false)
  | 6 => ("StarEyeModel", "sort", "I", false)
  | 7 => ("StarEyeModel", "place", "I", false)
  | 8 => ("StarEyeModel", "number", "I", false)
  | 9 => ("StarEyeModel", "word", "J", false)
  | 10 => ("StarEyeModel", "ofRules", "Z", false)
  | 11 => ("StarEyeModel", "nTold", "[I", true)
  | 12 => ("StarEyeModel", "told", "[I", true)
  | 13 => ("StarEyeModel", "nX", "[I", true)
  | 14 => ("StarEyeModel", "nY", "[I", true)
  | 15 => ("StarEyeModel", "nLight", "[I", true)
  | 16 => ("StarEyeModel", "starX", "[I", true)
  | 17 => ("StarEyeModel", "starY", "[I", true)
  | 18 => ("StarEyeModel", "starLight", "[I", true)
  | 19 => ("StarEyeModel", "nHas", "[Z", true)
  | 20 => ("StarEyeModel", "nName", "[J", true)
  | 21 => ("StarEyeModel", "nStars", "I", false)
  | 22 => ("StarEyeModel", "stars", "I", false)
  | 23 => ("StarEyeModel", "lights", "[I", true)
  | 24 => ("StarEyeModel", "nRow", "[I", true)
  | 25 => ("StarEyeModel", "whenTold", "[I", true)
  | 26 => ("StarEyeModel", "untold", "[I", true)
  | 27 => ("StarEyeModel", "isFree", "[Z", true)
  | 28 => ("StarEyeModel", "pictures", "I", false)
  | 29 => ("StarEyeModel", "time", "I", false)
  | 30 => ("StarEyeModel", "dLight", "[I", true)
  | 31 => ("StarEyeModel", "dX", "[I", true)
  | 32 => ("StarEyeModel", "dY", "[I", true)
  | 33 => ("StarEyeModel", "dPixels", "[I", true)
  | 34 => ("StarEyeModel", "dKind", "[I", true)
  | 35 => ("StarEyeModel", "order", "[I", true)
  | 36 => ("StarEyeModel", "marks", "[I", true)
  | 37 => ("StarEyeModel", "dSmear", "[Z", true)
  | 38 => ("StarEyeModel", "found", "I", false)
  | 39 => ("StarEyeModel", "dotMany", "I", false)
  | 40 => ("StarEyeModel", "seen", "[I", true)
  | 41 => ("StarEyeModel", "isHere", "[Z", true)
  | 42 => ("StarEyeModel", "points", "[I", true)
  | 43 => ("StarEyeModel", "pointMany", "I", false)
  | 44 => ("StarEyeModel", "ofStars", "[I", true)
  | 45 => ("StarEyeModel", "ofPoints", "[I", true)
  | 46 => ("StarEyeModel", "row", "[I", true)
  | 47 => ("StarEyeModel", "names", "[I", true)
  | 48 => ("StarEyeModel", "namingMany", "I", false)
  | 49 => ("StarEyeModel", "namedMany", "I", false)
  | 50 => ("StarEyeModel", "up", "J", false)
  | 51 => ("StarEyeModel", "low", "J", false)
  | 52 => ("StarEyeModel", "sumA", "J", false)
  | 53 => ("StarEyeModel", "sumC", "J", false)
  | 54 => ("StarEyeModel", "sumS", "J", false)
  | 55 => ("StarEyeModel", "allX", "J", false)
  | 56 => ("StarEyeModel", "allY", "J", false)
  | 57 => ("StarEyeModel", "allStarX", "J", false)
  | 58 => ("StarEyeModel", "allStarY", "J", false)
  | 59 => ("StarEyeModel", "many", "J", false)
  | 60 => ("StarEyeModel", "fromX", "[I", true)
  | 61 => ("StarEyeModel", "fromY", "[I", true)
  | 62 => ("StarEyeModel", "becomes", "[I", true)
  | 63 => ("StarEyeModel", "isTaken", "[Z", true)
  | 64 => ("StarEyeModel", "fromMany", "I", false)
  | 65 => ("StarEyeModel", "followedMany", "I", false)
  | 66 => ("StarEyeModel", "placeX", "I", false)
  | 67 => ("StarEyeModel", "placeY", "I", false)
  | 68 => ("StarEyeModel", "bright", "[I", true)
  | 69 => ("StarEyeModel", "nWhat", "[I", true)
  | 70 => ("StarEyeModel", "nNumber", "[I", true)
  | 71 => ("StarEyeModel", "nBegin", "[I", true)
  | 72 => ("StarEyeModel", "nTrust", "[I", true)
  | 73 => ("StarEyeModel", "whats", "[I", true)
  | 74 => ("StarEyeModel", "numbers", "[I", true)
  | 75 => ("StarEyeModel", "begin", "[I", true)
  | 76 => ("StarEyeModel", "trusts", "[I", true)
  | 77 => ("StarEyeModel", "waits", "[I", true)
  | 78 => ("StarEyeModel", "pile", "[I", true)
  | 79 => ("StarEyeModel", "asked", "[I", true)
  | 80 => ("StarEyeModel", "nNotes", "I", false)
  | 81 => ("StarEyeModel", "nRules", "I", false)
  | 82 => ("StarEyeModel", "nUnits", "I", false)
  | 83 => ("StarEyeModel", "ruleMany", "I", false)
  | 84 => ("StarEyeModel", "units", "I", false)
  | 85 => ("StarEyeModel", "waiting", "I", false)
  | 86 => ("StarEyeModel", "deep", "I", false)
  | 87 => ("StarEyeModel", "hasBox", "[Z", true)
  | 88 => ("StarEyeModel", "boxFree", "[Z", true)
  | 89 => ("StarEyeModel", "boxLights", "[I", true)
  | 90 => ("StarEyeModel", "boxTold", "[I", true)
  | 91 => ("StarEyeModel", "boxUntold", "[I", true)
  | 92 => ("StarEyeModel", "boxMany", "[I", true)
  | _ => ("StarEyeModel", "boxTime", "[I", true)
def tyX12 : Nat → FieldType := fun k => match k with
  | 0 => .array .int
  | 1 => .int
  | 2 => .int
  | 3 => .int
  | 4 => .int
  | 5 => .int
  | 6 => .int
  | 7 => .int
  | 8 => .int
  | 9 => .long
  | 10 => .boolean
  | 11 => .array .int
  | 12 => .array .int
  | 13 => .array .int
  | 14 => .array .int
  | 15 => .array .int
  | 16 => .array .int
  | 17 => .array .int
  | 18 => .array .int
  | 19 => .array .boolean
  | 20 => .array .long
  | 21 => .int
  | 22 => .int
  | 23 => .array .int
  | 24 => .array .int
  | 25 => .array .int
  | 26 => .array .int
  | 27 => .array .boolean
  | 28 => .int
  | 29 => .int
  | 30 => .array .int
  | 31 => .array .int
  | 32 => .array .int
  | 33 => .array .int
  | 34 => .array .int
  | 35 => .array .int
  | 36 => .array .int
  | 37 => .array .boolean
  | 38 => .int
  | 39 => .int
  | 40 => .array .int
  | 41 => .array .boolean
  | 42 => .array .int
  | 43 => .int
  | 44 => .array .int
  | 45 => .array .int
  | 46 => .array .int
  | 47 => .array .int
  | 48 => .int
  | 49 => .int
  | 50 => .long
  | 51 => .long
  | 52 => .long
  | 53 => .long
  | 54 => .long
  | 55 => .long
  | 56 => .long
  | 57 => .long
  | 58 => .long
  | 59 => .long
  | 60 => .array .int
  | 61 => .array .int
  | 62 => .array .int
  | 63 => .array .boolean
  | 64 => .int
  | 65 => .int
  | 66 => .int
  | 67 => .int
  | 68 => .array .int
  | 69 => .array .int
  | 70 => .array .int
  | 71 => .array .int
  | 72 => .array .int
  | 73 => .array .int
  | 74 => .array .int
  | 75 => .array .int
  | 76 => .array .int
  | 77 => .array .int
  | 78 => .array .int
  | 79 => .array .int
  | 80 => .int
  | 81 => .int
  | 82 => .int
  | 83 => .int
  | 84 => .int
  | 85 => .int
  | 86 => .int
  | 87 => .array .boolean
  | 88 => .array .boolean
  | 89 => .array .int
  | 90 => .array .int
  | 91 => .array .int
  | 92 => .array .int
  | _ => .array .int
abbrev wsX120 : List Cond := u_ws RX12 TX12 94
theorem nmX12 : ∀ a, a < 94 → ∀ b, b < 94 → a ≠ b → (TX12 a).2.1 ≠ (TX12 b).2.1 := by decide +kernel
theorem tyX12_ok : ∀ k, k < 94 → parseFieldDescriptor (TX12 k).2.2.1 = some (tyX12 k) := by decide +kernel
abbrev cX12_init : ByteArray := prog_14_method_1_code
def yX12_init : MethodName := ⟨RX12, "<init>", "()V"⟩
abbrev cX12_feed : ByteArray := prog_14_method_2_code
def yX12_feed : MethodName := ⟨RX12, "feed", "(IIIII)I"⟩
abbrev cX12_four : ByteArray := prog_14_method_3_code
def yX12_four : MethodName := ⟨RX12, "four", "(I)V"⟩
abbrev cX12_end : ByteArray := prog_14_method_4_code
def yX12_end : MethodName := ⟨RX12, "end", "(I)I"⟩
abbrev cX12_here : ByteArray := prog_14_method_5_code
def yX12_here : MethodName := ⟨RX12, "here", "(I)I"⟩
abbrev cX12_isLetter : ByteArray := prog_14_method_6_code
def yX12_isLetter : MethodName := ⟨RX12, "isLetter", "(I)Z"⟩
abbrev cX12_isDigit : ByteArray := prog_14_method_7_code
def yX12_isDigit : MethodName := ⟨RX12, "isDigit", "(I)Z"⟩
abbrev cX12_isSign : ByteArray := prog_14_method_8_code
def yX12_isSign : MethodName := ⟨RX12, "isSign", "(I)Z"⟩
abbrev cX12_token : ByteArray := prog_14_method_9_code
def yX12_token : MethodName := ⟨RX12, "token", "()V"⟩
abbrev cX12_wrong : ByteArray := prog_14_method_10_code
def yX12_wrong : MethodName := ⟨RX12, "wrong", "(I)V"⟩
abbrev cX12_start : ByteArray := prog_14_method_11_code
def yX12_start : MethodName := ⟨RX12, "start", "()V"⟩
abbrev cX12_isWord : ByteArray := prog_14_method_12_code
def yX12_isWord : MethodName := ⟨RX12, "isWord", "(J)Z"⟩
abbrev cX12_isName : ByteArray := prog_14_method_13_code
def yX12_isName : MethodName := ⟨RX12, "isName", "()Z"⟩
abbrev cX12_want : ByteArray := prog_14_method_14_code
def yX12_want : MethodName := ⟨RX12, "want", "(J)V"⟩
abbrev cX12_toldNumber : ByteArray := prog_14_method_15_code
def yX12_toldNumber : MethodName := ⟨RX12, "toldNumber", "(II)I"⟩
abbrev cX12_signed : ByteArray := prog_14_method_16_code
def yX12_signed : MethodName := ⟨RX12, "signed", "(II)I"⟩
abbrev cX12_plainOf : ByteArray := prog_14_method_17_code
def yX12_plainOf : MethodName := ⟨RX12, "plainOf", "(I)I"⟩
abbrev cX12_plain : ByteArray := prog_14_method_18_code
def yX12_plain : MethodName := ⟨RX12, "plain", "()V"⟩
abbrev cX12_readStar : ByteArray := prog_14_method_19_code
def yX12_readStar : MethodName := ⟨RX12, "readStar", "()V"⟩
abbrev cX12_lineOf : ByteArray := prog_14_method_20_code
def yX12_lineOf : MethodName := ⟨RX12, "lineOf", "()I"⟩
abbrev cX12_toldBy : ByteArray := prog_14_method_21_code
def yX12_toldBy : MethodName := ⟨RX12, "toldBy", "(JII)I"⟩
abbrev cX12_readTold : ByteArray := prog_14_method_22_code
def yX12_readTold : MethodName := ⟨RX12, "readTold", "(I)V"⟩
abbrev cX12_book : ByteArray := prog_14_method_23_code
def yX12_book : MethodName := ⟨RX12, "book", "()I"⟩
abbrev cX12_fault : ByteArray := prog_14_method_24_code
def yX12_fault : MethodName := ⟨RX12, "fault", "(I)I"⟩
abbrev cX12_readPicture : ByteArray := prog_14_method_25_code
def yX12_readPicture : MethodName := ⟨RX12, "readPicture", "()V"⟩
abbrev cX12_picture : ByteArray := prog_14_method_26_code
def yX12_picture : MethodName := ⟨RX12, "picture", "()I"⟩
abbrev cX12_untell : ByteArray := prog_14_method_27_code
def yX12_untell : MethodName := ⟨RX12, "untell", "(I)Z"⟩
abbrev cX12_later : ByteArray := prog_14_method_28_code
def yX12_later : MethodName := ⟨RX12, "later", "(I)I"⟩
abbrev cX12_counts : ByteArray := prog_14_method_29_code
def yX12_counts : MethodName := ⟨RX12, "counts", "(II)Z"⟩
abbrev cX12_isIn : ByteArray := prog_14_method_30_code
def yX12_isIn : MethodName := ⟨RX12, "isIn", "(II)Z"⟩
abbrev cX12_speckless : ByteArray := prog_14_method_31_code
def yX12_speckless : MethodName := ⟨RX12, "speckless", "(IIZ)Z"⟩
abbrev cX12_isBright : ByteArray := prog_14_method_32_code
def yX12_isBright : MethodName := ⟨RX12, "isBright", "(II)Z"⟩
abbrev cX12_spread : ByteArray := prog_14_method_33_code
def yX12_spread : MethodName := ⟨RX12, "spread", "(III)V"⟩
abbrev cX12_measure : ByteArray := prog_14_method_34_code
def yX12_measure : MethodName := ⟨RX12, "measure", "(II)V"⟩
abbrev cX12_isAhead : ByteArray := prog_14_method_35_code
def yX12_isAhead : MethodName := ⟨RX12, "isAhead", "(II)Z"⟩
abbrev cX12_findDots : ByteArray := prog_14_method_36_code
def yX12_findDots : MethodName := ⟨RX12, "findDots", "(I)V"⟩
abbrev cX12_pixelOf : ByteArray := prog_14_method_37_code
def yX12_pixelOf : MethodName := ⟨RX12, "pixelOf", "(I)I"⟩
abbrev cX12_lookAt : ByteArray := prog_14_method_38_code
def yX12_lookAt : MethodName := ⟨RX12, "lookAt", "(II)V"⟩
abbrev cX12_kinds : ByteArray := prog_14_method_39_code
def yX12_kinds : MethodName := ⟨RX12, "kinds", "(I)I"⟩
abbrev cX12_dots : ByteArray := prog_14_method_40_code
def yX12_dots : MethodName := ⟨RX12, "dots", "(III)I"⟩
abbrev cX12_dot : ByteArray := prog_14_method_41_code
def yX12_dot : MethodName := ⟨RX12, "dot", "(IIII)I"⟩
abbrev cX12_point : ByteArray := prog_14_method_42_code
def yX12_point : MethodName := ⟨RX12, "point", "(III)I"⟩
abbrev cX12_root : ByteArray := prog_14_method_43_code
def yX12_root : MethodName := ⟨RX12, "root", "(J)J"⟩
abbrev cX12_lengthOf : ByteArray := prog_14_method_44_code
def yX12_lengthOf : MethodName := ⟨RX12, "lengthOf", "(II)I"⟩
abbrev cX12_starLength : ByteArray := prog_14_method_45_code
def yX12_starLength : MethodName := ⟨RX12, "starLength", "(II)I"⟩
abbrev cX12_pointX : ByteArray := prog_14_method_46_code
def yX12_pointX : MethodName := ⟨RX12, "pointX", "(I)I"⟩
abbrev cX12_pointY : ByteArray := prog_14_method_47_code
def yX12_pointY : MethodName := ⟨RX12, "pointY", "(I)I"⟩
abbrev cX12_pointLength : ByteArray := prog_14_method_48_code
def yX12_pointLength : MethodName := ⟨RX12, "pointLength", "(II)I"⟩
abbrev cX12_length : ByteArray := prog_14_method_49_code
def yX12_length : MethodName := ⟨RX12, "length", "(II)I"⟩
abbrev cX12_much : ByteArray := prog_14_method_50_code
def yX12_much : MethodName := ⟨RX12, "much", "(I)I"⟩
abbrev cX12_sized : ByteArray := prog_14_method_51_code
def yX12_sized : MethodName := ⟨RX12, "sized", "(J)J"⟩
abbrev cX12_layLengths : ByteArray := prog_14_method_52_code
def yX12_layLengths : MethodName := ⟨RX12, "layLengths", "()V"⟩
abbrev cX12_fit : ByteArray := prog_14_method_53_code
def yX12_fit : MethodName := ⟨RX12, "fit", "(IIII)Z"⟩
abbrev cX12_sign : ByteArray := prog_14_method_54_code
def yX12_sign : MethodName := ⟨RX12, "sign", "(J)I"⟩
abbrev cX12_cross : ByteArray := prog_14_method_55_code
def yX12_cross : MethodName := ⟨RX12, "cross", "(JJJJ)J"⟩
abbrev cX12_lieAlike : ByteArray := prog_14_method_56_code
def yX12_lieAlike : MethodName := ⟨RX12, "lieAlike", "(IIIIII)Z"⟩
abbrev cX12_goes : ByteArray := prog_14_method_57_code
def yX12_goes : MethodName := ⟨RX12, "goes", "(I)Z"⟩
abbrev cX12_unnamed : ByteArray := prog_14_method_58_code
def yX12_unnamed : MethodName := ⟨RX12, "unnamed", "(I)I"⟩
abbrev cX12_following : ByteArray := prog_14_method_59_code
def yX12_following : MethodName := ⟨RX12, "following", "(II)I"⟩
abbrev cX12_seekNaming : ByteArray := prog_14_method_60_code
def yX12_seekNaming : MethodName := ⟨RX12, "seekNaming", "(II)V"⟩
abbrev cX12_seekNamings : ByteArray := prog_14_method_61_code
def yX12_seekNamings : MethodName := ⟨RX12, "seekNamings", "(II)V"⟩
abbrev cX12_namings : ByteArray := prog_14_method_62_code
def yX12_namings : MethodName := ⟨RX12, "namings", "(III)I"⟩
abbrev cX12_hasNaming : ByteArray := prog_14_method_63_code
def yX12_hasNaming : MethodName := ⟨RX12, "hasNaming", "(III)Z"⟩
abbrev cX12_isNamed : ByteArray := prog_14_method_64_code
def yX12_isNamed : MethodName := ⟨RX12, "isNamed", "(II)Z"⟩
abbrev cX12_named : ByteArray := prog_14_method_65_code
def yX12_named : MethodName := ⟨RX12, "named", "(IIII)I"⟩
abbrev cX12_common : ByteArray := prog_14_method_66_code
def yX12_common : MethodName := ⟨RX12, "common", "(JJ)J"⟩
abbrev cX12_reduce : ByteArray := prog_14_method_67_code
def yX12_reduce : MethodName := ⟨RX12, "reduce", "(JJ)V"⟩
abbrev cX12_fitting : ByteArray := prog_14_method_68_code
def yX12_fitting : MethodName := ⟨RX12, "fitting", "(II)I"⟩
abbrev cX12_seekOdds : ByteArray := prog_14_method_69_code
def yX12_seekOdds : MethodName := ⟨RX12, "seekOdds", "(I)V"⟩
abbrev cX12_odds : ByteArray := prog_14_method_70_code
def yX12_odds : MethodName := ⟨RX12, "odds", "(IIII)J"⟩
abbrev cX12_tells : ByteArray := prog_14_method_71_code
def yX12_tells : MethodName := ⟨RX12, "tells", "()Z"⟩
abbrev cX12_told : ByteArray := prog_14_method_72_code
def yX12_told : MethodName := ⟨RX12, "told", "(II)I"⟩
abbrev cX12_ownX : ByteArray := prog_14_method_73_code
def yX12_ownX : MethodName := ⟨RX12, "ownX", "(II)J"⟩
abbrev cX12_ownY : ByteArray := prog_14_method_74_code
def yX12_ownY : MethodName := ⟨RX12, "ownY", "(II)J"⟩
abbrev cX12_seekTurn : ByteArray := prog_14_method_75_code
def yX12_seekTurn : MethodName := ⟨RX12, "seekTurn", "(I)V"⟩
abbrev cX12_turn : ByteArray := prog_14_method_76_code
def yX12_turn : MethodName := ⟨RX12, "turn", "(IIII)J"⟩
abbrev cX12_look : ByteArray := prog_14_method_77_code
def yX12_look : MethodName := ⟨RX12, "look", "(IIIII)J"⟩
abbrev cX12_stretchOf : ByteArray := prog_14_method_78_code
def yX12_stretchOf : MethodName := ⟨RX12, "stretchOf", "(I)J"⟩
abbrev cX12_stretch : ByteArray := prog_14_method_79_code
def yX12_stretch : MethodName := ⟨RX12, "stretch", "(III)J"⟩
abbrev cX12_seekFollowed : ByteArray := prog_14_method_80_code
def yX12_seekFollowed : MethodName := ⟨RX12, "seekFollowed", "(IIIII)Z"⟩
abbrev cX12_followed : ByteArray := prog_14_method_81_code
def yX12_followed : MethodName := ⟨RX12, "followed", "(IIIIII)I"⟩
abbrev cX12_follow : ByteArray := prog_14_method_82_code
def yX12_follow : MethodName := ⟨RX12, "follow", "(IIIIII)I"⟩
abbrev cX12_wanderers : ByteArray := prog_14_method_83_code
def yX12_wanderers : MethodName := ⟨RX12, "wanderers", "(II)I"⟩
abbrev cX12_seekStar : ByteArray := prog_14_method_84_code
def yX12_seekStar : MethodName := ⟨RX12, "seekStar", "(III)Z"⟩
abbrev cX12_shift : ByteArray := prog_14_method_85_code
def yX12_shift : MethodName := ⟨RX12, "shift", "(IIIII)J"⟩
abbrev cX12_liar : ByteArray := prog_14_method_86_code
def yX12_liar : MethodName := ⟨RX12, "liar", "(III)I"⟩
abbrev cX12_sees : ByteArray := prog_14_method_87_code
def yX12_sees : MethodName := ⟨RX12, "sees", "(III)Z"⟩
abbrev cX12_seenFrom : ByteArray := prog_14_method_88_code
def yX12_seenFrom : MethodName := ⟨RX12, "seenFrom", "(III)I"⟩
abbrev cX12_looks : ByteArray := prog_14_method_89_code
def yX12_looks : MethodName := ⟨RX12, "looks", "(I)I"⟩
abbrev cX12_isEnough : ByteArray := prog_14_method_90_code
def yX12_isEnough : MethodName := ⟨RX12, "isEnough", "(I)Z"⟩
abbrev cX12_ones : ByteArray := prog_14_method_91_code
def yX12_ones : MethodName := ⟨RX12, "ones", "(I)I"⟩
abbrev cX12_chosen : ByteArray := prog_14_method_92_code
def yX12_chosen : MethodName := ⟨RX12, "chosen", "(I)I"⟩
abbrev cX12_held : ByteArray := prog_14_method_93_code
def yX12_held : MethodName := ⟨RX12, "held", "(I)I"⟩
abbrev cX12_doubles : ByteArray := prog_14_method_94_code
def yX12_doubles : MethodName := ⟨RX12, "doubles", "()I"⟩
abbrev cX12_note : ByteArray := prog_14_method_95_code
def yX12_note : MethodName := ⟨RX12, "note", "(II)V"⟩
abbrev cX12_upper : ByteArray := prog_14_method_96_code
def yX12_upper : MethodName := ⟨RX12, "upper", "()I"⟩
abbrev cX12_hold : ByteArray := prog_14_method_97_code
def yX12_hold : MethodName := ⟨RX12, "hold", "(I)V"⟩
abbrev cX12_pop : ByteArray := prog_14_method_98_code
def yX12_pop : MethodName := ⟨RX12, "pop", "()V"⟩
abbrev cX12_settle : ByteArray := prog_14_method_99_code
def yX12_settle : MethodName := ⟨RX12, "settle", "(I)V"⟩
abbrev cX12_isOpen : ByteArray := prog_14_method_100_code
def yX12_isOpen : MethodName := ⟨RX12, "isOpen", "()Z"⟩
abbrev cX12_rank : ByteArray := prog_14_method_101_code
def yX12_rank : MethodName := ⟨RX12, "rank", "(I)I"⟩
abbrev cX12_known : ByteArray := prog_14_method_102_code
def yX12_known : MethodName := ⟨RX12, "known", "()I"⟩
abbrev cX12_operand : ByteArray := prog_14_method_103_code
def yX12_operand : MethodName := ⟨RX12, "operand", "(I)I"⟩
abbrev cX12_sign_ : ByteArray := prog_14_method_104_code
def yX12_sign_ : MethodName := ⟨RX12, "sign", "()I"⟩
abbrev cX12_readRule : ByteArray := prog_14_method_105_code
def yX12_readRule : MethodName := ⟨RX12, "readRule", "()V"⟩
abbrev cX12_rules : ByteArray := prog_14_method_106_code
def yX12_rules : MethodName := ⟨RX12, "rules", "()I"⟩
abbrev cX12_worked : ByteArray := prog_14_method_107_code
def yX12_worked : MethodName := ⟨RX12, "worked", "(III)I"⟩
abbrev cX12_holds : ByteArray := prog_14_method_108_code
def yX12_holds : MethodName := ⟨RX12, "holds", "(I)Z"⟩
abbrev cX12_trustOf : ByteArray := prog_14_method_109_code
def yX12_trustOf : MethodName := ⟨RX12, "trustOf", "(II)I"⟩
abbrev cX12_trust : ByteArray := prog_14_method_110_code
def yX12_trust : MethodName := ⟨RX12, "trust", "(II)I"⟩
abbrev cX12_believed : ByteArray := prog_14_method_111_code
def yX12_believed : MethodName := ⟨RX12, "believed", "(I)I"⟩
abbrev cX12_isBox : ByteArray := prog_14_method_112_code
def yX12_isBox : MethodName := ⟨RX12, "isBox", "(I)Z"⟩
abbrev cX12_image : ByteArray := prog_14_method_113_code
def yX12_image : MethodName := ⟨RX12, "image", "(I)I"⟩
abbrev cX12_back : ByteArray := prog_14_method_114_code
def yX12_back : MethodName := ⟨RX12, "back", "(I)I"⟩
abbrev cX12_about : ByteArray := prog_14_method_115_code
def yX12_about : MethodName := ⟨RX12, "about", "(I)I"⟩
def RJx145de : String := "java/io/Serializable"
def TJx145de : u_T := fun k => match k with
  | _ => ("", "", "", false)
def tyJx145de : Nat → FieldType := fun k => match k with
  | _ => .int
abbrev wsJx145de0 : List Cond := u_ws RJx145de TJx145de 0
theorem nmJx145de : ∀ a, a < 0 → ∀ b, b < 0 → a ≠ b → (TJx145de a).2.1 ≠ (TJx145de b).2.1 := by decide +kernel
theorem tyJx145de_ok : ∀ k, k < 0 → parseFieldDescriptor (TJx145de k).2.2.1 = some (tyJx145de k) := by decide +kernel
def RJx9f9b0 : String := "java/lang/CharSequence"
def TJx9f9b0 : u_T := fun k => match k with
  | _ => ("", "", "", false)
def tyJx9f9b0 : Nat → FieldType := fun k => match k with
  | _ => .int
abbrev wsJx9f9b00 : List Cond := u_ws RJx9f9b0 TJx9f9b0 0
theorem nmJx9f9b0 : ∀ a, a < 0 → ∀ b, b < 0 → a ≠ b → (TJx9f9b0 a).2.1 ≠ (TJx9f9b0 b).2.1 := by decide +kernel
theorem tyJx9f9b0_ok : ∀ k, k < 0 → parseFieldDescriptor (TJx9f9b0 k).2.2.1 = some (tyJx9f9b0 k) := by decide +kernel
def RJxb160c : String := "java/lang/Comparable"
def TJxb160c : u_T := fun k => match k with
  | _ => ("", "", "", false)
def tyJxb160c : Nat → FieldType := fun k => match k with
  | _ => .int
abbrev wsJxb160c0 : List Cond := u_ws RJxb160c TJxb160c 0
theorem nmJxb160c : ∀ a, a < 0 → ∀ b, b < 0 → a ≠ b → (TJxb160c a).2.1 ≠ (TJxb160c b).2.1 := by decide +kernel
theorem tyJxb160c_ok : ∀ k, k < 0 → parseFieldDescriptor (TJxb160c k).2.2.1 = some (tyJxb160c k) := by decide +kernel
def RJ6 : String := "java/lang/Integer"
def TJ6 : u_T := fun k => match k with
  | _ => ("", "", "", false)
def tyJ6 : Nat → FieldType := fun k => match k with
  | _ => .int
abbrev wsJ60 : List Cond := u_ws RJ6 TJ6 0
theorem nmJ6 : ∀ a, a < 0 → ∀ b, b < 0 → a ≠ b → (TJ6 a).2.1 ≠ (TJ6 b).2.1 := by decide +kernel
theorem tyJ6_ok : ∀ k, k < 0 → parseFieldDescriptor (TJ6 k).2.2.1 = some (tyJ6 k) := by decide +kernel
abbrev cJ6_numberOfTrailingZeros_0f7a4 : ByteArray := prog_15_method_48_code
def yJ6_numberOfTrailingZeros_0f7a4 : MethodName := ⟨RJ6, "numberOfTrailingZeros", "(I)I"⟩
abbrev cJ6_bitCount_0f7a4 : ByteArray := prog_15_method_49_code
def yJ6_bitCount_0f7a4 : MethodName := ⟨RJ6, "bitCount", "(I)I"⟩
abbrev cJ6_signum_0f7a4 : ByteArray := prog_15_method_56_code
def yJ6_signum_0f7a4 : MethodName := ⟨RJ6, "signum", "(I)I"⟩
def RJ9 : String := "java/lang/Math"
def TJ9 : u_T := fun k => match k with
  | _ => ("", "", "", false)
def tyJ9 : Nat → FieldType := fun k => match k with
  | _ => .int
abbrev wsJ90 : List Cond := u_ws RJ9 TJ9 0
theorem nmJ9 : ∀ a, a < 0 → ∀ b, b < 0 → a ≠ b → (TJ9 a).2.1 ≠ (TJ9 b).2.1 := by decide +kernel
theorem tyJ9_ok : ∀ k, k < 0 → parseFieldDescriptor (TJ9 k).2.2.1 = some (tyJ9 k) := by decide +kernel
abbrev cJ9_abs_0f7a4 : ByteArray := prog_16_method_59_code
def yJ9_abs_0f7a4 : MethodName := ⟨RJ9, "abs", "(I)I"⟩
abbrev cJ9_abs_067f4 : ByteArray := prog_16_method_61_code
def yJ9_abs_067f4 : MethodName := ⟨RJ9, "abs", "(J)J"⟩
abbrev cJ9_max_7cf53 : ByteArray := prog_16_method_65_code
def yJ9_max_7cf53 : MethodName := ⟨RJ9, "max", "(II)I"⟩
abbrev cJ9_min_7cf53 : ByteArray := prog_16_method_69_code
def yJ9_min_7cf53 : MethodName := ⟨RJ9, "min", "(II)I"⟩
def RJ0 : String := "java/lang/String"
def TJ0 : u_T := fun k => match k with
  | _ => ("", "", "", false)
def tyJ0 : Nat → FieldType := fun k => match k with
  | _ => .int
abbrev wsJ00 : List Cond := u_ws RJ0 TJ0 0
theorem nmJ0 : ∀ a, a < 0 → ∀ b, b < 0 → a ≠ b → (TJ0 a).2.1 ≠ (TJ0 b).2.1 := by decide +kernel
theorem tyJ0_ok : ∀ k, k < 0 → parseFieldDescriptor (TJ0 k).2.2.1 = some (tyJ0 k) := by decide +kernel
abbrev cJ0_length_8abf5 : ByteArray := prog_17_method_54_code
def yJ0_length_8abf5 : MethodName := ⟨RJ0, "length", "()I"⟩
abbrev cJ0_charAt_5068e : ByteArray := prog_17_method_56_code
def yJ0_charAt_5068e : MethodName := ⟨RJ0, "charAt", "(I)C"⟩
abbrev cJ0_coder_7d493 : ByteArray := prog_17_method_152_code
def yJ0_coder_7d493 : MethodName := ⟨RJ0, "coder", "()B"⟩
abbrev cJ0_isLatin1_aae02 : ByteArray := prog_17_method_154_code
def yJ0_isLatin1_aae02 : MethodName := ⟨RJ0, "isLatin1", "()Z"⟩
abbrev cJ0_checkIndex_df160 : ByteArray := prog_17_method_155_code
def yJ0_checkIndex_df160 : MethodName := ⟨RJ0, "checkIndex", "(II)V"⟩
def RJ1 : String := "java/lang/StringLatin1"
def TJ1 : u_T := fun k => match k with
  | _ => ("", "", "", false)
def tyJ1 : Nat → FieldType := fun k => match k with
  | _ => .int
abbrev wsJ10 : List Cond := u_ws RJ1 TJ1 0
theorem nmJ1 : ∀ a, a < 0 → ∀ b, b < 0 → a ≠ b → (TJ1 a).2.1 ≠ (TJ1 b).2.1 := by decide +kernel
theorem tyJ1_ok : ∀ k, k < 0 → parseFieldDescriptor (TJ1 k).2.2.1 = some (tyJ1 k) := by decide +kernel
abbrev cJ1_charAt_3b067 : ByteArray := prog_18_method_2_code
def yJ1_charAt_3b067 : MethodName := ⟨RJ1, "charAt", "([BI)C"⟩
def RJ2 : String := "java/lang/StringUTF16"
def TJ2 : u_T := fun k => match k with
  | _ => ("", "", "", false)
def tyJ2 : Nat → FieldType := fun k => match k with
  | _ => .int
abbrev wsJ20 : List Cond := u_ws RJ2 TJ2 0
theorem nmJ2 : ∀ a, a < 0 → ∀ b, b < 0 → a ≠ b → (TJ2 a).2.1 ≠ (TJ2 b).2.1 := by decide +kernel
theorem tyJ2_ok : ∀ k, k < 0 → parseFieldDescriptor (TJ2 k).2.2.1 = some (tyJ2 k) := by decide +kernel
abbrev cJ2_getChar_3b067 : ByteArray := prog_19_method_5_code
def yJ2_getChar_3b067 : MethodName := ⟨RJ2, "getChar", "([BI)C"⟩
abbrev cJ2_length_9d52b : ByteArray := prog_19_method_6_code
def yJ2_length_9d52b : MethodName := ⟨RJ2, "length", "([B)I"⟩
abbrev cJ2_charAt_3b067 : ByteArray := prog_19_method_83_code
def yJ2_charAt_3b067 : MethodName := ⟨RJ2, "charAt", "([BI)C"⟩
abbrev cJ2_checkIndex_2214a : ByteArray := prog_19_method_91_code
def yJ2_checkIndex_2214a : MethodName := ⟨RJ2, "checkIndex", "(I[B)V"⟩
def RJ10 : String := "java/lang/System"
def TJ10 : u_T := fun k => match k with
  | _ => ("", "", "", false)
def tyJ10 : Nat → FieldType := fun k => match k with
  | _ => .int
abbrev wsJ100 : List Cond := u_ws RJ10 TJ10 0
theorem nmJ10 : ∀ a, a < 0 → ∀ b, b < 0 → a ≠ b → (TJ10 a).2.1 ≠ (TJ10 b).2.1 := by decide +kernel
theorem tyJ10_ok : ∀ k, k < 0 → parseFieldDescriptor (TJ10 k).2.2.1 = some (tyJ10 k) := by decide +kernel
def RJxfd54e : String := "java/lang/constant/Constable"
def TJxfd54e : u_T := fun k => match k with
  | _ => ("", "", "", false)
def tyJxfd54e : Nat → FieldType := fun k => match k with
  | _ => .int
abbrev wsJxfd54e0 : List Cond := u_ws RJxfd54e TJxfd54e 0
theorem nmJxfd54e : ∀ a, a < 0 → ∀ b, b < 0 → a ≠ b → (TJxfd54e a).2.1 ≠ (TJxfd54e b).2.1 := by decide +kernel
theorem tyJxfd54e_ok : ∀ k, k < 0 → parseFieldDescriptor (TJxfd54e k).2.2.1 = some (tyJxfd54e k) := by decide +kernel
def RJx3cf43 : String := "java/lang/constant/ConstantDesc"
def TJx3cf43 : u_T := fun k => match k with
  | _ => ("", "", "", false)
def tyJx3cf43 : Nat → FieldType := fun k => match k with
  | _ => .int
abbrev wsJx3cf430 : List Cond := u_ws RJx3cf43 TJx3cf43 0
theorem nmJx3cf43 : ∀ a, a < 0 → ∀ b, b < 0 → a ≠ b → (TJx3cf43 a).2.1 ≠ (TJx3cf43 b).2.1 := by decide +kernel
theorem tyJx3cf43_ok : ∀ k, k < 0 → parseFieldDescriptor (TJx3cf43 k).2.2.1 = some (tyJx3cf43 k) := by decide +kernel
def RJ7 : String := "java/util/Arrays"
def TJ7 : u_T := fun k => match k with
  | _ => ("", "", "", false)
def tyJ7 : Nat → FieldType := fun k => match k with
  | _ => .int
abbrev wsJ70 : List Cond := u_ws RJ7 TJ7 0
theorem nmJ7 : ∀ a, a < 0 → ∀ b, b < 0 → a ≠ b → (TJ7 a).2.1 ≠ (TJ7 b).2.1 := by decide +kernel
theorem tyJ7_ok : ∀ k, k < 0 → parseFieldDescriptor (TJ7 k).2.2.1 = some (tyJ7 k) := by decide +kernel
abbrev cJ7_fill_53178 : ByteArray := prog_21_method_103_code
def yJ7_fill_53178 : MethodName := ⟨RJ7, "fill", "([II)V"⟩
def RJ3 : String := "jdk/internal/util/Preconditions"
def TJ3 : u_T := fun k => match k with
  | _ => ("", "", "", false)
def tyJ3 : Nat → FieldType := fun k => match k with
  | _ => .int
abbrev wsJ30 : List Cond := u_ws RJ3 TJ3 0
theorem nmJ3 : ∀ a, a < 0 → ∀ b, b < 0 → a ≠ b → (TJ3 a).2.1 ≠ (TJ3 b).2.1 := by decide +kernel
theorem tyJ3_ok : ∀ k, k < 0 → parseFieldDescriptor (TJ3 k).2.2.1 = some (tyJ3 k) := by decide +kernel
abbrev cJ3_checkIndex_8e157 : ByteArray := prog_22_method_11_code
def yJ3_checkIndex_8e157 : MethodName := ⟨RJ3, "checkIndex", "(IILjava/util/function/BiFunction;)I"⟩
def RL : String := "StarEyeLaw"
abbrev cL_law : ByteArray := code
def yL_law : MethodName := ⟨RL, "law", "([I)Z"⟩
abbrev vwCl : List vw_C := [(RX0, TX0, 18), (RX1, TX1, 1), (RX2, TX2, 6), (RX3, TX3, 13), (RX4, TX4, 11), (RX5, TX5, 7), (RX6, TX6, 0), (RX7, TX7, 8), (RX8, TX8, 14), (RX9, TX9, 13), (RX10, TX10, 8), (RX11, TX11, 15), (RX12, TX12, 94)]
