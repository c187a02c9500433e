section
-- ===== PART A: goes FIRST, ahead of the names: the tables' words, and 'selects' of the private methods out of them =====
/-- a private method of a class that the tables say can be made, by its rows of tables_1 -/
def lw_okq (q : MethodName × Nat) : Prop := (q.1.cls ≠ "java/lang/invoke/MethodHandle" ∧ q.1.cls ≠ "java/lang/invoke/VarHandle") ∧ Cond.instantiable q.1.cls q.2 ∈ tables_1 ∧ Cond.privateMethod q.1 ∈ tables_1 ∧ Cond.instanceMethod q.1 ∈ tables_1
theorem lw_p0 : lw_okq (⟨"ThirdLetter$Reader", "advance", "()V"⟩, 5) := ⟨⟨by decide +kernel, by decide +kernel⟩, List.mem_of_getElem? (i := 105) (by decide +kernel), List.mem_of_getElem? (i := 316) (by decide +kernel), List.mem_of_getElem? (i := 317) (by decide +kernel)⟩
theorem lw_p1 : lw_okq (⟨"ThirdLetter$Reader", "doLine", "()Z"⟩, 5) := ⟨⟨by decide +kernel, by decide +kernel⟩, List.mem_of_getElem? (i := 105) (by decide +kernel), List.mem_of_getElem? (i := 328) (by decide +kernel), List.mem_of_getElem? (i := 329) (by decide +kernel)⟩
theorem lw_p2 : lw_okq (⟨"ThirdLetter$Reader", "tokenIs", "(Ljava/lang/String;)Z"⟩, 5) := ⟨⟨by decide +kernel, by decide +kernel⟩, List.mem_of_getElem? (i := 105) (by decide +kernel), List.mem_of_getElem? (i := 333) (by decide +kernel), List.mem_of_getElem? (i := 334) (by decide +kernel)⟩
theorem lw_p3 : lw_okq (⟨"ThirdLetter$Reader", "doOrder", "()Z"⟩, 5) := ⟨⟨by decide +kernel, by decide +kernel⟩, List.mem_of_getElem? (i := 105) (by decide +kernel), List.mem_of_getElem? (i := 389) (by decide +kernel), List.mem_of_getElem? (i := 390) (by decide +kernel)⟩
theorem lw_p4 : lw_okq (⟨"ThirdLetter$Reader", "takeNumber", "(II)I"⟩, 5) := ⟨⟨by decide +kernel, by decide +kernel⟩, List.mem_of_getElem? (i := 105) (by decide +kernel), List.mem_of_getElem? (i := 393) (by decide +kernel), List.mem_of_getElem? (i := 394) (by decide +kernel)⟩
theorem lw_p5 : lw_okq (⟨"ThirdLetter$Reader", "doWord", "()Z"⟩, 5) := ⟨⟨by decide +kernel, by decide +kernel⟩, List.mem_of_getElem? (i := 105) (by decide +kernel), List.mem_of_getElem? (i := 406) (by decide +kernel), List.mem_of_getElem? (i := 407) (by decide +kernel)⟩
theorem lw_p6 : lw_okq (⟨"ThirdLetter$WordList", "isSpelt", "(ILThirdLetter$Script;II)Z"⟩, 5) := ⟨⟨by decide +kernel, by decide +kernel⟩, List.mem_of_getElem? (i := 49) (by decide +kernel), List.mem_of_getElem? (i := 418) (by decide +kernel), List.mem_of_getElem? (i := 419) (by decide +kernel)⟩
theorem lw_p7 : lw_okq (⟨"ThirdLetter$Reader", "doNot", "()Z"⟩, 5) := ⟨⟨by decide +kernel, by decide +kernel⟩, List.mem_of_getElem? (i := 105) (by decide +kernel), List.mem_of_getElem? (i := 436) (by decide +kernel), List.mem_of_getElem? (i := 437) (by decide +kernel)⟩
theorem lw_p8 : lw_okq (⟨"ThirdLetter$Reader", "doFree", "()Z"⟩, 5) := ⟨⟨by decide +kernel, by decide +kernel⟩, List.mem_of_getElem? (i := 105) (by decide +kernel), List.mem_of_getElem? (i := 445) (by decide +kernel), List.mem_of_getElem? (i := 446) (by decide +kernel)⟩
theorem lw_p9 : lw_okq (⟨"ThirdLetter$Reader", "doAway", "(Z)Z"⟩, 5) := ⟨⟨by decide +kernel, by decide +kernel⟩, List.mem_of_getElem? (i := 105) (by decide +kernel), List.mem_of_getElem? (i := 454) (by decide +kernel), List.mem_of_getElem? (i := 455) (by decide +kernel)⟩
theorem lw_p10 : lw_okq (⟨"ThirdLetter$Reader", "doHoarse", "(Z)Z"⟩, 5) := ⟨⟨by decide +kernel, by decide +kernel⟩, List.mem_of_getElem? (i := 105) (by decide +kernel), List.mem_of_getElem? (i := 468) (by decide +kernel), List.mem_of_getElem? (i := 469) (by decide +kernel)⟩
theorem lw_p11 : lw_okq (⟨"ThirdLetter$Reader", "doLate", "()Z"⟩, 5) := ⟨⟨by decide +kernel, by decide +kernel⟩, List.mem_of_getElem? (i := 105) (by decide +kernel), List.mem_of_getElem? (i := 478) (by decide +kernel), List.mem_of_getElem? (i := 479) (by decide +kernel)⟩
theorem lw_p12 : lw_okq (⟨"ThirdLetter$Sermon", "letterAt", "(I)I"⟩, 5) := ⟨⟨by decide +kernel, by decide +kernel⟩, List.mem_of_getElem? (i := 127) (by decide +kernel), List.mem_of_getElem? (i := 609) (by decide +kernel), List.mem_of_getElem? (i := 610) (by decide +kernel)⟩
theorem lw_p13 : lw_okq (⟨"ThirdLetter$Foretelling", "findChoices", "()V"⟩, 7) := ⟨⟨by decide +kernel, by decide +kernel⟩, List.mem_of_getElem? (i := 162) (by decide +kernel), List.mem_of_getElem? (i := 670) (by decide +kernel), List.mem_of_getElem? (i := 671) (by decide +kernel)⟩
theorem lw_p14 : lw_okq (⟨"ThirdLetter$Foretelling", "findReached", "()V"⟩, 7) := ⟨⟨by decide +kernel, by decide +kernel⟩, List.mem_of_getElem? (i := 162) (by decide +kernel), List.mem_of_getElem? (i := 681) (by decide +kernel), List.mem_of_getElem? (i := 682) (by decide +kernel)⟩
theorem lw_p15 : lw_okq (⟨"ThirdLetter$Foretelling", "stepFrom", "(II)V"⟩, 7) := ⟨⟨by decide +kernel, by decide +kernel⟩, List.mem_of_getElem? (i := 162) (by decide +kernel), List.mem_of_getElem? (i := 685) (by decide +kernel), List.mem_of_getElem? (i := 686) (by decide +kernel)⟩
def lw_privs_1 : List (MethodName × Nat) := [(⟨"ThirdLetter$Reader", "advance", "()V"⟩, 5), (⟨"ThirdLetter$Reader", "doLine", "()Z"⟩, 5), (⟨"ThirdLetter$Reader", "tokenIs", "(Ljava/lang/String;)Z"⟩, 5), (⟨"ThirdLetter$Reader", "doOrder", "()Z"⟩, 5), (⟨"ThirdLetter$Reader", "takeNumber", "(II)I"⟩, 5), (⟨"ThirdLetter$Reader", "doWord", "()Z"⟩, 5), (⟨"ThirdLetter$WordList", "isSpelt", "(ILThirdLetter$Script;II)Z"⟩, 5), (⟨"ThirdLetter$Reader", "doNot", "()Z"⟩, 5), (⟨"ThirdLetter$Reader", "doFree", "()Z"⟩, 5), (⟨"ThirdLetter$Reader", "doAway", "(Z)Z"⟩, 5), (⟨"ThirdLetter$Reader", "doHoarse", "(Z)Z"⟩, 5), (⟨"ThirdLetter$Reader", "doLate", "()Z"⟩, 5), (⟨"ThirdLetter$Sermon", "letterAt", "(I)I"⟩, 5), (⟨"ThirdLetter$Foretelling", "findChoices", "()V"⟩, 7), (⟨"ThirdLetter$Foretelling", "findReached", "()V"⟩, 7), (⟨"ThirdLetter$Foretelling", "stepFrom", "(II)V"⟩, 7)]
theorem lw_r1 : ∀ q ∈ lw_privs_1, lw_okq q := List.forall_mem_cons.mpr ⟨lw_p0, List.forall_mem_cons.mpr ⟨lw_p1, List.forall_mem_cons.mpr ⟨lw_p2, List.forall_mem_cons.mpr ⟨lw_p3, List.forall_mem_cons.mpr ⟨lw_p4, List.forall_mem_cons.mpr ⟨lw_p5, List.forall_mem_cons.mpr ⟨lw_p6, List.forall_mem_cons.mpr ⟨lw_p7, List.forall_mem_cons.mpr ⟨lw_p8, List.forall_mem_cons.mpr ⟨lw_p9, List.forall_mem_cons.mpr ⟨lw_p10, List.forall_mem_cons.mpr ⟨lw_p11, List.forall_mem_cons.mpr ⟨lw_p12, List.forall_mem_cons.mpr ⟨lw_p13, List.forall_mem_cons.mpr ⟨lw_p14, List.forall_mem_cons.mpr ⟨lw_p15, fun _ h => absurd h List.not_mem_nil⟩⟩⟩⟩⟩⟩⟩⟩⟩⟩⟩⟩⟩⟩⟩⟩
theorem lw_p16 : lw_okq (⟨"ThirdLetter$Foretelling", "choicesAt", "(II)I"⟩, 7) := ⟨⟨by decide +kernel, by decide +kernel⟩, List.mem_of_getElem? (i := 162) (by decide +kernel), List.mem_of_getElem? (i := 689) (by decide +kernel), List.mem_of_getElem? (i := 690) (by decide +kernel)⟩
theorem lw_p17 : lw_okq (⟨"ThirdLetter$Foretelling", "isReached", "(III)Z"⟩, 7) := ⟨⟨by decide +kernel, by decide +kernel⟩, List.mem_of_getElem? (i := 162) (by decide +kernel), List.mem_of_getElem? (i := 693) (by decide +kernel), List.mem_of_getElem? (i := 694) (by decide +kernel)⟩
theorem lw_p18 : lw_okq (⟨"ThirdLetter$Foretelling", "findWays", "(I)V"⟩, 7) := ⟨⟨by decide +kernel, by decide +kernel⟩, List.mem_of_getElem? (i := 162) (by decide +kernel), List.mem_of_getElem? (i := 698) (by decide +kernel), List.mem_of_getElem? (i := 699) (by decide +kernel)⟩
theorem lw_p19 : lw_okq (⟨"ThirdLetter$Foretelling", "sumOfWays", "(III)I"⟩, 7) := ⟨⟨by decide +kernel, by decide +kernel⟩, List.mem_of_getElem? (i := 162) (by decide +kernel), List.mem_of_getElem? (i := 702) (by decide +kernel), List.mem_of_getElem? (i := 703) (by decide +kernel)⟩
theorem lw_p20 : lw_okq (⟨"ThirdLetter$Foretelling", "waysBehind", "(III)I"⟩, 7) := ⟨⟨by decide +kernel, by decide +kernel⟩, List.mem_of_getElem? (i := 162) (by decide +kernel), List.mem_of_getElem? (i := 706) (by decide +kernel), List.mem_of_getElem? (i := 707) (by decide +kernel)⟩
theorem lw_p21 : lw_okq (⟨"ThirdLetter$Foretelling", "wordsThatEndWell", "(II)I"⟩, 7) := ⟨⟨by decide +kernel, by decide +kernel⟩, List.mem_of_getElem? (i := 162) (by decide +kernel), List.mem_of_getElem? (i := 718) (by decide +kernel), List.mem_of_getElem? (i := 719) (by decide +kernel)⟩
theorem lw_p22 : lw_okq (⟨"ThirdLetter$Foretelling", "leastThatEndsWell", "(III)I"⟩, 7) := ⟨⟨by decide +kernel, by decide +kernel⟩, List.mem_of_getElem? (i := 162) (by decide +kernel), List.mem_of_getElem? (i := 726) (by decide +kernel), List.mem_of_getElem? (i := 727) (by decide +kernel)⟩
theorem lw_p23 : lw_okq (⟨"ThirdLetter$Sermon", "isHeardLate", "(LThirdLetter$Sound;III)Z"⟩, 5) := ⟨⟨by decide +kernel, by decide +kernel⟩, List.mem_of_getElem? (i := 127) (by decide +kernel), List.mem_of_getElem? (i := 739) (by decide +kernel), List.mem_of_getElem? (i := 740) (by decide +kernel)⟩
theorem lw_p24 : lw_okq (⟨"ThirdLetter$Sermon", "leastLate", "(LThirdLetter$Sound;II)I"⟩, 5) := ⟨⟨by decide +kernel, by decide +kernel⟩, List.mem_of_getElem? (i := 127) (by decide +kernel), List.mem_of_getElem? (i := 748) (by decide +kernel), List.mem_of_getElem? (i := 749) (by decide +kernel)⟩
theorem lw_p25 : lw_okq (⟨"ThirdLetter$Likeness", "isSaidBy", "(III)Z"⟩, 3) := ⟨⟨by decide +kernel, by decide +kernel⟩, List.mem_of_getElem? (i := 192) (by decide +kernel), List.mem_of_getElem? (i := 765) (by decide +kernel), List.mem_of_getElem? (i := 766) (by decide +kernel)⟩
theorem lw_p26 : lw_okq (⟨"ThirdLetter$Likeness", "twinOf", "(II)I"⟩, 3) := ⟨⟨by decide +kernel, by decide +kernel⟩, List.mem_of_getElem? (i := 192) (by decide +kernel), List.mem_of_getElem? (i := 780) (by decide +kernel), List.mem_of_getElem? (i := 781) (by decide +kernel)⟩
theorem lw_p27 : lw_okq (⟨"ThirdLetter$Likeness", "isOneClass", "(III)Z"⟩, 3) := ⟨⟨by decide +kernel, by decide +kernel⟩, List.mem_of_getElem? (i := 192) (by decide +kernel), List.mem_of_getElem? (i := 799) (by decide +kernel), List.mem_of_getElem? (i := 800) (by decide +kernel)⟩
theorem lw_p28 : lw_okq (⟨"ThirdLetter$Likeness", "voicesThatDiffer", "(II)I"⟩, 3) := ⟨⟨by decide +kernel, by decide +kernel⟩, List.mem_of_getElem? (i := 192) (by decide +kernel), List.mem_of_getElem? (i := 803) (by decide +kernel), List.mem_of_getElem? (i := 804) (by decide +kernel)⟩
theorem lw_p29 : lw_okq (⟨"ThirdLetter$Seating", "countLetters", "()V"⟩, 5) := ⟨⟨by decide +kernel, by decide +kernel⟩, List.mem_of_getElem? (i := 208) (by decide +kernel), List.mem_of_getElem? (i := 823) (by decide +kernel), List.mem_of_getElem? (i := 824) (by decide +kernel)⟩
theorem lw_p30 : lw_okq (⟨"ThirdLetter$Seating", "countLetter", "(I)V"⟩, 5) := ⟨⟨by decide +kernel, by decide +kernel⟩, List.mem_of_getElem? (i := 208) (by decide +kernel), List.mem_of_getElem? (i := 829) (by decide +kernel), List.mem_of_getElem? (i := 830) (by decide +kernel)⟩
theorem lw_p31 : lw_okq (⟨"ThirdLetter$Seating", "leastBest", "(I)I"⟩, 5) := ⟨⟨by decide +kernel, by decide +kernel⟩, List.mem_of_getElem? (i := 208) (by decide +kernel), List.mem_of_getElem? (i := 836) (by decide +kernel), List.mem_of_getElem? (i := 837) (by decide +kernel)⟩
def lw_privs_2 : List (MethodName × Nat) := [(⟨"ThirdLetter$Foretelling", "choicesAt", "(II)I"⟩, 7), (⟨"ThirdLetter$Foretelling", "isReached", "(III)Z"⟩, 7), (⟨"ThirdLetter$Foretelling", "findWays", "(I)V"⟩, 7), (⟨"ThirdLetter$Foretelling", "sumOfWays", "(III)I"⟩, 7), (⟨"ThirdLetter$Foretelling", "waysBehind", "(III)I"⟩, 7), (⟨"ThirdLetter$Foretelling", "wordsThatEndWell", "(II)I"⟩, 7), (⟨"ThirdLetter$Foretelling", "leastThatEndsWell", "(III)I"⟩, 7), (⟨"ThirdLetter$Sermon", "isHeardLate", "(LThirdLetter$Sound;III)Z"⟩, 5), (⟨"ThirdLetter$Sermon", "leastLate", "(LThirdLetter$Sound;II)I"⟩, 5), (⟨"ThirdLetter$Likeness", "isSaidBy", "(III)Z"⟩, 3), (⟨"ThirdLetter$Likeness", "twinOf", "(II)I"⟩, 3), (⟨"ThirdLetter$Likeness", "isOneClass", "(III)Z"⟩, 3), (⟨"ThirdLetter$Likeness", "voicesThatDiffer", "(II)I"⟩, 3), (⟨"ThirdLetter$Seating", "countLetters", "()V"⟩, 5), (⟨"ThirdLetter$Seating", "countLetter", "(I)V"⟩, 5), (⟨"ThirdLetter$Seating", "leastBest", "(I)I"⟩, 5)]
theorem lw_r2 : ∀ q ∈ lw_privs_2, lw_okq q := List.forall_mem_cons.mpr ⟨lw_p16, List.forall_mem_cons.mpr ⟨lw_p17, List.forall_mem_cons.mpr ⟨lw_p18, List.forall_mem_cons.mpr ⟨lw_p19, List.forall_mem_cons.mpr ⟨lw_p20, List.forall_mem_cons.mpr ⟨lw_p21, List.forall_mem_cons.mpr ⟨lw_p22, List.forall_mem_cons.mpr ⟨lw_p23, List.forall_mem_cons.mpr ⟨lw_p24, List.forall_mem_cons.mpr ⟨lw_p25, List.forall_mem_cons.mpr ⟨lw_p26, List.forall_mem_cons.mpr ⟨lw_p27, List.forall_mem_cons.mpr ⟨lw_p28, List.forall_mem_cons.mpr ⟨lw_p29, List.forall_mem_cons.mpr ⟨lw_p30, List.forall_mem_cons.mpr ⟨lw_p31, fun _ h => absurd h List.not_mem_nil⟩⟩⟩⟩⟩⟩⟩⟩⟩⟩⟩⟩⟩⟩⟩⟩
theorem lw_p32 : lw_okq (⟨"ThirdLetter$Seating", "fewestWith", "(II)I"⟩, 5) := ⟨⟨by decide +kernel, by decide +kernel⟩, List.mem_of_getElem? (i := 208) (by decide +kernel), List.mem_of_getElem? (i := 840) (by decide +kernel), List.mem_of_getElem? (i := 841) (by decide +kernel)⟩
theorem lw_p33 : lw_okq (⟨"ThirdLetter$Seating", "spoiltBy", "(II)I"⟩, 5) := ⟨⟨by decide +kernel, by decide +kernel⟩, List.mem_of_getElem? (i := 208) (by decide +kernel), List.mem_of_getElem? (i := 850) (by decide +kernel), List.mem_of_getElem? (i := 851) (by decide +kernel)⟩
theorem lw_p34 : lw_okq (⟨"ThirdLetter$Likeness", "isClash", "(II)Z"⟩, 3) := ⟨⟨by decide +kernel, by decide +kernel⟩, List.mem_of_getElem? (i := 192) (by decide +kernel), List.mem_of_getElem? (i := 872) (by decide +kernel), List.mem_of_getElem? (i := 873) (by decide +kernel)⟩
theorem lw_p35 : lw_okq (⟨"ThirdLetter", "shelf", "(I)LThirdLetter$Sermon;"⟩, 12) := ⟨⟨by decide +kernel, by decide +kernel⟩, List.mem_of_getElem? (i := 21) (by decide +kernel), List.mem_of_getElem? (i := 885) (by decide +kernel), List.mem_of_getElem? (i := 886) (by decide +kernel)⟩
theorem lw_p36 : lw_okq (⟨"ThirdLetterModel", "isRead", "()Z"⟩, 34) := ⟨⟨by decide +kernel, by decide +kernel⟩, List.mem_of_getElem? (i := 906) (by decide +kernel), List.mem_of_getElem? (i := 1032) (by decide +kernel), List.mem_of_getElem? (i := 1033) (by decide +kernel)⟩
theorem lw_p37 : lw_okq (⟨"ThirdLetterModel", "isLine", "(I)Z"⟩, 34) := ⟨⟨by decide +kernel, by decide +kernel⟩, List.mem_of_getElem? (i := 906) (by decide +kernel), List.mem_of_getElem? (i := 1036) (by decide +kernel), List.mem_of_getElem? (i := 1037) (by decide +kernel)⟩
theorem lw_p38 : lw_okq (⟨"ThirdLetterModel", "nextToken", "()V"⟩, 34) := ⟨⟨by decide +kernel, by decide +kernel⟩, List.mem_of_getElem? (i := 906) (by decide +kernel), List.mem_of_getElem? (i := 1040) (by decide +kernel), List.mem_of_getElem? (i := 1041) (by decide +kernel)⟩
theorem lw_p39 : lw_okq (⟨"ThirdLetterModel", "isOrder", "(I)Z"⟩, 34) := ⟨⟨by decide +kernel, by decide +kernel⟩, List.mem_of_getElem? (i := 906) (by decide +kernel), List.mem_of_getElem? (i := 1059) (by decide +kernel), List.mem_of_getElem? (i := 1060) (by decide +kernel)⟩
theorem lw_p40 : lw_okq (⟨"ThirdLetterModel", "isNumber", "(III)Z"⟩, 34) := ⟨⟨by decide +kernel, by decide +kernel⟩, List.mem_of_getElem? (i := 906) (by decide +kernel), List.mem_of_getElem? (i := 1063) (by decide +kernel), List.mem_of_getElem? (i := 1064) (by decide +kernel)⟩
theorem lw_p41 : lw_okq (⟨"ThirdLetterModel", "fails", "()Z"⟩, 34) := ⟨⟨by decide +kernel, by decide +kernel⟩, List.mem_of_getElem? (i := 906) (by decide +kernel), List.mem_of_getElem? (i := 1067) (by decide +kernel), List.mem_of_getElem? (i := 1068) (by decide +kernel)⟩
theorem lw_p42 : lw_okq (⟨"ThirdLetterModel", "isWordLine", "(I)Z"⟩, 34) := ⟨⟨by decide +kernel, by decide +kernel⟩, List.mem_of_getElem? (i := 906) (by decide +kernel), List.mem_of_getElem? (i := 1071) (by decide +kernel), List.mem_of_getElem? (i := 1072) (by decide +kernel)⟩
theorem lw_p43 : lw_okq (⟨"ThirdLetterModel", "isTold", "(I)Z"⟩, 34) := ⟨⟨by decide +kernel, by decide +kernel⟩, List.mem_of_getElem? (i := 906) (by decide +kernel), List.mem_of_getElem? (i := 1075) (by decide +kernel), List.mem_of_getElem? (i := 1076) (by decide +kernel)⟩
theorem lw_p44 : lw_okq (⟨"ThirdLetterModel", "isVoiceRead", "(I)Z"⟩, 34) := ⟨⟨by decide +kernel, by decide +kernel⟩, List.mem_of_getElem? (i := 906) (by decide +kernel), List.mem_of_getElem? (i := 1079) (by decide +kernel), List.mem_of_getElem? (i := 1080) (by decide +kernel)⟩
theorem lw_p45 : lw_okq (⟨"ThirdLetterModel", "doLine", "(I)V"⟩, 34) := ⟨⟨by decide +kernel, by decide +kernel⟩, List.mem_of_getElem? (i := 906) (by decide +kernel), List.mem_of_getElem? (i := 1087) (by decide +kernel), List.mem_of_getElem? (i := 1088) (by decide +kernel)⟩
theorem lw_p46 : lw_okq (⟨"ThirdLetterModel", "addWord", "(II)V"⟩, 34) := ⟨⟨by decide +kernel, by decide +kernel⟩, List.mem_of_getElem? (i := 906) (by decide +kernel), List.mem_of_getElem? (i := 1091) (by decide +kernel), List.mem_of_getElem? (i := 1092) (by decide +kernel)⟩
theorem lw_p47 : lw_okq (⟨"ThirdLetterModel", "isWord", "(I)Z"⟩, 34) := ⟨⟨by decide +kernel, by decide +kernel⟩, List.mem_of_getElem? (i := 906) (by decide +kernel), List.mem_of_getElem? (i := 1099) (by decide +kernel), List.mem_of_getElem? (i := 1100) (by decide +kernel)⟩
def lw_privs_3 : List (MethodName × Nat) := [(⟨"ThirdLetter$Seating", "fewestWith", "(II)I"⟩, 5), (⟨"ThirdLetter$Seating", "spoiltBy", "(II)I"⟩, 5), (⟨"ThirdLetter$Likeness", "isClash", "(II)Z"⟩, 3), (⟨"ThirdLetter", "shelf", "(I)LThirdLetter$Sermon;"⟩, 12), (⟨"ThirdLetterModel", "isRead", "()Z"⟩, 34), (⟨"ThirdLetterModel", "isLine", "(I)Z"⟩, 34), (⟨"ThirdLetterModel", "nextToken", "()V"⟩, 34), (⟨"ThirdLetterModel", "isOrder", "(I)Z"⟩, 34), (⟨"ThirdLetterModel", "isNumber", "(III)Z"⟩, 34), (⟨"ThirdLetterModel", "fails", "()Z"⟩, 34), (⟨"ThirdLetterModel", "isWordLine", "(I)Z"⟩, 34), (⟨"ThirdLetterModel", "isTold", "(I)Z"⟩, 34), (⟨"ThirdLetterModel", "isVoiceRead", "(I)Z"⟩, 34), (⟨"ThirdLetterModel", "doLine", "(I)V"⟩, 34), (⟨"ThirdLetterModel", "addWord", "(II)V"⟩, 34), (⟨"ThirdLetterModel", "isWord", "(I)Z"⟩, 34)]
theorem lw_r3 : ∀ q ∈ lw_privs_3, lw_okq q := List.forall_mem_cons.mpr ⟨lw_p32, List.forall_mem_cons.mpr ⟨lw_p33, List.forall_mem_cons.mpr ⟨lw_p34, List.forall_mem_cons.mpr ⟨lw_p35, List.forall_mem_cons.mpr ⟨lw_p36, List.forall_mem_cons.mpr ⟨lw_p37, List.forall_mem_cons.mpr ⟨lw_p38, List.forall_mem_cons.mpr ⟨lw_p39, List.forall_mem_cons.mpr ⟨lw_p40, List.forall_mem_cons.mpr ⟨lw_p41, List.forall_mem_cons.mpr ⟨lw_p42, List.forall_mem_cons.mpr ⟨lw_p43, List.forall_mem_cons.mpr ⟨lw_p44, List.forall_mem_cons.mpr ⟨lw_p45, List.forall_mem_cons.mpr ⟨lw_p46, List.forall_mem_cons.mpr ⟨lw_p47, fun _ h => absurd h List.not_mem_nil⟩⟩⟩⟩⟩⟩⟩⟩⟩⟩⟩⟩⟩⟩⟩⟩
theorem lw_p48 : lw_okq (⟨"ThirdLetterModel", "isVoice", "(I)Z"⟩, 34) := ⟨⟨by decide +kernel, by decide +kernel⟩, List.mem_of_getElem? (i := 906) (by decide +kernel), List.mem_of_getElem? (i := 1107) (by decide +kernel), List.mem_of_getElem? (i := 1108) (by decide +kernel)⟩
theorem lw_p49 : lw_okq (⟨"ThirdLetterModel", "isSaid", "(I)Z"⟩, 34) := ⟨⟨by decide +kernel, by decide +kernel⟩, List.mem_of_getElem? (i := 906) (by decide +kernel), List.mem_of_getElem? (i := 1111) (by decide +kernel), List.mem_of_getElem? (i := 1112) (by decide +kernel)⟩
theorem lw_p50 : lw_okq (⟨"ThirdLetterModel", "mayFollow", "(II)Z"⟩, 34) := ⟨⟨by decide +kernel, by decide +kernel⟩, List.mem_of_getElem? (i := 906) (by decide +kernel), List.mem_of_getElem? (i := 1122) (by decide +kernel), List.mem_of_getElem? (i := 1123) (by decide +kernel)⟩
theorem lw_p51 : lw_okq (⟨"ThirdLetterModel", "lettersOf", "()I"⟩, 34) := ⟨⟨by decide +kernel, by decide +kernel⟩, List.mem_of_getElem? (i := 906) (by decide +kernel), List.mem_of_getElem? (i := 1126) (by decide +kernel), List.mem_of_getElem? (i := 1127) (by decide +kernel)⟩
theorem lw_p52 : lw_okq (⟨"ThirdLetterModel", "heardAt", "(I)I"⟩, 34) := ⟨⟨by decide +kernel, by decide +kernel⟩, List.mem_of_getElem? (i := 906) (by decide +kernel), List.mem_of_getElem? (i := 1142) (by decide +kernel), List.mem_of_getElem? (i := 1143) (by decide +kernel)⟩
theorem lw_p53 : lw_okq (⟨"ThirdLetterModel", "letterAt", "(I)I"⟩, 34) := ⟨⟨by decide +kernel, by decide +kernel⟩, List.mem_of_getElem? (i := 906) (by decide +kernel), List.mem_of_getElem? (i := 1146) (by decide +kernel), List.mem_of_getElem? (i := 1147) (by decide +kernel)⟩
theorem lw_p54 : lw_okq (⟨"ThirdLetterModel", "doesFit", "(II)Z"⟩, 34) := ⟨⟨by decide +kernel, by decide +kernel⟩, List.mem_of_getElem? (i := 906) (by decide +kernel), List.mem_of_getElem? (i := 1170) (by decide +kernel), List.mem_of_getElem? (i := 1171) (by decide +kernel)⟩
theorem lw_p55 : lw_okq (⟨"ThirdLetterModel", "layWays", "()V"⟩, 34) := ⟨⟨by decide +kernel, by decide +kernel⟩, List.mem_of_getElem? (i := 906) (by decide +kernel), List.mem_of_getElem? (i := 1178) (by decide +kernel), List.mem_of_getElem? (i := 1179) (by decide +kernel)⟩
theorem lw_p56 : lw_okq (⟨"ThirdLetterModel", "waysAt", "(III)I"⟩, 34) := ⟨⟨by decide +kernel, by decide +kernel⟩, List.mem_of_getElem? (i := 906) (by decide +kernel), List.mem_of_getElem? (i := 1182) (by decide +kernel), List.mem_of_getElem? (i := 1183) (by decide +kernel)⟩
theorem lw_p57 : lw_okq (⟨"ThirdLetterModel", "readingMany", "()I"⟩, 34) := ⟨⟨by decide +kernel, by decide +kernel⟩, List.mem_of_getElem? (i := 906) (by decide +kernel), List.mem_of_getElem? (i := 1186) (by decide +kernel), List.mem_of_getElem? (i := 1187) (by decide +kernel)⟩
theorem lw_p58 : lw_okq (⟨"ThirdLetterModel", "comeIn", "()I"⟩, 34) := ⟨⟨by decide +kernel, by decide +kernel⟩, List.mem_of_getElem? (i := 906) (by decide +kernel), List.mem_of_getElem? (i := 1190) (by decide +kernel), List.mem_of_getElem? (i := 1191) (by decide +kernel)⟩
theorem lw_p59 : lw_okq (⟨"ThirdLetterModel", "firstReading", "(I)I"⟩, 34) := ⟨⟨by decide +kernel, by decide +kernel⟩, List.mem_of_getElem? (i := 906) (by decide +kernel), List.mem_of_getElem? (i := 1194) (by decide +kernel), List.mem_of_getElem? (i := 1195) (by decide +kernel)⟩
theorem lw_p60 : lw_okq (⟨"ThirdLetterModel", "wordBy", "(II)I"⟩, 34) := ⟨⟨by decide +kernel, by decide +kernel⟩, List.mem_of_getElem? (i := 906) (by decide +kernel), List.mem_of_getElem? (i := 1206) (by decide +kernel), List.mem_of_getElem? (i := 1207) (by decide +kernel)⟩
theorem lw_p61 : lw_okq (⟨"ThirdLetterModel", "isClassed", "(III)Z"⟩, 34) := ⟨⟨by decide +kernel, by decide +kernel⟩, List.mem_of_getElem? (i := 906) (by decide +kernel), List.mem_of_getElem? (i := 1218) (by decide +kernel), List.mem_of_getElem? (i := 1219) (by decide +kernel)⟩
theorem lw_p62 : lw_okq (⟨"ThirdLetterModel", "laySeats", "(I)Z"⟩, 34) := ⟨⟨by decide +kernel, by decide +kernel⟩, List.mem_of_getElem? (i := 906) (by decide +kernel), List.mem_of_getElem? (i := 1229) (by decide +kernel), List.mem_of_getElem? (i := 1230) (by decide +kernel)⟩
theorem lw_p63 : lw_okq (⟨"ThirdLetterModel", "spoilt", "()I"⟩, 34) := ⟨⟨by decide +kernel, by decide +kernel⟩, List.mem_of_getElem? (i := 906) (by decide +kernel), List.mem_of_getElem? (i := 1233) (by decide +kernel), List.mem_of_getElem? (i := 1234) (by decide +kernel)⟩
def lw_privs_4 : List (MethodName × Nat) := [(⟨"ThirdLetterModel", "isVoice", "(I)Z"⟩, 34), (⟨"ThirdLetterModel", "isSaid", "(I)Z"⟩, 34), (⟨"ThirdLetterModel", "mayFollow", "(II)Z"⟩, 34), (⟨"ThirdLetterModel", "lettersOf", "()I"⟩, 34), (⟨"ThirdLetterModel", "heardAt", "(I)I"⟩, 34), (⟨"ThirdLetterModel", "letterAt", "(I)I"⟩, 34), (⟨"ThirdLetterModel", "doesFit", "(II)Z"⟩, 34), (⟨"ThirdLetterModel", "layWays", "()V"⟩, 34), (⟨"ThirdLetterModel", "waysAt", "(III)I"⟩, 34), (⟨"ThirdLetterModel", "readingMany", "()I"⟩, 34), (⟨"ThirdLetterModel", "comeIn", "()I"⟩, 34), (⟨"ThirdLetterModel", "firstReading", "(I)I"⟩, 34), (⟨"ThirdLetterModel", "wordBy", "(II)I"⟩, 34), (⟨"ThirdLetterModel", "isClassed", "(III)Z"⟩, 34), (⟨"ThirdLetterModel", "laySeats", "(I)Z"⟩, 34), (⟨"ThirdLetterModel", "spoilt", "()I"⟩, 34)]
theorem lw_r4 : ∀ q ∈ lw_privs_4, lw_okq q := List.forall_mem_cons.mpr ⟨lw_p48, List.forall_mem_cons.mpr ⟨lw_p49, List.forall_mem_cons.mpr ⟨lw_p50, List.forall_mem_cons.mpr ⟨lw_p51, List.forall_mem_cons.mpr ⟨lw_p52, List.forall_mem_cons.mpr ⟨lw_p53, List.forall_mem_cons.mpr ⟨lw_p54, List.forall_mem_cons.mpr ⟨lw_p55, List.forall_mem_cons.mpr ⟨lw_p56, List.forall_mem_cons.mpr ⟨lw_p57, List.forall_mem_cons.mpr ⟨lw_p58, List.forall_mem_cons.mpr ⟨lw_p59, List.forall_mem_cons.mpr ⟨lw_p60, List.forall_mem_cons.mpr ⟨lw_p61, List.forall_mem_cons.mpr ⟨lw_p62, List.forall_mem_cons.mpr ⟨lw_p63, fun _ h => absurd h List.not_mem_nil⟩⟩⟩⟩⟩⟩⟩⟩⟩⟩⟩⟩⟩⟩⟩⟩
theorem lw_p64 : lw_okq (⟨"ThirdLetterModel", "areApart", "(II)Z"⟩, 34) := ⟨⟨by decide +kernel, by decide +kernel⟩, List.mem_of_getElem? (i := 906) (by decide +kernel), List.mem_of_getElem? (i := 1241) (by decide +kernel), List.mem_of_getElem? (i := 1242) (by decide +kernel)⟩
def lw_privs_5 : List (MethodName × Nat) := [(⟨"ThirdLetterModel", "areApart", "(II)Z"⟩, 34)]
theorem lw_r5 : ∀ q ∈ lw_privs_5, lw_okq q := List.forall_mem_cons.mpr ⟨lw_p64, fun _ h => absurd h List.not_mem_nil⟩
def lw_privs : List (MethodName × Nat) := lw_privs_1 ++ (lw_privs_2 ++ (lw_privs_3 ++ (lw_privs_4 ++ (lw_privs_5))))
def lw_tbl : List Cond := k2_sels lw_privs ++ tables_1
theorem lw_privs_ok : ∀ q ∈ lw_privs, lw_okq q := by
  show ∀ q ∈ lw_privs_1 ++ (lw_privs_2 ++ (lw_privs_3 ++ (lw_privs_4 ++ (lw_privs_5)))), lw_okq q
  exact List.forall_mem_append.mpr ⟨lw_r1, List.forall_mem_append.mpr ⟨lw_r2, List.forall_mem_append.mpr ⟨lw_r3, List.forall_mem_append.mpr ⟨lw_r4, lw_r5⟩⟩⟩⟩
end
section
/-! ===== BEGIN words of one list among another's, by their places ===== -/
theorem goodIn_r {big : List Cond} (ws : List Cond) (ps : List Nat) (hp : ws = ps.filterMap (fun i => big[i]?)) (h : ws.all goodWord = true) : GoodIn big ws := by
  intro w hw
  have h1 := List.all_eq_true.mp h w hw
  rw [hp] at hw
  obtain ⟨i, -, hi⟩ := List.mem_filterMap.mp hw
  have hm : w ∈ big := by first | exact List.mem_of_getElem? hi | exact List.getElem?_mem hi
  exact ⟨hm, good_of_word h1⟩
theorem goodIn_app {big a b : List Cond} (ha : GoodIn big a) (hb : GoodIn big b) : GoodIn big (a ++ b) := fun w h => (List.mem_append.mp h).elim (ha w) (hb w)
theorem goodIn_ca {big a b : List Cond} {c : Cond} (ha : GoodIn big (c :: a)) (hb : GoodIn big b) : GoodIn big (c :: (a ++ b)) := fun w h => (List.mem_cons.mp h).elim (fun e => ha w (List.mem_cons.mpr (Or.inl e))) (fun h => (List.mem_append.mp h).elim (fun h => ha w (List.mem_cons.mpr (Or.inr h))) (hb w))
theorem goodIn_sub {big ws : List Cond} (hm : ∀ w ∈ ws, w ∈ big) (h : ws.all goodWord = true) : GoodIn big ws := fun w hw => ⟨hm w hw, good_of_word (List.all_eq_true.mp h w hw)⟩
/-! ===== END ===== -/

def RX0 : String := "ThirdLetter$Choir"
def TX0 : u_T := fun k => match k with
  | 0 => ("ThirdLetter$Choir", "late", "[I", true)
  | 1 => ("ThirdLetter$Choir", "size", "I", false)
  | 2 => ("ThirdLetter$Choir", "away", "I", false)
  | _ => ("ThirdLetter$Choir", "hoarse", "I", false)
def tyX0 : Nat → FieldType := fun k => match k with
  | 0 => .array .int
  | 1 => .int
  | 2 => .int
  | _ => .int
abbrev wsX00 : List Cond := u_ws RX0 TX0 4
theorem nmX0 : ∀ a, a < 4 → ∀ b, b < 4 → a ≠ b → (TX0 a).2.1 ≠ (TX0 b).2.1 := by decide +kernel
theorem tyX0_ok : ∀ k, k < 4 → parseFieldDescriptor (TX0 k).2.2.1 = some (tyX0 k) := by decide +kernel
abbrev cX0_init : ByteArray := prog_2_method_1_code
def yX0_init : MethodName := ⟨RX0, "<init>", "()V"⟩
abbrev cX0_copyFrom : ByteArray := prog_2_method_2_code
def yX0_copyFrom : MethodName := ⟨RX0, "copyFrom", "(LThirdLetter$Choir;)V"⟩
abbrev cX0_beginAnew : ByteArray := prog_2_method_3_code
def yX0_beginAnew : MethodName := ⟨RX0, "beginAnew", "(I)V"⟩
abbrev cX0_size : ByteArray := prog_2_method_4_code
def yX0_size : MethodName := ⟨RX0, "size", "()I"⟩
abbrev cX0_allVoices : ByteArray := prog_2_method_5_code
def yX0_allVoices : MethodName := ⟨RX0, "allVoices", "()I"⟩
abbrev cX0_has : ByteArray := prog_2_method_6_code
def yX0_has : MethodName := ⟨RX0, "has", "(I)Z"⟩
abbrev cX0_isAway : ByteArray := prog_2_method_7_code
def yX0_isAway : MethodName := ⟨RX0, "isAway", "(I)Z"⟩
abbrev cX0_isHoarse : ByteArray := prog_2_method_8_code
def yX0_isHoarse : MethodName := ⟨RX0, "isHoarse", "(I)Z"⟩
abbrev cX0_lateOf : ByteArray := prog_2_method_9_code
def yX0_lateOf : MethodName := ⟨RX0, "lateOf", "(I)I"⟩
abbrev cX0_setAway : ByteArray := prog_2_method_10_code
def yX0_setAway : MethodName := ⟨RX0, "setAway", "(IZ)V"⟩
abbrev cX0_setHoarse : ByteArray := prog_2_method_11_code
def yX0_setHoarse : MethodName := ⟨RX0, "setHoarse", "(IZ)V"⟩
abbrev cX0_setLate : ByteArray := prog_2_method_12_code
def yX0_setLate : MethodName := ⟨RX0, "setLate", "(II)V"⟩
abbrev cX0_voiceOf : ByteArray := prog_2_method_13_code
def yX0_voiceOf : MethodName := ⟨RX0, "voiceOf", "(I)I"⟩
abbrev cX0_isSaid : ByteArray := prog_2_method_14_code
def yX0_isSaid : MethodName := ⟨RX0, "isSaid", "(I)Z"⟩
def RX1 : String := "ThirdLetter$Foretelling"
def TX1 : u_T := fun k => match k with
  | 0 => ("ThirdLetter$Foretelling", "fitting", "[I", true)
  | 1 => ("ThirdLetter$Foretelling", "followers", "[I", true)
  | 2 => ("ThirdLetter$Foretelling", "reached", "[[I", true)
  | 3 => ("ThirdLetter$Foretelling", "ways", "[[I", true)
  | 4 => ("ThirdLetter$Foretelling", "list", "LThirdLetter$WordList;", true)
  | 5 => ("ThirdLetter$Foretelling", "row", "LThirdLetter$Sound;", true)
  | _ => ("ThirdLetter$Foretelling", "length", "I", false)
def tyX1 : Nat → FieldType := fun k => match k with
  | 0 => .array .int
  | 1 => .array .int
  | 2 => .array (.array .int)
  | 3 => .array (.array .int)
  | 4 => .object "ThirdLetter$WordList"
  | 5 => .object "ThirdLetter$Sound"
  | _ => .int
abbrev wsX10 : List Cond := u_ws RX1 TX1 7
theorem nmX1 : ∀ a, a < 7 → ∀ b, b < 7 → a ≠ b → (TX1 a).2.1 ≠ (TX1 b).2.1 := by decide +kernel
theorem tyX1_ok : ∀ k, k < 7 → parseFieldDescriptor (TX1 k).2.2.1 = some (tyX1 k) := by decide +kernel
abbrev cX1_init : ByteArray := prog_3_method_1_code
def yX1_init : MethodName := ⟨RX1, "<init>", "(LThirdLetter$WordList;LThirdLetter$Sound;)V"⟩
abbrev cX1_prepare : ByteArray := prog_3_method_2_code
def yX1_prepare : MethodName := ⟨RX1, "prepare", "()V"⟩
abbrev cX1_findChoices : ByteArray := prog_3_method_3_code
def yX1_findChoices : MethodName := ⟨RX1, "findChoices", "()V"⟩
abbrev cX1_findReached : ByteArray := prog_3_method_4_code
def yX1_findReached : MethodName := ⟨RX1, "findReached", "()V"⟩
abbrev cX1_stepFrom : ByteArray := prog_3_method_5_code
def yX1_stepFrom : MethodName := ⟨RX1, "stepFrom", "(II)V"⟩
abbrev cX1_choicesAt : ByteArray := prog_3_method_6_code
def yX1_choicesAt : MethodName := ⟨RX1, "choicesAt", "(II)I"⟩
abbrev cX1_isReached : ByteArray := prog_3_method_7_code
def yX1_isReached : MethodName := ⟨RX1, "isReached", "(III)Z"⟩
abbrev cX1_findWays : ByteArray := prog_3_method_8_code
def yX1_findWays : MethodName := ⟨RX1, "findWays", "(I)V"⟩
abbrev cX1_sumOfWays : ByteArray := prog_3_method_9_code
def yX1_sumOfWays : MethodName := ⟨RX1, "sumOfWays", "(III)I"⟩
abbrev cX1_waysBehind : ByteArray := prog_3_method_10_code
def yX1_waysBehind : MethodName := ⟨RX1, "waysBehind", "(III)I"⟩
abbrev cX1_total : ByteArray := prog_3_method_11_code
def yX1_total : MethodName := ⟨RX1, "total", "()I"⟩
abbrev cX1_wordsInAny : ByteArray := prog_3_method_12_code
def yX1_wordsInAny : MethodName := ⟨RX1, "wordsInAny", "()I"⟩
abbrev cX1_wordsThatEndWell : ByteArray := prog_3_method_13_code
def yX1_wordsThatEndWell : MethodName := ⟨RX1, "wordsThatEndWell", "(II)I"⟩
abbrev cX1_wordOfFirst : ByteArray := prog_3_method_14_code
def yX1_wordOfFirst : MethodName := ⟨RX1, "wordOfFirst", "(I)I"⟩
abbrev cX1_leastThatEndsWell : ByteArray := prog_3_method_15_code
def yX1_leastThatEndsWell : MethodName := ⟨RX1, "leastThatEndsWell", "(III)I"⟩
def RX2 : String := "ThirdLetter$Likeness"
def TX2 : u_T := fun k => match k with
  | 0 => ("ThirdLetter$Likeness", "clashes", "[I", true)
  | 1 => ("ThirdLetter$Likeness", "list", "LThirdLetter$WordList;", true)
  | _ => ("ThirdLetter$Likeness", "choir", "LThirdLetter$Choir;", true)
def tyX2 : Nat → FieldType := fun k => match k with
  | 0 => .array .int
  | 1 => .object "ThirdLetter$WordList"
  | _ => .object "ThirdLetter$Choir"
abbrev wsX20 : List Cond := u_ws RX2 TX2 3
theorem nmX2 : ∀ a, a < 3 → ∀ b, b < 3 → a ≠ b → (TX2 a).2.1 ≠ (TX2 b).2.1 := by decide +kernel
theorem tyX2_ok : ∀ k, k < 3 → parseFieldDescriptor (TX2 k).2.2.1 = some (tyX2 k) := by decide +kernel
abbrev cX2_init : ByteArray := prog_4_method_1_code
def yX2_init : MethodName := ⟨RX2, "<init>", "(LThirdLetter$Told;)V"⟩
abbrev cX2_wordSaidBy : ByteArray := prog_4_method_2_code
def yX2_wordSaidBy : MethodName := ⟨RX2, "wordSaidBy", "(II)I"⟩
abbrev cX2_isSaidBy : ByteArray := prog_4_method_3_code
def yX2_isSaidBy : MethodName := ⟨RX2, "isSaidBy", "(III)Z"⟩
abbrev cX2_countTwins : ByteArray := prog_4_method_4_code
def yX2_countTwins : MethodName := ⟨RX2, "countTwins", "(I)I"⟩
abbrev cX2_firstTwins : ByteArray := prog_4_method_5_code
def yX2_firstTwins : MethodName := ⟨RX2, "firstTwins", "(I)I"⟩
abbrev cX2_twinOf : ByteArray := prog_4_method_6_code
def yX2_twinOf : MethodName := ⟨RX2, "twinOf", "(II)I"⟩
abbrev cX2_sumOfClassSizes : ByteArray := prog_4_method_7_code
def yX2_sumOfClassSizes : MethodName := ⟨RX2, "sumOfClassSizes", "(I)I"⟩
abbrev cX2_countClasses : ByteArray := prog_4_method_8_code
def yX2_countClasses : MethodName := ⟨RX2, "countClasses", "(I)I"⟩
abbrev cX2_isOneClass : ByteArray := prog_4_method_9_code
def yX2_isOneClass : MethodName := ⟨RX2, "isOneClass", "(III)Z"⟩
abbrev cX2_voicesThatDiffer : ByteArray := prog_4_method_10_code
def yX2_voicesThatDiffer : MethodName := ⟨RX2, "voicesThatDiffer", "(II)I"⟩
abbrev cX2_greatestBearing : ByteArray := prog_4_method_11_code
def yX2_greatestBearing : MethodName := ⟨RX2, "greatestBearing", "()I"⟩
abbrev cX2_isClash : ByteArray := prog_4_method_12_code
def yX2_isClash : MethodName := ⟨RX2, "isClash", "(II)Z"⟩
abbrev cX2_greatestWithoutClash : ByteArray := prog_4_method_13_code
def yX2_greatestWithoutClash : MethodName := ⟨RX2, "greatestWithoutClash", "([III)I"⟩
def RX3 : String := "ThirdLetter$Reader"
def TX3 : u_T := fun k => match k with
  | 0 => ("ThirdLetter$Reader", "script", "LThirdLetter$Script;", true)
  | 1 => ("ThirdLetter$Reader", "draft", "LThirdLetter$Told;", true)
  | 2 => ("ThirdLetter$Reader", "begin", "I", false)
  | 3 => ("ThirdLetter$Reader", "end", "I", false)
  | _ => ("ThirdLetter$Reader", "lines", "I", false)
def tyX3 : Nat → FieldType := fun k => match k with
  | 0 => .object "ThirdLetter$Script"
  | 1 => .object "ThirdLetter$Told"
  | 2 => .int
  | 3 => .int
  | _ => .int
abbrev wsX30 : List Cond := u_ws RX3 TX3 5
theorem nmX3 : ∀ a, a < 5 → ∀ b, b < 5 → a ≠ b → (TX3 a).2.1 ≠ (TX3 b).2.1 := by decide +kernel
theorem tyX3_ok : ∀ k, k < 5 → parseFieldDescriptor (TX3 k).2.2.1 = some (tyX3 k) := by decide +kernel
abbrev cX3_init : ByteArray := prog_5_method_1_code
def yX3_init : MethodName := ⟨RX3, "<init>", "(LThirdLetter$Script;LThirdLetter$Told;)V"⟩
abbrev cX3_linesRead : ByteArray := prog_5_method_2_code
def yX3_linesRead : MethodName := ⟨RX3, "linesRead", "()I"⟩
abbrev cX3_readToFault : ByteArray := prog_5_method_3_code
def yX3_readToFault : MethodName := ⟨RX3, "readToFault", "()I"⟩
abbrev cX3_advance : ByteArray := prog_5_method_4_code
def yX3_advance : MethodName := ⟨RX3, "advance", "()V"⟩
abbrev cX3_tokenIs : ByteArray := prog_5_method_5_code
def yX3_tokenIs : MethodName := ⟨RX3, "tokenIs", "(Ljava/lang/String;)Z"⟩
abbrev cX3_takeNumber : ByteArray := prog_5_method_6_code
def yX3_takeNumber : MethodName := ⟨RX3, "takeNumber", "(II)I"⟩
abbrev cX3_doLine : ByteArray := prog_5_method_7_code
def yX3_doLine : MethodName := ⟨RX3, "doLine", "()Z"⟩
abbrev cX3_doOrder : ByteArray := prog_5_method_8_code
def yX3_doOrder : MethodName := ⟨RX3, "doOrder", "()Z"⟩
abbrev cX3_doWord : ByteArray := prog_5_method_9_code
def yX3_doWord : MethodName := ⟨RX3, "doWord", "()Z"⟩
abbrev cX3_doNot : ByteArray := prog_5_method_10_code
def yX3_doNot : MethodName := ⟨RX3, "doNot", "()Z"⟩
abbrev cX3_doFree : ByteArray := prog_5_method_11_code
def yX3_doFree : MethodName := ⟨RX3, "doFree", "()Z"⟩
abbrev cX3_doAway : ByteArray := prog_5_method_12_code
def yX3_doAway : MethodName := ⟨RX3, "doAway", "(Z)Z"⟩
abbrev cX3_doHoarse : ByteArray := prog_5_method_13_code
def yX3_doHoarse : MethodName := ⟨RX3, "doHoarse", "(Z)Z"⟩
abbrev cX3_doLate : ByteArray := prog_5_method_14_code
def yX3_doLate : MethodName := ⟨RX3, "doLate", "()Z"⟩
def RX4 : String := "ThirdLetter$Script"
def TX4 : u_T := fun k => match k with
  | 0 => ("ThirdLetter$Script", "bytes", "[I", true)
  | _ => ("ThirdLetter$Script", "length", "I", false)
def tyX4 : Nat → FieldType := fun k => match k with
  | 0 => .array .int
  | _ => .int
abbrev wsX40 : List Cond := u_ws RX4 TX4 2
theorem nmX4 : ∀ a, a < 2 → ∀ b, b < 2 → a ≠ b → (TX4 a).2.1 ≠ (TX4 b).2.1 := by decide +kernel
theorem tyX4_ok : ∀ k, k < 2 → parseFieldDescriptor (TX4 k).2.2.1 = some (tyX4 k) := by decide +kernel
abbrev cX4_init : ByteArray := prog_6_method_1_code
def yX4_init : MethodName := ⟨RX4, "<init>", "()V"⟩
abbrev cX4_length : ByteArray := prog_6_method_2_code
def yX4_length : MethodName := ⟨RX4, "length", "()I"⟩
abbrev cX4_hasRoom : ByteArray := prog_6_method_3_code
def yX4_hasRoom : MethodName := ⟨RX4, "hasRoom", "(I)Z"⟩
abbrev cX4_append : ByteArray := prog_6_method_4_code
def yX4_append : MethodName := ⟨RX4, "append", "(JI)V"⟩
abbrev cX4_makeEmpty : ByteArray := prog_6_method_5_code
def yX4_makeEmpty : MethodName := ⟨RX4, "makeEmpty", "()I"⟩
abbrev cX4_at : ByteArray := prog_6_method_6_code
def yX4_at : MethodName := ⟨RX4, "at", "(I)I"⟩
abbrev cX4_endOfRow : ByteArray := prog_6_method_7_code
def yX4_endOfRow : MethodName := ⟨RX4, "endOfRow", "(III)I"⟩
def RX5 : String := "ThirdLetter$Seating"
def TX5 : u_T := fun k => match k with
  | 0 => ("ThirdLetter$Seating", "letters", "[I", true)
  | 1 => ("ThirdLetter$Seating", "seconds", "[I", true)
  | 2 => ("ThirdLetter$Seating", "fewest", "[I", true)
  | 3 => ("ThirdLetter$Seating", "list", "LThirdLetter$WordList;", true)
  | _ => ("ThirdLetter$Seating", "choir", "LThirdLetter$Choir;", true)
def tyX5 : Nat → FieldType := fun k => match k with
  | 0 => .array .int
  | 1 => .array .int
  | 2 => .array .int
  | 3 => .object "ThirdLetter$WordList"
  | _ => .object "ThirdLetter$Choir"
abbrev wsX50 : List Cond := u_ws RX5 TX5 5
theorem nmX5 : ∀ a, a < 5 → ∀ b, b < 5 → a ≠ b → (TX5 a).2.1 ≠ (TX5 b).2.1 := by decide +kernel
theorem tyX5_ok : ∀ k, k < 5 → parseFieldDescriptor (TX5 k).2.2.1 = some (tyX5 k) := by decide +kernel
abbrev cX5_init : ByteArray := prog_7_method_1_code
def yX5_init : MethodName := ⟨RX5, "<init>", "(LThirdLetter$Told;)V"⟩
abbrev cX5_prepare : ByteArray := prog_7_method_2_code
def yX5_prepare : MethodName := ⟨RX5, "prepare", "()V"⟩
abbrev cX5_countLetters : ByteArray := prog_7_method_3_code
def yX5_countLetters : MethodName := ⟨RX5, "countLetters", "()V"⟩
abbrev cX5_countLetter : ByteArray := prog_7_method_4_code
def yX5_countLetter : MethodName := ⟨RX5, "countLetter", "(I)V"⟩
abbrev cX5_leastBest : ByteArray := prog_7_method_5_code
def yX5_leastBest : MethodName := ⟨RX5, "leastBest", "(I)I"⟩
abbrev cX5_fewestWith : ByteArray := prog_7_method_6_code
def yX5_fewestWith : MethodName := ⟨RX5, "fewestWith", "(II)I"⟩
abbrev cX5_spoiltBy : ByteArray := prog_7_method_7_code
def yX5_spoiltBy : MethodName := ⟨RX5, "spoiltBy", "(II)I"⟩
abbrev cX5_fewestSpoilt : ByteArray := prog_7_method_8_code
def yX5_fewestSpoilt : MethodName := ⟨RX5, "fewestSpoilt", "()I"⟩
abbrev cX5_voiceAt : ByteArray := prog_7_method_9_code
def yX5_voiceAt : MethodName := ⟨RX5, "voiceAt", "(I)I"⟩
def RX6 : String := "ThirdLetter$Sermon"
def TX6 : u_T := fun k => match k with
  | 0 => ("ThirdLetter$Sermon", "letters", "[I", true)
  | 1 => ("ThirdLetter$Sermon", "letterTotal", "I", false)
  | 2 => ("ThirdLetter$Sermon", "wordTotal", "I", false)
  | 3 => ("ThirdLetter$Sermon", "lastWord", "I", false)
  | _ => ("ThirdLetter$Sermon", "said", "I", false)
def tyX6 : Nat → FieldType := fun k => match k with
  | 0 => .array .int
  | 1 => .int
  | 2 => .int
  | 3 => .int
  | _ => .int
abbrev wsX60 : List Cond := u_ws RX6 TX6 5
theorem nmX6 : ∀ a, a < 5 → ∀ b, b < 5 → a ≠ b → (TX6 a).2.1 ≠ (TX6 b).2.1 := by decide +kernel
theorem tyX6_ok : ∀ k, k < 5 → parseFieldDescriptor (TX6 k).2.2.1 = some (tyX6 k) := by decide +kernel
abbrev cX6_init : ByteArray := prog_8_method_1_code
def yX6_init : MethodName := ⟨RX6, "<init>", "()V"⟩
abbrev cX6_copyFrom : ByteArray := prog_8_method_2_code
def yX6_copyFrom : MethodName := ⟨RX6, "copyFrom", "(LThirdLetter$Sermon;)V"⟩
abbrev cX6_makeEmpty : ByteArray := prog_8_method_3_code
def yX6_makeEmpty : MethodName := ⟨RX6, "makeEmpty", "()V"⟩
abbrev cX6_letterTotal : ByteArray := prog_8_method_4_code
def yX6_letterTotal : MethodName := ⟨RX6, "letterTotal", "()I"⟩
abbrev cX6_wordTotal : ByteArray := prog_8_method_5_code
def yX6_wordTotal : MethodName := ⟨RX6, "wordTotal", "()I"⟩
abbrev cX6_saidTotal : ByteArray := prog_8_method_6_code
def yX6_saidTotal : MethodName := ⟨RX6, "saidTotal", "()I"⟩
abbrev cX6_lastWord : ByteArray := prog_8_method_7_code
def yX6_lastWord : MethodName := ⟨RX6, "lastWord", "()I"⟩
abbrev cX6_hasRoom : ByteArray := prog_8_method_8_code
def yX6_hasRoom : MethodName := ⟨RX6, "hasRoom", "(I)Z"⟩
abbrev cX6_append : ByteArray := prog_8_method_9_code
def yX6_append : MethodName := ⟨RX6, "append", "(ILThirdLetter$WordList;)V"⟩
abbrev cX6_sayMore : ByteArray := prog_8_method_10_code
def yX6_sayMore : MethodName := ⟨RX6, "sayMore", "(I)V"⟩
abbrev cX6_letterAt : ByteArray := prog_8_method_11_code
def yX6_letterAt : MethodName := ⟨RX6, "letterAt", "(I)I"⟩
abbrev cX6_heardAt : ByteArray := prog_8_method_12_code
def yX6_heardAt : MethodName := ⟨RX6, "heardAt", "(ILThirdLetter$Choir;)I"⟩
abbrev cX6_lettersHeard : ByteArray := prog_8_method_13_code
def yX6_lettersHeard : MethodName := ⟨RX6, "lettersHeard", "(LThirdLetter$Choir;)I"⟩
abbrev cX6_lettersSaidBy : ByteArray := prog_8_method_14_code
def yX6_lettersSaidBy : MethodName := ⟨RX6, "lettersSaidBy", "(ILThirdLetter$Choir;)I"⟩
abbrev cX6_countLateRows : ByteArray := prog_8_method_15_code
def yX6_countLateRows : MethodName := ⟨RX6, "countLateRows", "(LThirdLetter$Sound;I)I"⟩
abbrev cX6_firstLateRow : ByteArray := prog_8_method_16_code
def yX6_firstLateRow : MethodName := ⟨RX6, "firstLateRow", "(LThirdLetter$Sound;I)I"⟩
abbrev cX6_leastLate : ByteArray := prog_8_method_17_code
def yX6_leastLate : MethodName := ⟨RX6, "leastLate", "(LThirdLetter$Sound;II)I"⟩
abbrev cX6_isHeardLate : ByteArray := prog_8_method_18_code
def yX6_isHeardLate : MethodName := ⟨RX6, "isHeardLate", "(LThirdLetter$Sound;III)Z"⟩
def RX7 : String := "ThirdLetter$Sound"
def TX7 : u_T := fun k => match k with
  | 0 => ("ThirdLetter$Sound", "letters", "[I", true)
  | _ => ("ThirdLetter$Sound", "length", "I", false)
def tyX7 : Nat → FieldType := fun k => match k with
  | 0 => .array .int
  | _ => .int
abbrev wsX70 : List Cond := u_ws RX7 TX7 2
theorem nmX7 : ∀ a, a < 2 → ∀ b, b < 2 → a ≠ b → (TX7 a).2.1 ≠ (TX7 b).2.1 := by decide +kernel
theorem tyX7_ok : ∀ k, k < 2 → parseFieldDescriptor (TX7 k).2.2.1 = some (tyX7 k) := by decide +kernel
abbrev cX7_init : ByteArray := prog_9_method_1_code
def yX7_init : MethodName := ⟨RX7, "<init>", "()V"⟩
abbrev cX7_length : ByteArray := prog_9_method_2_code
def yX7_length : MethodName := ⟨RX7, "length", "()I"⟩
abbrev cX7_isFull : ByteArray := prog_9_method_3_code
def yX7_isFull : MethodName := ⟨RX7, "isFull", "()Z"⟩
abbrev cX7_makeEmpty : ByteArray := prog_9_method_4_code
def yX7_makeEmpty : MethodName := ⟨RX7, "makeEmpty", "()I"⟩
abbrev cX7_append : ByteArray := prog_9_method_5_code
def yX7_append : MethodName := ⟨RX7, "append", "(I)V"⟩
abbrev cX7_at : ByteArray := prog_9_method_6_code
def yX7_at : MethodName := ⟨RX7, "at", "(I)I"⟩
abbrev cX7_isFitting : ByteArray := prog_9_method_7_code
def yX7_isFitting : MethodName := ⟨RX7, "isFitting", "(LThirdLetter$WordList;II)Z"⟩
def RX8 : String := "ThirdLetter$Told"
def TX8 : u_T := fun k => match k with
  | 0 => ("ThirdLetter$Told", "list", "LThirdLetter$WordList;", true)
  | _ => ("ThirdLetter$Told", "choir", "LThirdLetter$Choir;", true)
def tyX8 : Nat → FieldType := fun k => match k with
  | 0 => .object "ThirdLetter$WordList"
  | _ => .object "ThirdLetter$Choir"
abbrev wsX80 : List Cond := u_ws RX8 TX8 2
theorem nmX8 : ∀ a, a < 2 → ∀ b, b < 2 → a ≠ b → (TX8 a).2.1 ≠ (TX8 b).2.1 := by decide +kernel
theorem tyX8_ok : ∀ k, k < 2 → parseFieldDescriptor (TX8 k).2.2.1 = some (tyX8 k) := by decide +kernel
abbrev cX8_init : ByteArray := prog_10_method_1_code
def yX8_init : MethodName := ⟨RX8, "<init>", "()V"⟩
abbrev cX8_copyFrom : ByteArray := prog_10_method_2_code
def yX8_copyFrom : MethodName := ⟨RX8, "copyFrom", "(LThirdLetter$Told;)V"⟩
def RX9 : String := "ThirdLetter$WordList"
def TX9 : u_T := fun k => match k with
  | 0 => ("ThirdLetter$WordList", "letters", "[I", true)
  | 1 => ("ThirdLetter$WordList", "lengths", "[I", true)
  | 2 => ("ThirdLetter$WordList", "sorts", "[I", true)
  | 3 => ("ThirdLetter$WordList", "size", "I", false)
  | _ => ("ThirdLetter$WordList", "follow", "I", false)
def tyX9 : Nat → FieldType := fun k => match k with
  | 0 => .array .int
  | 1 => .array .int
  | 2 => .array .int
  | 3 => .int
  | _ => .int
abbrev wsX90 : List Cond := u_ws RX9 TX9 5
theorem nmX9 : ∀ a, a < 5 → ∀ b, b < 5 → a ≠ b → (TX9 a).2.1 ≠ (TX9 b).2.1 := by decide +kernel
theorem tyX9_ok : ∀ k, k < 5 → parseFieldDescriptor (TX9 k).2.2.1 = some (tyX9 k) := by decide +kernel
abbrev cX9_init : ByteArray := prog_11_method_1_code
def yX9_init : MethodName := ⟨RX9, "<init>", "()V"⟩
abbrev cX9_copyFrom : ByteArray := prog_11_method_2_code
def yX9_copyFrom : MethodName := ⟨RX9, "copyFrom", "(LThirdLetter$WordList;)V"⟩
abbrev cX9_size : ByteArray := prog_11_method_3_code
def yX9_size : MethodName := ⟨RX9, "size", "()I"⟩
abbrev cX9_isFull : ByteArray := prog_11_method_4_code
def yX9_isFull : MethodName := ⟨RX9, "isFull", "()Z"⟩
abbrev cX9_has : ByteArray := prog_11_method_5_code
def yX9_has : MethodName := ⟨RX9, "has", "(I)Z"⟩
abbrev cX9_lengthOf : ByteArray := prog_11_method_6_code
def yX9_lengthOf : MethodName := ⟨RX9, "lengthOf", "(I)I"⟩
abbrev cX9_sortOf : ByteArray := prog_11_method_7_code
def yX9_sortOf : MethodName := ⟨RX9, "sortOf", "(I)I"⟩
abbrev cX9_letterOf : ByteArray := prog_11_method_8_code
def yX9_letterOf : MethodName := ⟨RX9, "letterOf", "(II)I"⟩
abbrev cX9_followBits : ByteArray := prog_11_method_9_code
def yX9_followBits : MethodName := ⟨RX9, "followBits", "()I"⟩
abbrev cX9_mayFollow : ByteArray := prog_11_method_10_code
def yX9_mayFollow : MethodName := ⟨RX9, "mayFollow", "(II)Z"⟩
abbrev cX9_forbid : ByteArray := prog_11_method_11_code
def yX9_forbid : MethodName := ⟨RX9, "forbid", "(II)V"⟩
abbrev cX9_makeFree : ByteArray := prog_11_method_12_code
def yX9_makeFree : MethodName := ⟨RX9, "makeFree", "()V"⟩
abbrev cX9_isTold : ByteArray := prog_11_method_13_code
def yX9_isTold : MethodName := ⟨RX9, "isTold", "(LThirdLetter$Script;II)Z"⟩
abbrev cX9_isSpelt : ByteArray := prog_11_method_14_code
def yX9_isSpelt : MethodName := ⟨RX9, "isSpelt", "(ILThirdLetter$Script;II)Z"⟩
abbrev cX9_append : ByteArray := prog_11_method_15_code
def yX9_append : MethodName := ⟨RX9, "append", "(ILThirdLetter$Script;II)V"⟩
def RX10 : String := "ThirdLetter"
def TX10 : u_T := fun k => match k with
  | 0 => ("ThirdLetter", "script", "LThirdLetter$Script;", true)
  | 1 => ("ThirdLetter", "told", "LThirdLetter$Told;", true)
  | 2 => ("ThirdLetter", "draft", "LThirdLetter$Told;", true)
  | 3 => ("ThirdLetter", "reader", "LThirdLetter$Reader;", true)
  | 4 => ("ThirdLetter", "sermon", "LThirdLetter$Sermon;", true)
  | 5 => ("ThirdLetter", "keptFirst", "LThirdLetter$Sermon;", true)
  | 6 => ("ThirdLetter", "keptSecond", "LThirdLetter$Sermon;", true)
  | 7 => ("ThirdLetter", "keptBits", "I", false)
  | 8 => ("ThirdLetter", "row", "LThirdLetter$Sound;", true)
  | 9 => ("ThirdLetter", "foretelling", "LThirdLetter$Foretelling;", true)
  | 10 => ("ThirdLetter", "likeness", "LThirdLetter$Likeness;", true)
  | _ => ("ThirdLetter", "seating", "LThirdLetter$Seating;", true)
def tyX10 : Nat → FieldType := fun k => match k with
  | 0 => .object "ThirdLetter$Script"
  | 1 => .object "ThirdLetter$Told"
  | 2 => .object "ThirdLetter$Told"
  | 3 => .object "ThirdLetter$Reader"
  | 4 => .object "ThirdLetter$Sermon"
  | 5 => .object "ThirdLetter$Sermon"
  | 6 => .object "ThirdLetter$Sermon"
  | 7 => .int
  | 8 => .object "ThirdLetter$Sound"
  | 9 => .object "ThirdLetter$Foretelling"
  | 10 => .object "ThirdLetter$Likeness"
  | _ => .object "ThirdLetter$Seating"
abbrev wsX100 : List Cond := u_ws RX10 TX10 12
theorem nmX10 : ∀ a, a < 12 → ∀ b, b < 12 → a ≠ b → (TX10 a).2.1 ≠ (TX10 b).2.1 := by decide +kernel
theorem tyX10_ok : ∀ k, k < 12 → parseFieldDescriptor (TX10 k).2.2.1 = some (tyX10 k) := by decide +kernel
abbrev cX10_init : ByteArray := prog_1_method_1_code
def yX10_init : MethodName := ⟨RX10, "<init>", "()V"⟩
abbrev cX10_write : ByteArray := prog_1_method_2_code
def yX10_write : MethodName := ⟨RX10, "write", "(JI)I"⟩
abbrev cX10_erase : ByteArray := prog_1_method_3_code
def yX10_erase : MethodName := ⟨RX10, "erase", "()I"⟩
abbrev cX10_fault : ByteArray := prog_1_method_4_code
def yX10_fault : MethodName := ⟨RX10, "fault", "()I"⟩
abbrev cX10_order : ByteArray := prog_1_method_5_code
def yX10_order : MethodName := ⟨RX10, "order", "()I"⟩
abbrev cX10_word : ByteArray := prog_1_method_6_code
def yX10_word : MethodName := ⟨RX10, "word", "(II)I"⟩
abbrev cX10_voice : ByteArray := prog_1_method_7_code
def yX10_voice : MethodName := ⟨RX10, "voice", "(II)I"⟩
abbrev cX10_preach : ByteArray := prog_1_method_8_code
def yX10_preach : MethodName := ⟨RX10, "preach", "(I)I"⟩
abbrev cX10_amen : ByteArray := prog_1_method_9_code
def yX10_amen : MethodName := ⟨RX10, "amen", "()I"⟩
abbrev cX10_say : ByteArray := prog_1_method_10_code
def yX10_say : MethodName := ⟨RX10, "say", "(I)I"⟩
abbrev cX10_heard : ByteArray := prog_1_method_11_code
def yX10_heard : MethodName := ⟨RX10, "heard", "(I)I"⟩
abbrev cX10_tally : ByteArray := prog_1_method_12_code
def yX10_tally : MethodName := ⟨RX10, "tally", "(I)I"⟩
abbrev cX10_sound : ByteArray := prog_1_method_13_code
def yX10_sound : MethodName := ⟨RX10, "sound", "(I)I"⟩
abbrev cX10_listen : ByteArray := prog_1_method_14_code
def yX10_listen : MethodName := ⟨RX10, "listen", "()I"⟩
abbrev cX10_hush : ByteArray := prog_1_method_15_code
def yX10_hush : MethodName := ⟨RX10, "hush", "()I"⟩
abbrev cX10_fits : ByteArray := prog_1_method_16_code
def yX10_fits : MethodName := ⟨RX10, "fits", "(II)I"⟩
abbrev cX10_readings : ByteArray := prog_1_method_17_code
def yX10_readings : MethodName := ⟨RX10, "readings", "(I)I"⟩
abbrev cX10_came : ByteArray := prog_1_method_18_code
def yX10_came : MethodName := ⟨RX10, "came", "(I)I"⟩
abbrev cX10_alone : ByteArray := prog_1_method_19_code
def yX10_alone : MethodName := ⟨RX10, "alone", "(II)I"⟩
abbrev cX10_twins : ByteArray := prog_1_method_20_code
def yX10_twins : MethodName := ⟨RX10, "twins", "(II)I"⟩
abbrev cX10_learnt : ByteArray := prog_1_method_21_code
def yX10_learnt : MethodName := ⟨RX10, "learnt", "(III)I"⟩
abbrev cX10_seats : ByteArray := prog_1_method_22_code
def yX10_seats : MethodName := ⟨RX10, "seats", "(I)I"⟩
abbrev cX10_bears : ByteArray := prog_1_method_23_code
def yX10_bears : MethodName := ⟨RX10, "bears", "(I)I"⟩
abbrev cX10_keep : ByteArray := prog_1_method_24_code
def yX10_keep : MethodName := ⟨RX10, "keep", "(I)I"⟩
abbrev cX10_back : ByteArray := prog_1_method_25_code
def yX10_back : MethodName := ⟨RX10, "back", "(I)I"⟩
abbrev cX10_count : ByteArray := prog_1_method_26_code
def yX10_count : MethodName := ⟨RX10, "count", "(I)I"⟩
abbrev cX10_shelf : ByteArray := prog_1_method_27_code
def yX10_shelf : MethodName := ⟨RX10, "shelf", "(I)LThirdLetter$Sermon;"⟩
abbrev cX10_lowestTerm : ByteArray := prog_1_method_28_code
def yX10_lowestTerm : MethodName := ⟨RX10, "lowestTerm", "(II)I"⟩
def RX11 : String := "ThirdLetterModel"
def TX11 : u_T := fun k => match k with
  | 0 => ("ThirdLetterModel", "voices", "I", false)
  | 1 => ("ThirdLetterModel", "away", "I", false)
  | 2 => ("ThirdLetterModel", "hoarse", "I", false)
  | 3 => ("ThirdLetterModel", "late", "[I", true)
  | 4 => ("ThirdLetterModel", "words", "I", false)
  | 5 => ("ThirdLetterModel", "sort", "[I", true)
  | 6 => ("ThirdLetterModel", "size", "[I", true)
  | 7 => ("ThirdLetterModel", "letter", "[I", true)
  | 8 => ("ThirdLetterModel", "follow", "I", false)
  | 9 => ("ThirdLetterModel", "bytes", "I", false)
  | 10 => ("ThirdLetterModel", "text", "[I", true)
  | 11 => ("ThirdLetterModel", "position", "I", false)
  | 12 => ("ThirdLetterModel", "tokenAt", "I", false)
  | 13 => ("ThirdLetterModel", "token", "J", false)
  | 14 => ("ThirdLetterModel", "digits", "I", false)
  | 15 => ("ThirdLetterModel", "number", "I", false)
  | 16 => ("ThirdLetterModel", "faultAt", "I", false)
  | 17 => ("ThirdLetterModel", "readMany", "I", false)
  | 18 => ("ThirdLetterModel", "readVoices", "I", false)
  | 19 => ("ThirdLetterModel", "readWords", "I", false)
  | 20 => ("ThirdLetterModel", "readSize", "[I", true)
  | 21 => ("ThirdLetterModel", "readLetter", "[I", true)
  | 22 => ("ThirdLetterModel", "read", "[I", true)
  | 23 => ("ThirdLetterModel", "preached", "I", false)
  | 24 => ("ThirdLetterModel", "sermon", "[I", true)
  | 25 => ("ThirdLetterModel", "gone", "I", false)
  | 26 => ("ThirdLetterModel", "sounds", "I", false)
  | 27 => ("ThirdLetterModel", "sound", "[I", true)
  | 28 => ("ThirdLetterModel", "image", "[I", true)
  | 29 => ("ThirdLetterModel", "isKept", "[Z", true)
  | 30 => ("ThirdLetterModel", "ways", "[I", true)
  | 31 => ("ThirdLetterModel", "reached", "[Z", true)
  | 32 => ("ThirdLetterModel", "seat", "[I", true)
  | _ => ("ThirdLetterModel", "apart", "[I", true)
def tyX11 : Nat → FieldType := fun k => match k with
  | 0 => .int
  | 1 => .int
  | 2 => .int
  | 3 => .array .int
  | 4 => .int
  | 5 => .array .int
  | 6 => .array .int
  | 7 => .array .int
  | 8 => .int
  | 9 => .int
  | 10 => .array .int
  | 11 => .int
  | 12 => .int
  | 13 => .long
  | 14 => .int
  | 15 => .int
  | 16 => .int
  | 17 => .int
  | 18 => .int
  | 19 => .int
  | 20 => .array .int
  | 21 => .array .int
  | 22 => .array .int
  | 23 => .int
  | 24 => .array .int
  | 25 => .int
  | 26 => .int
  | 27 => .array .int
  | 28 => .array .int
  | 29 => .array .boolean
  | 30 => .array .int
  | 31 => .array .boolean
  | 32 => .array .int
  | _ => .array .int
abbrev wsX110 : List Cond := u_ws RX11 TX11 34
theorem nmX11 : ∀ a, a < 34 → ∀ b, b < 34 → a ≠ b → (TX11 a).2.1 ≠ (TX11 b).2.1 := by decide +kernel
theorem tyX11_ok : ∀ k, k < 34 → parseFieldDescriptor (TX11 k).2.2.1 = some (tyX11 k) := by decide +kernel
abbrev cX11_init : ByteArray := prog_13_method_1_code
def yX11_init : MethodName := ⟨RX11, "<init>", "()V"⟩
abbrev cX11_in : ByteArray := prog_13_method_2_code
def yX11_in : MethodName := ⟨RX11, "in", "(III)Z"⟩
abbrev cX11_has : ByteArray := prog_13_method_3_code
def yX11_has : MethodName := ⟨RX11, "has", "(II)Z"⟩
abbrev cX11_isWord : ByteArray := prog_13_method_4_code
def yX11_isWord : MethodName := ⟨RX11, "isWord", "(I)Z"⟩
abbrev cX11_isVoice : ByteArray := prog_13_method_5_code
def yX11_isVoice : MethodName := ⟨RX11, "isVoice", "(I)Z"⟩
abbrev cX11_write : ByteArray := prog_13_method_6_code
def yX11_write : MethodName := ⟨RX11, "write", "(JI)I"⟩
abbrev cX11_erase : ByteArray := prog_13_method_7_code
def yX11_erase : MethodName := ⟨RX11, "erase", "()I"⟩
abbrev cX11_nextToken : ByteArray := prog_13_method_8_code
def yX11_nextToken : MethodName := ⟨RX11, "nextToken", "()V"⟩
abbrev cX11_fails : ByteArray := prog_13_method_9_code
def yX11_fails : MethodName := ⟨RX11, "fails", "()Z"⟩
abbrev cX11_isNumber : ByteArray := prog_13_method_10_code
def yX11_isNumber : MethodName := ⟨RX11, "isNumber", "(III)Z"⟩
abbrev cX11_isVoiceRead : ByteArray := prog_13_method_11_code
def yX11_isVoiceRead : MethodName := ⟨RX11, "isVoiceRead", "(I)Z"⟩
abbrev cX11_isOrder : ByteArray := prog_13_method_12_code
def yX11_isOrder : MethodName := ⟨RX11, "isOrder", "(I)Z"⟩
abbrev cX11_isTold : ByteArray := prog_13_method_13_code
def yX11_isTold : MethodName := ⟨RX11, "isTold", "(I)Z"⟩
abbrev cX11_isWordLine : ByteArray := prog_13_method_14_code
def yX11_isWordLine : MethodName := ⟨RX11, "isWordLine", "(I)Z"⟩
abbrev cX11_isLine : ByteArray := prog_13_method_15_code
def yX11_isLine : MethodName := ⟨RX11, "isLine", "(I)Z"⟩
abbrev cX11_isRead : ByteArray := prog_13_method_16_code
def yX11_isRead : MethodName := ⟨RX11, "isRead", "()Z"⟩
abbrev cX11_fault : ByteArray := prog_13_method_17_code
def yX11_fault : MethodName := ⟨RX11, "fault", "()I"⟩
abbrev cX11_addWord : ByteArray := prog_13_method_18_code
def yX11_addWord : MethodName := ⟨RX11, "addWord", "(II)V"⟩
abbrev cX11_doLine : ByteArray := prog_13_method_19_code
def yX11_doLine : MethodName := ⟨RX11, "doLine", "(I)V"⟩
abbrev cX11_order : ByteArray := prog_13_method_20_code
def yX11_order : MethodName := ⟨RX11, "order", "()I"⟩
abbrev cX11_word : ByteArray := prog_13_method_21_code
def yX11_word : MethodName := ⟨RX11, "word", "(II)I"⟩
abbrev cX11_lettersOf : ByteArray := prog_13_method_22_code
def yX11_lettersOf : MethodName := ⟨RX11, "lettersOf", "()I"⟩
abbrev cX11_letterAt : ByteArray := prog_13_method_23_code
def yX11_letterAt : MethodName := ⟨RX11, "letterAt", "(I)I"⟩
abbrev cX11_isSaid : ByteArray := prog_13_method_24_code
def yX11_isSaid : MethodName := ⟨RX11, "isSaid", "(I)Z"⟩
abbrev cX11_voice : ByteArray := prog_13_method_25_code
def yX11_voice : MethodName := ⟨RX11, "voice", "(II)I"⟩
abbrev cX11_mayFollow : ByteArray := prog_13_method_26_code
def yX11_mayFollow : MethodName := ⟨RX11, "mayFollow", "(II)Z"⟩
abbrev cX11_preach : ByteArray := prog_13_method_27_code
def yX11_preach : MethodName := ⟨RX11, "preach", "(I)I"⟩
abbrev cX11_amen : ByteArray := prog_13_method_28_code
def yX11_amen : MethodName := ⟨RX11, "amen", "()I"⟩
abbrev cX11_say : ByteArray := prog_13_method_29_code
def yX11_say : MethodName := ⟨RX11, "say", "(I)I"⟩
abbrev cX11_heardAt : ByteArray := prog_13_method_30_code
def yX11_heardAt : MethodName := ⟨RX11, "heardAt", "(I)I"⟩
abbrev cX11_heard : ByteArray := prog_13_method_31_code
def yX11_heard : MethodName := ⟨RX11, "heard", "(I)I"⟩
abbrev cX11_tally : ByteArray := prog_13_method_32_code
def yX11_tally : MethodName := ⟨RX11, "tally", "(I)I"⟩
abbrev cX11_sound : ByteArray := prog_13_method_33_code
def yX11_sound : MethodName := ⟨RX11, "sound", "(I)I"⟩
abbrev cX11_listen : ByteArray := prog_13_method_34_code
def yX11_listen : MethodName := ⟨RX11, "listen", "()I"⟩
abbrev cX11_hush : ByteArray := prog_13_method_35_code
def yX11_hush : MethodName := ⟨RX11, "hush", "()I"⟩
abbrev cX11_doesFit : ByteArray := prog_13_method_36_code
def yX11_doesFit : MethodName := ⟨RX11, "doesFit", "(II)Z"⟩
abbrev cX11_fits : ByteArray := prog_13_method_37_code
def yX11_fits : MethodName := ⟨RX11, "fits", "(II)I"⟩
abbrev cX11_waysAt : ByteArray := prog_13_method_38_code
def yX11_waysAt : MethodName := ⟨RX11, "waysAt", "(III)I"⟩
abbrev cX11_layWays : ByteArray := prog_13_method_39_code
def yX11_layWays : MethodName := ⟨RX11, "layWays", "()V"⟩
abbrev cX11_readingMany : ByteArray := prog_13_method_40_code
def yX11_readingMany : MethodName := ⟨RX11, "readingMany", "()I"⟩
abbrev cX11_comeIn : ByteArray := prog_13_method_41_code
def yX11_comeIn : MethodName := ⟨RX11, "comeIn", "()I"⟩
abbrev cX11_firstReading : ByteArray := prog_13_method_42_code
def yX11_firstReading : MethodName := ⟨RX11, "firstReading", "(I)I"⟩
abbrev cX11_readings : ByteArray := prog_13_method_43_code
def yX11_readings : MethodName := ⟨RX11, "readings", "(I)I"⟩
abbrev cX11_came : ByteArray := prog_13_method_44_code
def yX11_came : MethodName := ⟨RX11, "came", "(I)I"⟩
abbrev cX11_wordBy : ByteArray := prog_13_method_45_code
def yX11_wordBy : MethodName := ⟨RX11, "wordBy", "(II)I"⟩
abbrev cX11_alone : ByteArray := prog_13_method_46_code
def yX11_alone : MethodName := ⟨RX11, "alone", "(II)I"⟩
abbrev cX11_twins : ByteArray := prog_13_method_47_code
def yX11_twins : MethodName := ⟨RX11, "twins", "(II)I"⟩
abbrev cX11_isClassed : ByteArray := prog_13_method_48_code
def yX11_isClassed : MethodName := ⟨RX11, "isClassed", "(III)Z"⟩
abbrev cX11_divisor : ByteArray := prog_13_method_49_code
def yX11_divisor : MethodName := ⟨RX11, "divisor", "(II)I"⟩
abbrev cX11_learnt : ByteArray := prog_13_method_50_code
def yX11_learnt : MethodName := ⟨RX11, "learnt", "(III)I"⟩
abbrev cX11_laySeats : ByteArray := prog_13_method_51_code
def yX11_laySeats : MethodName := ⟨RX11, "laySeats", "(I)Z"⟩
abbrev cX11_spoilt : ByteArray := prog_13_method_52_code
def yX11_spoilt : MethodName := ⟨RX11, "spoilt", "()I"⟩
abbrev cX11_seats : ByteArray := prog_13_method_53_code
def yX11_seats : MethodName := ⟨RX11, "seats", "(I)I"⟩
abbrev cX11_areApart : ByteArray := prog_13_method_54_code
def yX11_areApart : MethodName := ⟨RX11, "areApart", "(II)Z"⟩
abbrev cX11_bits : ByteArray := prog_13_method_55_code
def yX11_bits : MethodName := ⟨RX11, "bits", "(I)I"⟩
abbrev cX11_bears : ByteArray := prog_13_method_56_code
def yX11_bears : MethodName := ⟨RX11, "bears", "(I)I"⟩
abbrev cX11_keep : ByteArray := prog_13_method_57_code
def yX11_keep : MethodName := ⟨RX11, "keep", "(I)I"⟩
abbrev cX11_back : ByteArray := prog_13_method_58_code
def yX11_back : MethodName := ⟨RX11, "back", "(I)I"⟩
abbrev cX11_count : ByteArray := prog_13_method_59_code
def yX11_count : MethodName := ⟨RX11, "count", "(I)I"⟩
def RJ6 : String := "java/lang/Integer"
def TJ6 : u_T := fun k => match k with
  | _ => ("", "", "", false)
def tyJ6 : Nat → FieldType := fun k => match k with
  | _ => .int
abbrev wsJ60 : List Cond := u_ws RJ6 TJ6 0
theorem nmJ6 : ∀ a, a < 0 → ∀ b, b < 0 → a ≠ b → (TJ6 a).2.1 ≠ (TJ6 b).2.1 := by decide +kernel
theorem tyJ6_ok : ∀ k, k < 0 → parseFieldDescriptor (TJ6 k).2.2.1 = some (tyJ6 k) := by decide +kernel
abbrev cJ6_bitCount_0f7a4 : ByteArray := prog_14_method_49_code
def yJ6_bitCount_0f7a4 : MethodName := ⟨RJ6, "bitCount", "(I)I"⟩
def RJ9 : String := "java/lang/Math"
def TJ9 : u_T := fun k => match k with
  | _ => ("", "", "", false)
def tyJ9 : Nat → FieldType := fun k => match k with
  | _ => .int
abbrev wsJ90 : List Cond := u_ws RJ9 TJ9 0
theorem nmJ9 : ∀ a, a < 0 → ∀ b, b < 0 → a ≠ b → (TJ9 a).2.1 ≠ (TJ9 b).2.1 := by decide +kernel
theorem tyJ9_ok : ∀ k, k < 0 → parseFieldDescriptor (TJ9 k).2.2.1 = some (tyJ9 k) := by decide +kernel
abbrev cJ9_max_7cf53 : ByteArray := prog_15_method_65_code
def yJ9_max_7cf53 : MethodName := ⟨RJ9, "max", "(II)I"⟩
abbrev cJ9_min_7cf53 : ByteArray := prog_15_method_69_code
def yJ9_min_7cf53 : MethodName := ⟨RJ9, "min", "(II)I"⟩
def RJ0 : String := "java/lang/String"
def TJ0 : u_T := fun k => match k with
  | _ => ("", "", "", false)
def tyJ0 : Nat → FieldType := fun k => match k with
  | _ => .int
abbrev wsJ00 : List Cond := u_ws RJ0 TJ0 0
theorem nmJ0 : ∀ a, a < 0 → ∀ b, b < 0 → a ≠ b → (TJ0 a).2.1 ≠ (TJ0 b).2.1 := by decide +kernel
theorem tyJ0_ok : ∀ k, k < 0 → parseFieldDescriptor (TJ0 k).2.2.1 = some (tyJ0 k) := by decide +kernel
abbrev cJ0_length_8abf5 : ByteArray := prog_16_method_54_code
def yJ0_length_8abf5 : MethodName := ⟨RJ0, "length", "()I"⟩
abbrev cJ0_charAt_5068e : ByteArray := prog_16_method_56_code
def yJ0_charAt_5068e : MethodName := ⟨RJ0, "charAt", "(I)C"⟩
abbrev cJ0_coder_7d493 : ByteArray := prog_16_method_152_code
def yJ0_coder_7d493 : MethodName := ⟨RJ0, "coder", "()B"⟩
abbrev cJ0_isLatin1_aae02 : ByteArray := prog_16_method_154_code
def yJ0_isLatin1_aae02 : MethodName := ⟨RJ0, "isLatin1", "()Z"⟩
abbrev cJ0_checkIndex_df160 : ByteArray := prog_16_method_155_code
def yJ0_checkIndex_df160 : MethodName := ⟨RJ0, "checkIndex", "(II)V"⟩
def RJ1 : String := "java/lang/StringLatin1"
def TJ1 : u_T := fun k => match k with
  | _ => ("", "", "", false)
def tyJ1 : Nat → FieldType := fun k => match k with
  | _ => .int
abbrev wsJ10 : List Cond := u_ws RJ1 TJ1 0
theorem nmJ1 : ∀ a, a < 0 → ∀ b, b < 0 → a ≠ b → (TJ1 a).2.1 ≠ (TJ1 b).2.1 := by decide +kernel
theorem tyJ1_ok : ∀ k, k < 0 → parseFieldDescriptor (TJ1 k).2.2.1 = some (tyJ1 k) := by decide +kernel
abbrev cJ1_charAt_3b067 : ByteArray := prog_17_method_2_code
def yJ1_charAt_3b067 : MethodName := ⟨RJ1, "charAt", "([BI)C"⟩
def RJ2 : String := "java/lang/StringUTF16"
def TJ2 : u_T := fun k => match k with
  | _ => ("", "", "", false)
def tyJ2 : Nat → FieldType := fun k => match k with
  | _ => .int
abbrev wsJ20 : List Cond := u_ws RJ2 TJ2 0
theorem nmJ2 : ∀ a, a < 0 → ∀ b, b < 0 → a ≠ b → (TJ2 a).2.1 ≠ (TJ2 b).2.1 := by decide +kernel
theorem tyJ2_ok : ∀ k, k < 0 → parseFieldDescriptor (TJ2 k).2.2.1 = some (tyJ2 k) := by decide +kernel
abbrev cJ2_getChar_3b067 : ByteArray := prog_18_method_5_code
def yJ2_getChar_3b067 : MethodName := ⟨RJ2, "getChar", "([BI)C"⟩
abbrev cJ2_length_9d52b : ByteArray := prog_18_method_6_code
def yJ2_length_9d52b : MethodName := ⟨RJ2, "length", "([B)I"⟩
abbrev cJ2_charAt_3b067 : ByteArray := prog_18_method_83_code
def yJ2_charAt_3b067 : MethodName := ⟨RJ2, "charAt", "([BI)C"⟩
abbrev cJ2_checkIndex_2214a : ByteArray := prog_18_method_91_code
def yJ2_checkIndex_2214a : MethodName := ⟨RJ2, "checkIndex", "(I[B)V"⟩
def RJ10 : String := "java/lang/System"
def TJ10 : u_T := fun k => match k with
  | _ => ("", "", "", false)
def tyJ10 : Nat → FieldType := fun k => match k with
  | _ => .int
abbrev wsJ100 : List Cond := u_ws RJ10 TJ10 0
theorem nmJ10 : ∀ a, a < 0 → ∀ b, b < 0 → a ≠ b → (TJ10 a).2.1 ≠ (TJ10 b).2.1 := by decide +kernel
theorem tyJ10_ok : ∀ k, k < 0 → parseFieldDescriptor (TJ10 k).2.2.1 = some (tyJ10 k) := by decide +kernel
def RJ3 : String := "jdk/internal/util/Preconditions"
def TJ3 : u_T := fun k => match k with
  | _ => ("", "", "", false)
def tyJ3 : Nat → FieldType := fun k => match k with
  | _ => .int
abbrev wsJ30 : List Cond := u_ws RJ3 TJ3 0
theorem nmJ3 : ∀ a, a < 0 → ∀ b, b < 0 → a ≠ b → (TJ3 a).2.1 ≠ (TJ3 b).2.1 := by decide +kernel
theorem tyJ3_ok : ∀ k, k < 0 → parseFieldDescriptor (TJ3 k).2.2.1 = some (tyJ3 k) := by decide +kernel
abbrev cJ3_checkIndex_8e157 : ByteArray := prog_20_method_11_code
def yJ3_checkIndex_8e157 : MethodName := ⟨RJ3, "checkIndex", "(IILjava/util/function/BiFunction;)I"⟩
def RL : String := "ThirdLetterLaw"
abbrev cL_law : ByteArray := code
def yL_law : MethodName := ⟨RL, "law", "([I)Z"⟩
end
section
/-! layout of the cells, signatures; printed by program -/
abbrev Lay : Type := Nat × Nat × List Nat
def layL : List Lay := [(0, 10, [3, 5, 12, 19, 20, 22, 24, 0, 26, 28, 47, 49]), (0, 4, [4, 0]), (1, 200, []), (0, 8, [6, 10]), (0, 9, [7, 8, 9, 0, 0]), (1, 120, []), (1, 12, []), (1, 12, []), (0, 0, [11, 0, 0, 0]), (1, 5, []), (0, 8, [13, 17]), (0, 9, [14, 15, 16, 0, 0]), (1, 120, []), (1, 12, []), (1, 12, []), (0, 0, [18, 0, 0, 0]), (1, 5, []), (0, 3, [3, 12, 0, 0, 0]), (0, 6, [21, 0, 0, 0, 0]), (1, 60, []), (0, 6, [23, 0, 0, 0, 0]), (1, 60, []), (0, 6, [25, 0, 0, 0, 0]), (1, 60, []), (0, 7, [27, 0]), (1, 60, []), (0, 1, [29, 30, 31, 39, 6, 26, 0]), (1, 61, []), (1, 4, []), (3, 7, [30]), (1, 61, []), (1, 61, []), (1, 61, []), (1, 61, []), (1, 61, []), (1, 61, []), (1, 61, []), (3, 7, [38]), (1, 244, []), (1, 244, []), (1, 244, []), (1, 244, []), (1, 244, []), (1, 244, []), (1, 244, []), (0, 2, [48, 6, 10]), (1, 12, []), (0, 5, [50, 51, 52, 6, 10]), (1, 5, []), (1, 5, []), (1, 32, []), (0, 11, [0, 0, 0, 54, 0, 55, 56, 57, 0, 0, 58, 0, 0, 1, 0, 0, 0, 0, 0, 0, 59, 60, 61, 0, 62, 0, 0, 63, 64, 65, 66, 67, 68, 69]), (1, 5, []), (1, 12, []), (1, 12, []), (1, 120, []), (1, 200, []), (1, 24, []), (1, 240, []), (1, 36, []), (1, 6, []), (1, 60, []), (1, 16, []), (2, 2, []), (1, 5124, []), (2, 5124, []), (1, 5, []), (1, 12, [])]
abbrev cls : List vw_C := [(RX0, TX0, 4), (RX1, TX1, 7), (RX2, TX2, 3), (RX3, TX3, 5), (RX4, TX4, 2), (RX5, TX5, 5), (RX6, TX6, 5), (RX7, TX7, 2), (RX8, TX8, 2), (RX9, TX9, 5), (RX10, TX10, 12), (RX11, TX11, 34)]
def sIdx : List Nat := [57, 66, 71, 76, 81, 87, 89, 94, 96]
def sTxt : List String := ["order", "word", "not", "free", "away", "here", "hoarse", "clear", "late"]
def slen : List Nat := [5, 4, 3, 4, 4, 4, 6, 5, 4]
def sbyt : List (List Int32) := [[111, 114, 100, 101, 114], [119, 111, 114, 100], [110, 111, 116], [102, 114, 101, 101], [97, 119, 97, 121], [104, 101, 114, 101], [104, 111, 97, 114, 115, 101], [99, 108, 101, 97, 114], [108, 97, 116, 101]]
abbrev Sig : Type := MethodName × ByteArray × Nat × Option FieldType
abbrev sX0_copyFrom : Sig := (yX0_copyFrom, cX0_copyFrom, 2, none)
abbrev sX0_beginAnew : Sig := (yX0_beginAnew, cX0_beginAnew, 3, none)
abbrev sX0_size : Sig := (yX0_size, cX0_size, 1, (some .int))
abbrev sX0_allVoices : Sig := (yX0_allVoices, cX0_allVoices, 1, (some .int))
abbrev sX0_has : Sig := (yX0_has, cX0_has, 2, (some .boolean))
abbrev sX0_isAway : Sig := (yX0_isAway, cX0_isAway, 2, (some .boolean))
abbrev sX0_isHoarse : Sig := (yX0_isHoarse, cX0_isHoarse, 2, (some .boolean))
abbrev sX0_lateOf : Sig := (yX0_lateOf, cX0_lateOf, 2, (some .int))
abbrev sX0_setAway : Sig := (yX0_setAway, cX0_setAway, 3, none)
abbrev sX0_setHoarse : Sig := (yX0_setHoarse, cX0_setHoarse, 3, none)
abbrev sX0_setLate : Sig := (yX0_setLate, cX0_setLate, 3, none)
abbrev sX0_voiceOf : Sig := (yX0_voiceOf, cX0_voiceOf, 2, (some .int))
abbrev sX0_isSaid : Sig := (yX0_isSaid, cX0_isSaid, 4, (some .boolean))
abbrev sX1_prepare : Sig := (yX1_prepare, cX1_prepare, 2, none)
abbrev sX1_findChoices : Sig := (yX1_findChoices, cX1_findChoices, 4, none)
abbrev sX1_findReached : Sig := (yX1_findReached, cX1_findReached, 3, none)
abbrev sX1_stepFrom : Sig := (yX1_stepFrom, cX1_stepFrom, 6, none)
abbrev sX1_choicesAt : Sig := (yX1_choicesAt, cX1_choicesAt, 5, (some .int))
abbrev sX1_isReached : Sig := (yX1_isReached, cX1_isReached, 4, (some .boolean))
abbrev sX1_findWays : Sig := (yX1_findWays, cX1_findWays, 4, none)
abbrev sX1_sumOfWays : Sig := (yX1_sumOfWays, cX1_sumOfWays, 7, (some .int))
abbrev sX1_waysBehind : Sig := (yX1_waysBehind, cX1_waysBehind, 5, (some .int))
abbrev sX1_total : Sig := (yX1_total, cX1_total, 1, (some .int))
abbrev sX1_wordsInAny : Sig := (yX1_wordsInAny, cX1_wordsInAny, 4, (some .int))
abbrev sX1_wordsThatEndWell : Sig := (yX1_wordsThatEndWell, cX1_wordsThatEndWell, 6, (some .int))
abbrev sX1_wordOfFirst : Sig := (yX1_wordOfFirst, cX1_wordOfFirst, 6, (some .int))
abbrev sX1_leastThatEndsWell : Sig := (yX1_leastThatEndsWell, cX1_leastThatEndsWell, 6, (some .int))
abbrev sX2_wordSaidBy : Sig := (yX2_wordSaidBy, cX2_wordSaidBy, 4, (some .int))
abbrev sX2_isSaidBy : Sig := (yX2_isSaidBy, cX2_isSaidBy, 6, (some .boolean))
abbrev sX2_countTwins : Sig := (yX2_countTwins, cX2_countTwins, 4, (some .int))
abbrev sX2_firstTwins : Sig := (yX2_firstTwins, cX2_firstTwins, 4, (some .int))
abbrev sX2_twinOf : Sig := (yX2_twinOf, cX2_twinOf, 4, (some .int))
abbrev sX2_sumOfClassSizes : Sig := (yX2_sumOfClassSizes, cX2_sumOfClassSizes, 5, (some .int))
abbrev sX2_countClasses : Sig := (yX2_countClasses, cX2_countClasses, 5, (some .int))
abbrev sX2_isOneClass : Sig := (yX2_isOneClass, cX2_isOneClass, 4, (some .boolean))
abbrev sX2_voicesThatDiffer : Sig := (yX2_voicesThatDiffer, cX2_voicesThatDiffer, 5, (some .int))
abbrev sX2_greatestBearing : Sig := (yX2_greatestBearing, cX2_greatestBearing, 3, (some .int))
abbrev sX2_isClash : Sig := (yX2_isClash, cX2_isClash, 3, (some .boolean))
abbrev sX2_greatestWithoutClash : Sig := (yX2_greatestWithoutClash, cX2_greatestWithoutClash, 7, (some .int))
abbrev sX3_linesRead : Sig := (yX3_linesRead, cX3_linesRead, 1, (some .int))
abbrev sX3_readToFault : Sig := (yX3_readToFault, cX3_readToFault, 1, (some .int))
abbrev sX3_advance : Sig := (yX3_advance, cX3_advance, 1, none)
abbrev sX3_tokenIs : Sig := (yX3_tokenIs, cX3_tokenIs, 3, (some .boolean))
abbrev sX3_takeNumber : Sig := (yX3_takeNumber, cX3_takeNumber, 6, (some .int))
abbrev sX3_doLine : Sig := (yX3_doLine, cX3_doLine, 1, (some .boolean))
abbrev sX3_doOrder : Sig := (yX3_doOrder, cX3_doOrder, 2, (some .boolean))
abbrev sX3_doWord : Sig := (yX3_doWord, cX3_doWord, 2, (some .boolean))
abbrev sX3_doNot : Sig := (yX3_doNot, cX3_doNot, 3, (some .boolean))
abbrev sX3_doFree : Sig := (yX3_doFree, cX3_doFree, 1, (some .boolean))
abbrev sX3_doAway : Sig := (yX3_doAway, cX3_doAway, 3, (some .boolean))
abbrev sX3_doHoarse : Sig := (yX3_doHoarse, cX3_doHoarse, 3, (some .boolean))
abbrev sX3_doLate : Sig := (yX3_doLate, cX3_doLate, 3, (some .boolean))
abbrev sX4_length : Sig := (yX4_length, cX4_length, 1, (some .int))
abbrev sX4_hasRoom : Sig := (yX4_hasRoom, cX4_hasRoom, 2, (some .boolean))
abbrev sX4_append : Sig := (yX4_append, cX4_append, 5, none)
abbrev sX4_makeEmpty : Sig := (yX4_makeEmpty, cX4_makeEmpty, 2, (some .int))
abbrev sX4_at : Sig := (yX4_at, cX4_at, 2, (some .int))
abbrev sX4_endOfRow : Sig := (yX4_endOfRow, cX4_endOfRow, 5, (some .int))
abbrev sX5_prepare : Sig := (yX5_prepare, cX5_prepare, 2, none)
abbrev sX5_countLetters : Sig := (yX5_countLetters, cX5_countLetters, 3, none)
abbrev sX5_countLetter : Sig := (yX5_countLetter, cX5_countLetter, 3, none)
abbrev sX5_leastBest : Sig := (yX5_leastBest, cX5_leastBest, 4, (some .int))
abbrev sX5_fewestWith : Sig := (yX5_fewestWith, cX5_fewestWith, 3, (some .int))
abbrev sX5_spoiltBy : Sig := (yX5_spoiltBy, cX5_spoiltBy, 3, (some .int))
abbrev sX5_fewestSpoilt : Sig := (yX5_fewestSpoilt, cX5_fewestSpoilt, 1, (some .int))
abbrev sX5_voiceAt : Sig := (yX5_voiceAt, cX5_voiceAt, 4, (some .int))
abbrev sX6_copyFrom : Sig := (yX6_copyFrom, cX6_copyFrom, 2, none)
abbrev sX6_makeEmpty : Sig := (yX6_makeEmpty, cX6_makeEmpty, 1, none)
abbrev sX6_letterTotal : Sig := (yX6_letterTotal, cX6_letterTotal, 1, (some .int))
abbrev sX6_wordTotal : Sig := (yX6_wordTotal, cX6_wordTotal, 1, (some .int))
abbrev sX6_saidTotal : Sig := (yX6_saidTotal, cX6_saidTotal, 1, (some .int))
abbrev sX6_lastWord : Sig := (yX6_lastWord, cX6_lastWord, 1, (some .int))
abbrev sX6_hasRoom : Sig := (yX6_hasRoom, cX6_hasRoom, 2, (some .boolean))
abbrev sX6_append : Sig := (yX6_append, cX6_append, 5, none)
abbrev sX6_sayMore : Sig := (yX6_sayMore, cX6_sayMore, 2, none)
abbrev sX6_letterAt : Sig := (yX6_letterAt, cX6_letterAt, 2, (some .int))
abbrev sX6_heardAt : Sig := (yX6_heardAt, cX6_heardAt, 3, (some .int))
abbrev sX6_lettersHeard : Sig := (yX6_lettersHeard, cX6_lettersHeard, 4, (some .int))
abbrev sX6_lettersSaidBy : Sig := (yX6_lettersSaidBy, cX6_lettersSaidBy, 5, (some .int))
abbrev sX6_countLateRows : Sig := (yX6_countLateRows, cX6_countLateRows, 7, (some .int))
abbrev sX6_firstLateRow : Sig := (yX6_firstLateRow, cX6_firstLateRow, 6, (some .int))
abbrev sX6_leastLate : Sig := (yX6_leastLate, cX6_leastLate, 5, (some .int))
abbrev sX6_isHeardLate : Sig := (yX6_isHeardLate, cX6_isHeardLate, 8, (some .boolean))
abbrev sX7_length : Sig := (yX7_length, cX7_length, 1, (some .int))
abbrev sX7_isFull : Sig := (yX7_isFull, cX7_isFull, 1, (some .boolean))
abbrev sX7_makeEmpty : Sig := (yX7_makeEmpty, cX7_makeEmpty, 2, (some .int))
abbrev sX7_append : Sig := (yX7_append, cX7_append, 2, none)
abbrev sX7_at : Sig := (yX7_at, cX7_at, 2, (some .int))
abbrev sX7_isFitting : Sig := (yX7_isFitting, cX7_isFitting, 7, (some .boolean))
abbrev sX8_copyFrom : Sig := (yX8_copyFrom, cX8_copyFrom, 2, none)
abbrev sX9_copyFrom : Sig := (yX9_copyFrom, cX9_copyFrom, 2, none)
abbrev sX9_size : Sig := (yX9_size, cX9_size, 1, (some .int))
abbrev sX9_isFull : Sig := (yX9_isFull, cX9_isFull, 1, (some .boolean))
abbrev sX9_has : Sig := (yX9_has, cX9_has, 2, (some .boolean))
abbrev sX9_lengthOf : Sig := (yX9_lengthOf, cX9_lengthOf, 2, (some .int))
abbrev sX9_sortOf : Sig := (yX9_sortOf, cX9_sortOf, 2, (some .int))
abbrev sX9_letterOf : Sig := (yX9_letterOf, cX9_letterOf, 3, (some .int))
abbrev sX9_followBits : Sig := (yX9_followBits, cX9_followBits, 1, (some .int))
abbrev sX9_mayFollow : Sig := (yX9_mayFollow, cX9_mayFollow, 3, (some .boolean))
abbrev sX9_forbid : Sig := (yX9_forbid, cX9_forbid, 3, none)
abbrev sX9_makeFree : Sig := (yX9_makeFree, cX9_makeFree, 1, none)
abbrev sX9_isTold : Sig := (yX9_isTold, cX9_isTold, 5, (some .boolean))
abbrev sX9_isSpelt : Sig := (yX9_isSpelt, cX9_isSpelt, 6, (some .boolean))
abbrev sX9_append : Sig := (yX9_append, cX9_append, 7, none)
abbrev sX10_write : Sig := (yX10_write, cX10_write, 4, (some .int))
abbrev sX10_erase : Sig := (yX10_erase, cX10_erase, 1, (some .int))
abbrev sX10_fault : Sig := (yX10_fault, cX10_fault, 1, (some .int))
abbrev sX10_order : Sig := (yX10_order, cX10_order, 1, (some .int))
abbrev sX10_word : Sig := (yX10_word, cX10_word, 3, (some .int))
abbrev sX10_voice : Sig := (yX10_voice, cX10_voice, 3, (some .int))
abbrev sX10_preach : Sig := (yX10_preach, cX10_preach, 3, (some .int))
abbrev sX10_amen : Sig := (yX10_amen, cX10_amen, 2, (some .int))
abbrev sX10_say : Sig := (yX10_say, cX10_say, 2, (some .int))
abbrev sX10_heard : Sig := (yX10_heard, cX10_heard, 2, (some .int))
abbrev sX10_tally : Sig := (yX10_tally, cX10_tally, 2, (some .int))
abbrev sX10_sound : Sig := (yX10_sound, cX10_sound, 2, (some .int))
abbrev sX10_listen : Sig := (yX10_listen, cX10_listen, 2, (some .int))
abbrev sX10_hush : Sig := (yX10_hush, cX10_hush, 1, (some .int))
abbrev sX10_fits : Sig := (yX10_fits, cX10_fits, 3, (some .int))
abbrev sX10_readings : Sig := (yX10_readings, cX10_readings, 3, (some .int))
abbrev sX10_came : Sig := (yX10_came, cX10_came, 2, (some .int))
abbrev sX10_alone : Sig := (yX10_alone, cX10_alone, 3, (some .int))
abbrev sX10_twins : Sig := (yX10_twins, cX10_twins, 3, (some .int))
abbrev sX10_learnt : Sig := (yX10_learnt, cX10_learnt, 6, (some .int))
abbrev sX10_seats : Sig := (yX10_seats, cX10_seats, 2, (some .int))
abbrev sX10_bears : Sig := (yX10_bears, cX10_bears, 3, (some .int))
abbrev sX10_keep : Sig := (yX10_keep, cX10_keep, 2, (some .int))
abbrev sX10_back : Sig := (yX10_back, cX10_back, 2, (some .int))
abbrev sX10_count : Sig := (yX10_count, cX10_count, 2, (some .int))
abbrev sX10_shelf : Sig := (yX10_shelf, cX10_shelf, 2, (some (.object "ThirdLetter$Sermon")))
abbrev sX10_lowestTerm : Sig := (yX10_lowestTerm, cX10_lowestTerm, 3, (some .int))
abbrev sX11_in : Sig := (yX11_in, cX11_in, 3, (some .boolean))
abbrev sX11_has : Sig := (yX11_has, cX11_has, 2, (some .boolean))
abbrev sX11_isWord : Sig := (yX11_isWord, cX11_isWord, 2, (some .boolean))
abbrev sX11_isVoice : Sig := (yX11_isVoice, cX11_isVoice, 2, (some .boolean))
abbrev sX11_write : Sig := (yX11_write, cX11_write, 5, (some .int))
abbrev sX11_erase : Sig := (yX11_erase, cX11_erase, 2, (some .int))
abbrev sX11_nextToken : Sig := (yX11_nextToken, cX11_nextToken, 1, none)
abbrev sX11_fails : Sig := (yX11_fails, cX11_fails, 1, (some .boolean))
abbrev sX11_isNumber : Sig := (yX11_isNumber, cX11_isNumber, 4, (some .boolean))
abbrev sX11_isVoiceRead : Sig := (yX11_isVoiceRead, cX11_isVoiceRead, 2, (some .boolean))
abbrev sX11_isOrder : Sig := (yX11_isOrder, cX11_isOrder, 2, (some .boolean))
abbrev sX11_isTold : Sig := (yX11_isTold, cX11_isTold, 6, (some .boolean))
abbrev sX11_isWordLine : Sig := (yX11_isWordLine, cX11_isWordLine, 4, (some .boolean))
abbrev sX11_isLine : Sig := (yX11_isLine, cX11_isLine, 4, (some .boolean))
abbrev sX11_isRead : Sig := (yX11_isRead, cX11_isRead, 3, (some .boolean))
abbrev sX11_fault : Sig := (yX11_fault, cX11_fault, 1, (some .int))
abbrev sX11_addWord : Sig := (yX11_addWord, cX11_addWord, 4, none)
abbrev sX11_doLine : Sig := (yX11_doLine, cX11_doLine, 4, none)
abbrev sX11_order : Sig := (yX11_order, cX11_order, 2, (some .int))
abbrev sX11_word : Sig := (yX11_word, cX11_word, 3, (some .int))
abbrev sX11_lettersOf : Sig := (yX11_lettersOf, cX11_lettersOf, 3, (some .int))
abbrev sX11_letterAt : Sig := (yX11_letterAt, cX11_letterAt, 5, (some .int))
abbrev sX11_isSaid : Sig := (yX11_isSaid, cX11_isSaid, 4, (some .boolean))
abbrev sX11_voice : Sig := (yX11_voice, cX11_voice, 5, (some .int))
abbrev sX11_mayFollow : Sig := (yX11_mayFollow, cX11_mayFollow, 3, (some .boolean))
abbrev sX11_preach : Sig := (yX11_preach, cX11_preach, 2, (some .int))
abbrev sX11_amen : Sig := (yX11_amen, cX11_amen, 2, (some .int))
abbrev sX11_say : Sig := (yX11_say, cX11_say, 3, (some .int))
abbrev sX11_heardAt : Sig := (yX11_heardAt, cX11_heardAt, 2, (some .int))
abbrev sX11_heard : Sig := (yX11_heard, cX11_heard, 2, (some .int))
abbrev sX11_tally : Sig := (yX11_tally, cX11_tally, 4, (some .int))
abbrev sX11_sound : Sig := (yX11_sound, cX11_sound, 2, (some .int))
abbrev sX11_listen : Sig := (yX11_listen, cX11_listen, 2, (some .int))
abbrev sX11_hush : Sig := (yX11_hush, cX11_hush, 2, (some .int))
abbrev sX11_doesFit : Sig := (yX11_doesFit, cX11_doesFit, 5, (some .boolean))
abbrev sX11_fits : Sig := (yX11_fits, cX11_fits, 3, (some .int))
abbrev sX11_waysAt : Sig := (yX11_waysAt, cX11_waysAt, 4, (some .int))
abbrev sX11_layWays : Sig := (yX11_layWays, cX11_layWays, 7, none)
abbrev sX11_readingMany : Sig := (yX11_readingMany, cX11_readingMany, 3, (some .int))
abbrev sX11_comeIn : Sig := (yX11_comeIn, cX11_comeIn, 7, (some .int))
abbrev sX11_firstReading : Sig := (yX11_firstReading, cX11_firstReading, 8, (some .int))
abbrev sX11_readings : Sig := (yX11_readings, cX11_readings, 2, (some .int))
abbrev sX11_came : Sig := (yX11_came, cX11_came, 9, (some .int))
abbrev sX11_wordBy : Sig := (yX11_wordBy, cX11_wordBy, 7, (some .int))
abbrev sX11_alone : Sig := (yX11_alone, cX11_alone, 3, (some .int))
abbrev sX11_twins : Sig := (yX11_twins, cX11_twins, 7, (some .int))
abbrev sX11_isClassed : Sig := (yX11_isClassed, cX11_isClassed, 6, (some .boolean))
abbrev sX11_divisor : Sig := (yX11_divisor, cX11_divisor, 5, (some .int))
abbrev sX11_learnt : Sig := (yX11_learnt, cX11_learnt, 10, (some .int))
abbrev sX11_laySeats : Sig := (yX11_laySeats, cX11_laySeats, 5, (some .boolean))
abbrev sX11_spoilt : Sig := (yX11_spoilt, cX11_spoilt, 5, (some .int))
abbrev sX11_seats : Sig := (yX11_seats, cX11_seats, 8, (some .int))
abbrev sX11_areApart : Sig := (yX11_areApart, cX11_areApart, 7, (some .boolean))
abbrev sX11_bits : Sig := (yX11_bits, cX11_bits, 3, (some .int))
abbrev sX11_bears : Sig := (yX11_bears, cX11_bears, 6, (some .int))
abbrev sX11_keep : Sig := (yX11_keep, cX11_keep, 3, (some .int))
abbrev sX11_back : Sig := (yX11_back, cX11_back, 3, (some .int))
abbrev sX11_count : Sig := (yX11_count, cX11_count, 2, (some .int))
abbrev sJ6_bitCount_0f7a4 : Sig := (yJ6_bitCount_0f7a4, cJ6_bitCount_0f7a4, 1, (some .int))
abbrev sJ0_length_8abf5 : Sig := (yJ0_length_8abf5, cJ0_length_8abf5, 1, (some .int))
abbrev sJ0_charAt_5068e : Sig := (yJ0_charAt_5068e, cJ0_charAt_5068e, 2, (some .char))
abbrev sJ0_coder_7d493 : Sig := (yJ0_coder_7d493, cJ0_coder_7d493, 1, (some .byte))
abbrev sJ0_isLatin1_aae02 : Sig := (yJ0_isLatin1_aae02, cJ0_isLatin1_aae02, 1, (some .boolean))
abbrev sJ0_checkIndex_df160 : Sig := (yJ0_checkIndex_df160, cJ0_checkIndex_df160, 2, none)
abbrev sJ1_charAt_3b067 : Sig := (yJ1_charAt_3b067, cJ1_charAt_3b067, 2, (some .char))
abbrev sJ3_checkIndex_8e157 : Sig := (yJ3_checkIndex_8e157, cJ3_checkIndex_8e157, 3, (some .int))
def sigs : List Sig := [sX0_copyFrom, sX0_beginAnew, sX0_size, sX0_allVoices, sX0_has, sX0_isAway, sX0_isHoarse, sX0_lateOf, sX0_setAway, sX0_setHoarse, sX0_setLate, sX0_voiceOf, sX0_isSaid, sX1_prepare, sX1_findChoices, sX1_findReached, sX1_stepFrom, sX1_choicesAt, sX1_isReached, sX1_findWays, sX1_sumOfWays, sX1_waysBehind, sX1_total, sX1_wordsInAny, sX1_wordsThatEndWell, sX1_wordOfFirst, sX1_leastThatEndsWell, sX2_wordSaidBy, sX2_isSaidBy, sX2_countTwins, sX2_firstTwins, sX2_twinOf, sX2_sumOfClassSizes, sX2_countClasses, sX2_isOneClass, sX2_voicesThatDiffer, sX2_greatestBearing, sX2_isClash, sX2_greatestWithoutClash, sX3_linesRead, sX3_readToFault, sX3_advance, sX3_tokenIs, sX3_takeNumber, sX3_doLine, sX3_doOrder, sX3_doWord, sX3_doNot, sX3_doFree, sX3_doAway, sX3_doHoarse, sX3_doLate, sX4_length, sX4_hasRoom, sX4_append, sX4_makeEmpty, sX4_at, sX4_endOfRow, sX5_prepare, sX5_countLetters, sX5_countLetter, sX5_leastBest, sX5_fewestWith, sX5_spoiltBy, sX5_fewestSpoilt, sX5_voiceAt, sX6_copyFrom, sX6_makeEmpty, sX6_letterTotal, sX6_wordTotal, sX6_saidTotal, sX6_lastWord, sX6_hasRoom, sX6_append, sX6_sayMore, sX6_letterAt, sX6_heardAt, sX6_lettersHeard, sX6_lettersSaidBy, sX6_countLateRows, sX6_firstLateRow, sX6_leastLate, sX6_isHeardLate, sX7_length, sX7_isFull, sX7_makeEmpty, sX7_append, sX7_at, sX7_isFitting, sX8_copyFrom, sX9_copyFrom, sX9_size, sX9_isFull, sX9_has, sX9_lengthOf, sX9_sortOf, sX9_letterOf, sX9_followBits, sX9_mayFollow, sX9_forbid, sX9_makeFree, sX9_isTold, sX9_isSpelt, sX9_append, sX10_write, sX10_erase, sX10_fault, sX10_order, sX10_word, sX10_voice, sX10_preach, sX10_amen, sX10_say, sX10_heard, sX10_tally, sX10_sound, sX10_listen, sX10_hush, sX10_fits, sX10_readings, sX10_came, sX10_alone, sX10_twins, sX10_learnt, sX10_seats, sX10_bears, sX10_keep, sX10_back, sX10_count, sX10_shelf, sX10_lowestTerm, sX11_in, sX11_has, sX11_isWord, sX11_isVoice, sX11_write, sX11_erase, sX11_nextToken, sX11_fails, sX11_isNumber, sX11_isVoiceRead, sX11_isOrder, sX11_isTold, sX11_isWordLine, sX11_isLine, sX11_isRead, sX11_fault, sX11_addWord, sX11_doLine, sX11_order, sX11_word, sX11_lettersOf, sX11_letterAt, sX11_isSaid, sX11_voice, sX11_mayFollow, sX11_preach, sX11_amen, sX11_say, sX11_heardAt, sX11_heard, sX11_tally, sX11_sound, sX11_listen, sX11_hush, sX11_doesFit, sX11_fits, sX11_waysAt, sX11_layWays, sX11_readingMany, sX11_comeIn, sX11_firstReading, sX11_readings, sX11_came, sX11_wordBy, sX11_alone, sX11_twins, sX11_isClassed, sX11_divisor, sX11_learnt, sX11_laySeats, sX11_spoilt, sX11_seats, sX11_areApart, sX11_bits, sX11_bears, sX11_keep, sX11_back, sX11_count, sJ6_bitCount_0f7a4, sJ0_length_8abf5, sJ0_charAt_5068e, sJ0_coder_7d493, sJ0_isLatin1_aae02, sJ0_checkIndex_df160, sJ1_charAt_3b067, sJ3_checkIndex_8e157]
def sigW : List Nat := [374, 464, 525, 823, 553, 593, 597, 601, 529, 539, 549, 609, 613, 732, 737, 748, 752, 756, 760, 765, 769, 773, 777, 781, 785, 789, 793, 827, 832, 843, 853, 847, 862, 874, 866, 870, 935, 939, 943, 570, 379, 383, 400, 460, 395, 456, 473, 503, 512, 521, 535, 545, 347, 338, 342, 355, 414, 387, 886, 890, 896, 903, 907, 917, 923, 927, 956, 562, 643, 651, 664, 624, 632, 636, 659, 676, 672, 684, 605, 802, 811, 815, 806, 702, 693, 566, 697, 723, 718, 363, 367, 741, 477, 578, 489, 583, 493, 969, 628, 507, 516, 481, 485, 498, 334, 351, 359, 558, 574, 588, 620, 647, 655, 668, 680, 689, 706, 710, 714, 728, 797, 819, 839, 857, 882, 931, 948, 961, 965, 952, 877, 1086, 1181, 1166, 1174, 1083, 1091, 1107, 1134, 1130, 1146, 1126, 1142, 1138, 1103, 1099, 1095, 1158, 1154, 1150, 1162, 1193, 1213, 1178, 1170, 1189, 1185, 1197, 1201, 1209, 1205, 1217, 1221, 1225, 1229, 1237, 1233, 1249, 1245, 1253, 1257, 1261, 1241, 1265, 1273, 1269, 1277, 1285, 1288, 1281, 1296, 1300, 1292, 1308, 1311, 1304, 1315, 1319, 1323, 910, 404, 418, 408, 422, 428, 425, 433]
end
section
/-! the abstract machine: a store of ints, frames over it, what a walk of a method must show -/
abbrev St : Type := (Nat → Nat → Int32) × Int64
abbrev Ent : Type := Nat × Instr × Nat × Nat × Nat × List (Int32 × Nat) × Value × List Nat
def lay (q : Nat) : Lay := layL.getD q (9, 0, [])
def alen (q : Nat) : Nat := match lay q with
  | (1, n, _) => n
  | _ => 0
def zlen (q : Nat) : Nat := match lay q with
  | (2, n, _) => n
  | _ => 0
def blen (q : Nat) : Nat := if 200 ≤ q then slen.getD (q - 200) 0 else 0
def sby (q j : Nat) : Int32 := (sbyt.getD (q - 200) []).getD j 0
def tlen (q : Nat) : Nat := if 200 ≤ q then slen.getD (q - 200) 0 else (lay q).2.1
def isArr (q : Nat) : Bool := (200 ≤ q && q < 209) || (q < 68 && (lay q).1 == 1)
def sput (σ : St) (q k : Nat) (v : Int32) : St := (fun a b => if a = q ∧ b = k then v else σ.1 a b, σ.2)
def scpy (σ : St) (src sp dst dp n : Nat) : St := (fun a b => if a = dst ∧ dp ≤ b ∧ b < dp + n then σ.1 src (sp + (b - dp)) else σ.1 a b, σ.2)
def fkind (q ci k : Nat) : Option Nat := match lay q with
  | (0, c, fl) => cond (c == ci) fl[k]? none
  | _ => none
def isObj (q ci : Nat) : Bool := match lay q with
  | (0, c, _) => c == ci && ci < 12
  | _ => false
def pI (Q : Int32 → St → Prop) : Option Value → St → Prop := fun r σ => match r with
  | some (.int x) => Q x σ
  | _ => False
def pV (Q : St → Prop) : Option Value → St → Prop := fun r σ => match r with
  | none => Q σ
  | _ => False
def pR (Q : Nat → St → Prop) : Option Value → St → Prop := fun r σ => match r with
  | some (.ref q) => Q q σ
  | _ => False
def br (c : Jvm.ClassFile.Cond) (x y : Int32) (T F : Prop) : Prop := match c with
  | .eq => (x = y → T) ∧ (¬ x = y → F)
  | .ne => (x = y → F) ∧ (¬ x = y → T)
  | .lt => (x < y → T) ∧ (¬ x < y → F)
  | .ge => (x < y → F) ∧ (¬ x < y → T)
  | .gt => (y < x → T) ∧ (¬ y < x → F)
  | .le => (y < x → F) ∧ (¬ y < x → T)
noncomputable def sw (x : Int32) (go : Nat → Prop) (dflt : Prop) (ts : List (Int32 × Nat)) : Prop :=
  List.rec (motive := fun _ => Prop) dflt (fun t _ ih => (x = t.1 → go t.2) ∧ (¬ x = t.1 → ih)) ts
def okst (ls : List Value) (a : Nat) : Bool := Nat.blt a ls.length && (a == 0 || match ls[a - 1]? with
  | some (.long _) => false
  | some (.double _) => false
  | _ => true)
def okroom (st : List Value) : Bool := Nat.ble ((st.map fun v => v.category).sum) 8
def callP (KD : Nat → List Value → St → (Option Value → St → Prop) → Prop) (go : List Value → St → Prop) (a : Nat) (v : Value) (av rest : List Value) (σ : St) : Prop :=
  cond (okroom rest) (match v with
    | .int _ => KD a av σ (pI fun x σ' => go (.int x :: rest) σ')
    | .null => KD a av σ (pV fun σ' => go rest σ')
    | .ref _ => KD a av σ (pR fun q σ' => go (.ref q :: rest) σ')
    | _ => False) False
def rcv (cn q : Nat) (P : Prop) : Prop := cond (cn == 20) ((100 ≤ q ∧ q < 109) ∧ P) (cond (isObj q cn) P False)
def instP (KD : Nat → List Value → St → (Option Value → St → Prop) → Prop) (KR : Option Value → St → Prop) (rt : FieldType) (go : Nat → List Value → List Value → St → Prop) (ins : Instr) (nx a b : Nat) (ts : List (Int32 × Nat)) (v : Value) (ls st : List Value) (σ : St) : Prop :=
  match ins with
  | .iconst _ => go nx ls (v :: st) σ
  | .bipush _ => go nx ls (v :: st) σ
  | .sipush _ => go nx ls (v :: st) σ
  | .lconst _ => go nx ls (v :: st) σ
  | .ldc _ => go nx ls (v :: st) σ
  | .ldc_w _ => go nx ls (v :: st) σ
  | .ldc2_w _ => go nx ls (v :: st) σ
  | .getstatic _ => go nx ls (v :: st) σ
  | .iload _ => match ls[a]? with
    | some (.int x) => go nx ls (.int x :: st) σ
    | _ => False
  | .iload_n _ => match ls[a]? with
    | some (.int x) => go nx ls (.int x :: st) σ
    | _ => False
  | .aload _ => match ls[a]? with
    | some (.ref x) => go nx ls (.ref x :: st) σ
    | _ => False
  | .aload_n _ => match ls[a]? with
    | some (.ref x) => go nx ls (.ref x :: st) σ
    | _ => False
  | .lload_n _ => match ls[a]? with
    | some (.long x) => go nx ls (.long x :: st) σ
    | _ => False
  | .istore _ => match st with
    | .int x :: r => cond (okst ls a) (go nx (ls.set a (.int x)) r σ) False
    | _ => False
  | .istore_n _ => match st with
    | .int x :: r => cond (okst ls a) (go nx (ls.set a (.int x)) r σ) False
    | _ => False
  | .iinc _ _ => match ls[a]? with
    | some (.int x) => (match v with
      | .int c => cond (okst ls a) (go nx (ls.set a (.int (x + c))) st σ) False
      | _ => False)
    | _ => False
  | .iadd => match st with
    | .int y :: .int x :: r => go nx ls (.int (x + y) :: r) σ
    | _ => False
  | .isub => match st with
    | .int y :: .int x :: r => go nx ls (.int (x - y) :: r) σ
    | _ => False
  | .imul => match st with
    | .int y :: .int x :: r => go nx ls (.int (x * y) :: r) σ
    | _ => False
  | .idiv => match st with
    | .int y :: .int x :: r => (¬ y = 0) ∧ go nx ls (.int (x / y) :: r) σ
    | _ => False
  | .irem => match st with
    | .int y :: .int x :: r => (¬ y = 0) ∧ go nx ls (.int (x - x / y * y) :: r) σ
    | _ => False
  | .iand => match st with
    | .int y :: .int x :: r => go nx ls (.int (x &&& y) :: r) σ
    | _ => False
  | .ior => match st with
    | .int y :: .int x :: r => go nx ls (.int (x ||| y) :: r) σ
    | _ => False
  | .ixor => match st with
    | .int y :: .int x :: r => go nx ls (.int (x ^^^ y) :: r) σ
    | _ => False
  | .ishl => match st with
    | .int y :: .int x :: r => go nx ls (.int (x <<< (y &&& 31)) :: r) σ
    | _ => False
  | .ishr => match st with
    | .int y :: .int x :: r => go nx ls (.int (x >>> (y &&& 31)) :: r) σ
    | _ => False
  | .iushr => match st with
    | .int y :: .int x :: r => go nx ls (.int (x.toUInt32 >>> (y.toUInt32 &&& Int32.toUInt32 31)).toInt32 :: r) σ
    | _ => False
  | .i2c => match st with
    | .int x :: r => go nx ls (.int (x.toUInt32 % 65536).toInt32 :: r) σ
    | _ => False
  | .i2l => match st with
    | .int x :: r => go nx ls (.long x.toInt64 :: r) σ
    | _ => False
  | .l2i => match st with
    | .long x :: r => go nx ls (.int x.toInt32 :: r) σ
    | _ => False
  | .ladd => match st with
    | .long y :: .long x :: r => go nx ls (.long (x + y) :: r) σ
    | _ => False
  | .lsub => match st with
    | .long y :: .long x :: r => go nx ls (.long (x - y) :: r) σ
    | _ => False
  | .lmul => match st with
    | .long y :: .long x :: r => go nx ls (.long (x * y) :: r) σ
    | _ => False
  | .land => match st with
    | .long y :: .long x :: r => go nx ls (.long (x &&& y) :: r) σ
    | _ => False
  | .lshr => match st with
    | .int y :: .long x :: r => go nx ls (.long (x >>> (y.toInt64 &&& 63)) :: r) σ
    | _ => False
  | .lcmp => match st with
    | .long y :: .long x :: r => go nx ls (.int (lg_cmp x y) :: r) σ
    | _ => False
  | .dup => match st with
    | .ref x :: r => go nx ls (.ref x :: .ref x :: r) σ
    | .int x :: r => go nx ls (.int x :: .int x :: r) σ
    | _ => False
  | .pop => match st with
    | .int _ :: r => go nx ls r σ
    | _ => False
  | .dup2 => match st with
    | .int y :: .ref x :: r => go nx ls (.int y :: .ref x :: .int y :: .ref x :: r) σ
    | _ => False
  | .getfield _ => match st with
    | .ref q :: r => cond (a == 20) ((100 ≤ q ∧ q < 109) ∧ cond (b == 0) (go nx ls (.ref (q + 100) :: r) σ) (go nx ls (.int 0 :: r) σ)) (match fkind q a b with
      | some 0 => go nx ls (.int (σ.1 q b) :: r) σ
      | some 1 => go nx ls (.long σ.2 :: r) σ
      | some (t + 2) => go nx ls (.ref t :: r) σ
      | none => False)
    | _ => False
  | .putfield _ => match st with
    | .int x :: .ref q :: r => (match fkind q a b with
      | some 0 => go nx ls r (sput σ q b x)
      | _ => False)
    | .long x :: .ref q :: r => (match fkind q a b with
      | some 1 => go nx ls r (σ.1, x)
      | _ => False)
    | _ => False
  | .iaload => match st with
    | .int i :: .ref q :: r => vp_in i (alen q) ∧ go nx ls (.int (σ.1 q i.toNatClampNeg) :: r) σ
    | _ => False
  | .iastore => match st with
    | .int x :: .int i :: .ref q :: r => vp_in i (alen q) ∧ go nx ls r (sput σ q i.toNatClampNeg x)
    | _ => False
  | .baload => match st with
    | .int i :: .ref q :: r => cond (a == 1) (vp_in i (blen q) ∧ go nx ls (.int (sby q i.toNatClampNeg) :: r) σ) (vp_in i (zlen q) ∧ go nx ls (.int (σ.1 q i.toNatClampNeg) :: r) σ)
    | _ => False
  | .bastore => match st with
    | .int x :: .int i :: .ref q :: r => vp_in i (zlen q) ∧ vp_nar .boolean x = x ∧ go nx ls r (sput σ q i.toNatClampNeg x)
    | _ => False
  | .aaload => match st with
    | .int i :: .ref q :: r => (match lay q with
      | (3, n, fl) => vp_in i n ∧ go nx ls (.ref (fl.headD 0 + i.toNatClampNeg) :: r) σ
      | _ => False)
    | _ => False
  | .arraylength => match st with
    | .ref q :: r => isArr q = true ∧ go nx ls (.int (nI (tlen q)) :: r) σ
    | _ => False
  | .ifCond c _ => match st with
    | .int x :: r => br c x 0 (go a ls r σ) (go nx ls r σ)
    | _ => False
  | .if_icmp c _ => match st with
    | .int y :: .int x :: r => br c x y (go a ls r σ) (go nx ls r σ)
    | _ => False
  | .goto _ => go a ls st σ
  | .tableswitch _ _ _ _ => match st with
    | .int x :: r => sw x (fun t => go t ls r σ) (go a ls r σ) ts
    | _ => False
  | .invokevirtual _ => match st.drop b with
    | .ref q :: r => rcv (ts.headD (0, 99)).2 q (callP KD (fun st' σ' => go nx ls st' σ') a v (.ref q :: (st.take b).reverse) r σ)
    | _ => False
  | .invokestatic _ => cond (a == 999) (match st with
      | .int n :: .int dp :: .ref dq :: .int sp :: .ref sq :: r => (0 < alen sq ∧ 0 < alen dq ∧ ¬ sp < 0 ∧ ¬ dp < 0 ∧ ¬ n < 0 ∧ sp.toNatClampNeg + n.toNatClampNeg ≤ alen sq ∧ dp.toNatClampNeg + n.toNatClampNeg ≤ alen dq) ∧ cond (okroom r) (go nx ls r (scpy σ sq sp.toNatClampNeg dq dp.toNatClampNeg n.toNatClampNeg)) False
      | _ => False) (cond (a == 998) (match st with
      | .int y :: .int x :: r => cond (okroom r) (go nx ls (.int (if y < x then y else x) :: r) σ) False
      | _ => False) (cond (a == 997) (match st with
      | .int y :: .int x :: r => cond (okroom r) (go nx ls (.int (if x < y then y else x) :: r) σ) False
      | _ => False) (cond (Nat.ble b st.length) (callP KD (fun st' σ' => go nx ls st' σ') a v (st.take b).reverse (st.drop b) σ) False)))
  | .ireturn => match st with
    | [.int x] => (match rt with
      | .int => KR (some (.int x)) σ
      | _ => narrow rt (.int x) = .int x ∧ KR (some (.int x)) σ)
    | _ => False
  | .areturn => match st with
    | [.ref q] => KR (some (.ref q)) σ
    | _ => False
  | .return_ => match st with
    | [] => KR none σ
    | _ => False
  | _ => False
def stepP (KD : Nat → List Value → St → (Option Value → St → Prop) → Prop) (KR : Option Value → St → Prop) (rt : FieldType) (tbl : List Ent) (go : Nat → List Value → List Value → St → Prop) (pc : Nat) (ls st : List Value) (σ : St) : Prop :=
  match tbl.find? (fun e => e.1 == pc) with
  | some (_, ins, nx, a, b, ts, v, _) => instP KD KR rt go ins nx a b ts v ls st σ
  | none => False
noncomputable def wp (KA : Nat → List Value → List Value → St → Prop) (KD : Nat → List Value → St → (Option Value → St → Prop) → Prop) (KR : Option Value → St → Prop) (rt : FieldType) (stops : List Nat) (tbl : List Ent) (n : Nat) : Nat → List Value → List Value → St → Prop :=
  Nat.rec (motive := fun _ => Nat → List Value → List Value → St → Prop) KA (fun _ ih => stepP KD KR rt tbl (fun pc ls st σ => cond (stops.contains pc) (KA pc ls st σ) (ih pc ls st σ))) n
/-! ===== what the tables must hold ===== -/
def ilen : Instr → Nat
  | .iload _ => 2
  | .aload _ => 2
  | .istore _ => 2
  | .bipush _ => 2
  | .ldc _ => 2
  | .iinc _ _ => 3
  | .sipush _ => 3
  | .ldc_w _ => 3
  | .ldc2_w _ => 3
  | .getstatic _ => 3
  | .getfield _ => 3
  | .putfield _ => 3
  | .ifCond _ _ => 3
  | .if_icmp _ _ => 3
  | .goto _ => 3
  | .invokevirtual _ => 3
  | .invokestatic _ => 3
  | _ => 1
def hasW (i : Nat) (w : Cond) : Bool := decide (lw_tbl[i]? = some w) && goodWord w
def clsName (cn : Nat) : String := match cls[cn]? with
  | some c => c.1
  | none => "java/lang/String"
def okA (own : String) (pc : Nat) (ins : Instr) (a b : Nat) (ts : List (Int32 × Nat)) (v : Value) (wi : List Nat) : Bool :=
  match ins with
  | .iconst n => decide (v = .int (Int32.ofInt n))
  | .bipush n => decide (v = .int (Int8.ofInt n).toInt32)
  | .sipush n => decide (v = .int (Int16.ofInt n).toInt32)
  | .lconst n => decide (v = .long (Int64.ofNat n.val))
  | .ldc idx => decide (own = RX3 ∧ a < 9 ∧ sIdx.getD a 0 = idx ∧ v = .ref (100 + a))
  | .ldc_w idx => match v with
    | .int c => hasW (wi.getD 0 0) (.constant own idx c)
    | _ => false
  | .ldc2_w idx => match v with
    | .long c => hasW (wi.getD 0 0) (.constantLong own idx c)
    | _ => false
  | .getstatic idx => match a with
    | 0 => decide (v = .int 1) && hasW (wi.getD 0 0) (.fieldLink own idx "java/lang/String" "COMPACT_STRINGS" "Z")
    | _ => decide (v = .ref 300) && hasW (wi.getD 0 0) (.fieldLink own idx "jdk/internal/util/Preconditions" "SIOOBE_FORMATTER" "Ljava/util/function/BiFunction;")
  | .iload i => a == i
  | .aload i => a == i
  | .istore i => a == i
  | .iload_n k => a == k.val
  | .aload_n k => a == k.val
  | .istore_n k => a == k.val
  | .lload_n k => a == k.val
  | .iinc i n => a == i && decide (v = .int (Int32.ofInt n))
  | .ifCond _ off => decide ((pc : Int) + off = (a : Int))
  | .if_icmp _ off => decide ((pc : Int) + off = (a : Int))
  | .goto off => decide ((pc : Int) + off = (a : Int))
  | .tableswitch dflt lo hi offs => decide ((pc : Int) + dflt = (a : Int) ∧ ts.map (fun t => (t.2 : Int)) = offs.toList.map (fun o => (pc : Int) + o) ∧ ts.map (fun t => t.1.toInt) = (List.range ts.length).map (fun (j : Nat) => lo + (j : Int)) ∧ hi + 1 = lo + (ts.length : Int))
  | .getfield idx => cond (a == 20) (decide (b < 2) && hasW (wi.getD 0 0) (.fieldLink own idx "java/lang/String" (cond (b == 0) "value" "coder") (cond (b == 0) "[B" "B"))) (match cls[a]? with
    | some c => decide (b < c.2.2) && hasW (wi.getD 0 0) (.fieldLink own idx (c.2.1 b).1 (c.2.1 b).2.1 (c.2.1 b).2.2.1)
    | none => false)
  | .putfield idx => match cls[a]? with
    | some c => decide (b < c.2.2) && decide ((c.2.1 b).2.2.2 = false) && hasW (wi.getD 0 0) (.fieldLink own idx (c.2.1 b).1 (c.2.1 b).2.1 (c.2.1 b).2.2.1)
    | none => false
  | .invokevirtual idx => match sigs[a]? with
    | some g => hasW (wi.getD 0 0) (.methodLink own idx g.1) && hasW (wi.getD 1 0) (.instanceMethod g.1) && hasW (wi.getD 2 0) (.selects g.1.cls g.1 g.1) && hasW (wi.getD 3 0) (.initialized g.1.cls) && decide (g.1.cls = clsName (ts.headD (0, 99)).2 ∧ (parseMethodDescriptor g.1.desc).map (fun d => d.parameters.length) = some b)
    | none => false
  | .invokestatic idx => cond (a == 999) (hasW (wi.getD 0 0) (.methodLink own idx arraycopyName) && hasW (wi.getD 1 0) (.native arraycopyName) && hasW (wi.getD 2 0) (.static arraycopyName) && hasW (wi.getD 3 0) (.initialized "java/lang/System")) (cond (a == 998) (hasW (wi.getD 0 0) (.methodLink own idx Lib.Math.min.name) && hasW (wi.getD 1 0) (.static Lib.Math.min.name) && hasW (wi.getD 2 0) (.initialized "java/lang/Math") && hasW (wi.getD 3 0) (.code Lib.Math.min.name Lib.Math.min.code 2 (some .int))) (cond (a == 997) (hasW (wi.getD 0 0) (.methodLink own idx Lib.Math.max.name) && hasW (wi.getD 1 0) (.static Lib.Math.max.name) && hasW (wi.getD 2 0) (.initialized "java/lang/Math") && hasW (wi.getD 3 0) (.code Lib.Math.max.name Lib.Math.max.code 2 (some .int))) (match sigs[a]? with
    | some g => hasW (wi.getD 0 0) (.methodLink own idx g.1) && hasW (wi.getD 1 0) (.static g.1) && hasW (wi.getD 2 0) (.initialized g.1.cls) && decide ((parseMethodDescriptor g.1.desc).map (fun d => d.parameters.length) = some b)
    | none => false)))
  | _ => true
def okE (own : String) (bytes : ByteArray) (e : Ent) : Bool := match e with
  | (pc, ins, nx, a, b, ts, v, wi) => (match ins with
      | .tableswitch _ _ _ _ => decide (decode bytes pc = .ok (ins, nx - pc))
      | _ => decide (decode bytes pc = .ok (ins, ilen ins)) && nx == pc + ilen ins) && okA own pc ins a b ts v wi
/-- a signature's own words -/
def okS (g : Sig) (i : Nat) : Prop := Cond.code g.1 g.2.1 g.2.2.1 g.2.2.2 ∈ lw_tbl.filter goodWord ∧ plainName g.1.cls = true ∧ g.1.cls ≠ "java/lang/invoke/MethodHandle" ∧ g.1.cls ≠ "java/lang/invoke/VarHandle" ∧ g.2.2.1 ≤ 40
end
section
def tX0_copyFrom : List Ent := [(0, .aload_n 1, 1, 1, 0, [], .null, []),
  (1, .getfield 9, 4, 0, 0, [], .null, [141]),
  (4, .iconst 0, 5, 0, 0, [], .int 0, []),
  (5, .aload_n 0, 6, 0, 0, [], .null, []),
  (6, .getfield 9, 9, 0, 0, [], .null, [141]),
  (9, .iconst 0, 10, 0, 0, [], .int 0, []),
  (10, .aload_n 0, 11, 0, 0, [], .null, []),
  (11, .getfield 9, 14, 0, 0, [], .null, [141]),
  (14, .arraylength, 15, 0, 0, [], .null, []),
  (15, .invokestatic 19, 18, 999, 0, [], .null, [375, 370, 369, 78]),
  (18, .aload_n 0, 19, 0, 0, [], .null, []),
  (19, .aload_n 1, 20, 1, 0, [], .null, []),
  (20, .getfield 15, 23, 0, 1, [], .null, [142]),
  (23, .putfield 15, 26, 0, 1, [], .null, [142]),
  (26, .aload_n 0, 27, 0, 0, [], .null, []),
  (27, .aload_n 1, 28, 1, 0, [], .null, []),
  (28, .getfield 25, 31, 0, 2, [], .null, [143]),
  (31, .putfield 25, 34, 0, 2, [], .null, [143]),
  (34, .aload_n 0, 35, 0, 0, [], .null, []),
  (35, .aload_n 1, 36, 1, 0, [], .null, []),
  (36, .getfield 28, 39, 0, 3, [], .null, [144]),
  (39, .putfield 28, 42, 0, 3, [], .null, [144]),
  (42, .return_, 43, 0, 0, [], .null, [])]
theorem oX0_copyFrom : tX0_copyFrom.all (okE (sX0_copyFrom).1.cls (sX0_copyFrom).2.1) = true := by decide +kernel
def tX0_beginAnew : List Ent := [(0, .aload_n 0, 1, 0, 0, [], .null, []),
  (1, .iconst 1, 2, 0, 0, [], .int 1, []),
  (2, .iload_n 1, 3, 1, 0, [], .null, []),
  (3, .iconst 5, 4, 0, 0, [], .int 5, []),
  (4, .invokestatic 31, 7, 998, 0, [], .null, [465, 466, 79, 467]),
  (7, .invokestatic 37, 10, 997, 0, [], .null, [468, 389, 79, 390]),
  (10, .putfield 15, 13, 0, 1, [], .null, [142]),
  (13, .aload_n 0, 14, 0, 0, [], .null, []),
  (14, .iconst 0, 15, 0, 0, [], .int 0, []),
  (15, .putfield 25, 18, 0, 2, [], .null, [143]),
  (18, .aload_n 0, 19, 0, 0, [], .null, []),
  (19, .iconst 0, 20, 0, 0, [], .int 0, []),
  (20, .putfield 28, 23, 0, 3, [], .null, [144]),
  (23, .iconst 0, 24, 0, 0, [], .int 0, []),
  (24, .istore_n 2, 25, 2, 0, [], .null, []),
  (25, .iload_n 2, 26, 2, 0, [], .null, []),
  (26, .iconst 5, 27, 0, 0, [], .int 5, []),
  (27, .if_icmp .ge 16, 30, 43, 0, [], .null, []),
  (30, .aload_n 0, 31, 0, 0, [], .null, []),
  (31, .getfield 9, 34, 0, 0, [], .null, [141]),
  (34, .iload_n 2, 35, 2, 0, [], .null, []),
  (35, .iconst 0, 36, 0, 0, [], .int 0, []),
  (36, .iastore, 37, 0, 0, [], .null, []),
  (37, .iinc 2 1, 40, 2, 0, [], .int 1, []),
  (40, .goto (-15), 43, 25, 0, [], .null, []),
  (43, .return_, 44, 0, 0, [], .null, [])]
theorem oX0_beginAnew : tX0_beginAnew.all (okE (sX0_beginAnew).1.cls (sX0_beginAnew).2.1) = true := by decide +kernel
def tX0_size : List Ent := [(0, .aload_n 0, 1, 0, 0, [], .null, []),
  (1, .getfield 15, 4, 0, 1, [], .null, [142]),
  (4, .ireturn, 5, 0, 0, [], .null, [])]
theorem oX0_size : tX0_size.all (okE (sX0_size).1.cls (sX0_size).2.1) = true := by decide +kernel
def tX0_allVoices : List Ent := [(0, .iconst 1, 1, 0, 0, [], .int 1, []),
  (1, .aload_n 0, 2, 0, 0, [], .null, []),
  (2, .getfield 15, 5, 0, 1, [], .null, [142]),
  (5, .ishl, 6, 0, 0, [], .null, []),
  (6, .iconst 1, 7, 0, 0, [], .int 1, []),
  (7, .isub, 8, 0, 0, [], .null, []),
  (8, .ireturn, 9, 0, 0, [], .null, [])]
theorem oX0_allVoices : tX0_allVoices.all (okE (sX0_allVoices).1.cls (sX0_allVoices).2.1) = true := by decide +kernel
def tX0_has : List Ent := [(0, .iload_n 1, 1, 1, 0, [], .null, []),
  (1, .ifCond .lt 15, 4, 16, 0, [], .null, []),
  (4, .iload_n 1, 5, 1, 0, [], .null, []),
  (5, .aload_n 0, 6, 0, 0, [], .null, []),
  (6, .getfield 15, 9, 0, 1, [], .null, [142]),
  (9, .if_icmp .ge 7, 12, 16, 0, [], .null, []),
  (12, .iconst 1, 13, 0, 0, [], .int 1, []),
  (13, .goto 4, 16, 17, 0, [], .null, []),
  (16, .iconst 0, 17, 0, 0, [], .int 0, []),
  (17, .ireturn, 18, 0, 0, [], .null, [])]
theorem oX0_has : tX0_has.all (okE (sX0_has).1.cls (sX0_has).2.1) = true := by decide +kernel
def tX0_isAway : List Ent := [(0, .iload_n 1, 1, 1, 0, [], .null, []),
  (1, .ifCond .lt 26, 4, 27, 0, [], .null, []),
  (4, .iload_n 1, 5, 1, 0, [], .null, []),
  (5, .aload_n 0, 6, 0, 0, [], .null, []),
  (6, .getfield 15, 9, 0, 1, [], .null, [142]),
  (9, .if_icmp .ge 18, 12, 27, 0, [], .null, []),
  (12, .aload_n 0, 13, 0, 0, [], .null, []),
  (13, .getfield 25, 16, 0, 2, [], .null, [143]),
  (16, .iload_n 1, 17, 1, 0, [], .null, []),
  (17, .ishr, 18, 0, 0, [], .null, []),
  (18, .iconst 1, 19, 0, 0, [], .int 1, []),
  (19, .iand, 20, 0, 0, [], .null, []),
  (20, .ifCond .eq 7, 23, 27, 0, [], .null, []),
  (23, .iconst 1, 24, 0, 0, [], .int 1, []),
  (24, .goto 4, 27, 28, 0, [], .null, []),
  (27, .iconst 0, 28, 0, 0, [], .int 0, []),
  (28, .ireturn, 29, 0, 0, [], .null, [])]
theorem oX0_isAway : tX0_isAway.all (okE (sX0_isAway).1.cls (sX0_isAway).2.1) = true := by decide +kernel
def tX0_isHoarse : List Ent := [(0, .iload_n 1, 1, 1, 0, [], .null, []),
  (1, .ifCond .lt 26, 4, 27, 0, [], .null, []),
  (4, .iload_n 1, 5, 1, 0, [], .null, []),
  (5, .aload_n 0, 6, 0, 0, [], .null, []),
  (6, .getfield 15, 9, 0, 1, [], .null, [142]),
  (9, .if_icmp .ge 18, 12, 27, 0, [], .null, []),
  (12, .aload_n 0, 13, 0, 0, [], .null, []),
  (13, .getfield 28, 16, 0, 3, [], .null, [144]),
  (16, .iload_n 1, 17, 1, 0, [], .null, []),
  (17, .ishr, 18, 0, 0, [], .null, []),
  (18, .iconst 1, 19, 0, 0, [], .int 1, []),
  (19, .iand, 20, 0, 0, [], .null, []),
  (20, .ifCond .eq 7, 23, 27, 0, [], .null, []),
  (23, .iconst 1, 24, 0, 0, [], .int 1, []),
  (24, .goto 4, 27, 28, 0, [], .null, []),
  (27, .iconst 0, 28, 0, 0, [], .int 0, []),
  (28, .ireturn, 29, 0, 0, [], .null, [])]
theorem oX0_isHoarse : tX0_isHoarse.all (okE (sX0_isHoarse).1.cls (sX0_isHoarse).2.1) = true := by decide +kernel
def tX0_lateOf : List Ent := [(0, .iload_n 1, 1, 1, 0, [], .null, []),
  (1, .ifCond .lt 20, 4, 21, 0, [], .null, []),
  (4, .iload_n 1, 5, 1, 0, [], .null, []),
  (5, .aload_n 0, 6, 0, 0, [], .null, []),
  (6, .getfield 15, 9, 0, 1, [], .null, [142]),
  (9, .if_icmp .ge 12, 12, 21, 0, [], .null, []),
  (12, .aload_n 0, 13, 0, 0, [], .null, []),
  (13, .getfield 9, 16, 0, 0, [], .null, [141]),
  (16, .iload_n 1, 17, 1, 0, [], .null, []),
  (17, .iaload, 18, 0, 0, [], .null, []),
  (18, .goto 4, 21, 22, 0, [], .null, []),
  (21, .iconst 0, 22, 0, 0, [], .int 0, []),
  (22, .ireturn, 23, 0, 0, [], .null, [])]
theorem oX0_lateOf : tX0_lateOf.all (okE (sX0_lateOf).1.cls (sX0_lateOf).2.1) = true := by decide +kernel
def tX0_setAway : List Ent := [(0, .aload_n 0, 1, 0, 0, [], .null, []),
  (1, .iload_n 2, 2, 2, 0, [], .null, []),
  (2, .ifCond .eq 14, 5, 16, 0, [], .null, []),
  (5, .aload_n 0, 6, 0, 0, [], .null, []),
  (6, .getfield 25, 9, 0, 2, [], .null, [143]),
  (9, .iconst 1, 10, 0, 0, [], .int 1, []),
  (10, .iload_n 1, 11, 1, 0, [], .null, []),
  (11, .ishl, 12, 0, 0, [], .null, []),
  (12, .ior, 13, 0, 0, [], .null, []),
  (13, .goto 13, 16, 26, 0, [], .null, []),
  (16, .aload_n 0, 17, 0, 0, [], .null, []),
  (17, .getfield 25, 20, 0, 2, [], .null, [143]),
  (20, .iconst 1, 21, 0, 0, [], .int 1, []),
  (21, .iload_n 1, 22, 1, 0, [], .null, []),
  (22, .ishl, 23, 0, 0, [], .null, []),
  (23, .iconst (-1), 24, 0, 0, [], .int (-1), []),
  (24, .ixor, 25, 0, 0, [], .null, []),
  (25, .iand, 26, 0, 0, [], .null, []),
  (26, .putfield 25, 29, 0, 2, [], .null, [143]),
  (29, .return_, 30, 0, 0, [], .null, [])]
theorem oX0_setAway : tX0_setAway.all (okE (sX0_setAway).1.cls (sX0_setAway).2.1) = true := by decide +kernel
def tX0_setHoarse : List Ent := [(0, .aload_n 0, 1, 0, 0, [], .null, []),
  (1, .iload_n 2, 2, 2, 0, [], .null, []),
  (2, .ifCond .eq 14, 5, 16, 0, [], .null, []),
  (5, .aload_n 0, 6, 0, 0, [], .null, []),
  (6, .getfield 28, 9, 0, 3, [], .null, [144]),
  (9, .iconst 1, 10, 0, 0, [], .int 1, []),
  (10, .iload_n 1, 11, 1, 0, [], .null, []),
  (11, .ishl, 12, 0, 0, [], .null, []),
  (12, .ior, 13, 0, 0, [], .null, []),
  (13, .goto 13, 16, 26, 0, [], .null, []),
  (16, .aload_n 0, 17, 0, 0, [], .null, []),
  (17, .getfield 28, 20, 0, 3, [], .null, [144]),
  (20, .iconst 1, 21, 0, 0, [], .int 1, []),
  (21, .iload_n 1, 22, 1, 0, [], .null, []),
  (22, .ishl, 23, 0, 0, [], .null, []),
  (23, .iconst (-1), 24, 0, 0, [], .int (-1), []),
  (24, .ixor, 25, 0, 0, [], .null, []),
  (25, .iand, 26, 0, 0, [], .null, []),
  (26, .putfield 28, 29, 0, 3, [], .null, [144]),
  (29, .return_, 30, 0, 0, [], .null, [])]
theorem oX0_setHoarse : tX0_setHoarse.all (okE (sX0_setHoarse).1.cls (sX0_setHoarse).2.1) = true := by decide +kernel
def tX0_setLate : List Ent := [(0, .aload_n 0, 1, 0, 0, [], .null, []),
  (1, .iload_n 1, 2, 1, 0, [], .null, []),
  (2, .invokevirtual 40, 5, 4, 1, [(0, 0)], .int 0, [550, 551, 552, 70]),
  (5, .ifCond .eq 10, 8, 15, 0, [], .null, []),
  (8, .aload_n 0, 9, 0, 0, [], .null, []),
  (9, .getfield 9, 12, 0, 0, [], .null, [141]),
  (12, .iload_n 1, 13, 1, 0, [], .null, []),
  (13, .iload_n 2, 14, 2, 0, [], .null, []),
  (14, .iastore, 15, 0, 0, [], .null, []),
  (15, .return_, 16, 0, 0, [], .null, [])]
theorem oX0_setLate : tX0_setLate.all (okE (sX0_setLate).1.cls (sX0_setLate).2.1) = true := by decide +kernel
def tX0_voiceOf : List Ent := [(0, .aload_n 0, 1, 0, 0, [], .null, []),
  (1, .getfield 15, 4, 0, 1, [], .null, [142]),
  (4, .iconst 1, 5, 0, 0, [], .int 1, []),
  (5, .if_icmp .ge 7, 8, 12, 0, [], .null, []),
  (8, .iconst 0, 9, 0, 0, [], .int 0, []),
  (9, .goto 9, 12, 18, 0, [], .null, []),
  (12, .iload_n 1, 13, 1, 0, [], .null, []),
  (13, .aload_n 0, 14, 0, 0, [], .null, []),
  (14, .getfield 15, 17, 0, 1, [], .null, [142]),
  (17, .irem, 18, 0, 0, [], .null, []),
  (18, .ireturn, 19, 0, 0, [], .null, [])]
theorem oX0_voiceOf : tX0_voiceOf.all (okE (sX0_voiceOf).1.cls (sX0_voiceOf).2.1) = true := by decide +kernel
def tX0_isSaid : List Ent := [(0, .aload_n 0, 1, 0, 0, [], .null, []),
  (1, .getfield 15, 4, 0, 1, [], .null, [142]),
  (4, .iconst 1, 5, 0, 0, [], .int 1, []),
  (5, .if_icmp .ge 5, 8, 10, 0, [], .null, []),
  (8, .iconst 0, 9, 0, 0, [], .int 0, []),
  (9, .ireturn, 10, 0, 0, [], .null, []),
  (10, .iload_n 1, 11, 1, 0, [], .null, []),
  (11, .aload_n 0, 12, 0, 0, [], .null, []),
  (12, .getfield 15, 15, 0, 1, [], .null, [142]),
  (15, .irem, 16, 0, 0, [], .null, []),
  (16, .istore_n 2, 17, 2, 0, [], .null, []),
  (17, .iload_n 1, 18, 1, 0, [], .null, []),
  (18, .aload_n 0, 19, 0, 0, [], .null, []),
  (19, .getfield 15, 22, 0, 1, [], .null, [142]),
  (22, .idiv, 23, 0, 0, [], .null, []),
  (23, .aload_n 0, 24, 0, 0, [], .null, []),
  (24, .iload_n 2, 25, 2, 0, [], .null, []),
  (25, .invokevirtual 44, 28, 7, 1, [(0, 0)], .int 0, [614, 599, 600, 70]),
  (28, .isub, 29, 0, 0, [], .null, []),
  (29, .istore_n 3, 30, 3, 0, [], .null, []),
  (30, .aload_n 0, 31, 0, 0, [], .null, []),
  (31, .iload_n 2, 32, 2, 0, [], .null, []),
  (32, .invokevirtual 48, 35, 5, 1, [(0, 0)], .int 0, [615, 591, 592, 70]),
  (35, .ifCond .ne 7, 38, 42, 0, [], .null, []),
  (38, .iload_n 3, 39, 3, 0, [], .null, []),
  (39, .ifCond .ge 5, 42, 44, 0, [], .null, []),
  (42, .iconst 0, 43, 0, 0, [], .int 0, []),
  (43, .ireturn, 44, 0, 0, [], .null, []),
  (44, .aload_n 0, 45, 0, 0, [], .null, []),
  (45, .iload_n 2, 46, 2, 0, [], .null, []),
  (46, .invokevirtual 51, 49, 6, 1, [(0, 0)], .int 0, [616, 595, 596, 70]),
  (49, .ifCond .eq 9, 52, 58, 0, [], .null, []),
  (52, .iload_n 3, 53, 3, 0, [], .null, []),
  (53, .iconst 2, 54, 0, 0, [], .int 2, []),
  (54, .irem, 55, 0, 0, [], .null, []),
  (55, .ifCond .ne 7, 58, 62, 0, [], .null, []),
  (58, .iconst 1, 59, 0, 0, [], .int 1, []),
  (59, .goto 4, 62, 63, 0, [], .null, []),
  (62, .iconst 0, 63, 0, 0, [], .int 0, []),
  (63, .ireturn, 64, 0, 0, [], .null, [])]
theorem oX0_isSaid : tX0_isSaid.all (okE (sX0_isSaid).1.cls (sX0_isSaid).2.1) = true := by decide +kernel
def tX1_prepare : List Ent := [(0, .aload_n 0, 1, 0, 0, [], .null, []),
  (1, .aload_n 0, 2, 0, 0, [], .null, []),
  (2, .getfield 30, 5, 1, 5, [], .null, [239]),
  (5, .invokevirtual 34, 8, 83, 0, [(0, 7)], .int 0, [733, 700, 701, 73]),
  (8, .putfield 40, 11, 1, 6, [], .null, [240]),
  (11, .aload_n 0, 12, 0, 0, [], .null, []),
  (12, .invokevirtual 43, 15, 14, 0, [(0, 1)], .null, [734, 736, 13, 74]),
  (15, .aload_n 0, 16, 0, 0, [], .null, []),
  (16, .invokevirtual 46, 19, 15, 0, [(0, 1)], .null, [745, 747, 14, 74]),
  (19, .bipush 6, 21, 0, 0, [], .int 6, []),
  (21, .istore_n 1, 22, 1, 0, [], .null, []),
  (22, .iload_n 1, 23, 1, 0, [], .null, []),
  (23, .ifCond .lt 14, 26, 37, 0, [], .null, []),
  (26, .aload_n 0, 27, 0, 0, [], .null, []),
  (27, .iload_n 1, 28, 1, 0, [], .null, []),
  (28, .invokevirtual 49, 31, 19, 1, [(0, 1)], .null, [762, 764, 18, 74]),
  (31, .iinc 1 (-1), 34, 1, 0, [], .int (-1), []),
  (34, .goto (-12), 37, 22, 0, [], .null, []),
  (37, .return_, 38, 0, 0, [], .null, [])]
theorem oX1_prepare : tX1_prepare.all (okE (sX1_prepare).1.cls (sX1_prepare).2.1) = true := by decide +kernel
def tX1_findChoices : List Ent := [(0, .iconst 0, 1, 0, 0, [], .int 0, []),
  (1, .istore_n 1, 2, 1, 0, [], .null, []),
  (2, .iload_n 1, 3, 1, 0, [], .null, []),
  (3, .aload_n 0, 4, 0, 0, [], .null, []),
  (4, .getfield 40, 7, 1, 6, [], .null, [240]),
  (7, .if_icmp .gt 63, 10, 70, 0, [], .null, []),
  (10, .aload_n 0, 11, 0, 0, [], .null, []),
  (11, .getfield 9, 14, 1, 0, [], .null, [234]),
  (14, .iload_n 1, 15, 1, 0, [], .null, []),
  (15, .iconst 0, 16, 0, 0, [], .int 0, []),
  (16, .iastore, 17, 0, 0, [], .null, []),
  (17, .iconst 0, 18, 0, 0, [], .int 0, []),
  (18, .istore_n 2, 19, 2, 0, [], .null, []),
  (19, .iload_n 2, 20, 2, 0, [], .null, []),
  (20, .aload_n 0, 21, 0, 0, [], .null, []),
  (21, .getfield 26, 24, 1, 4, [], .null, [238]),
  (24, .invokevirtual 53, 27, 91, 0, [(0, 9)], .int 0, [738, 739, 740, 69]),
  (27, .if_icmp .ge 37, 30, 64, 0, [], .null, []),
  (30, .aload_n 0, 31, 0, 0, [], .null, []),
  (31, .getfield 30, 34, 1, 5, [], .null, [239]),
  (34, .aload_n 0, 35, 0, 0, [], .null, []),
  (35, .getfield 26, 38, 1, 4, [], .null, [238]),
  (38, .iload_n 2, 39, 2, 0, [], .null, []),
  (39, .iload_n 1, 40, 1, 0, [], .null, []),
  (40, .invokevirtual 58, 43, 88, 3, [(0, 7)], .int 0, [742, 716, 717, 73]),
  (43, .ifCond .eq 15, 46, 58, 0, [], .null, []),
  (46, .aload_n 0, 47, 0, 0, [], .null, []),
  (47, .getfield 9, 50, 1, 0, [], .null, [234]),
  (50, .iload_n 1, 51, 1, 0, [], .null, []),
  (51, .dup2, 52, 0, 0, [], .null, []),
  (52, .iaload, 53, 0, 0, [], .null, []),
  (53, .iconst 1, 54, 0, 0, [], .int 1, []),
  (54, .iload_n 2, 55, 2, 0, [], .null, []),
  (55, .ishl, 56, 0, 0, [], .null, []),
  (56, .ior, 57, 0, 0, [], .null, []),
  (57, .iastore, 58, 0, 0, [], .null, []),
  (58, .iinc 2 1, 61, 2, 0, [], .int 1, []),
  (61, .goto (-42), 64, 19, 0, [], .null, []),
  (64, .iinc 1 1, 67, 1, 0, [], .int 1, []),
  (67, .goto (-65), 70, 2, 0, [], .null, []),
  (70, .iconst 0, 71, 0, 0, [], .int 0, []),
  (71, .istore_n 1, 72, 1, 0, [], .null, []),
  (72, .iload_n 1, 73, 1, 0, [], .null, []),
  (73, .iconst 4, 74, 0, 0, [], .int 4, []),
  (74, .if_icmp .ge 81, 77, 155, 0, [], .null, []),
  (77, .aload_n 0, 78, 0, 0, [], .null, []),
  (78, .getfield 15, 81, 1, 1, [], .null, [235]),
  (81, .iload_n 1, 82, 1, 0, [], .null, []),
  (82, .iconst 0, 83, 0, 0, [], .int 0, []),
  (83, .iastore, 84, 0, 0, [], .null, []),
  (84, .iconst 0, 85, 0, 0, [], .int 0, []),
  (85, .istore_n 2, 86, 2, 0, [], .null, []),
  (86, .iload_n 2, 87, 2, 0, [], .null, []),
  (87, .aload_n 0, 88, 0, 0, [], .null, []),
  (88, .getfield 26, 91, 1, 4, [], .null, [238]),
  (91, .invokevirtual 53, 94, 91, 0, [(0, 9)], .int 0, [738, 739, 740, 69]),
  (94, .if_icmp .ge 55, 97, 149, 0, [], .null, []),
  (97, .iload_n 1, 98, 1, 0, [], .null, []),
  (98, .iconst 3, 99, 0, 0, [], .int 3, []),
  (99, .if_icmp .eq 22, 102, 121, 0, [], .null, []),
  (102, .aload_n 0, 103, 0, 0, [], .null, []),
  (103, .getfield 26, 106, 1, 4, [], .null, [238]),
  (106, .iload_n 1, 107, 1, 0, [], .null, []),
  (107, .aload_n 0, 108, 0, 0, [], .null, []),
  (108, .getfield 26, 111, 1, 4, [], .null, [238]),
  (111, .iload_n 2, 112, 2, 0, [], .null, []),
  (112, .invokevirtual 62, 115, 95, 1, [(0, 9)], .int 0, [743, 581, 582, 69]),
  (115, .invokevirtual 66, 118, 98, 2, [(0, 9)], .int 0, [744, 626, 627, 69]),
  (118, .ifCond .eq 7, 121, 125, 0, [], .null, []),
  (121, .iconst 1, 122, 0, 0, [], .int 1, []),
  (122, .goto 4, 125, 126, 0, [], .null, []),
  (125, .iconst 0, 126, 0, 0, [], .int 0, []),
  (126, .istore_n 3, 127, 3, 0, [], .null, []),
  (127, .iload_n 3, 128, 3, 0, [], .null, []),
  (128, .ifCond .eq 15, 131, 143, 0, [], .null, []),
  (131, .aload_n 0, 132, 0, 0, [], .null, []),
  (132, .getfield 15, 135, 1, 1, [], .null, [235]),
  (135, .iload_n 1, 136, 1, 0, [], .null, []),
  (136, .dup2, 137, 0, 0, [], .null, []),
  (137, .iaload, 138, 0, 0, [], .null, []),
  (138, .iconst 1, 139, 0, 0, [], .int 1, []),
  (139, .iload_n 2, 140, 2, 0, [], .null, []),
  (140, .ishl, 141, 0, 0, [], .null, []),
  (141, .ior, 142, 0, 0, [], .null, []),
  (142, .iastore, 143, 0, 0, [], .null, []),
  (143, .iinc 2 1, 146, 2, 0, [], .int 1, []),
  (146, .goto (-60), 149, 86, 0, [], .null, []),
  (149, .iinc 1 1, 152, 1, 0, [], .int 1, []),
  (152, .goto (-80), 155, 72, 0, [], .null, []),
  (155, .return_, 156, 0, 0, [], .null, [])]
theorem oX1_findChoices : tX1_findChoices.all (okE (sX1_findChoices).1.cls (sX1_findChoices).2.1) = true := by decide +kernel
def tX1_findReached : List Ent := [(0, .iconst 0, 1, 0, 0, [], .int 0, []),
  (1, .istore_n 1, 2, 1, 0, [], .null, []),
  (2, .iload_n 1, 3, 1, 0, [], .null, []),
  (3, .bipush 6, 5, 0, 0, [], .int 6, []),
  (5, .if_icmp .gt 34, 8, 39, 0, [], .null, []),
  (8, .iconst 0, 9, 0, 0, [], .int 0, []),
  (9, .istore_n 2, 10, 2, 0, [], .null, []),
  (10, .iload_n 2, 11, 2, 0, [], .null, []),
  (11, .aload_n 0, 12, 0, 0, [], .null, []),
  (12, .getfield 40, 15, 1, 6, [], .null, [240]),
  (15, .if_icmp .gt 18, 18, 33, 0, [], .null, []),
  (18, .aload_n 0, 19, 0, 0, [], .null, []),
  (19, .getfield 20, 22, 1, 2, [], .null, [236]),
  (22, .iload_n 1, 23, 1, 0, [], .null, []),
  (23, .aaload, 24, 0, 0, [], .null, []),
  (24, .iload_n 2, 25, 2, 0, [], .null, []),
  (25, .iconst 0, 26, 0, 0, [], .int 0, []),
  (26, .iastore, 27, 0, 0, [], .null, []),
  (27, .iinc 2 1, 30, 2, 0, [], .int 1, []),
  (30, .goto (-20), 33, 10, 0, [], .null, []),
  (33, .iinc 1 1, 36, 1, 0, [], .int 1, []),
  (36, .goto (-34), 39, 2, 0, [], .null, []),
  (39, .aload_n 0, 40, 0, 0, [], .null, []),
  (40, .getfield 20, 43, 1, 2, [], .null, [236]),
  (43, .iconst 0, 44, 0, 0, [], .int 0, []),
  (44, .aaload, 45, 0, 0, [], .null, []),
  (45, .iconst 0, 46, 0, 0, [], .int 0, []),
  (46, .bipush 8, 48, 0, 0, [], .int 8, []),
  (48, .iastore, 49, 0, 0, [], .null, []),
  (49, .iconst 0, 50, 0, 0, [], .int 0, []),
  (50, .istore_n 1, 51, 1, 0, [], .null, []),
  (51, .iload_n 1, 52, 1, 0, [], .null, []),
  (52, .bipush 6, 54, 0, 0, [], .int 6, []),
  (54, .if_icmp .ge 31, 57, 85, 0, [], .null, []),
  (57, .iconst 0, 58, 0, 0, [], .int 0, []),
  (58, .istore_n 2, 59, 2, 0, [], .null, []),
  (59, .iload_n 2, 60, 2, 0, [], .null, []),
  (60, .aload_n 0, 61, 0, 0, [], .null, []),
  (61, .getfield 40, 64, 1, 6, [], .null, [240]),
  (64, .if_icmp .ge 15, 67, 79, 0, [], .null, []),
  (67, .aload_n 0, 68, 0, 0, [], .null, []),
  (68, .iload_n 1, 69, 1, 0, [], .null, []),
  (69, .iload_n 2, 70, 2, 0, [], .null, []),
  (70, .invokevirtual 70, 73, 16, 2, [(0, 1)], .null, [749, 751, 15, 74]),
  (73, .iinc 2 1, 76, 2, 0, [], .int 1, []),
  (76, .goto (-17), 79, 59, 0, [], .null, []),
  (79, .iinc 1 1, 82, 1, 0, [], .int 1, []),
  (82, .goto (-31), 85, 51, 0, [], .null, []),
  (85, .return_, 86, 0, 0, [], .null, [])]
theorem oX1_findReached : tX1_findReached.all (okE (sX1_findReached).1.cls (sX1_findReached).2.1) = true := by decide +kernel
def tX1_stepFrom : List Ent := [(0, .aload_n 0, 1, 0, 0, [], .null, []),
  (1, .iload_n 1, 2, 1, 0, [], .null, []),
  (2, .iload_n 2, 3, 2, 0, [], .null, []),
  (3, .invokevirtual 74, 6, 17, 2, [(0, 1)], .int 0, [753, 755, 16, 74]),
  (6, .istore_n 3, 7, 3, 0, [], .null, []),
  (7, .iconst 0, 8, 0, 0, [], .int 0, []),
  (8, .istore 4, 10, 4, 0, [], .null, []),
  (10, .iload_n 3, 11, 3, 0, [], .null, []),
  (11, .iload 4, 13, 4, 0, [], .null, []),
  (13, .ishr, 14, 0, 0, [], .null, []),
  (14, .ifCond .eq 75, 17, 89, 0, [], .null, []),
  (17, .iload 4, 19, 4, 0, [], .null, []),
  (19, .bipush 12, 21, 0, 0, [], .int 12, []),
  (21, .if_icmp .ge 68, 24, 89, 0, [], .null, []),
  (24, .iload_n 3, 25, 3, 0, [], .null, []),
  (25, .iload 4, 27, 4, 0, [], .null, []),
  (27, .ishr, 28, 0, 0, [], .null, []),
  (28, .iconst 1, 29, 0, 0, [], .int 1, []),
  (29, .iand, 30, 0, 0, [], .null, []),
  (30, .ifCond .ne 6, 33, 36, 0, [], .null, []),
  (33, .goto 50, 36, 83, 0, [], .null, []),
  (36, .iload_n 2, 37, 2, 0, [], .null, []),
  (37, .aload_n 0, 38, 0, 0, [], .null, []),
  (38, .getfield 26, 41, 1, 4, [], .null, [238]),
  (41, .iload 4, 43, 4, 0, [], .null, []),
  (43, .invokevirtual 78, 46, 94, 1, [(0, 9)], .int 0, [761, 487, 488, 69]),
  (46, .iadd, 47, 0, 0, [], .null, []),
  (47, .istore 5, 49, 5, 0, [], .null, []),
  (49, .iload 5, 51, 5, 0, [], .null, []),
  (51, .aload_n 0, 52, 0, 0, [], .null, []),
  (52, .getfield 40, 55, 1, 6, [], .null, [240]),
  (55, .if_icmp .gt 28, 58, 83, 0, [], .null, []),
  (58, .aload_n 0, 59, 0, 0, [], .null, []),
  (59, .getfield 20, 62, 1, 2, [], .null, [236]),
  (62, .iload_n 1, 63, 1, 0, [], .null, []),
  (63, .iconst 1, 64, 0, 0, [], .int 1, []),
  (64, .iadd, 65, 0, 0, [], .null, []),
  (65, .aaload, 66, 0, 0, [], .null, []),
  (66, .iload 5, 68, 5, 0, [], .null, []),
  (68, .dup2, 69, 0, 0, [], .null, []),
  (69, .iaload, 70, 0, 0, [], .null, []),
  (70, .iconst 1, 71, 0, 0, [], .int 1, []),
  (71, .aload_n 0, 72, 0, 0, [], .null, []),
  (72, .getfield 26, 75, 1, 4, [], .null, [238]),
  (75, .iload 4, 77, 4, 0, [], .null, []),
  (77, .invokevirtual 62, 80, 95, 1, [(0, 9)], .int 0, [743, 581, 582, 69]),
  (80, .ishl, 81, 0, 0, [], .null, []),
  (81, .ior, 82, 0, 0, [], .null, []),
  (82, .iastore, 83, 0, 0, [], .null, []),
  (83, .iinc 4 1, 86, 4, 0, [], .int 1, []),
  (86, .goto (-76), 89, 10, 0, [], .null, []),
  (89, .return_, 90, 0, 0, [], .null, [])]
theorem oX1_stepFrom : tX1_stepFrom.all (okE (sX1_stepFrom).1.cls (sX1_stepFrom).2.1) = true := by decide +kernel
def tX1_choicesAt : List Ent := [(0, .aload_n 0, 1, 0, 0, [], .null, []),
  (1, .getfield 20, 4, 1, 2, [], .null, [236]),
  (4, .iload_n 1, 5, 1, 0, [], .null, []),
  (5, .aaload, 6, 0, 0, [], .null, []),
  (6, .iload_n 2, 7, 2, 0, [], .null, []),
  (7, .iaload, 8, 0, 0, [], .null, []),
  (8, .ifCond .ne 5, 11, 13, 0, [], .null, []),
  (11, .iconst 0, 12, 0, 0, [], .int 0, []),
  (12, .ireturn, 13, 0, 0, [], .null, []),
  (13, .iconst 0, 14, 0, 0, [], .int 0, []),
  (14, .istore_n 3, 15, 3, 0, [], .null, []),
  (15, .iconst 0, 16, 0, 0, [], .int 0, []),
  (16, .istore 4, 18, 4, 0, [], .null, []),
  (18, .iload 4, 20, 4, 0, [], .null, []),
  (20, .iconst 4, 21, 0, 0, [], .int 4, []),
  (21, .if_icmp .ge 30, 24, 51, 0, [], .null, []),
  (24, .aload_n 0, 25, 0, 0, [], .null, []),
  (25, .iload_n 1, 26, 1, 0, [], .null, []),
  (26, .iload_n 2, 27, 2, 0, [], .null, []),
  (27, .iload 4, 29, 4, 0, [], .null, []),
  (29, .invokevirtual 81, 32, 18, 3, [(0, 1)], .int 0, [757, 759, 17, 74]),
  (32, .ifCond .eq 13, 35, 45, 0, [], .null, []),
  (35, .iload_n 3, 36, 3, 0, [], .null, []),
  (36, .aload_n 0, 37, 0, 0, [], .null, []),
  (37, .getfield 15, 40, 1, 1, [], .null, [235]),
  (40, .iload 4, 42, 4, 0, [], .null, []),
  (42, .iaload, 43, 0, 0, [], .null, []),
  (43, .ior, 44, 0, 0, [], .null, []),
  (44, .istore_n 3, 45, 3, 0, [], .null, []),
  (45, .iinc 4 1, 48, 4, 0, [], .int 1, []),
  (48, .goto (-30), 51, 18, 0, [], .null, []),
  (51, .iload_n 3, 52, 3, 0, [], .null, []),
  (52, .aload_n 0, 53, 0, 0, [], .null, []),
  (53, .getfield 9, 56, 1, 0, [], .null, [234]),
  (56, .iload_n 2, 57, 2, 0, [], .null, []),
  (57, .iaload, 58, 0, 0, [], .null, []),
  (58, .iand, 59, 0, 0, [], .null, []),
  (59, .ireturn, 60, 0, 0, [], .null, [])]
theorem oX1_choicesAt : tX1_choicesAt.all (okE (sX1_choicesAt).1.cls (sX1_choicesAt).2.1) = true := by decide +kernel
def tX1_isReached : List Ent := [(0, .aload_n 0, 1, 0, 0, [], .null, []),
  (1, .getfield 20, 4, 1, 2, [], .null, [236]),
  (4, .iload_n 1, 5, 1, 0, [], .null, []),
  (5, .aaload, 6, 0, 0, [], .null, []),
  (6, .iload_n 2, 7, 2, 0, [], .null, []),
  (7, .iaload, 8, 0, 0, [], .null, []),
  (8, .iload_n 3, 9, 3, 0, [], .null, []),
  (9, .ishr, 10, 0, 0, [], .null, []),
  (10, .iconst 1, 11, 0, 0, [], .int 1, []),
  (11, .iand, 12, 0, 0, [], .null, []),
  (12, .ifCond .eq 7, 15, 19, 0, [], .null, []),
  (15, .iconst 1, 16, 0, 0, [], .int 1, []),
  (16, .goto 4, 19, 20, 0, [], .null, []),
  (19, .iconst 0, 20, 0, 0, [], .int 0, []),
  (20, .ireturn, 21, 0, 0, [], .null, [])]
theorem oX1_isReached : tX1_isReached.all (okE (sX1_isReached).1.cls (sX1_isReached).2.1) = true := by decide +kernel
def tX1_findWays : List Ent := [(0, .iconst 0, 1, 0, 0, [], .int 0, []),
  (1, .istore_n 2, 2, 2, 0, [], .null, []),
  (2, .iload_n 2, 3, 2, 0, [], .null, []),
  (3, .aload_n 0, 4, 0, 0, [], .null, []),
  (4, .getfield 40, 7, 1, 6, [], .null, [240]),
  (7, .if_icmp .gt 68, 10, 75, 0, [], .null, []),
  (10, .aload_n 0, 11, 0, 0, [], .null, []),
  (11, .getfield 20, 14, 1, 2, [], .null, [236]),
  (14, .iload_n 1, 15, 1, 0, [], .null, []),
  (15, .aaload, 16, 0, 0, [], .null, []),
  (16, .iload_n 2, 17, 2, 0, [], .null, []),
  (17, .iaload, 18, 0, 0, [], .null, []),
  (18, .ifCond .ne 6, 21, 24, 0, [], .null, []),
  (21, .goto 48, 24, 69, 0, [], .null, []),
  (24, .iconst 0, 25, 0, 0, [], .int 0, []),
  (25, .istore_n 3, 26, 3, 0, [], .null, []),
  (26, .iload_n 3, 27, 3, 0, [], .null, []),
  (27, .iconst 4, 28, 0, 0, [], .int 4, []),
  (28, .if_icmp .ge 41, 31, 69, 0, [], .null, []),
  (31, .aload_n 0, 32, 0, 0, [], .null, []),
  (32, .iload_n 1, 33, 1, 0, [], .null, []),
  (33, .iload_n 2, 34, 2, 0, [], .null, []),
  (34, .iload_n 3, 35, 3, 0, [], .null, []),
  (35, .invokevirtual 81, 38, 18, 3, [(0, 1)], .int 0, [757, 759, 17, 74]),
  (38, .ifCond .ne 6, 41, 44, 0, [], .null, []),
  (41, .goto 22, 44, 63, 0, [], .null, []),
  (44, .aload_n 0, 45, 0, 0, [], .null, []),
  (45, .getfield 23, 48, 1, 3, [], .null, [237]),
  (48, .iload_n 1, 49, 1, 0, [], .null, []),
  (49, .aaload, 50, 0, 0, [], .null, []),
  (50, .iconst 4, 51, 0, 0, [], .int 4, []),
  (51, .iload_n 2, 52, 2, 0, [], .null, []),
  (52, .imul, 53, 0, 0, [], .null, []),
  (53, .iload_n 3, 54, 3, 0, [], .null, []),
  (54, .iadd, 55, 0, 0, [], .null, []),
  (55, .aload_n 0, 56, 0, 0, [], .null, []),
  (56, .iload_n 1, 57, 1, 0, [], .null, []),
  (57, .iload_n 2, 58, 2, 0, [], .null, []),
  (58, .iload_n 3, 59, 3, 0, [], .null, []),
  (59, .invokevirtual 85, 62, 20, 3, [(0, 1)], .int 0, [766, 768, 19, 74]),
  (62, .iastore, 63, 0, 0, [], .null, []),
  (63, .iinc 3 1, 66, 3, 0, [], .int 1, []),
  (66, .goto (-40), 69, 26, 0, [], .null, []),
  (69, .iinc 2 1, 72, 2, 0, [], .int 1, []),
  (72, .goto (-70), 75, 2, 0, [], .null, []),
  (75, .return_, 76, 0, 0, [], .null, [])]
theorem oX1_findWays : tX1_findWays.all (okE (sX1_findWays).1.cls (sX1_findWays).2.1) = true := by decide +kernel
def tX1_sumOfWays : List Ent := [(0, .iload_n 2, 1, 2, 0, [], .null, []),
  (1, .aload_n 0, 2, 0, 0, [], .null, []),
  (2, .getfield 40, 5, 1, 6, [], .null, [240]),
  (5, .if_icmp .ne 5, 8, 10, 0, [], .null, []),
  (8, .iconst 1, 9, 0, 0, [], .int 1, []),
  (9, .ireturn, 10, 0, 0, [], .null, []),
  (10, .aload_n 0, 11, 0, 0, [], .null, []),
  (11, .getfield 9, 14, 1, 0, [], .null, [234]),
  (14, .iload_n 2, 15, 2, 0, [], .null, []),
  (15, .iaload, 16, 0, 0, [], .null, []),
  (16, .aload_n 0, 17, 0, 0, [], .null, []),
  (17, .getfield 15, 20, 1, 1, [], .null, [235]),
  (20, .iload_n 3, 21, 3, 0, [], .null, []),
  (21, .iaload, 22, 0, 0, [], .null, []),
  (22, .iand, 23, 0, 0, [], .null, []),
  (23, .istore 4, 25, 4, 0, [], .null, []),
  (25, .iconst 0, 26, 0, 0, [], .int 0, []),
  (26, .istore 5, 28, 5, 0, [], .null, []),
  (28, .iconst 0, 29, 0, 0, [], .int 0, []),
  (29, .istore 6, 31, 6, 0, [], .null, []),
  (31, .iload 4, 33, 4, 0, [], .null, []),
  (33, .iload 6, 35, 6, 0, [], .null, []),
  (35, .ishr, 36, 0, 0, [], .null, []),
  (36, .ifCond .eq 39, 39, 75, 0, [], .null, []),
  (39, .iload 6, 41, 6, 0, [], .null, []),
  (41, .bipush 12, 43, 0, 0, [], .int 12, []),
  (43, .if_icmp .ge 32, 46, 75, 0, [], .null, []),
  (46, .iload 4, 48, 4, 0, [], .null, []),
  (48, .iload 6, 50, 6, 0, [], .null, []),
  (50, .ishr, 51, 0, 0, [], .null, []),
  (51, .iconst 1, 52, 0, 0, [], .int 1, []),
  (52, .iand, 53, 0, 0, [], .null, []),
  (53, .ifCond .eq 16, 56, 69, 0, [], .null, []),
  (56, .iload 5, 58, 5, 0, [], .null, []),
  (58, .aload_n 0, 59, 0, 0, [], .null, []),
  (59, .iload_n 1, 60, 1, 0, [], .null, []),
  (60, .iload_n 2, 61, 2, 0, [], .null, []),
  (61, .iload 6, 63, 6, 0, [], .null, []),
  (63, .invokevirtual 89, 66, 21, 3, [(0, 1)], .int 0, [770, 772, 20, 74]),
  (66, .iadd, 67, 0, 0, [], .null, []),
  (67, .istore 5, 69, 5, 0, [], .null, []),
  (69, .iinc 6 1, 72, 6, 0, [], .int 1, []),
  (72, .goto (-41), 75, 31, 0, [], .null, []),
  (75, .iload 5, 77, 5, 0, [], .null, []),
  (77, .ireturn, 78, 0, 0, [], .null, [])]
theorem oX1_sumOfWays : tX1_sumOfWays.all (okE (sX1_sumOfWays).1.cls (sX1_sumOfWays).2.1) = true := by decide +kernel
def tX1_waysBehind : List Ent := [(0, .iload_n 2, 1, 2, 0, [], .null, []),
  (1, .aload_n 0, 2, 0, 0, [], .null, []),
  (2, .getfield 26, 5, 1, 4, [], .null, [238]),
  (5, .iload_n 3, 6, 3, 0, [], .null, []),
  (6, .invokevirtual 78, 9, 94, 1, [(0, 9)], .int 0, [761, 487, 488, 69]),
  (9, .iadd, 10, 0, 0, [], .null, []),
  (10, .istore 4, 12, 4, 0, [], .null, []),
  (12, .iload_n 1, 13, 1, 0, [], .null, []),
  (13, .bipush 6, 15, 0, 0, [], .int 6, []),
  (15, .if_icmp .ge 12, 18, 27, 0, [], .null, []),
  (18, .iload 4, 20, 4, 0, [], .null, []),
  (20, .aload_n 0, 21, 0, 0, [], .null, []),
  (21, .getfield 40, 24, 1, 6, [], .null, [240]),
  (24, .if_icmp .le 5, 27, 29, 0, [], .null, []),
  (27, .iconst 0, 28, 0, 0, [], .int 0, []),
  (28, .ireturn, 29, 0, 0, [], .null, []),
  (29, .aload_n 0, 30, 0, 0, [], .null, []),
  (30, .getfield 23, 33, 1, 3, [], .null, [237]),
  (33, .iload_n 1, 34, 1, 0, [], .null, []),
  (34, .iconst 1, 35, 0, 0, [], .int 1, []),
  (35, .iadd, 36, 0, 0, [], .null, []),
  (36, .aaload, 37, 0, 0, [], .null, []),
  (37, .iconst 4, 38, 0, 0, [], .int 4, []),
  (38, .iload 4, 40, 4, 0, [], .null, []),
  (40, .imul, 41, 0, 0, [], .null, []),
  (41, .aload_n 0, 42, 0, 0, [], .null, []),
  (42, .getfield 26, 45, 1, 4, [], .null, [238]),
  (45, .iload_n 3, 46, 3, 0, [], .null, []),
  (46, .invokevirtual 62, 49, 95, 1, [(0, 9)], .int 0, [743, 581, 582, 69]),
  (49, .iadd, 50, 0, 0, [], .null, []),
  (50, .iaload, 51, 0, 0, [], .null, []),
  (51, .ireturn, 52, 0, 0, [], .null, [])]
theorem oX1_waysBehind : tX1_waysBehind.all (okE (sX1_waysBehind).1.cls (sX1_waysBehind).2.1) = true := by decide +kernel
def tX1_total : List Ent := [(0, .aload_n 0, 1, 0, 0, [], .null, []),
  (1, .getfield 40, 4, 1, 6, [], .null, [240]),
  (4, .ifCond .ne 7, 7, 11, 0, [], .null, []),
  (7, .iconst 0, 8, 0, 0, [], .int 0, []),
  (8, .goto 11, 11, 19, 0, [], .null, []),
  (11, .aload_n 0, 12, 0, 0, [], .null, []),
  (12, .getfield 23, 15, 1, 3, [], .null, [237]),
  (15, .iconst 0, 16, 0, 0, [], .int 0, []),
  (16, .aaload, 17, 0, 0, [], .null, []),
  (17, .iconst 3, 18, 0, 0, [], .int 3, []),
  (18, .iaload, 19, 0, 0, [], .null, []),
  (19, .ireturn, 20, 0, 0, [], .null, [])]
theorem oX1_total : tX1_total.all (okE (sX1_total).1.cls (sX1_total).2.1) = true := by decide +kernel
def tX1_wordsInAny : List Ent := [(0, .iconst 0, 1, 0, 0, [], .int 0, []),
  (1, .istore_n 1, 2, 1, 0, [], .null, []),
  (2, .iconst 0, 3, 0, 0, [], .int 0, []),
  (3, .istore_n 2, 4, 2, 0, [], .null, []),
  (4, .iload_n 2, 5, 2, 0, [], .null, []),
  (5, .bipush 6, 7, 0, 0, [], .int 6, []),
  (7, .if_icmp .ge 34, 10, 41, 0, [], .null, []),
  (10, .iconst 0, 11, 0, 0, [], .int 0, []),
  (11, .istore_n 3, 12, 3, 0, [], .null, []),
  (12, .iload_n 3, 13, 3, 0, [], .null, []),
  (13, .aload_n 0, 14, 0, 0, [], .null, []),
  (14, .getfield 40, 17, 1, 6, [], .null, [240]),
  (17, .if_icmp .ge 18, 20, 35, 0, [], .null, []),
  (20, .iload_n 1, 21, 1, 0, [], .null, []),
  (21, .aload_n 0, 22, 0, 0, [], .null, []),
  (22, .iload_n 2, 23, 2, 0, [], .null, []),
  (23, .iload_n 3, 24, 3, 0, [], .null, []),
  (24, .invokevirtual 92, 27, 24, 2, [(0, 1)], .int 0, [782, 784, 21, 74]),
  (27, .ior, 28, 0, 0, [], .null, []),
  (28, .istore_n 1, 29, 1, 0, [], .null, []),
  (29, .iinc 3 1, 32, 3, 0, [], .int 1, []),
  (32, .goto (-20), 35, 12, 0, [], .null, []),
  (35, .iinc 2 1, 38, 2, 0, [], .int 1, []),
  (38, .goto (-34), 41, 4, 0, [], .null, []),
  (41, .iload_n 1, 42, 1, 0, [], .null, []),
  (42, .ireturn, 43, 0, 0, [], .null, [])]
theorem oX1_wordsInAny : tX1_wordsInAny.all (okE (sX1_wordsInAny).1.cls (sX1_wordsInAny).2.1) = true := by decide +kernel
def tX1_wordsThatEndWell : List Ent := [(0, .aload_n 0, 1, 0, 0, [], .null, []),
  (1, .iload_n 1, 2, 1, 0, [], .null, []),
  (2, .iload_n 2, 3, 2, 0, [], .null, []),
  (3, .invokevirtual 74, 6, 17, 2, [(0, 1)], .int 0, [753, 755, 16, 74]),
  (6, .istore_n 3, 7, 3, 0, [], .null, []),
  (7, .iconst 0, 8, 0, 0, [], .int 0, []),
  (8, .istore 4, 10, 4, 0, [], .null, []),
  (10, .iconst 0, 11, 0, 0, [], .int 0, []),
  (11, .istore 5, 13, 5, 0, [], .null, []),
  (13, .iload_n 3, 14, 3, 0, [], .null, []),
  (14, .iload 5, 16, 5, 0, [], .null, []),
  (16, .ishr, 17, 0, 0, [], .null, []),
  (17, .ifCond .eq 45, 20, 62, 0, [], .null, []),
  (20, .iload 5, 22, 5, 0, [], .null, []),
  (22, .bipush 12, 24, 0, 0, [], .int 12, []),
  (24, .if_icmp .ge 38, 27, 62, 0, [], .null, []),
  (27, .iload_n 3, 28, 3, 0, [], .null, []),
  (28, .iload 5, 30, 5, 0, [], .null, []),
  (30, .ishr, 31, 0, 0, [], .null, []),
  (31, .iconst 1, 32, 0, 0, [], .int 1, []),
  (32, .iand, 33, 0, 0, [], .null, []),
  (33, .ifCond .eq 23, 36, 56, 0, [], .null, []),
  (36, .aload_n 0, 37, 0, 0, [], .null, []),
  (37, .iload_n 1, 38, 1, 0, [], .null, []),
  (38, .iload_n 2, 39, 2, 0, [], .null, []),
  (39, .iload 5, 41, 5, 0, [], .null, []),
  (41, .invokevirtual 89, 44, 21, 3, [(0, 1)], .int 0, [770, 772, 20, 74]),
  (44, .ifCond .le 12, 47, 56, 0, [], .null, []),
  (47, .iload 4, 49, 4, 0, [], .null, []),
  (49, .iconst 1, 50, 0, 0, [], .int 1, []),
  (50, .iload 5, 52, 5, 0, [], .null, []),
  (52, .ishl, 53, 0, 0, [], .null, []),
  (53, .ior, 54, 0, 0, [], .null, []),
  (54, .istore 4, 56, 4, 0, [], .null, []),
  (56, .iinc 5 1, 59, 5, 0, [], .int 1, []),
  (59, .goto (-46), 62, 13, 0, [], .null, []),
  (62, .iload 4, 64, 4, 0, [], .null, []),
  (64, .ireturn, 65, 0, 0, [], .null, [])]
theorem oX1_wordsThatEndWell : tX1_wordsThatEndWell.all (okE (sX1_wordsThatEndWell).1.cls (sX1_wordsThatEndWell).2.1) = true := by decide +kernel
def tX1_wordOfFirst : List Ent := [(0, .iconst 0, 1, 0, 0, [], .int 0, []),
  (1, .istore_n 2, 2, 2, 0, [], .null, []),
  (2, .iconst 3, 3, 0, 0, [], .int 3, []),
  (3, .istore_n 3, 4, 3, 0, [], .null, []),
  (4, .iconst 0, 5, 0, 0, [], .int 0, []),
  (5, .istore 4, 7, 4, 0, [], .null, []),
  (7, .iload 4, 9, 4, 0, [], .null, []),
  (9, .bipush 6, 11, 0, 0, [], .int 6, []),
  (11, .if_icmp .ge 64, 14, 75, 0, [], .null, []),
  (14, .iload_n 2, 15, 2, 0, [], .null, []),
  (15, .aload_n 0, 16, 0, 0, [], .null, []),
  (16, .getfield 40, 19, 1, 6, [], .null, [240]),
  (19, .if_icmp .ge 56, 22, 75, 0, [], .null, []),
  (22, .aload_n 0, 23, 0, 0, [], .null, []),
  (23, .iload 4, 25, 4, 0, [], .null, []),
  (25, .iload_n 2, 26, 2, 0, [], .null, []),
  (26, .iload_n 3, 27, 3, 0, [], .null, []),
  (27, .invokevirtual 95, 30, 26, 3, [(0, 1)], .int 0, [790, 792, 22, 74]),
  (30, .istore 5, 32, 5, 0, [], .null, []),
  (32, .iload 5, 34, 5, 0, [], .null, []),
  (34, .iconst (-1), 35, 0, 0, [], .int (-1), []),
  (35, .if_icmp .eq 9, 38, 44, 0, [], .null, []),
  (38, .iload 4, 40, 4, 0, [], .null, []),
  (40, .iload_n 1, 41, 1, 0, [], .null, []),
  (41, .if_icmp .ne 6, 44, 47, 0, [], .null, []),
  (44, .iload 5, 46, 5, 0, [], .null, []),
  (46, .ireturn, 47, 0, 0, [], .null, []),
  (47, .iload_n 2, 48, 2, 0, [], .null, []),
  (48, .aload_n 0, 49, 0, 0, [], .null, []),
  (49, .getfield 26, 52, 1, 4, [], .null, [238]),
  (52, .iload 5, 54, 5, 0, [], .null, []),
  (54, .invokevirtual 78, 57, 94, 1, [(0, 9)], .int 0, [761, 487, 488, 69]),
  (57, .iadd, 58, 0, 0, [], .null, []),
  (58, .istore_n 2, 59, 2, 0, [], .null, []),
  (59, .aload_n 0, 60, 0, 0, [], .null, []),
  (60, .getfield 26, 63, 1, 4, [], .null, [238]),
  (63, .iload 5, 65, 5, 0, [], .null, []),
  (65, .invokevirtual 62, 68, 95, 1, [(0, 9)], .int 0, [743, 581, 582, 69]),
  (68, .istore_n 3, 69, 3, 0, [], .null, []),
  (69, .iinc 4 1, 72, 4, 0, [], .int 1, []),
  (72, .goto (-65), 75, 7, 0, [], .null, []),
  (75, .iconst (-1), 76, 0, 0, [], .int (-1), []),
  (76, .ireturn, 77, 0, 0, [], .null, [])]
theorem oX1_wordOfFirst : tX1_wordOfFirst.all (okE (sX1_wordOfFirst).1.cls (sX1_wordOfFirst).2.1) = true := by decide +kernel
def tX1_leastThatEndsWell : List Ent := [(0, .aload_n 0, 1, 0, 0, [], .null, []),
  (1, .getfield 9, 4, 1, 0, [], .null, [234]),
  (4, .iload_n 2, 5, 2, 0, [], .null, []),
  (5, .iaload, 6, 0, 0, [], .null, []),
  (6, .aload_n 0, 7, 0, 0, [], .null, []),
  (7, .getfield 15, 10, 1, 1, [], .null, [235]),
  (10, .iload_n 3, 11, 3, 0, [], .null, []),
  (11, .iaload, 12, 0, 0, [], .null, []),
  (12, .iand, 13, 0, 0, [], .null, []),
  (13, .istore 4, 15, 4, 0, [], .null, []),
  (15, .iconst 0, 16, 0, 0, [], .int 0, []),
  (16, .istore 5, 18, 5, 0, [], .null, []),
  (18, .iload 4, 20, 4, 0, [], .null, []),
  (20, .iload 5, 22, 5, 0, [], .null, []),
  (22, .ishr, 23, 0, 0, [], .null, []),
  (23, .ifCond .eq 40, 26, 63, 0, [], .null, []),
  (26, .iload 5, 28, 5, 0, [], .null, []),
  (28, .bipush 12, 30, 0, 0, [], .int 12, []),
  (30, .if_icmp .ge 33, 33, 63, 0, [], .null, []),
  (33, .iload 4, 35, 4, 0, [], .null, []),
  (35, .iload 5, 37, 5, 0, [], .null, []),
  (37, .ishr, 38, 0, 0, [], .null, []),
  (38, .iconst 1, 39, 0, 0, [], .int 1, []),
  (39, .iand, 40, 0, 0, [], .null, []),
  (40, .ifCond .eq 17, 43, 57, 0, [], .null, []),
  (43, .aload_n 0, 44, 0, 0, [], .null, []),
  (44, .iload_n 1, 45, 1, 0, [], .null, []),
  (45, .iload_n 2, 46, 2, 0, [], .null, []),
  (46, .iload 5, 48, 5, 0, [], .null, []),
  (48, .invokevirtual 89, 51, 21, 3, [(0, 1)], .int 0, [770, 772, 20, 74]),
  (51, .ifCond .le 6, 54, 57, 0, [], .null, []),
  (54, .iload 5, 56, 5, 0, [], .null, []),
  (56, .ireturn, 57, 0, 0, [], .null, []),
  (57, .iinc 5 1, 60, 5, 0, [], .int 1, []),
  (60, .goto (-42), 63, 18, 0, [], .null, []),
  (63, .iconst (-1), 64, 0, 0, [], .int (-1), []),
  (64, .ireturn, 65, 0, 0, [], .null, [])]
theorem oX1_leastThatEndsWell : tX1_leastThatEndsWell.all (okE (sX1_leastThatEndsWell).1.cls (sX1_leastThatEndsWell).2.1) = true := by decide +kernel
def tX2_wordSaidBy : List Ent := [(0, .iconst 0, 1, 0, 0, [], .int 0, []),
  (1, .istore_n 3, 2, 3, 0, [], .null, []),
  (2, .iload_n 3, 3, 3, 0, [], .null, []),
  (3, .aload_n 0, 4, 0, 0, [], .null, []),
  (4, .getfield 21, 7, 2, 1, [], .null, [263]),
  (7, .invokevirtual 27, 10, 91, 0, [(0, 9)], .int 0, [828, 739, 740, 69]),
  (10, .if_icmp .ge 21, 13, 31, 0, [], .null, []),
  (13, .aload_n 0, 14, 0, 0, [], .null, []),
  (14, .iload_n 1, 15, 1, 0, [], .null, []),
  (15, .iload_n 2, 16, 2, 0, [], .null, []),
  (16, .iload_n 3, 17, 3, 0, [], .null, []),
  (17, .invokevirtual 33, 20, 28, 3, [(0, 2)], .int 0, [829, 831, 25, 75]),
  (20, .ifCond .eq 5, 23, 25, 0, [], .null, []),
  (23, .iload_n 3, 24, 3, 0, [], .null, []),
  (24, .ireturn, 25, 0, 0, [], .null, []),
  (25, .iinc 3 1, 28, 3, 0, [], .int 1, []),
  (28, .goto (-26), 31, 2, 0, [], .null, []),
  (31, .iconst (-1), 32, 0, 0, [], .int (-1), []),
  (32, .ireturn, 33, 0, 0, [], .null, [])]
theorem oX2_wordSaidBy : tX2_wordSaidBy.all (okE (sX2_wordSaidBy).1.cls (sX2_wordSaidBy).2.1) = true := by decide +kernel
def tX2_isSaidBy : List Ent := [(0, .iconst 0, 1, 0, 0, [], .int 0, []),
  (1, .istore 4, 3, 4, 0, [], .null, []),
  (3, .iconst 0, 4, 0, 0, [], .int 0, []),
  (4, .istore 5, 6, 5, 0, [], .null, []),
  (6, .iload 5, 8, 5, 0, [], .null, []),
  (8, .aload_n 0, 9, 0, 0, [], .null, []),
  (9, .getfield 21, 12, 2, 1, [], .null, [263]),
  (12, .iload_n 1, 13, 1, 0, [], .null, []),
  (13, .invokevirtual 37, 16, 94, 1, [(0, 9)], .int 0, [833, 487, 488, 69]),
  (16, .if_icmp .ge 56, 19, 72, 0, [], .null, []),
  (19, .iload_n 2, 20, 2, 0, [], .null, []),
  (20, .aload_n 0, 21, 0, 0, [], .null, []),
  (21, .getfield 26, 24, 2, 2, [], .null, [264]),
  (24, .iload 5, 26, 5, 0, [], .null, []),
  (26, .invokevirtual 41, 29, 11, 1, [(0, 0)], .int 0, [834, 607, 608, 70]),
  (29, .ishr, 30, 0, 0, [], .null, []),
  (30, .iconst 1, 31, 0, 0, [], .int 1, []),
  (31, .iand, 32, 0, 0, [], .null, []),
  (32, .ifCond .ne 6, 35, 38, 0, [], .null, []),
  (35, .goto 31, 38, 66, 0, [], .null, []),
  (38, .aload_n 0, 39, 0, 0, [], .null, []),
  (39, .getfield 21, 42, 2, 1, [], .null, [263]),
  (42, .iload_n 1, 43, 1, 0, [], .null, []),
  (43, .iload 5, 45, 5, 0, [], .null, []),
  (45, .invokevirtual 46, 48, 96, 2, [(0, 9)], .int 0, [835, 491, 492, 69]),
  (48, .aload_n 0, 49, 0, 0, [], .null, []),
  (49, .getfield 21, 52, 2, 1, [], .null, [263]),
  (52, .iload_n 3, 53, 3, 0, [], .null, []),
  (53, .iload 4, 55, 4, 0, [], .null, []),
  (55, .invokevirtual 46, 58, 96, 2, [(0, 9)], .int 0, [835, 491, 492, 69]),
  (58, .if_icmp .eq 5, 61, 63, 0, [], .null, []),
  (61, .iconst 0, 62, 0, 0, [], .int 0, []),
  (62, .ireturn, 63, 0, 0, [], .null, []),
  (63, .iinc 4 1, 66, 4, 0, [], .int 1, []),
  (66, .iinc 5 1, 69, 5, 0, [], .int 1, []),
  (69, .goto (-63), 72, 6, 0, [], .null, []),
  (72, .iload 4, 74, 4, 0, [], .null, []),
  (74, .aload_n 0, 75, 0, 0, [], .null, []),
  (75, .getfield 21, 78, 2, 1, [], .null, [263]),
  (78, .iload_n 3, 79, 3, 0, [], .null, []),
  (79, .invokevirtual 37, 82, 94, 1, [(0, 9)], .int 0, [833, 487, 488, 69]),
  (82, .if_icmp .ne 7, 85, 89, 0, [], .null, []),
  (85, .iconst 1, 86, 0, 0, [], .int 1, []),
  (86, .goto 4, 89, 90, 0, [], .null, []),
  (89, .iconst 0, 90, 0, 0, [], .int 0, []),
  (90, .ireturn, 91, 0, 0, [], .null, [])]
theorem oX2_isSaidBy : tX2_isSaidBy.all (okE (sX2_isSaidBy).1.cls (sX2_isSaidBy).2.1) = true := by decide +kernel
def tX2_countTwins : List Ent := [(0, .iconst 0, 1, 0, 0, [], .int 0, []),
  (1, .istore_n 2, 2, 2, 0, [], .null, []),
  (2, .iconst 0, 3, 0, 0, [], .int 0, []),
  (3, .istore_n 3, 4, 3, 0, [], .null, []),
  (4, .iload_n 3, 5, 3, 0, [], .null, []),
  (5, .aload_n 0, 6, 0, 0, [], .null, []),
  (6, .getfield 21, 9, 2, 1, [], .null, [263]),
  (9, .invokevirtual 27, 12, 91, 0, [(0, 9)], .int 0, [828, 739, 740, 69]),
  (12, .if_icmp .ge 22, 15, 34, 0, [], .null, []),
  (15, .aload_n 0, 16, 0, 0, [], .null, []),
  (16, .iload_n 1, 17, 1, 0, [], .null, []),
  (17, .iload_n 3, 18, 3, 0, [], .null, []),
  (18, .invokevirtual 50, 21, 31, 2, [(0, 2)], .int 0, [844, 846, 26, 75]),
  (21, .iconst (-1), 22, 0, 0, [], .int (-1), []),
  (22, .if_icmp .eq 6, 25, 28, 0, [], .null, []),
  (25, .iinc 2 1, 28, 2, 0, [], .int 1, []),
  (28, .iinc 3 1, 31, 3, 0, [], .int 1, []),
  (31, .goto (-27), 34, 4, 0, [], .null, []),
  (34, .iload_n 2, 35, 2, 0, [], .null, []),
  (35, .ireturn, 36, 0, 0, [], .null, [])]
theorem oX2_countTwins : tX2_countTwins.all (okE (sX2_countTwins).1.cls (sX2_countTwins).2.1) = true := by decide +kernel
def tX2_firstTwins : List Ent := [(0, .iconst 0, 1, 0, 0, [], .int 0, []),
  (1, .istore_n 2, 2, 2, 0, [], .null, []),
  (2, .iload_n 2, 3, 2, 0, [], .null, []),
  (3, .aload_n 0, 4, 0, 0, [], .null, []),
  (4, .getfield 21, 7, 2, 1, [], .null, [263]),
  (7, .invokevirtual 27, 10, 91, 0, [(0, 9)], .int 0, [828, 739, 740, 69]),
  (10, .if_icmp .ge 28, 13, 38, 0, [], .null, []),
  (13, .aload_n 0, 14, 0, 0, [], .null, []),
  (14, .iload_n 1, 15, 1, 0, [], .null, []),
  (15, .iload_n 2, 16, 2, 0, [], .null, []),
  (16, .invokevirtual 50, 19, 31, 2, [(0, 2)], .int 0, [844, 846, 26, 75]),
  (19, .istore_n 3, 20, 3, 0, [], .null, []),
  (20, .iload_n 3, 21, 3, 0, [], .null, []),
  (21, .iconst (-1), 22, 0, 0, [], .int (-1), []),
  (22, .if_icmp .eq 10, 25, 32, 0, [], .null, []),
  (25, .bipush 20, 27, 0, 0, [], .int 20, []),
  (27, .iload_n 2, 28, 2, 0, [], .null, []),
  (28, .imul, 29, 0, 0, [], .null, []),
  (29, .iload_n 3, 30, 3, 0, [], .null, []),
  (30, .iadd, 31, 0, 0, [], .null, []),
  (31, .ireturn, 32, 0, 0, [], .null, []),
  (32, .iinc 2 1, 35, 2, 0, [], .int 1, []),
  (35, .goto (-33), 38, 2, 0, [], .null, []),
  (38, .iconst (-1), 39, 0, 0, [], .int (-1), []),
  (39, .ireturn, 40, 0, 0, [], .null, [])]
theorem oX2_firstTwins : tX2_firstTwins.all (okE (sX2_firstTwins).1.cls (sX2_firstTwins).2.1) = true := by decide +kernel
def tX2_twinOf : List Ent := [(0, .aload_n 0, 1, 0, 0, [], .null, []),
  (1, .iload_n 2, 2, 2, 0, [], .null, []),
  (2, .aload_n 0, 3, 0, 0, [], .null, []),
  (3, .getfield 26, 6, 2, 2, [], .null, [264]),
  (6, .invokevirtual 53, 9, 3, 0, [(0, 0)], .int 0, [848, 821, 822, 70]),
  (9, .iconst 1, 10, 0, 0, [], .int 1, []),
  (10, .iload_n 1, 11, 1, 0, [], .null, []),
  (11, .ishl, 12, 0, 0, [], .null, []),
  (12, .iconst (-1), 13, 0, 0, [], .int (-1), []),
  (13, .ixor, 14, 0, 0, [], .null, []),
  (14, .iand, 15, 0, 0, [], .null, []),
  (15, .invokevirtual 56, 18, 27, 2, [(0, 2)], .int 0, [849, 825, 826, 75]),
  (18, .istore_n 3, 19, 3, 0, [], .null, []),
  (19, .iload_n 3, 20, 3, 0, [], .null, []),
  (20, .iload_n 2, 21, 2, 0, [], .null, []),
  (21, .if_icmp .ne 7, 24, 28, 0, [], .null, []),
  (24, .iconst (-1), 25, 0, 0, [], .int (-1), []),
  (25, .goto 4, 28, 29, 0, [], .null, []),
  (28, .iload_n 3, 29, 3, 0, [], .null, []),
  (29, .ireturn, 30, 0, 0, [], .null, [])]
theorem oX2_twinOf : tX2_twinOf.all (okE (sX2_twinOf).1.cls (sX2_twinOf).2.1) = true := by decide +kernel
def tX2_sumOfClassSizes : List Ent := [(0, .iconst 0, 1, 0, 0, [], .int 0, []),
  (1, .istore_n 2, 2, 2, 0, [], .null, []),
  (2, .iconst 0, 3, 0, 0, [], .int 0, []),
  (3, .istore_n 3, 4, 3, 0, [], .null, []),
  (4, .iload_n 3, 5, 3, 0, [], .null, []),
  (5, .aload_n 0, 6, 0, 0, [], .null, []),
  (6, .getfield 21, 9, 2, 1, [], .null, [263]),
  (9, .invokevirtual 27, 12, 91, 0, [(0, 9)], .int 0, [828, 739, 740, 69]),
  (12, .if_icmp .ge 44, 15, 56, 0, [], .null, []),
  (15, .iconst 0, 16, 0, 0, [], .int 0, []),
  (16, .istore 4, 18, 4, 0, [], .null, []),
  (18, .iload 4, 20, 4, 0, [], .null, []),
  (20, .aload_n 0, 21, 0, 0, [], .null, []),
  (21, .getfield 21, 24, 2, 1, [], .null, [263]),
  (24, .invokevirtual 27, 27, 91, 0, [(0, 9)], .int 0, [828, 739, 740, 69]),
  (27, .if_icmp .ge 23, 30, 50, 0, [], .null, []),
  (30, .aload_n 0, 31, 0, 0, [], .null, []),
  (31, .iload_n 1, 32, 1, 0, [], .null, []),
  (32, .iload_n 3, 33, 3, 0, [], .null, []),
  (33, .iload 4, 35, 4, 0, [], .null, []),
  (35, .invokevirtual 59, 38, 34, 3, [(0, 2)], .int 0, [863, 865, 27, 75]),
  (38, .ifCond .eq 6, 41, 44, 0, [], .null, []),
  (41, .iinc 2 1, 44, 2, 0, [], .int 1, []),
  (44, .iinc 4 1, 47, 4, 0, [], .int 1, []),
  (47, .goto (-29), 50, 18, 0, [], .null, []),
  (50, .iinc 3 1, 53, 3, 0, [], .int 1, []),
  (53, .goto (-49), 56, 4, 0, [], .null, []),
  (56, .iload_n 2, 57, 2, 0, [], .null, []),
  (57, .ireturn, 58, 0, 0, [], .null, [])]
theorem oX2_sumOfClassSizes : tX2_sumOfClassSizes.all (okE (sX2_sumOfClassSizes).1.cls (sX2_sumOfClassSizes).2.1) = true := by decide +kernel
def tX2_countClasses : List Ent := [(0, .iconst 0, 1, 0, 0, [], .int 0, []),
  (1, .istore_n 2, 2, 2, 0, [], .null, []),
  (2, .iconst 0, 3, 0, 0, [], .int 0, []),
  (3, .istore_n 3, 4, 3, 0, [], .null, []),
  (4, .iload_n 3, 5, 3, 0, [], .null, []),
  (5, .aload_n 0, 6, 0, 0, [], .null, []),
  (6, .getfield 21, 9, 2, 1, [], .null, [263]),
  (9, .invokevirtual 27, 12, 91, 0, [(0, 9)], .int 0, [828, 739, 740, 69]),
  (12, .if_icmp .ge 44, 15, 56, 0, [], .null, []),
  (15, .iconst 0, 16, 0, 0, [], .int 0, []),
  (16, .istore 4, 18, 4, 0, [], .null, []),
  (18, .iload 4, 20, 4, 0, [], .null, []),
  (20, .iload_n 3, 21, 3, 0, [], .null, []),
  (21, .if_icmp .ge 20, 24, 41, 0, [], .null, []),
  (24, .aload_n 0, 25, 0, 0, [], .null, []),
  (25, .iload_n 1, 26, 1, 0, [], .null, []),
  (26, .iload_n 3, 27, 3, 0, [], .null, []),
  (27, .iload 4, 29, 4, 0, [], .null, []),
  (29, .invokevirtual 59, 32, 34, 3, [(0, 2)], .int 0, [863, 865, 27, 75]),
  (32, .ifCond .ne 9, 35, 41, 0, [], .null, []),
  (35, .iinc 4 1, 38, 4, 0, [], .int 1, []),
  (38, .goto (-20), 41, 18, 0, [], .null, []),
  (41, .iload 4, 43, 4, 0, [], .null, []),
  (43, .iload_n 3, 44, 3, 0, [], .null, []),
  (44, .if_icmp .ne 6, 47, 50, 0, [], .null, []),
  (47, .iinc 2 1, 50, 2, 0, [], .int 1, []),
  (50, .iinc 3 1, 53, 3, 0, [], .int 1, []),
  (53, .goto (-49), 56, 4, 0, [], .null, []),
  (56, .iload_n 2, 57, 2, 0, [], .null, []),
  (57, .ireturn, 58, 0, 0, [], .null, [])]
theorem oX2_countClasses : tX2_countClasses.all (okE (sX2_countClasses).1.cls (sX2_countClasses).2.1) = true := by decide +kernel
def tX2_isOneClass : List Ent := [(0, .aload_n 0, 1, 0, 0, [], .null, []),
  (1, .getfield 21, 4, 2, 1, [], .null, [263]),
  (4, .iload_n 2, 5, 2, 0, [], .null, []),
  (5, .invokevirtual 37, 8, 94, 1, [(0, 9)], .int 0, [833, 487, 488, 69]),
  (8, .aload_n 0, 9, 0, 0, [], .null, []),
  (9, .getfield 21, 12, 2, 1, [], .null, [263]),
  (12, .iload_n 3, 13, 3, 0, [], .null, []),
  (13, .invokevirtual 37, 16, 94, 1, [(0, 9)], .int 0, [833, 487, 488, 69]),
  (16, .if_icmp .eq 5, 19, 21, 0, [], .null, []),
  (19, .iconst 0, 20, 0, 0, [], .int 0, []),
  (20, .ireturn, 21, 0, 0, [], .null, []),
  (21, .aload_n 0, 22, 0, 0, [], .null, []),
  (22, .iload_n 2, 23, 2, 0, [], .null, []),
  (23, .iload_n 3, 24, 3, 0, [], .null, []),
  (24, .invokevirtual 62, 27, 35, 2, [(0, 2)], .int 0, [867, 869, 28, 75]),
  (27, .iload_n 1, 28, 1, 0, [], .null, []),
  (28, .ishr, 29, 0, 0, [], .null, []),
  (29, .iconst 1, 30, 0, 0, [], .int 1, []),
  (30, .iand, 31, 0, 0, [], .null, []),
  (31, .ifCond .ne 7, 34, 38, 0, [], .null, []),
  (34, .iconst 1, 35, 0, 0, [], .int 1, []),
  (35, .goto 4, 38, 39, 0, [], .null, []),
  (38, .iconst 0, 39, 0, 0, [], .int 0, []),
  (39, .ireturn, 40, 0, 0, [], .null, [])]
theorem oX2_isOneClass : tX2_isOneClass.all (okE (sX2_isOneClass).1.cls (sX2_isOneClass).2.1) = true := by decide +kernel
def tX2_voicesThatDiffer : List Ent := [(0, .iconst 0, 1, 0, 0, [], .int 0, []),
  (1, .istore_n 3, 2, 3, 0, [], .null, []),
  (2, .iconst 0, 3, 0, 0, [], .int 0, []),
  (3, .istore 4, 5, 4, 0, [], .null, []),
  (5, .iload 4, 7, 4, 0, [], .null, []),
  (7, .aload_n 0, 8, 0, 0, [], .null, []),
  (8, .getfield 21, 11, 2, 1, [], .null, [263]),
  (11, .iload_n 1, 12, 1, 0, [], .null, []),
  (12, .invokevirtual 37, 15, 94, 1, [(0, 9)], .int 0, [833, 487, 488, 69]),
  (15, .if_icmp .ge 46, 18, 61, 0, [], .null, []),
  (18, .aload_n 0, 19, 0, 0, [], .null, []),
  (19, .getfield 21, 22, 2, 1, [], .null, [263]),
  (22, .iload_n 1, 23, 1, 0, [], .null, []),
  (23, .iload 4, 25, 4, 0, [], .null, []),
  (25, .invokevirtual 46, 28, 96, 2, [(0, 9)], .int 0, [835, 491, 492, 69]),
  (28, .aload_n 0, 29, 0, 0, [], .null, []),
  (29, .getfield 21, 32, 2, 1, [], .null, [263]),
  (32, .iload_n 2, 33, 2, 0, [], .null, []),
  (33, .iload 4, 35, 4, 0, [], .null, []),
  (35, .invokevirtual 46, 38, 96, 2, [(0, 9)], .int 0, [835, 491, 492, 69]),
  (38, .if_icmp .eq 17, 41, 55, 0, [], .null, []),
  (41, .iload_n 3, 42, 3, 0, [], .null, []),
  (42, .iconst 1, 43, 0, 0, [], .int 1, []),
  (43, .aload_n 0, 44, 0, 0, [], .null, []),
  (44, .getfield 26, 47, 2, 2, [], .null, [264]),
  (47, .iload 4, 49, 4, 0, [], .null, []),
  (49, .invokevirtual 41, 52, 11, 1, [(0, 0)], .int 0, [834, 607, 608, 70]),
  (52, .ishl, 53, 0, 0, [], .null, []),
  (53, .ior, 54, 0, 0, [], .null, []),
  (54, .istore_n 3, 55, 3, 0, [], .null, []),
  (55, .iinc 4 1, 58, 4, 0, [], .int 1, []),
  (58, .goto (-53), 61, 5, 0, [], .null, []),
  (61, .iload_n 3, 62, 3, 0, [], .null, []),
  (62, .ireturn, 63, 0, 0, [], .null, [])]
theorem oX2_voicesThatDiffer : tX2_voicesThatDiffer.all (okE (sX2_voicesThatDiffer).1.cls (sX2_voicesThatDiffer).2.1) = true := by decide +kernel
def tX2_greatestBearing : List Ent := [(0, .iconst 0, 1, 0, 0, [], .int 0, []),
  (1, .istore_n 1, 2, 1, 0, [], .null, []),
  (2, .iload_n 1, 3, 1, 0, [], .null, []),
  (3, .aload_n 0, 4, 0, 0, [], .null, []),
  (4, .getfield 21, 7, 2, 1, [], .null, [263]),
  (7, .invokevirtual 27, 10, 91, 0, [(0, 9)], .int 0, [828, 739, 740, 69]),
  (10, .if_icmp .ge 61, 13, 71, 0, [], .null, []),
  (13, .aload_n 0, 14, 0, 0, [], .null, []),
  (14, .getfield 9, 17, 2, 0, [], .null, [262]),
  (17, .iload_n 1, 18, 1, 0, [], .null, []),
  (18, .iconst 0, 19, 0, 0, [], .int 0, []),
  (19, .iastore, 20, 0, 0, [], .null, []),
  (20, .iconst 0, 21, 0, 0, [], .int 0, []),
  (21, .istore_n 2, 22, 2, 0, [], .null, []),
  (22, .iload_n 2, 23, 2, 0, [], .null, []),
  (23, .aload_n 0, 24, 0, 0, [], .null, []),
  (24, .getfield 21, 27, 2, 1, [], .null, [263]),
  (27, .invokevirtual 27, 30, 91, 0, [(0, 9)], .int 0, [828, 739, 740, 69]),
  (30, .if_icmp .ge 35, 33, 65, 0, [], .null, []),
  (33, .iload_n 1, 34, 1, 0, [], .null, []),
  (34, .iload_n 2, 35, 2, 0, [], .null, []),
  (35, .if_icmp .eq 24, 38, 59, 0, [], .null, []),
  (38, .aload_n 0, 39, 0, 0, [], .null, []),
  (39, .iload_n 1, 40, 1, 0, [], .null, []),
  (40, .iload_n 2, 41, 2, 0, [], .null, []),
  (41, .invokevirtual 65, 44, 37, 2, [(0, 2)], .int 0, [936, 938, 34, 75]),
  (44, .ifCond .eq 15, 47, 59, 0, [], .null, []),
  (47, .aload_n 0, 48, 0, 0, [], .null, []),
  (48, .getfield 9, 51, 2, 0, [], .null, [262]),
  (51, .iload_n 1, 52, 1, 0, [], .null, []),
  (52, .dup2, 53, 0, 0, [], .null, []),
  (53, .iaload, 54, 0, 0, [], .null, []),
  (54, .iconst 1, 55, 0, 0, [], .int 1, []),
  (55, .iload_n 2, 56, 2, 0, [], .null, []),
  (56, .ishl, 57, 0, 0, [], .null, []),
  (57, .ior, 58, 0, 0, [], .null, []),
  (58, .iastore, 59, 0, 0, [], .null, []),
  (59, .iinc 2 1, 62, 2, 0, [], .int 1, []),
  (62, .goto (-40), 65, 22, 0, [], .null, []),
  (65, .iinc 1 1, 68, 1, 0, [], .int 1, []),
  (68, .goto (-66), 71, 2, 0, [], .null, []),
  (71, .aload_n 0, 72, 0, 0, [], .null, []),
  (72, .getfield 9, 75, 2, 0, [], .null, [262]),
  (75, .iconst 1, 76, 0, 0, [], .int 1, []),
  (76, .aload_n 0, 77, 0, 0, [], .null, []),
  (77, .getfield 21, 80, 2, 1, [], .null, [263]),
  (80, .invokevirtual 27, 83, 91, 0, [(0, 9)], .int 0, [828, 739, 740, 69]),
  (83, .ishl, 84, 0, 0, [], .null, []),
  (84, .iconst 1, 85, 0, 0, [], .int 1, []),
  (85, .isub, 86, 0, 0, [], .null, []),
  (86, .aload_n 0, 87, 0, 0, [], .null, []),
  (87, .getfield 21, 90, 2, 1, [], .null, [263]),
  (90, .invokevirtual 27, 93, 91, 0, [(0, 9)], .int 0, [828, 739, 740, 69]),
  (93, .iconst 1, 94, 0, 0, [], .int 1, []),
  (94, .isub, 95, 0, 0, [], .null, []),
  (95, .invokestatic 69, 98, 38, 3, [], .int 0, [941, 942, 75]),
  (98, .ireturn, 99, 0, 0, [], .null, [])]
theorem oX2_greatestBearing : tX2_greatestBearing.all (okE (sX2_greatestBearing).1.cls (sX2_greatestBearing).2.1) = true := by decide +kernel
def tX2_isClash : List Ent := [(0, .aload_n 0, 1, 0, 0, [], .null, []),
  (1, .getfield 21, 4, 2, 1, [], .null, [263]),
  (4, .iload_n 1, 5, 1, 0, [], .null, []),
  (5, .invokevirtual 37, 8, 94, 1, [(0, 9)], .int 0, [833, 487, 488, 69]),
  (8, .aload_n 0, 9, 0, 0, [], .null, []),
  (9, .getfield 21, 12, 2, 1, [], .null, [263]),
  (12, .iload_n 2, 13, 2, 0, [], .null, []),
  (13, .invokevirtual 37, 16, 94, 1, [(0, 9)], .int 0, [833, 487, 488, 69]),
  (16, .if_icmp .eq 5, 19, 21, 0, [], .null, []),
  (19, .iconst 0, 20, 0, 0, [], .int 0, []),
  (20, .ireturn, 21, 0, 0, [], .null, []),
  (21, .aload_n 0, 22, 0, 0, [], .null, []),
  (22, .iload_n 1, 23, 1, 0, [], .null, []),
  (23, .iload_n 2, 24, 2, 0, [], .null, []),
  (24, .invokevirtual 62, 27, 35, 2, [(0, 2)], .int 0, [867, 869, 28, 75]),
  (27, .invokestatic 73, 30, 189, 1, [], .int 0, [940, 909, 84]),
  (30, .iconst 1, 31, 0, 0, [], .int 1, []),
  (31, .if_icmp .gt 7, 34, 38, 0, [], .null, []),
  (34, .iconst 1, 35, 0, 0, [], .int 1, []),
  (35, .goto 4, 38, 39, 0, [], .null, []),
  (38, .iconst 0, 39, 0, 0, [], .int 0, []),
  (39, .ireturn, 40, 0, 0, [], .null, [])]
theorem oX2_isClash : tX2_isClash.all (okE (sX2_isClash).1.cls (sX2_isClash).2.1) = true := by decide +kernel
def tX2_greatestWithoutClash : List Ent := [(0, .iload_n 2, 1, 2, 0, [], .null, []),
  (1, .ifCond .lt 9, 4, 10, 0, [], .null, []),
  (4, .iload_n 2, 5, 2, 0, [], .null, []),
  (5, .aload_n 0, 6, 0, 0, [], .null, []),
  (6, .arraylength, 7, 0, 0, [], .null, []),
  (7, .if_icmp .lt 5, 10, 12, 0, [], .null, []),
  (10, .iconst 0, 11, 0, 0, [], .int 0, []),
  (11, .ireturn, 12, 0, 0, [], .null, []),
  (12, .iconst 1, 13, 0, 0, [], .int 1, []),
  (13, .iload_n 2, 14, 2, 0, [], .null, []),
  (14, .ishl, 15, 0, 0, [], .null, []),
  (15, .istore_n 3, 16, 3, 0, [], .null, []),
  (16, .iload_n 1, 17, 1, 0, [], .null, []),
  (17, .iload_n 3, 18, 3, 0, [], .null, []),
  (18, .iconst (-1), 19, 0, 0, [], .int (-1), []),
  (19, .ixor, 20, 0, 0, [], .null, []),
  (20, .iand, 21, 0, 0, [], .null, []),
  (21, .istore 4, 23, 4, 0, [], .null, []),
  (23, .iload_n 1, 24, 1, 0, [], .null, []),
  (24, .iload_n 3, 25, 3, 0, [], .null, []),
  (25, .iand, 26, 0, 0, [], .null, []),
  (26, .ifCond .ne 13, 29, 39, 0, [], .null, []),
  (29, .aload_n 0, 30, 0, 0, [], .null, []),
  (30, .iload 4, 32, 4, 0, [], .null, []),
  (32, .iload_n 2, 33, 2, 0, [], .null, []),
  (33, .iconst 1, 34, 0, 0, [], .int 1, []),
  (34, .isub, 35, 0, 0, [], .null, []),
  (35, .invokestatic 69, 38, 38, 3, [], .int 0, [941, 942, 75]),
  (38, .ireturn, 39, 0, 0, [], .null, []),
  (39, .iload_n 3, 40, 3, 0, [], .null, []),
  (40, .aload_n 0, 41, 0, 0, [], .null, []),
  (41, .iload 4, 43, 4, 0, [], .null, []),
  (43, .aload_n 0, 44, 0, 0, [], .null, []),
  (44, .iload_n 2, 45, 2, 0, [], .null, []),
  (45, .iaload, 46, 0, 0, [], .null, []),
  (46, .iconst (-1), 47, 0, 0, [], .int (-1), []),
  (47, .ixor, 48, 0, 0, [], .null, []),
  (48, .iand, 49, 0, 0, [], .null, []),
  (49, .iload_n 2, 50, 2, 0, [], .null, []),
  (50, .iconst 1, 51, 0, 0, [], .int 1, []),
  (51, .isub, 52, 0, 0, [], .null, []),
  (52, .invokestatic 69, 55, 38, 3, [], .int 0, [941, 942, 75]),
  (55, .ior, 56, 0, 0, [], .null, []),
  (56, .istore 5, 58, 5, 0, [], .null, []),
  (58, .aload_n 0, 59, 0, 0, [], .null, []),
  (59, .iload_n 2, 60, 2, 0, [], .null, []),
  (60, .iaload, 61, 0, 0, [], .null, []),
  (61, .iload 4, 63, 4, 0, [], .null, []),
  (63, .iand, 64, 0, 0, [], .null, []),
  (64, .ifCond .ne 6, 67, 70, 0, [], .null, []),
  (67, .iload 5, 69, 5, 0, [], .null, []),
  (69, .ireturn, 70, 0, 0, [], .null, []),
  (70, .aload_n 0, 71, 0, 0, [], .null, []),
  (71, .iload 4, 73, 4, 0, [], .null, []),
  (73, .iload_n 2, 74, 2, 0, [], .null, []),
  (74, .iconst 1, 75, 0, 0, [], .int 1, []),
  (75, .isub, 76, 0, 0, [], .null, []),
  (76, .invokestatic 69, 79, 38, 3, [], .int 0, [941, 942, 75]),
  (79, .istore 6, 81, 6, 0, [], .null, []),
  (81, .iload 6, 83, 6, 0, [], .null, []),
  (83, .invokestatic 73, 86, 189, 1, [], .int 0, [940, 909, 84]),
  (86, .iload 5, 88, 5, 0, [], .null, []),
  (88, .invokestatic 73, 91, 189, 1, [], .int 0, [940, 909, 84]),
  (91, .if_icmp .lt 8, 94, 99, 0, [], .null, []),
  (94, .iload 6, 96, 6, 0, [], .null, []),
  (96, .goto 5, 99, 101, 0, [], .null, []),
  (99, .iload 5, 101, 5, 0, [], .null, []),
  (101, .ireturn, 102, 0, 0, [], .null, [])]
theorem oX2_greatestWithoutClash : tX2_greatestWithoutClash.all (okE (sX2_greatestWithoutClash).1.cls (sX2_greatestWithoutClash).2.1) = true := by decide +kernel
def tX3_linesRead : List Ent := [(0, .aload_n 0, 1, 0, 0, [], .null, []),
  (1, .getfield 19, 4, 3, 4, [], .null, [179]),
  (4, .ireturn, 5, 0, 0, [], .null, [])]
theorem oX3_linesRead : tX3_linesRead.all (okE (sX3_linesRead).1.cls (sX3_linesRead).2.1) = true := by decide +kernel
def tX3_readToFault : List Ent := [(0, .aload_n 0, 1, 0, 0, [], .null, []),
  (1, .iconst 0, 2, 0, 0, [], .int 0, []),
  (2, .putfield 23, 5, 3, 3, [], .null, [178]),
  (5, .aload_n 0, 6, 0, 0, [], .null, []),
  (6, .invokevirtual 26, 9, 41, 0, [(0, 3)], .null, [380, 382, 0, 71]),
  (9, .aload_n 0, 10, 0, 0, [], .null, []),
  (10, .iconst 1, 11, 0, 0, [], .int 1, []),
  (11, .putfield 19, 14, 3, 4, [], .null, [179]),
  (14, .aload_n 0, 15, 0, 0, [], .null, []),
  (15, .getfield 19, 18, 3, 4, [], .null, [179]),
  (18, .bipush 12, 20, 0, 0, [], .int 12, []),
  (20, .if_icmp .gt 78, 23, 98, 0, [], .null, []),
  (23, .aload_n 0, 24, 0, 0, [], .null, []),
  (24, .invokevirtual 29, 27, 44, 0, [(0, 3)], .int 0, [392, 394, 1, 71]),
  (27, .ifCond .ne 8, 30, 35, 0, [], .null, []),
  (30, .aload_n 0, 31, 0, 0, [], .null, []),
  (31, .getfield 33, 34, 3, 2, [], .null, [177]),
  (34, .ireturn, 35, 0, 0, [], .null, []),
  (35, .aload_n 0, 36, 0, 0, [], .null, []),
  (36, .getfield 33, 39, 3, 2, [], .null, [177]),
  (39, .aload_n 0, 40, 0, 0, [], .null, []),
  (40, .getfield 9, 43, 3, 0, [], .null, [175]),
  (43, .invokevirtual 36, 46, 52, 0, [(0, 4)], .int 0, [391, 345, 346, 67]),
  (46, .if_icmp .lt 5, 49, 51, 0, [], .null, []),
  (49, .iconst (-1), 50, 0, 0, [], .int (-1), []),
  (50, .ireturn, 51, 0, 0, [], .null, []),
  (51, .aload_n 0, 52, 0, 0, [], .null, []),
  (52, .getfield 9, 55, 3, 0, [], .null, [175]),
  (55, .aload_n 0, 56, 0, 0, [], .null, []),
  (56, .getfield 33, 59, 3, 2, [], .null, [177]),
  (59, .invokevirtual 42, 62, 56, 1, [(0, 4)], .int 0, [411, 412, 413, 67]),
  (62, .bipush 59, 64, 0, 0, [], .int 59, []),
  (64, .if_icmp .ne 12, 67, 76, 0, [], .null, []),
  (67, .aload_n 0, 68, 0, 0, [], .null, []),
  (68, .getfield 19, 71, 3, 4, [], .null, [179]),
  (71, .bipush 12, 73, 0, 0, [], .int 12, []),
  (73, .if_icmp .ne 8, 76, 81, 0, [], .null, []),
  (76, .aload_n 0, 77, 0, 0, [], .null, []),
  (77, .getfield 33, 80, 3, 2, [], .null, [177]),
  (80, .ireturn, 81, 0, 0, [], .null, []),
  (81, .aload_n 0, 82, 0, 0, [], .null, []),
  (82, .invokevirtual 26, 85, 41, 0, [(0, 3)], .null, [380, 382, 0, 71]),
  (85, .aload_n 0, 86, 0, 0, [], .null, []),
  (86, .dup, 87, 0, 0, [], .null, []),
  (87, .getfield 19, 90, 3, 4, [], .null, [179]),
  (90, .iconst 1, 91, 0, 0, [], .int 1, []),
  (91, .iadd, 92, 0, 0, [], .null, []),
  (92, .putfield 19, 95, 3, 4, [], .null, [179]),
  (95, .goto (-81), 98, 14, 0, [], .null, []),
  (98, .aload_n 0, 99, 0, 0, [], .null, []),
  (99, .getfield 33, 102, 3, 2, [], .null, [177]),
  (102, .ireturn, 103, 0, 0, [], .null, [])]
theorem oX3_readToFault : tX3_readToFault.all (okE (sX3_readToFault).1.cls (sX3_readToFault).2.1) = true := by decide +kernel
def tX3_advance : List Ent := [(0, .aload_n 0, 1, 0, 0, [], .null, []),
  (1, .aload_n 0, 2, 0, 0, [], .null, []),
  (2, .getfield 9, 5, 3, 0, [], .null, [175]),
  (5, .aload_n 0, 6, 0, 0, [], .null, []),
  (6, .getfield 23, 9, 3, 3, [], .null, [178]),
  (9, .bipush 32, 11, 0, 0, [], .int 32, []),
  (11, .bipush 32, 13, 0, 0, [], .int 32, []),
  (13, .invokevirtual 46, 16, 57, 3, [(0, 4)], .int 0, [384, 385, 386, 67]),
  (16, .putfield 33, 19, 3, 2, [], .null, [177]),
  (19, .aload_n 0, 20, 0, 0, [], .null, []),
  (20, .aload_n 0, 21, 0, 0, [], .null, []),
  (21, .getfield 9, 24, 3, 0, [], .null, [175]),
  (24, .aload_n 0, 25, 0, 0, [], .null, []),
  (25, .getfield 33, 28, 3, 2, [], .null, [177]),
  (28, .bipush 97, 30, 0, 0, [], .int 97, []),
  (30, .bipush 122, 32, 0, 0, [], .int 122, []),
  (32, .invokevirtual 46, 35, 57, 3, [(0, 4)], .int 0, [384, 385, 386, 67]),
  (35, .putfield 23, 38, 3, 3, [], .null, [178]),
  (38, .aload_n 0, 39, 0, 0, [], .null, []),
  (39, .getfield 23, 42, 3, 3, [], .null, [178]),
  (42, .aload_n 0, 43, 0, 0, [], .null, []),
  (43, .getfield 33, 46, 3, 2, [], .null, [177]),
  (46, .if_icmp .ne 22, 49, 68, 0, [], .null, []),
  (49, .aload_n 0, 50, 0, 0, [], .null, []),
  (50, .aload_n 0, 51, 0, 0, [], .null, []),
  (51, .getfield 9, 54, 3, 0, [], .null, [175]),
  (54, .aload_n 0, 55, 0, 0, [], .null, []),
  (55, .getfield 33, 58, 3, 2, [], .null, [177]),
  (58, .bipush 48, 60, 0, 0, [], .int 48, []),
  (60, .bipush 57, 62, 0, 0, [], .int 57, []),
  (62, .invokevirtual 46, 65, 57, 3, [(0, 4)], .int 0, [384, 385, 386, 67]),
  (65, .putfield 23, 68, 3, 3, [], .null, [178]),
  (68, .aload_n 0, 69, 0, 0, [], .null, []),
  (69, .getfield 23, 72, 3, 3, [], .null, [178]),
  (72, .aload_n 0, 73, 0, 0, [], .null, []),
  (73, .getfield 33, 76, 3, 2, [], .null, [177]),
  (76, .if_icmp .ne 27, 79, 103, 0, [], .null, []),
  (79, .aload_n 0, 80, 0, 0, [], .null, []),
  (80, .getfield 33, 83, 3, 2, [], .null, [177]),
  (83, .aload_n 0, 84, 0, 0, [], .null, []),
  (84, .getfield 9, 87, 3, 0, [], .null, [175]),
  (87, .invokevirtual 36, 90, 52, 0, [(0, 4)], .int 0, [391, 345, 346, 67]),
  (90, .if_icmp .ge 13, 93, 103, 0, [], .null, []),
  (93, .aload_n 0, 94, 0, 0, [], .null, []),
  (94, .aload_n 0, 95, 0, 0, [], .null, []),
  (95, .getfield 33, 98, 3, 2, [], .null, [177]),
  (98, .iconst 1, 99, 0, 0, [], .int 1, []),
  (99, .iadd, 100, 0, 0, [], .null, []),
  (100, .putfield 23, 103, 3, 3, [], .null, [178]),
  (103, .return_, 104, 0, 0, [], .null, [])]
theorem oX3_advance : tX3_advance.all (okE (sX3_advance).1.cls (sX3_advance).2.1) = true := by decide +kernel
def tX3_tokenIs : List Ent := [(0, .aload_n 0, 1, 0, 0, [], .null, []),
  (1, .getfield 23, 4, 3, 3, [], .null, [178]),
  (4, .aload_n 0, 5, 0, 0, [], .null, []),
  (5, .getfield 33, 8, 3, 2, [], .null, [177]),
  (8, .isub, 9, 0, 0, [], .null, []),
  (9, .aload_n 1, 10, 1, 0, [], .null, []),
  (10, .invokevirtual 50, 13, 190, 0, [(0, 20)], .int 0, [401, 402, 403, 80]),
  (13, .if_icmp .eq 5, 16, 18, 0, [], .null, []),
  (16, .iconst 0, 17, 0, 0, [], .int 0, []),
  (17, .ireturn, 18, 0, 0, [], .null, []),
  (18, .iconst 0, 19, 0, 0, [], .int 0, []),
  (19, .istore_n 2, 20, 2, 0, [], .null, []),
  (20, .iload_n 2, 21, 2, 0, [], .null, []),
  (21, .aload_n 1, 22, 1, 0, [], .null, []),
  (22, .invokevirtual 50, 25, 190, 0, [(0, 20)], .int 0, [401, 402, 403, 80]),
  (25, .if_icmp .ge 32, 28, 57, 0, [], .null, []),
  (28, .aload_n 0, 29, 0, 0, [], .null, []),
  (29, .getfield 9, 32, 3, 0, [], .null, [175]),
  (32, .aload_n 0, 33, 0, 0, [], .null, []),
  (33, .getfield 33, 36, 3, 2, [], .null, [177]),
  (36, .iload_n 2, 37, 2, 0, [], .null, []),
  (37, .iadd, 38, 0, 0, [], .null, []),
  (38, .invokevirtual 42, 41, 56, 1, [(0, 4)], .int 0, [411, 412, 413, 67]),
  (41, .aload_n 1, 42, 1, 0, [], .null, []),
  (42, .iload_n 2, 43, 2, 0, [], .null, []),
  (43, .invokevirtual 53, 46, 191, 1, [(0, 20)], .int 0, [415, 416, 417, 80]),
  (46, .if_icmp .eq 5, 49, 51, 0, [], .null, []),
  (49, .iconst 0, 50, 0, 0, [], .int 0, []),
  (50, .ireturn, 51, 0, 0, [], .null, []),
  (51, .iinc 2 1, 54, 2, 0, [], .int 1, []),
  (54, .goto (-34), 57, 20, 0, [], .null, []),
  (57, .iconst 1, 58, 0, 0, [], .int 1, []),
  (58, .ireturn, 59, 0, 0, [], .null, [])]
theorem oX3_tokenIs : tX3_tokenIs.all (okE (sX3_tokenIs).1.cls (sX3_tokenIs).2.1) = true := by decide +kernel
def tX3_takeNumber : List Ent := [(0, .aload_n 0, 1, 0, 0, [], .null, []),
  (1, .getfield 23, 4, 3, 3, [], .null, [178]),
  (4, .aload_n 0, 5, 0, 0, [], .null, []),
  (5, .getfield 33, 8, 3, 2, [], .null, [177]),
  (8, .if_icmp .eq 16, 11, 24, 0, [], .null, []),
  (11, .aload_n 0, 12, 0, 0, [], .null, []),
  (12, .getfield 23, 15, 3, 3, [], .null, [178]),
  (15, .aload_n 0, 16, 0, 0, [], .null, []),
  (16, .getfield 33, 19, 3, 2, [], .null, [177]),
  (19, .isub, 20, 0, 0, [], .null, []),
  (20, .iconst 2, 21, 0, 0, [], .int 2, []),
  (21, .if_icmp .le 5, 24, 26, 0, [], .null, []),
  (24, .iconst (-1), 25, 0, 0, [], .int (-1), []),
  (25, .ireturn, 26, 0, 0, [], .null, []),
  (26, .iconst 0, 27, 0, 0, [], .int 0, []),
  (27, .istore_n 3, 28, 3, 0, [], .null, []),
  (28, .aload_n 0, 29, 0, 0, [], .null, []),
  (29, .getfield 33, 32, 3, 2, [], .null, [177]),
  (32, .istore 4, 34, 4, 0, [], .null, []),
  (34, .iload 4, 36, 4, 0, [], .null, []),
  (36, .aload_n 0, 37, 0, 0, [], .null, []),
  (37, .getfield 23, 40, 3, 3, [], .null, [178]),
  (40, .if_icmp .ge 45, 43, 85, 0, [], .null, []),
  (43, .aload_n 0, 44, 0, 0, [], .null, []),
  (44, .getfield 9, 47, 3, 0, [], .null, [175]),
  (47, .iload 4, 49, 4, 0, [], .null, []),
  (49, .invokevirtual 42, 52, 56, 1, [(0, 4)], .int 0, [411, 412, 413, 67]),
  (52, .bipush 48, 54, 0, 0, [], .int 48, []),
  (54, .isub, 55, 0, 0, [], .null, []),
  (55, .istore 5, 57, 5, 0, [], .null, []),
  (57, .iload 5, 59, 5, 0, [], .null, []),
  (59, .ifCond .lt 10, 62, 69, 0, [], .null, []),
  (62, .iload 5, 64, 5, 0, [], .null, []),
  (64, .bipush 9, 66, 0, 0, [], .int 9, []),
  (66, .if_icmp .le 5, 69, 71, 0, [], .null, []),
  (69, .iconst (-1), 70, 0, 0, [], .int (-1), []),
  (70, .ireturn, 71, 0, 0, [], .null, []),
  (71, .bipush 10, 73, 0, 0, [], .int 10, []),
  (73, .iload_n 3, 74, 3, 0, [], .null, []),
  (74, .imul, 75, 0, 0, [], .null, []),
  (75, .iload 5, 77, 5, 0, [], .null, []),
  (77, .iadd, 78, 0, 0, [], .null, []),
  (78, .istore_n 3, 79, 3, 0, [], .null, []),
  (79, .iinc 4 1, 82, 4, 0, [], .int 1, []),
  (82, .goto (-48), 85, 34, 0, [], .null, []),
  (85, .iload_n 3, 86, 3, 0, [], .null, []),
  (86, .iload_n 1, 87, 1, 0, [], .null, []),
  (87, .if_icmp .lt 8, 90, 95, 0, [], .null, []),
  (90, .iload_n 3, 91, 3, 0, [], .null, []),
  (91, .iload_n 2, 92, 2, 0, [], .null, []),
  (92, .if_icmp .le 5, 95, 97, 0, [], .null, []),
  (95, .iconst (-1), 96, 0, 0, [], .int (-1), []),
  (96, .ireturn, 97, 0, 0, [], .null, []),
  (97, .aload_n 0, 98, 0, 0, [], .null, []),
  (98, .invokevirtual 26, 101, 41, 0, [(0, 3)], .null, [380, 382, 0, 71]),
  (101, .iload_n 3, 102, 3, 0, [], .null, []),
  (102, .ireturn, 103, 0, 0, [], .null, [])]
theorem oX3_takeNumber : tX3_takeNumber.all (okE (sX3_takeNumber).1.cls (sX3_takeNumber).2.1) = true := by decide +kernel
def tX3_doLine : List Ent := [(0, .aload_n 0, 1, 0, 0, [], .null, []),
  (1, .ldc 57, 3, 0, 0, [], .ref 100, []),
  (3, .invokevirtual 59, 6, 42, 1, [(0, 3)], .int 0, [397, 399, 2, 71]),
  (6, .ifCond .eq 8, 9, 14, 0, [], .null, []),
  (9, .aload_n 0, 10, 0, 0, [], .null, []),
  (10, .invokevirtual 63, 13, 45, 0, [(0, 3)], .int 0, [453, 455, 3, 71]),
  (13, .ireturn, 14, 0, 0, [], .null, []),
  (14, .aload_n 0, 15, 0, 0, [], .null, []),
  (15, .ldc 66, 17, 1, 0, [], .ref 101, []),
  (17, .invokevirtual 59, 20, 42, 1, [(0, 3)], .int 0, [397, 399, 2, 71]),
  (20, .ifCond .eq 8, 23, 28, 0, [], .null, []),
  (23, .aload_n 0, 24, 0, 0, [], .null, []),
  (24, .invokevirtual 68, 27, 46, 0, [(0, 3)], .int 0, [470, 472, 5, 71]),
  (27, .ireturn, 28, 0, 0, [], .null, []),
  (28, .aload_n 0, 29, 0, 0, [], .null, []),
  (29, .ldc 71, 31, 2, 0, [], .ref 102, []),
  (31, .invokevirtual 59, 34, 42, 1, [(0, 3)], .int 0, [397, 399, 2, 71]),
  (34, .ifCond .eq 8, 37, 42, 0, [], .null, []),
  (37, .aload_n 0, 38, 0, 0, [], .null, []),
  (38, .invokevirtual 73, 41, 47, 0, [(0, 3)], .int 0, [500, 502, 7, 71]),
  (41, .ireturn, 42, 0, 0, [], .null, []),
  (42, .aload_n 0, 43, 0, 0, [], .null, []),
  (43, .ldc 76, 45, 3, 0, [], .ref 103, []),
  (45, .invokevirtual 59, 48, 42, 1, [(0, 3)], .int 0, [397, 399, 2, 71]),
  (48, .ifCond .eq 8, 51, 56, 0, [], .null, []),
  (51, .aload_n 0, 52, 0, 0, [], .null, []),
  (52, .invokevirtual 78, 55, 48, 0, [(0, 3)], .int 0, [509, 511, 8, 71]),
  (55, .ireturn, 56, 0, 0, [], .null, []),
  (56, .aload_n 0, 57, 0, 0, [], .null, []),
  (57, .ldc 81, 59, 4, 0, [], .ref 104, []),
  (59, .invokevirtual 59, 62, 42, 1, [(0, 3)], .int 0, [397, 399, 2, 71]),
  (62, .ifCond .eq 9, 65, 71, 0, [], .null, []),
  (65, .aload_n 0, 66, 0, 0, [], .null, []),
  (66, .iconst 1, 67, 0, 0, [], .int 1, []),
  (67, .invokevirtual 83, 70, 49, 1, [(0, 3)], .int 0, [518, 520, 9, 71]),
  (70, .ireturn, 71, 0, 0, [], .null, []),
  (71, .aload_n 0, 72, 0, 0, [], .null, []),
  (72, .ldc 87, 74, 5, 0, [], .ref 105, []),
  (74, .invokevirtual 59, 77, 42, 1, [(0, 3)], .int 0, [397, 399, 2, 71]),
  (77, .ifCond .eq 9, 80, 86, 0, [], .null, []),
  (80, .aload_n 0, 81, 0, 0, [], .null, []),
  (81, .iconst 0, 82, 0, 0, [], .int 0, []),
  (82, .invokevirtual 83, 85, 49, 1, [(0, 3)], .int 0, [518, 520, 9, 71]),
  (85, .ireturn, 86, 0, 0, [], .null, []),
  (86, .aload_n 0, 87, 0, 0, [], .null, []),
  (87, .ldc 89, 89, 6, 0, [], .ref 106, []),
  (89, .invokevirtual 59, 92, 42, 1, [(0, 3)], .int 0, [397, 399, 2, 71]),
  (92, .ifCond .eq 9, 95, 101, 0, [], .null, []),
  (95, .aload_n 0, 96, 0, 0, [], .null, []),
  (96, .iconst 1, 97, 0, 0, [], .int 1, []),
  (97, .invokevirtual 91, 100, 50, 1, [(0, 3)], .int 0, [532, 534, 10, 71]),
  (100, .ireturn, 101, 0, 0, [], .null, []),
  (101, .aload_n 0, 102, 0, 0, [], .null, []),
  (102, .ldc 94, 104, 7, 0, [], .ref 107, []),
  (104, .invokevirtual 59, 107, 42, 1, [(0, 3)], .int 0, [397, 399, 2, 71]),
  (107, .ifCond .eq 9, 110, 116, 0, [], .null, []),
  (110, .aload_n 0, 111, 0, 0, [], .null, []),
  (111, .iconst 0, 112, 0, 0, [], .int 0, []),
  (112, .invokevirtual 91, 115, 50, 1, [(0, 3)], .int 0, [532, 534, 10, 71]),
  (115, .ireturn, 116, 0, 0, [], .null, []),
  (116, .aload_n 0, 117, 0, 0, [], .null, []),
  (117, .ldc 96, 119, 8, 0, [], .ref 108, []),
  (119, .invokevirtual 59, 122, 42, 1, [(0, 3)], .int 0, [397, 399, 2, 71]),
  (122, .ifCond .eq 14, 125, 136, 0, [], .null, []),
  (125, .aload_n 0, 126, 0, 0, [], .null, []),
  (126, .invokevirtual 98, 129, 51, 0, [(0, 3)], .int 0, [542, 544, 11, 71]),
  (129, .ifCond .eq 7, 132, 136, 0, [], .null, []),
  (132, .iconst 1, 133, 0, 0, [], .int 1, []),
  (133, .goto 4, 136, 137, 0, [], .null, []),
  (136, .iconst 0, 137, 0, 0, [], .int 0, []),
  (137, .ireturn, 138, 0, 0, [], .null, [])]
theorem oX3_doLine : tX3_doLine.all (okE (sX3_doLine).1.cls (sX3_doLine).2.1) = true := by decide +kernel
def tX3_doOrder : List Ent := [(0, .aload_n 0, 1, 0, 0, [], .null, []),
  (1, .invokevirtual 26, 4, 41, 0, [(0, 3)], .null, [380, 382, 0, 71]),
  (4, .aload_n 0, 5, 0, 0, [], .null, []),
  (5, .iconst 1, 6, 0, 0, [], .int 1, []),
  (6, .iconst 5, 7, 0, 0, [], .int 5, []),
  (7, .invokevirtual 101, 10, 43, 2, [(0, 3)], .int 0, [457, 459, 4, 71]),
  (10, .istore_n 1, 11, 1, 0, [], .null, []),
  (11, .iload_n 1, 12, 1, 0, [], .null, []),
  (12, .iconst (-1), 13, 0, 0, [], .int (-1), []),
  (13, .if_icmp .ne 5, 16, 18, 0, [], .null, []),
  (16, .iconst 0, 17, 0, 0, [], .int 0, []),
  (17, .ireturn, 18, 0, 0, [], .null, []),
  (18, .aload_n 0, 19, 0, 0, [], .null, []),
  (19, .getfield 15, 22, 3, 1, [], .null, [176]),
  (22, .getfield 105, 25, 8, 1, [], .null, [163]),
  (25, .iload_n 1, 26, 1, 0, [], .null, []),
  (26, .invokevirtual 111, 29, 1, 1, [(0, 0)], .null, [461, 462, 463, 70]),
  (29, .iconst 1, 30, 0, 0, [], .int 1, []),
  (30, .ireturn, 31, 0, 0, [], .null, [])]
theorem oX3_doOrder : tX3_doOrder.all (okE (sX3_doOrder).1.cls (sX3_doOrder).2.1) = true := by decide +kernel
def tX3_doWord : List Ent := [(0, .aload_n 0, 1, 0, 0, [], .null, []),
  (1, .getfield 15, 4, 3, 1, [], .null, [176]),
  (4, .getfield 117, 7, 8, 0, [], .null, [158]),
  (7, .invokevirtual 121, 10, 92, 0, [(0, 9)], .int 0, [474, 475, 476, 69]),
  (10, .ifCond .eq 5, 13, 15, 0, [], .null, []),
  (13, .iconst 0, 14, 0, 0, [], .int 0, []),
  (14, .ireturn, 15, 0, 0, [], .null, []),
  (15, .aload_n 0, 16, 0, 0, [], .null, []),
  (16, .invokevirtual 26, 19, 41, 0, [(0, 3)], .null, [380, 382, 0, 71]),
  (19, .aload_n 0, 20, 0, 0, [], .null, []),
  (20, .iconst 0, 21, 0, 0, [], .int 0, []),
  (21, .iconst 2, 22, 0, 0, [], .int 2, []),
  (22, .invokevirtual 101, 25, 43, 2, [(0, 3)], .int 0, [457, 459, 4, 71]),
  (25, .istore_n 1, 26, 1, 0, [], .null, []),
  (26, .iload_n 1, 27, 1, 0, [], .null, []),
  (27, .iconst (-1), 28, 0, 0, [], .int (-1), []),
  (28, .if_icmp .eq 35, 31, 63, 0, [], .null, []),
  (31, .aload_n 0, 32, 0, 0, [], .null, []),
  (32, .getfield 9, 35, 3, 0, [], .null, [175]),
  (35, .aload_n 0, 36, 0, 0, [], .null, []),
  (36, .getfield 33, 39, 3, 2, [], .null, [177]),
  (39, .invokevirtual 42, 42, 56, 1, [(0, 4)], .int 0, [411, 412, 413, 67]),
  (42, .bipush 97, 44, 0, 0, [], .int 97, []),
  (44, .if_icmp .lt 19, 47, 63, 0, [], .null, []),
  (47, .aload_n 0, 48, 0, 0, [], .null, []),
  (48, .getfield 9, 51, 3, 0, [], .null, [175]),
  (51, .aload_n 0, 52, 0, 0, [], .null, []),
  (52, .getfield 33, 55, 3, 2, [], .null, [177]),
  (55, .invokevirtual 42, 58, 56, 1, [(0, 4)], .int 0, [411, 412, 413, 67]),
  (58, .bipush 122, 60, 0, 0, [], .int 122, []),
  (60, .if_icmp .le 5, 63, 65, 0, [], .null, []),
  (63, .iconst 0, 64, 0, 0, [], .int 0, []),
  (64, .ireturn, 65, 0, 0, [], .null, []),
  (65, .aload_n 0, 66, 0, 0, [], .null, []),
  (66, .getfield 23, 69, 3, 3, [], .null, [178]),
  (69, .aload_n 0, 70, 0, 0, [], .null, []),
  (70, .getfield 33, 73, 3, 2, [], .null, [177]),
  (73, .isub, 74, 0, 0, [], .null, []),
  (74, .bipush 10, 76, 0, 0, [], .int 10, []),
  (76, .if_icmp .gt 28, 79, 104, 0, [], .null, []),
  (79, .aload_n 0, 80, 0, 0, [], .null, []),
  (80, .getfield 15, 83, 3, 1, [], .null, [176]),
  (83, .getfield 117, 86, 8, 0, [], .null, [158]),
  (86, .aload_n 0, 87, 0, 0, [], .null, []),
  (87, .getfield 9, 90, 3, 0, [], .null, [175]),
  (90, .aload_n 0, 91, 0, 0, [], .null, []),
  (91, .getfield 33, 94, 3, 2, [], .null, [177]),
  (94, .aload_n 0, 95, 0, 0, [], .null, []),
  (95, .getfield 23, 98, 3, 3, [], .null, [178]),
  (98, .invokevirtual 126, 101, 101, 3, [(0, 9)], .int 0, [478, 479, 480, 69]),
  (101, .ifCond .eq 5, 104, 106, 0, [], .null, []),
  (104, .iconst 0, 105, 0, 0, [], .int 0, []),
  (105, .ireturn, 106, 0, 0, [], .null, []),
  (106, .aload_n 0, 107, 0, 0, [], .null, []),
  (107, .getfield 15, 110, 3, 1, [], .null, [176]),
  (110, .getfield 117, 113, 8, 0, [], .null, [158]),
  (113, .iload_n 1, 114, 1, 0, [], .null, []),
  (114, .aload_n 0, 115, 0, 0, [], .null, []),
  (115, .getfield 9, 118, 3, 0, [], .null, [175]),
  (118, .aload_n 0, 119, 0, 0, [], .null, []),
  (119, .getfield 33, 122, 3, 2, [], .null, [177]),
  (122, .aload_n 0, 123, 0, 0, [], .null, []),
  (123, .getfield 23, 126, 3, 3, [], .null, [178]),
  (126, .invokevirtual 130, 129, 103, 4, [(0, 9)], .null, [495, 496, 497, 69]),
  (129, .aload_n 0, 130, 0, 0, [], .null, []),
  (130, .invokevirtual 26, 133, 41, 0, [(0, 3)], .null, [380, 382, 0, 71]),
  (133, .iconst 1, 134, 0, 0, [], .int 1, []),
  (134, .ireturn, 135, 0, 0, [], .null, [])]
theorem oX3_doWord : tX3_doWord.all (okE (sX3_doWord).1.cls (sX3_doWord).2.1) = true := by decide +kernel
def tX3_doNot : List Ent := [(0, .aload_n 0, 1, 0, 0, [], .null, []),
  (1, .invokevirtual 26, 4, 41, 0, [(0, 3)], .null, [380, 382, 0, 71]),
  (4, .aload_n 0, 5, 0, 0, [], .null, []),
  (5, .iconst 0, 6, 0, 0, [], .int 0, []),
  (6, .iconst 2, 7, 0, 0, [], .int 2, []),
  (7, .invokevirtual 101, 10, 43, 2, [(0, 3)], .int 0, [457, 459, 4, 71]),
  (10, .istore_n 1, 11, 1, 0, [], .null, []),
  (11, .iload_n 1, 12, 1, 0, [], .null, []),
  (12, .iconst (-1), 13, 0, 0, [], .int (-1), []),
  (13, .if_icmp .ne 5, 16, 18, 0, [], .null, []),
  (16, .iconst 0, 17, 0, 0, [], .int 0, []),
  (17, .ireturn, 18, 0, 0, [], .null, []),
  (18, .aload_n 0, 19, 0, 0, [], .null, []),
  (19, .iconst 0, 20, 0, 0, [], .int 0, []),
  (20, .iconst 2, 21, 0, 0, [], .int 2, []),
  (21, .invokevirtual 101, 24, 43, 2, [(0, 3)], .int 0, [457, 459, 4, 71]),
  (24, .istore_n 2, 25, 2, 0, [], .null, []),
  (25, .iload_n 2, 26, 2, 0, [], .null, []),
  (26, .iconst (-1), 27, 0, 0, [], .int (-1), []),
  (27, .if_icmp .ne 5, 30, 32, 0, [], .null, []),
  (30, .iconst 0, 31, 0, 0, [], .int 0, []),
  (31, .ireturn, 32, 0, 0, [], .null, []),
  (32, .aload_n 0, 33, 0, 0, [], .null, []),
  (33, .getfield 15, 36, 3, 1, [], .null, [176]),
  (36, .getfield 117, 39, 8, 0, [], .null, [158]),
  (39, .iload_n 1, 40, 1, 0, [], .null, []),
  (40, .iload_n 2, 41, 2, 0, [], .null, []),
  (41, .invokevirtual 134, 44, 99, 2, [(0, 9)], .null, [504, 505, 506, 69]),
  (44, .iconst 1, 45, 0, 0, [], .int 1, []),
  (45, .ireturn, 46, 0, 0, [], .null, [])]
theorem oX3_doNot : tX3_doNot.all (okE (sX3_doNot).1.cls (sX3_doNot).2.1) = true := by decide +kernel
def tX3_doFree : List Ent := [(0, .aload_n 0, 1, 0, 0, [], .null, []),
  (1, .invokevirtual 26, 4, 41, 0, [(0, 3)], .null, [380, 382, 0, 71]),
  (4, .aload_n 0, 5, 0, 0, [], .null, []),
  (5, .getfield 15, 8, 3, 1, [], .null, [176]),
  (8, .getfield 117, 11, 8, 0, [], .null, [158]),
  (11, .invokevirtual 138, 14, 100, 0, [(0, 9)], .null, [513, 514, 515, 69]),
  (14, .iconst 1, 15, 0, 0, [], .int 1, []),
  (15, .ireturn, 16, 0, 0, [], .null, [])]
theorem oX3_doFree : tX3_doFree.all (okE (sX3_doFree).1.cls (sX3_doFree).2.1) = true := by decide +kernel
def tX3_doAway : List Ent := [(0, .aload_n 0, 1, 0, 0, [], .null, []),
  (1, .invokevirtual 26, 4, 41, 0, [(0, 3)], .null, [380, 382, 0, 71]),
  (4, .aload_n 0, 5, 0, 0, [], .null, []),
  (5, .iconst 0, 6, 0, 0, [], .int 0, []),
  (6, .aload_n 0, 7, 0, 0, [], .null, []),
  (7, .getfield 15, 10, 3, 1, [], .null, [176]),
  (10, .getfield 105, 13, 8, 1, [], .null, [163]),
  (13, .invokevirtual 141, 16, 2, 0, [(0, 0)], .int 0, [522, 523, 524, 70]),
  (16, .iconst 1, 17, 0, 0, [], .int 1, []),
  (17, .isub, 18, 0, 0, [], .null, []),
  (18, .invokevirtual 101, 21, 43, 2, [(0, 3)], .int 0, [457, 459, 4, 71]),
  (21, .istore_n 2, 22, 2, 0, [], .null, []),
  (22, .iload_n 2, 23, 2, 0, [], .null, []),
  (23, .iconst (-1), 24, 0, 0, [], .int (-1), []),
  (24, .if_icmp .ne 5, 27, 29, 0, [], .null, []),
  (27, .iconst 0, 28, 0, 0, [], .int 0, []),
  (28, .ireturn, 29, 0, 0, [], .null, []),
  (29, .aload_n 0, 30, 0, 0, [], .null, []),
  (30, .getfield 15, 33, 3, 1, [], .null, [176]),
  (33, .getfield 105, 36, 8, 1, [], .null, [163]),
  (36, .iload_n 2, 37, 2, 0, [], .null, []),
  (37, .iload_n 1, 38, 1, 0, [], .null, []),
  (38, .invokevirtual 144, 41, 8, 2, [(0, 0)], .null, [526, 527, 528, 70]),
  (41, .iconst 1, 42, 0, 0, [], .int 1, []),
  (42, .ireturn, 43, 0, 0, [], .null, [])]
theorem oX3_doAway : tX3_doAway.all (okE (sX3_doAway).1.cls (sX3_doAway).2.1) = true := by decide +kernel
def tX3_doHoarse : List Ent := [(0, .aload_n 0, 1, 0, 0, [], .null, []),
  (1, .invokevirtual 26, 4, 41, 0, [(0, 3)], .null, [380, 382, 0, 71]),
  (4, .aload_n 0, 5, 0, 0, [], .null, []),
  (5, .iconst 0, 6, 0, 0, [], .int 0, []),
  (6, .aload_n 0, 7, 0, 0, [], .null, []),
  (7, .getfield 15, 10, 3, 1, [], .null, [176]),
  (10, .getfield 105, 13, 8, 1, [], .null, [163]),
  (13, .invokevirtual 141, 16, 2, 0, [(0, 0)], .int 0, [522, 523, 524, 70]),
  (16, .iconst 1, 17, 0, 0, [], .int 1, []),
  (17, .isub, 18, 0, 0, [], .null, []),
  (18, .invokevirtual 101, 21, 43, 2, [(0, 3)], .int 0, [457, 459, 4, 71]),
  (21, .istore_n 2, 22, 2, 0, [], .null, []),
  (22, .iload_n 2, 23, 2, 0, [], .null, []),
  (23, .iconst (-1), 24, 0, 0, [], .int (-1), []),
  (24, .if_icmp .ne 5, 27, 29, 0, [], .null, []),
  (27, .iconst 0, 28, 0, 0, [], .int 0, []),
  (28, .ireturn, 29, 0, 0, [], .null, []),
  (29, .aload_n 0, 30, 0, 0, [], .null, []),
  (30, .getfield 15, 33, 3, 1, [], .null, [176]),
  (33, .getfield 105, 36, 8, 1, [], .null, [163]),
  (36, .iload_n 2, 37, 2, 0, [], .null, []),
  (37, .iload_n 1, 38, 1, 0, [], .null, []),
  (38, .invokevirtual 148, 41, 9, 2, [(0, 0)], .null, [536, 537, 538, 70]),
  (41, .iconst 1, 42, 0, 0, [], .int 1, []),
  (42, .ireturn, 43, 0, 0, [], .null, [])]
theorem oX3_doHoarse : tX3_doHoarse.all (okE (sX3_doHoarse).1.cls (sX3_doHoarse).2.1) = true := by decide +kernel
def tX3_doLate : List Ent := [(0, .aload_n 0, 1, 0, 0, [], .null, []),
  (1, .invokevirtual 26, 4, 41, 0, [(0, 3)], .null, [380, 382, 0, 71]),
  (4, .aload_n 0, 5, 0, 0, [], .null, []),
  (5, .iconst 0, 6, 0, 0, [], .int 0, []),
  (6, .aload_n 0, 7, 0, 0, [], .null, []),
  (7, .getfield 15, 10, 3, 1, [], .null, [176]),
  (10, .getfield 105, 13, 8, 1, [], .null, [163]),
  (13, .invokevirtual 141, 16, 2, 0, [(0, 0)], .int 0, [522, 523, 524, 70]),
  (16, .iconst 1, 17, 0, 0, [], .int 1, []),
  (17, .isub, 18, 0, 0, [], .null, []),
  (18, .invokevirtual 101, 21, 43, 2, [(0, 3)], .int 0, [457, 459, 4, 71]),
  (21, .istore_n 1, 22, 1, 0, [], .null, []),
  (22, .iload_n 1, 23, 1, 0, [], .null, []),
  (23, .iconst (-1), 24, 0, 0, [], .int (-1), []),
  (24, .if_icmp .ne 5, 27, 29, 0, [], .null, []),
  (27, .iconst 0, 28, 0, 0, [], .int 0, []),
  (28, .ireturn, 29, 0, 0, [], .null, []),
  (29, .aload_n 0, 30, 0, 0, [], .null, []),
  (30, .iconst 0, 31, 0, 0, [], .int 0, []),
  (31, .iconst 3, 32, 0, 0, [], .int 3, []),
  (32, .invokevirtual 101, 35, 43, 2, [(0, 3)], .int 0, [457, 459, 4, 71]),
  (35, .istore_n 2, 36, 2, 0, [], .null, []),
  (36, .iload_n 2, 37, 2, 0, [], .null, []),
  (37, .iconst (-1), 38, 0, 0, [], .int (-1), []),
  (38, .if_icmp .ne 5, 41, 43, 0, [], .null, []),
  (41, .iconst 0, 42, 0, 0, [], .int 0, []),
  (42, .ireturn, 43, 0, 0, [], .null, []),
  (43, .aload_n 0, 44, 0, 0, [], .null, []),
  (44, .getfield 15, 47, 3, 1, [], .null, [176]),
  (47, .getfield 105, 50, 8, 1, [], .null, [163]),
  (50, .iload_n 1, 51, 1, 0, [], .null, []),
  (51, .iload_n 2, 52, 2, 0, [], .null, []),
  (52, .invokevirtual 151, 55, 10, 2, [(0, 0)], .null, [546, 547, 548, 70]),
  (55, .iconst 1, 56, 0, 0, [], .int 1, []),
  (56, .ireturn, 57, 0, 0, [], .null, [])]
theorem oX3_doLate : tX3_doLate.all (okE (sX3_doLate).1.cls (sX3_doLate).2.1) = true := by decide +kernel
def tX4_length : List Ent := [(0, .aload_n 0, 1, 0, 0, [], .null, []),
  (1, .getfield 15, 4, 4, 1, [], .null, [100]),
  (4, .ireturn, 5, 0, 0, [], .null, [])]
theorem oX4_length : tX4_length.all (okE (sX4_length).1.cls (sX4_length).2.1) = true := by decide +kernel
def tX4_hasRoom : List Ent := [(0, .iload_n 1, 1, 1, 0, [], .null, []),
  (1, .sipush 200, 4, 0, 0, [], .int 200, []),
  (4, .aload_n 0, 5, 0, 0, [], .null, []),
  (5, .getfield 15, 8, 4, 1, [], .null, [100]),
  (8, .isub, 9, 0, 0, [], .null, []),
  (9, .if_icmp .gt 7, 12, 16, 0, [], .null, []),
  (12, .iconst 1, 13, 0, 0, [], .int 1, []),
  (13, .goto 4, 16, 17, 0, [], .null, []),
  (16, .iconst 0, 17, 0, 0, [], .int 0, []),
  (17, .ireturn, 18, 0, 0, [], .null, [])]
theorem oX4_hasRoom : tX4_hasRoom.all (okE (sX4_hasRoom).1.cls (sX4_hasRoom).2.1) = true := by decide +kernel
def tX4_append : List Ent := [(0, .iconst 0, 1, 0, 0, [], .int 0, []),
  (1, .istore 4, 3, 4, 0, [], .null, []),
  (3, .iload 4, 5, 4, 0, [], .null, []),
  (5, .iload_n 3, 6, 3, 0, [], .null, []),
  (6, .if_icmp .ge 50, 9, 56, 0, [], .null, []),
  (9, .aload_n 0, 10, 0, 0, [], .null, []),
  (10, .getfield 15, 13, 4, 1, [], .null, [100]),
  (13, .sipush 200, 16, 0, 0, [], .int 200, []),
  (16, .if_icmp .ge 40, 19, 56, 0, [], .null, []),
  (19, .aload_n 0, 20, 0, 0, [], .null, []),
  (20, .getfield 9, 23, 4, 0, [], .null, [99]),
  (23, .aload_n 0, 24, 0, 0, [], .null, []),
  (24, .getfield 15, 27, 4, 1, [], .null, [100]),
  (27, .lload_n 1, 28, 1, 0, [], .null, []),
  (28, .bipush 8, 30, 0, 0, [], .int 8, []),
  (30, .iload 4, 32, 4, 0, [], .null, []),
  (32, .imul, 33, 0, 0, [], .null, []),
  (33, .lshr, 34, 0, 0, [], .null, []),
  (34, .ldc2_w 19, 37, 0, 0, [], .long 255, [343]),
  (37, .land, 38, 0, 0, [], .null, []),
  (38, .l2i, 39, 0, 0, [], .null, []),
  (39, .iastore, 40, 0, 0, [], .null, []),
  (40, .aload_n 0, 41, 0, 0, [], .null, []),
  (41, .dup, 42, 0, 0, [], .null, []),
  (42, .getfield 15, 45, 4, 1, [], .null, [100]),
  (45, .iconst 1, 46, 0, 0, [], .int 1, []),
  (46, .iadd, 47, 0, 0, [], .null, []),
  (47, .putfield 15, 50, 4, 1, [], .null, [100]),
  (50, .iinc 4 1, 53, 4, 0, [], .int 1, []),
  (53, .goto (-50), 56, 3, 0, [], .null, []),
  (56, .return_, 57, 0, 0, [], .null, [])]
theorem oX4_append : tX4_append.all (okE (sX4_append).1.cls (sX4_append).2.1) = true := by decide +kernel
def tX4_makeEmpty : List Ent := [(0, .aload_n 0, 1, 0, 0, [], .null, []),
  (1, .getfield 15, 4, 4, 1, [], .null, [100]),
  (4, .istore_n 1, 5, 1, 0, [], .null, []),
  (5, .aload_n 0, 6, 0, 0, [], .null, []),
  (6, .iconst 0, 7, 0, 0, [], .int 0, []),
  (7, .putfield 15, 10, 4, 1, [], .null, [100]),
  (10, .iload_n 1, 11, 1, 0, [], .null, []),
  (11, .ireturn, 12, 0, 0, [], .null, [])]
theorem oX4_makeEmpty : tX4_makeEmpty.all (okE (sX4_makeEmpty).1.cls (sX4_makeEmpty).2.1) = true := by decide +kernel
def tX4_at : List Ent := [(0, .iload_n 1, 1, 1, 0, [], .null, []),
  (1, .ifCond .lt 11, 4, 12, 0, [], .null, []),
  (4, .iload_n 1, 5, 1, 0, [], .null, []),
  (5, .aload_n 0, 6, 0, 0, [], .null, []),
  (6, .getfield 15, 9, 4, 1, [], .null, [100]),
  (9, .if_icmp .lt 7, 12, 16, 0, [], .null, []),
  (12, .iconst (-1), 13, 0, 0, [], .int (-1), []),
  (13, .goto 9, 16, 22, 0, [], .null, []),
  (16, .aload_n 0, 17, 0, 0, [], .null, []),
  (17, .getfield 9, 20, 4, 0, [], .null, [99]),
  (20, .iload_n 1, 21, 1, 0, [], .null, []),
  (21, .iaload, 22, 0, 0, [], .null, []),
  (22, .ireturn, 23, 0, 0, [], .null, [])]
theorem oX4_at : tX4_at.all (okE (sX4_at).1.cls (sX4_at).2.1) = true := by decide +kernel
def tX4_endOfRow : List Ent := [(0, .iload_n 1, 1, 1, 0, [], .null, []),
  (1, .iconst 0, 2, 0, 0, [], .int 0, []),
  (2, .invokestatic 21, 5, 997, 0, [], .null, [388, 389, 79, 390]),
  (5, .istore 4, 7, 4, 0, [], .null, []),
  (7, .iload 4, 9, 4, 0, [], .null, []),
  (9, .aload_n 0, 10, 0, 0, [], .null, []),
  (10, .getfield 15, 13, 4, 1, [], .null, [100]),
  (13, .if_icmp .ge 31, 16, 44, 0, [], .null, []),
  (16, .aload_n 0, 17, 0, 0, [], .null, []),
  (17, .getfield 9, 20, 4, 0, [], .null, [99]),
  (20, .iload 4, 22, 4, 0, [], .null, []),
  (22, .iaload, 23, 0, 0, [], .null, []),
  (23, .iload_n 2, 24, 2, 0, [], .null, []),
  (24, .if_icmp .lt 20, 27, 44, 0, [], .null, []),
  (27, .aload_n 0, 28, 0, 0, [], .null, []),
  (28, .getfield 9, 31, 4, 0, [], .null, [99]),
  (31, .iload 4, 33, 4, 0, [], .null, []),
  (33, .iaload, 34, 0, 0, [], .null, []),
  (34, .iload_n 3, 35, 3, 0, [], .null, []),
  (35, .if_icmp .gt 9, 38, 44, 0, [], .null, []),
  (38, .iinc 4 1, 41, 4, 0, [], .int 1, []),
  (41, .goto (-34), 44, 7, 0, [], .null, []),
  (44, .iload 4, 46, 4, 0, [], .null, []),
  (46, .ireturn, 47, 0, 0, [], .null, [])]
theorem oX4_endOfRow : tX4_endOfRow.all (okE (sX4_endOfRow).1.cls (sX4_endOfRow).2.1) = true := by decide +kernel
end
section
def tX5_prepare : List Ent := [(0, .aload_n 0, 1, 0, 0, [], .null, []),
  (1, .invokevirtual 33, 4, 59, 0, [(0, 5)], .null, [887, 889, 29, 76]),
  (4, .aload_n 0, 5, 0, 0, [], .null, []),
  (5, .getfield 18, 8, 5, 2, [], .null, [280]),
  (8, .aload_n 0, 9, 0, 0, [], .null, []),
  (9, .getfield 32, 12, 5, 4, [], .null, [282]),
  (12, .invokevirtual 36, 15, 3, 0, [(0, 0)], .int 0, [899, 821, 822, 70]),
  (15, .iconst 0, 16, 0, 0, [], .int 0, []),
  (16, .iastore, 17, 0, 0, [], .null, []),
  (17, .aload_n 0, 18, 0, 0, [], .null, []),
  (18, .getfield 32, 21, 5, 4, [], .null, [282]),
  (21, .invokevirtual 36, 24, 3, 0, [(0, 0)], .int 0, [899, 821, 822, 70]),
  (24, .iconst 1, 25, 0, 0, [], .int 1, []),
  (25, .isub, 26, 0, 0, [], .null, []),
  (26, .istore_n 1, 27, 1, 0, [], .null, []),
  (27, .iload_n 1, 28, 1, 0, [], .null, []),
  (28, .ifCond .lt 25, 31, 53, 0, [], .null, []),
  (31, .aload_n 0, 32, 0, 0, [], .null, []),
  (32, .getfield 18, 35, 5, 2, [], .null, [280]),
  (35, .iload_n 1, 36, 1, 0, [], .null, []),
  (36, .aload_n 0, 37, 0, 0, [], .null, []),
  (37, .iload_n 1, 38, 1, 0, [], .null, []),
  (38, .aload_n 0, 39, 0, 0, [], .null, []),
  (39, .iload_n 1, 40, 1, 0, [], .null, []),
  (40, .invokevirtual 42, 43, 61, 1, [(0, 5)], .int 0, [900, 902, 31, 76]),
  (43, .invokevirtual 46, 46, 62, 2, [(0, 5)], .int 0, [904, 906, 32, 76]),
  (46, .iastore, 47, 0, 0, [], .null, []),
  (47, .iinc 1 (-1), 50, 1, 0, [], .int (-1), []),
  (50, .goto (-23), 53, 27, 0, [], .null, []),
  (53, .return_, 54, 0, 0, [], .null, [])]
theorem oX5_prepare : tX5_prepare.all (okE (sX5_prepare).1.cls (sX5_prepare).2.1) = true := by decide +kernel
def tX5_countLetters : List Ent := [(0, .iconst 0, 1, 0, 0, [], .int 0, []),
  (1, .istore_n 1, 2, 1, 0, [], .null, []),
  (2, .iload_n 1, 3, 1, 0, [], .null, []),
  (3, .iconst 5, 4, 0, 0, [], .int 5, []),
  (4, .if_icmp .ge 23, 7, 27, 0, [], .null, []),
  (7, .aload_n 0, 8, 0, 0, [], .null, []),
  (8, .getfield 9, 11, 5, 0, [], .null, [278]),
  (11, .iload_n 1, 12, 1, 0, [], .null, []),
  (12, .iconst 0, 13, 0, 0, [], .int 0, []),
  (13, .iastore, 14, 0, 0, [], .null, []),
  (14, .aload_n 0, 15, 0, 0, [], .null, []),
  (15, .getfield 15, 18, 5, 1, [], .null, [279]),
  (18, .iload_n 1, 19, 1, 0, [], .null, []),
  (19, .iconst 0, 20, 0, 0, [], .int 0, []),
  (20, .iastore, 21, 0, 0, [], .null, []),
  (21, .iinc 1 1, 24, 1, 0, [], .int 1, []),
  (24, .goto (-22), 27, 2, 0, [], .null, []),
  (27, .iconst 0, 28, 0, 0, [], .int 0, []),
  (28, .istore_n 1, 29, 1, 0, [], .null, []),
  (29, .iload_n 1, 30, 1, 0, [], .null, []),
  (30, .aload_n 0, 31, 0, 0, [], .null, []),
  (31, .getfield 27, 34, 5, 3, [], .null, [281]),
  (34, .invokevirtual 50, 37, 91, 0, [(0, 9)], .int 0, [891, 739, 740, 69]),
  (37, .if_icmp .ge 34, 40, 71, 0, [], .null, []),
  (40, .iconst 0, 41, 0, 0, [], .int 0, []),
  (41, .istore_n 2, 42, 2, 0, [], .null, []),
  (42, .iload_n 2, 43, 2, 0, [], .null, []),
  (43, .aload_n 0, 44, 0, 0, [], .null, []),
  (44, .getfield 27, 47, 5, 3, [], .null, [281]),
  (47, .iload_n 1, 48, 1, 0, [], .null, []),
  (48, .invokevirtual 55, 51, 94, 1, [(0, 9)], .int 0, [892, 487, 488, 69]),
  (51, .if_icmp .ge 14, 54, 65, 0, [], .null, []),
  (54, .aload_n 0, 55, 0, 0, [], .null, []),
  (55, .iload_n 2, 56, 2, 0, [], .null, []),
  (56, .invokevirtual 58, 59, 60, 1, [(0, 5)], .null, [893, 895, 30, 76]),
  (59, .iinc 2 1, 62, 2, 0, [], .int 1, []),
  (62, .goto (-20), 65, 42, 0, [], .null, []),
  (65, .iinc 1 1, 68, 1, 0, [], .int 1, []),
  (68, .goto (-39), 71, 29, 0, [], .null, []),
  (71, .return_, 72, 0, 0, [], .null, [])]
theorem oX5_countLetters : tX5_countLetters.all (okE (sX5_countLetters).1.cls (sX5_countLetters).2.1) = true := by decide +kernel
def tX5_countLetter : List Ent := [(0, .aload_n 0, 1, 0, 0, [], .null, []),
  (1, .getfield 32, 4, 5, 4, [], .null, [282]),
  (4, .invokevirtual 62, 7, 2, 0, [(0, 0)], .int 0, [897, 523, 524, 70]),
  (7, .iconst 1, 8, 0, 0, [], .int 1, []),
  (8, .if_icmp .ge 4, 11, 12, 0, [], .null, []),
  (11, .return_, 12, 0, 0, [], .null, []),
  (12, .aload_n 0, 13, 0, 0, [], .null, []),
  (13, .getfield 32, 16, 5, 4, [], .null, [282]),
  (16, .iload_n 1, 17, 1, 0, [], .null, []),
  (17, .invokevirtual 63, 20, 11, 1, [(0, 0)], .int 0, [898, 607, 608, 70]),
  (20, .istore_n 2, 21, 2, 0, [], .null, []),
  (21, .aload_n 0, 22, 0, 0, [], .null, []),
  (22, .getfield 9, 25, 5, 0, [], .null, [278]),
  (25, .iload_n 2, 26, 2, 0, [], .null, []),
  (26, .dup2, 27, 0, 0, [], .null, []),
  (27, .iaload, 28, 0, 0, [], .null, []),
  (28, .iconst 1, 29, 0, 0, [], .int 1, []),
  (29, .iadd, 30, 0, 0, [], .null, []),
  (30, .iastore, 31, 0, 0, [], .null, []),
  (31, .iload_n 1, 32, 1, 0, [], .null, []),
  (32, .aload_n 0, 33, 0, 0, [], .null, []),
  (33, .getfield 32, 36, 5, 4, [], .null, [282]),
  (36, .invokevirtual 62, 39, 2, 0, [(0, 0)], .int 0, [897, 523, 524, 70]),
  (39, .idiv, 40, 0, 0, [], .null, []),
  (40, .iconst 2, 41, 0, 0, [], .int 2, []),
  (41, .irem, 42, 0, 0, [], .null, []),
  (42, .iconst 1, 43, 0, 0, [], .int 1, []),
  (43, .if_icmp .ne 13, 46, 56, 0, [], .null, []),
  (46, .aload_n 0, 47, 0, 0, [], .null, []),
  (47, .getfield 15, 50, 5, 1, [], .null, [279]),
  (50, .iload_n 2, 51, 2, 0, [], .null, []),
  (51, .dup2, 52, 0, 0, [], .null, []),
  (52, .iaload, 53, 0, 0, [], .null, []),
  (53, .iconst 1, 54, 0, 0, [], .int 1, []),
  (54, .iadd, 55, 0, 0, [], .null, []),
  (55, .iastore, 56, 0, 0, [], .null, []),
  (56, .return_, 57, 0, 0, [], .null, [])]
theorem oX5_countLetter : tX5_countLetter.all (okE (sX5_countLetter).1.cls (sX5_countLetter).2.1) = true := by decide +kernel
def tX5_leastBest : List Ent := [(0, .iconst (-1), 1, 0, 0, [], .int (-1), []),
  (1, .istore_n 2, 2, 2, 0, [], .null, []),
  (2, .iconst 0, 3, 0, 0, [], .int 0, []),
  (3, .istore_n 3, 4, 3, 0, [], .null, []),
  (4, .iload_n 3, 5, 3, 0, [], .null, []),
  (5, .aload_n 0, 6, 0, 0, [], .null, []),
  (6, .getfield 32, 9, 5, 4, [], .null, [282]),
  (9, .invokevirtual 62, 12, 2, 0, [(0, 0)], .int 0, [897, 523, 524, 70]),
  (12, .if_icmp .ge 42, 15, 54, 0, [], .null, []),
  (15, .iload_n 1, 16, 1, 0, [], .null, []),
  (16, .iload_n 3, 17, 3, 0, [], .null, []),
  (17, .ishr, 18, 0, 0, [], .null, []),
  (18, .iconst 1, 19, 0, 0, [], .int 1, []),
  (19, .iand, 20, 0, 0, [], .null, []),
  (20, .ifCond .eq 6, 23, 26, 0, [], .null, []),
  (23, .goto 25, 26, 48, 0, [], .null, []),
  (26, .iload_n 2, 27, 2, 0, [], .null, []),
  (27, .iconst (-1), 28, 0, 0, [], .int (-1), []),
  (28, .if_icmp .eq 18, 31, 46, 0, [], .null, []),
  (31, .aload_n 0, 32, 0, 0, [], .null, []),
  (32, .iload_n 1, 33, 1, 0, [], .null, []),
  (33, .iload_n 3, 34, 3, 0, [], .null, []),
  (34, .invokevirtual 46, 37, 62, 2, [(0, 5)], .int 0, [904, 906, 32, 76]),
  (37, .aload_n 0, 38, 0, 0, [], .null, []),
  (38, .iload_n 1, 39, 1, 0, [], .null, []),
  (39, .iload_n 2, 40, 2, 0, [], .null, []),
  (40, .invokevirtual 46, 43, 62, 2, [(0, 5)], .int 0, [904, 906, 32, 76]),
  (43, .if_icmp .ge 5, 46, 48, 0, [], .null, []),
  (46, .iload_n 3, 47, 3, 0, [], .null, []),
  (47, .istore_n 2, 48, 2, 0, [], .null, []),
  (48, .iinc 3 1, 51, 3, 0, [], .int 1, []),
  (51, .goto (-47), 54, 4, 0, [], .null, []),
  (54, .iload_n 2, 55, 2, 0, [], .null, []),
  (55, .ireturn, 56, 0, 0, [], .null, [])]
theorem oX5_leastBest : tX5_leastBest.all (okE (sX5_leastBest).1.cls (sX5_leastBest).2.1) = true := by decide +kernel
def tX5_fewestWith : List Ent := [(0, .iload_n 2, 1, 2, 0, [], .null, []),
  (1, .iconst (-1), 2, 0, 0, [], .int (-1), []),
  (2, .if_icmp .ne 7, 5, 9, 0, [], .null, []),
  (5, .iconst 0, 6, 0, 0, [], .int 0, []),
  (6, .goto 23, 9, 29, 0, [], .null, []),
  (9, .aload_n 0, 10, 0, 0, [], .null, []),
  (10, .iload_n 2, 11, 2, 0, [], .null, []),
  (11, .iload_n 1, 12, 1, 0, [], .null, []),
  (12, .invokestatic 66, 15, 189, 1, [], .int 0, [908, 909, 84]),
  (15, .invokevirtual 71, 18, 63, 2, [(0, 5)], .int 0, [914, 916, 33, 76]),
  (18, .aload_n 0, 19, 0, 0, [], .null, []),
  (19, .getfield 18, 22, 5, 2, [], .null, [280]),
  (22, .iload_n 1, 23, 1, 0, [], .null, []),
  (23, .iconst 1, 24, 0, 0, [], .int 1, []),
  (24, .iload_n 2, 25, 2, 0, [], .null, []),
  (25, .ishl, 26, 0, 0, [], .null, []),
  (26, .ior, 27, 0, 0, [], .null, []),
  (27, .iaload, 28, 0, 0, [], .null, []),
  (28, .iadd, 29, 0, 0, [], .null, []),
  (29, .ireturn, 30, 0, 0, [], .null, [])]
theorem oX5_fewestWith : tX5_fewestWith.all (okE (sX5_fewestWith).1.cls (sX5_fewestWith).2.1) = true := by decide +kernel
def tX5_spoiltBy : List Ent := [(0, .aload_n 0, 1, 0, 0, [], .null, []),
  (1, .getfield 32, 4, 5, 4, [], .null, [282]),
  (4, .iload_n 1, 5, 1, 0, [], .null, []),
  (5, .invokevirtual 74, 8, 5, 1, [(0, 0)], .int 0, [918, 591, 592, 70]),
  (8, .ifCond .eq 10, 11, 18, 0, [], .null, []),
  (11, .aload_n 0, 12, 0, 0, [], .null, []),
  (12, .getfield 9, 15, 5, 0, [], .null, [278]),
  (15, .iload_n 2, 16, 2, 0, [], .null, []),
  (16, .iaload, 17, 0, 0, [], .null, []),
  (17, .ireturn, 18, 0, 0, [], .null, []),
  (18, .aload_n 0, 19, 0, 0, [], .null, []),
  (19, .getfield 32, 22, 5, 4, [], .null, [282]),
  (22, .iload_n 1, 23, 1, 0, [], .null, []),
  (23, .invokevirtual 78, 26, 6, 1, [(0, 0)], .int 0, [919, 595, 596, 70]),
  (26, .ifCond .eq 12, 29, 38, 0, [], .null, []),
  (29, .aload_n 0, 30, 0, 0, [], .null, []),
  (30, .getfield 15, 33, 5, 1, [], .null, [279]),
  (33, .iload_n 2, 34, 2, 0, [], .null, []),
  (34, .iaload, 35, 0, 0, [], .null, []),
  (35, .goto 4, 38, 39, 0, [], .null, []),
  (38, .iconst 0, 39, 0, 0, [], .int 0, []),
  (39, .ireturn, 40, 0, 0, [], .null, [])]
theorem oX5_spoiltBy : tX5_spoiltBy.all (okE (sX5_spoiltBy).1.cls (sX5_spoiltBy).2.1) = true := by decide +kernel
def tX5_fewestSpoilt : List Ent := [(0, .aload_n 0, 1, 0, 0, [], .null, []),
  (1, .getfield 18, 4, 5, 2, [], .null, [280]),
  (4, .iconst 0, 5, 0, 0, [], .int 0, []),
  (5, .iaload, 6, 0, 0, [], .null, []),
  (6, .ireturn, 7, 0, 0, [], .null, [])]
theorem oX5_fewestSpoilt : tX5_fewestSpoilt.all (okE (sX5_fewestSpoilt).1.cls (sX5_fewestSpoilt).2.1) = true := by decide +kernel
def tX5_voiceAt : List Ent := [(0, .iconst 0, 1, 0, 0, [], .int 0, []),
  (1, .istore_n 2, 2, 2, 0, [], .null, []),
  (2, .iconst 0, 3, 0, 0, [], .int 0, []),
  (3, .istore_n 3, 4, 3, 0, [], .null, []),
  (4, .iload_n 3, 5, 3, 0, [], .null, []),
  (5, .iload_n 1, 6, 1, 0, [], .null, []),
  (6, .if_icmp .ge 19, 9, 25, 0, [], .null, []),
  (9, .iload_n 2, 10, 2, 0, [], .null, []),
  (10, .iconst 1, 11, 0, 0, [], .int 1, []),
  (11, .aload_n 0, 12, 0, 0, [], .null, []),
  (12, .iload_n 2, 13, 2, 0, [], .null, []),
  (13, .invokevirtual 42, 16, 61, 1, [(0, 5)], .int 0, [900, 902, 31, 76]),
  (16, .ishl, 17, 0, 0, [], .null, []),
  (17, .ior, 18, 0, 0, [], .null, []),
  (18, .istore_n 2, 19, 2, 0, [], .null, []),
  (19, .iinc 3 1, 22, 3, 0, [], .int 1, []),
  (22, .goto (-18), 25, 4, 0, [], .null, []),
  (25, .aload_n 0, 26, 0, 0, [], .null, []),
  (26, .iload_n 2, 27, 2, 0, [], .null, []),
  (27, .invokevirtual 42, 30, 61, 1, [(0, 5)], .int 0, [900, 902, 31, 76]),
  (30, .ireturn, 31, 0, 0, [], .null, [])]
theorem oX5_voiceAt : tX5_voiceAt.all (okE (sX5_voiceAt).1.cls (sX5_voiceAt).2.1) = true := by decide +kernel
def tX6_copyFrom : List Ent := [(0, .aload_n 1, 1, 1, 0, [], .null, []),
  (1, .getfield 9, 4, 6, 0, [], .null, [197]),
  (4, .iconst 0, 5, 0, 0, [], .int 0, []),
  (5, .aload_n 0, 6, 0, 0, [], .null, []),
  (6, .getfield 9, 9, 6, 0, [], .null, [197]),
  (9, .iconst 0, 10, 0, 0, [], .int 0, []),
  (10, .aload_n 0, 11, 0, 0, [], .null, []),
  (11, .getfield 9, 14, 6, 0, [], .null, [197]),
  (14, .arraylength, 15, 0, 0, [], .null, []),
  (15, .invokestatic 19, 18, 999, 0, [], .null, [957, 370, 369, 78]),
  (18, .aload_n 0, 19, 0, 0, [], .null, []),
  (19, .aload_n 1, 20, 1, 0, [], .null, []),
  (20, .getfield 25, 23, 6, 1, [], .null, [198]),
  (23, .putfield 25, 26, 6, 1, [], .null, [198]),
  (26, .aload_n 0, 27, 0, 0, [], .null, []),
  (27, .aload_n 1, 28, 1, 0, [], .null, []),
  (28, .getfield 28, 31, 6, 2, [], .null, [199]),
  (31, .putfield 28, 34, 6, 2, [], .null, [199]),
  (34, .aload_n 0, 35, 0, 0, [], .null, []),
  (35, .aload_n 1, 36, 1, 0, [], .null, []),
  (36, .getfield 15, 39, 6, 3, [], .null, [200]),
  (39, .putfield 15, 42, 6, 3, [], .null, [200]),
  (42, .aload_n 0, 43, 0, 0, [], .null, []),
  (43, .aload_n 1, 44, 1, 0, [], .null, []),
  (44, .getfield 31, 47, 6, 4, [], .null, [201]),
  (47, .putfield 31, 50, 6, 4, [], .null, [201]),
  (50, .return_, 51, 0, 0, [], .null, [])]
theorem oX6_copyFrom : tX6_copyFrom.all (okE (sX6_copyFrom).1.cls (sX6_copyFrom).2.1) = true := by decide +kernel
def tX6_makeEmpty : List Ent := [(0, .aload_n 0, 1, 0, 0, [], .null, []),
  (1, .iconst 0, 2, 0, 0, [], .int 0, []),
  (2, .putfield 25, 5, 6, 1, [], .null, [198]),
  (5, .aload_n 0, 6, 0, 0, [], .null, []),
  (6, .iconst 0, 7, 0, 0, [], .int 0, []),
  (7, .putfield 28, 10, 6, 2, [], .null, [199]),
  (10, .aload_n 0, 11, 0, 0, [], .null, []),
  (11, .iconst (-1), 12, 0, 0, [], .int (-1), []),
  (12, .putfield 15, 15, 6, 3, [], .null, [200]),
  (15, .aload_n 0, 16, 0, 0, [], .null, []),
  (16, .iconst 0, 17, 0, 0, [], .int 0, []),
  (17, .putfield 31, 20, 6, 4, [], .null, [201]),
  (20, .return_, 21, 0, 0, [], .null, [])]
theorem oX6_makeEmpty : tX6_makeEmpty.all (okE (sX6_makeEmpty).1.cls (sX6_makeEmpty).2.1) = true := by decide +kernel
def tX6_letterTotal : List Ent := [(0, .aload_n 0, 1, 0, 0, [], .null, []),
  (1, .getfield 25, 4, 6, 1, [], .null, [198]),
  (4, .ireturn, 5, 0, 0, [], .null, [])]
theorem oX6_letterTotal : tX6_letterTotal.all (okE (sX6_letterTotal).1.cls (sX6_letterTotal).2.1) = true := by decide +kernel
def tX6_wordTotal : List Ent := [(0, .aload_n 0, 1, 0, 0, [], .null, []),
  (1, .getfield 28, 4, 6, 2, [], .null, [199]),
  (4, .ireturn, 5, 0, 0, [], .null, [])]
theorem oX6_wordTotal : tX6_wordTotal.all (okE (sX6_wordTotal).1.cls (sX6_wordTotal).2.1) = true := by decide +kernel
def tX6_saidTotal : List Ent := [(0, .aload_n 0, 1, 0, 0, [], .null, []),
  (1, .getfield 31, 4, 6, 4, [], .null, [201]),
  (4, .ireturn, 5, 0, 0, [], .null, [])]
theorem oX6_saidTotal : tX6_saidTotal.all (okE (sX6_saidTotal).1.cls (sX6_saidTotal).2.1) = true := by decide +kernel
def tX6_lastWord : List Ent := [(0, .aload_n 0, 1, 0, 0, [], .null, []),
  (1, .getfield 15, 4, 6, 3, [], .null, [200]),
  (4, .ireturn, 5, 0, 0, [], .null, [])]
theorem oX6_lastWord : tX6_lastWord.all (okE (sX6_lastWord).1.cls (sX6_lastWord).2.1) = true := by decide +kernel
def tX6_hasRoom : List Ent := [(0, .aload_n 0, 1, 0, 0, [], .null, []),
  (1, .getfield 28, 4, 6, 2, [], .null, [199]),
  (4, .bipush 6, 6, 0, 0, [], .int 6, []),
  (6, .if_icmp .ge 18, 9, 24, 0, [], .null, []),
  (9, .iload_n 1, 10, 1, 0, [], .null, []),
  (10, .bipush 60, 12, 0, 0, [], .int 60, []),
  (12, .aload_n 0, 13, 0, 0, [], .null, []),
  (13, .getfield 25, 16, 6, 1, [], .null, [198]),
  (16, .isub, 17, 0, 0, [], .null, []),
  (17, .if_icmp .gt 7, 20, 24, 0, [], .null, []),
  (20, .iconst 1, 21, 0, 0, [], .int 1, []),
  (21, .goto 4, 24, 25, 0, [], .null, []),
  (24, .iconst 0, 25, 0, 0, [], .int 0, []),
  (25, .ireturn, 26, 0, 0, [], .null, [])]
theorem oX6_hasRoom : tX6_hasRoom.all (okE (sX6_hasRoom).1.cls (sX6_hasRoom).2.1) = true := by decide +kernel
def tX6_append : List Ent := [(0, .aload_n 2, 1, 2, 0, [], .null, []),
  (1, .iload_n 1, 2, 1, 0, [], .null, []),
  (2, .invokevirtual 34, 5, 94, 1, [(0, 9)], .int 0, [637, 487, 488, 69]),
  (5, .istore_n 3, 6, 3, 0, [], .null, []),
  (6, .aload_n 0, 7, 0, 0, [], .null, []),
  (7, .iload_n 3, 8, 3, 0, [], .null, []),
  (8, .invokevirtual 40, 11, 72, 1, [(0, 6)], .int 0, [638, 630, 631, 72]),
  (11, .ifCond .ne 4, 14, 15, 0, [], .null, []),
  (14, .return_, 15, 0, 0, [], .null, []),
  (15, .iconst 0, 16, 0, 0, [], .int 0, []),
  (16, .istore 4, 18, 4, 0, [], .null, []),
  (18, .iload 4, 20, 4, 0, [], .null, []),
  (20, .iload_n 3, 21, 3, 0, [], .null, []),
  (21, .if_icmp .ge 28, 24, 49, 0, [], .null, []),
  (24, .aload_n 0, 25, 0, 0, [], .null, []),
  (25, .getfield 9, 28, 6, 0, [], .null, [197]),
  (28, .aload_n 0, 29, 0, 0, [], .null, []),
  (29, .getfield 25, 32, 6, 1, [], .null, [198]),
  (32, .iload 4, 34, 4, 0, [], .null, []),
  (34, .iadd, 35, 0, 0, [], .null, []),
  (35, .aload_n 2, 36, 2, 0, [], .null, []),
  (36, .iload_n 1, 37, 1, 0, [], .null, []),
  (37, .iload 4, 39, 4, 0, [], .null, []),
  (39, .invokevirtual 44, 42, 96, 2, [(0, 9)], .int 0, [639, 491, 492, 69]),
  (42, .iastore, 43, 0, 0, [], .null, []),
  (43, .iinc 4 1, 46, 4, 0, [], .int 1, []),
  (46, .goto (-28), 49, 18, 0, [], .null, []),
  (49, .aload_n 0, 50, 0, 0, [], .null, []),
  (50, .dup, 51, 0, 0, [], .null, []),
  (51, .getfield 25, 54, 6, 1, [], .null, [198]),
  (54, .iload_n 3, 55, 3, 0, [], .null, []),
  (55, .iadd, 56, 0, 0, [], .null, []),
  (56, .putfield 25, 59, 6, 1, [], .null, [198]),
  (59, .aload_n 0, 60, 0, 0, [], .null, []),
  (60, .dup, 61, 0, 0, [], .null, []),
  (61, .getfield 28, 64, 6, 2, [], .null, [199]),
  (64, .iconst 1, 65, 0, 0, [], .int 1, []),
  (65, .iadd, 66, 0, 0, [], .null, []),
  (66, .putfield 28, 69, 6, 2, [], .null, [199]),
  (69, .aload_n 0, 70, 0, 0, [], .null, []),
  (70, .iload_n 1, 71, 1, 0, [], .null, []),
  (71, .putfield 15, 74, 6, 3, [], .null, [200]),
  (74, .return_, 75, 0, 0, [], .null, [])]
theorem oX6_append : tX6_append.all (okE (sX6_append).1.cls (sX6_append).2.1) = true := by decide +kernel
def tX6_sayMore : List Ent := [(0, .aload_n 0, 1, 0, 0, [], .null, []),
  (1, .dup, 2, 0, 0, [], .null, []),
  (2, .getfield 31, 5, 6, 4, [], .null, [201]),
  (5, .iload_n 1, 6, 1, 0, [], .null, []),
  (6, .aload_n 0, 7, 0, 0, [], .null, []),
  (7, .getfield 25, 10, 6, 1, [], .null, [198]),
  (10, .aload_n 0, 11, 0, 0, [], .null, []),
  (11, .getfield 31, 14, 6, 4, [], .null, [201]),
  (14, .isub, 15, 0, 0, [], .null, []),
  (15, .invokestatic 48, 18, 998, 0, [], .null, [660, 466, 79, 467]),
  (18, .iadd, 19, 0, 0, [], .null, []),
  (19, .putfield 31, 22, 6, 4, [], .null, [201]),
  (22, .return_, 23, 0, 0, [], .null, [])]
theorem oX6_sayMore : tX6_sayMore.all (okE (sX6_sayMore).1.cls (sX6_sayMore).2.1) = true := by decide +kernel
def tX6_letterAt : List Ent := [(0, .iload_n 1, 1, 1, 0, [], .null, []),
  (1, .ifCond .lt 11, 4, 12, 0, [], .null, []),
  (4, .iload_n 1, 5, 1, 0, [], .null, []),
  (5, .aload_n 0, 6, 0, 0, [], .null, []),
  (6, .getfield 25, 9, 6, 1, [], .null, [198]),
  (9, .if_icmp .lt 7, 12, 16, 0, [], .null, []),
  (12, .iconst 0, 13, 0, 0, [], .int 0, []),
  (13, .goto 9, 16, 22, 0, [], .null, []),
  (16, .aload_n 0, 17, 0, 0, [], .null, []),
  (17, .getfield 9, 20, 6, 0, [], .null, [197]),
  (20, .iload_n 1, 21, 1, 0, [], .null, []),
  (21, .iaload, 22, 0, 0, [], .null, []),
  (22, .ireturn, 23, 0, 0, [], .null, [])]
theorem oX6_letterAt : tX6_letterAt.all (okE (sX6_letterAt).1.cls (sX6_letterAt).2.1) = true := by decide +kernel
def tX6_heardAt : List Ent := [(0, .aload_n 2, 1, 2, 0, [], .null, []),
  (1, .iload_n 1, 2, 1, 0, [], .null, []),
  (2, .invokevirtual 53, 5, 12, 1, [(0, 0)], .int 0, [610, 611, 612, 70]),
  (5, .ifCond .eq 11, 8, 16, 0, [], .null, []),
  (8, .aload_n 0, 9, 0, 0, [], .null, []),
  (9, .iload_n 1, 10, 1, 0, [], .null, []),
  (10, .invokevirtual 58, 13, 75, 1, [(0, 6)], .int 0, [673, 675, 12, 72]),
  (13, .goto 4, 16, 17, 0, [], .null, []),
  (16, .iconst 0, 17, 0, 0, [], .int 0, []),
  (17, .ireturn, 18, 0, 0, [], .null, [])]
theorem oX6_heardAt : tX6_heardAt.all (okE (sX6_heardAt).1.cls (sX6_heardAt).2.1) = true := by decide +kernel
def tX6_lettersHeard : List Ent := [(0, .iconst 0, 1, 0, 0, [], .int 0, []),
  (1, .istore_n 2, 2, 2, 0, [], .null, []),
  (2, .iconst 0, 3, 0, 0, [], .int 0, []),
  (3, .istore_n 3, 4, 3, 0, [], .null, []),
  (4, .iload_n 3, 5, 3, 0, [], .null, []),
  (5, .aload_n 0, 6, 0, 0, [], .null, []),
  (6, .getfield 31, 9, 6, 4, [], .null, [201]),
  (9, .if_icmp .ge 20, 12, 29, 0, [], .null, []),
  (12, .aload_n 1, 13, 1, 0, [], .null, []),
  (13, .iload_n 3, 14, 3, 0, [], .null, []),
  (14, .invokevirtual 53, 17, 12, 1, [(0, 0)], .int 0, [610, 611, 612, 70]),
  (17, .ifCond .eq 6, 20, 23, 0, [], .null, []),
  (20, .iinc 2 1, 23, 2, 0, [], .int 1, []),
  (23, .iinc 3 1, 26, 3, 0, [], .int 1, []),
  (26, .goto (-22), 29, 4, 0, [], .null, []),
  (29, .iload_n 2, 30, 2, 0, [], .null, []),
  (30, .ireturn, 31, 0, 0, [], .null, [])]
theorem oX6_lettersHeard : tX6_lettersHeard.all (okE (sX6_lettersHeard).1.cls (sX6_lettersHeard).2.1) = true := by decide +kernel
def tX6_lettersSaidBy : List Ent := [(0, .iconst 0, 1, 0, 0, [], .int 0, []),
  (1, .istore_n 3, 2, 3, 0, [], .null, []),
  (2, .iconst 0, 3, 0, 0, [], .int 0, []),
  (3, .istore 4, 5, 4, 0, [], .null, []),
  (5, .iload 4, 7, 4, 0, [], .null, []),
  (7, .aload_n 0, 8, 0, 0, [], .null, []),
  (8, .getfield 31, 11, 6, 4, [], .null, [201]),
  (11, .if_icmp .ge 31, 14, 42, 0, [], .null, []),
  (14, .aload_n 2, 15, 2, 0, [], .null, []),
  (15, .iload 4, 17, 4, 0, [], .null, []),
  (17, .invokevirtual 61, 20, 11, 1, [(0, 0)], .int 0, [606, 607, 608, 70]),
  (20, .iload_n 1, 21, 1, 0, [], .null, []),
  (21, .if_icmp .ne 15, 24, 36, 0, [], .null, []),
  (24, .aload_n 2, 25, 2, 0, [], .null, []),
  (25, .iload 4, 27, 4, 0, [], .null, []),
  (27, .invokevirtual 53, 30, 12, 1, [(0, 0)], .int 0, [610, 611, 612, 70]),
  (30, .ifCond .eq 6, 33, 36, 0, [], .null, []),
  (33, .iinc 3 1, 36, 3, 0, [], .int 1, []),
  (36, .iinc 4 1, 39, 4, 0, [], .int 1, []),
  (39, .goto (-34), 42, 5, 0, [], .null, []),
  (42, .iload_n 3, 43, 3, 0, [], .null, []),
  (43, .ireturn, 44, 0, 0, [], .null, [])]
theorem oX6_lettersSaidBy : tX6_lettersSaidBy.all (okE (sX6_lettersSaidBy).1.cls (sX6_lettersSaidBy).2.1) = true := by decide +kernel
def tX6_countLateRows : List Ent := [(0, .iconst 1, 1, 0, 0, [], .int 1, []),
  (1, .istore_n 3, 2, 3, 0, [], .null, []),
  (2, .iconst 0, 3, 0, 0, [], .int 0, []),
  (3, .istore 4, 5, 4, 0, [], .null, []),
  (5, .iload 4, 7, 4, 0, [], .null, []),
  (7, .iload_n 2, 8, 2, 0, [], .null, []),
  (8, .if_icmp .ge 48, 11, 56, 0, [], .null, []),
  (11, .iconst 0, 12, 0, 0, [], .int 0, []),
  (12, .istore 5, 14, 5, 0, [], .null, []),
  (14, .iconst 0, 15, 0, 0, [], .int 0, []),
  (15, .istore 6, 17, 6, 0, [], .null, []),
  (17, .iload 6, 19, 6, 0, [], .null, []),
  (19, .iconst 3, 20, 0, 0, [], .int 3, []),
  (20, .if_icmp .gt 25, 23, 45, 0, [], .null, []),
  (23, .aload_n 0, 24, 0, 0, [], .null, []),
  (24, .aload_n 1, 25, 1, 0, [], .null, []),
  (25, .iload_n 2, 26, 2, 0, [], .null, []),
  (26, .iload 4, 28, 4, 0, [], .null, []),
  (28, .iload 6, 30, 6, 0, [], .null, []),
  (30, .invokevirtual 64, 33, 82, 4, [(0, 6)], .int 0, [803, 805, 23, 72]),
  (33, .ifCond .eq 6, 36, 39, 0, [], .null, []),
  (36, .iinc 5 1, 39, 5, 0, [], .int 1, []),
  (39, .iinc 6 1, 42, 6, 0, [], .int 1, []),
  (42, .goto (-25), 45, 17, 0, [], .null, []),
  (45, .iload_n 3, 46, 3, 0, [], .null, []),
  (46, .iload 5, 48, 5, 0, [], .null, []),
  (48, .imul, 49, 0, 0, [], .null, []),
  (49, .istore_n 3, 50, 3, 0, [], .null, []),
  (50, .iinc 4 1, 53, 4, 0, [], .int 1, []),
  (53, .goto (-48), 56, 5, 0, [], .null, []),
  (56, .iload_n 3, 57, 3, 0, [], .null, []),
  (57, .ireturn, 58, 0, 0, [], .null, [])]
theorem oX6_countLateRows : tX6_countLateRows.all (okE (sX6_countLateRows).1.cls (sX6_countLateRows).2.1) = true := by decide +kernel
def tX6_firstLateRow : List Ent := [(0, .iconst 0, 1, 0, 0, [], .int 0, []),
  (1, .istore_n 3, 2, 3, 0, [], .null, []),
  (2, .iconst 0, 3, 0, 0, [], .int 0, []),
  (3, .istore 4, 5, 4, 0, [], .null, []),
  (5, .iload 4, 7, 4, 0, [], .null, []),
  (7, .iload_n 2, 8, 2, 0, [], .null, []),
  (8, .if_icmp .ge 34, 11, 42, 0, [], .null, []),
  (11, .aload_n 0, 12, 0, 0, [], .null, []),
  (12, .aload_n 1, 13, 1, 0, [], .null, []),
  (13, .iload_n 2, 14, 2, 0, [], .null, []),
  (14, .iload 4, 16, 4, 0, [], .null, []),
  (16, .invokevirtual 68, 19, 81, 3, [(0, 6)], .int 0, [812, 814, 24, 72]),
  (19, .istore 5, 21, 5, 0, [], .null, []),
  (21, .iload 5, 23, 5, 0, [], .null, []),
  (23, .iconst (-1), 24, 0, 0, [], .int (-1), []),
  (24, .if_icmp .ne 5, 27, 29, 0, [], .null, []),
  (27, .iconst (-1), 28, 0, 0, [], .int (-1), []),
  (28, .ireturn, 29, 0, 0, [], .null, []),
  (29, .iconst 4, 30, 0, 0, [], .int 4, []),
  (30, .iload_n 3, 31, 3, 0, [], .null, []),
  (31, .imul, 32, 0, 0, [], .null, []),
  (32, .iload 5, 34, 5, 0, [], .null, []),
  (34, .iadd, 35, 0, 0, [], .null, []),
  (35, .istore_n 3, 36, 3, 0, [], .null, []),
  (36, .iinc 4 1, 39, 4, 0, [], .int 1, []),
  (39, .goto (-34), 42, 5, 0, [], .null, []),
  (42, .iload_n 3, 43, 3, 0, [], .null, []),
  (43, .ireturn, 44, 0, 0, [], .null, [])]
theorem oX6_firstLateRow : tX6_firstLateRow.all (okE (sX6_firstLateRow).1.cls (sX6_firstLateRow).2.1) = true := by decide +kernel
def tX6_leastLate : List Ent := [(0, .iconst 0, 1, 0, 0, [], .int 0, []),
  (1, .istore 4, 3, 4, 0, [], .null, []),
  (3, .iload 4, 5, 4, 0, [], .null, []),
  (5, .iconst 3, 6, 0, 0, [], .int 3, []),
  (6, .if_icmp .gt 24, 9, 30, 0, [], .null, []),
  (9, .aload_n 0, 10, 0, 0, [], .null, []),
  (10, .aload_n 1, 11, 1, 0, [], .null, []),
  (11, .iload_n 2, 12, 2, 0, [], .null, []),
  (12, .iload_n 3, 13, 3, 0, [], .null, []),
  (13, .iload 4, 15, 4, 0, [], .null, []),
  (15, .invokevirtual 64, 18, 82, 4, [(0, 6)], .int 0, [803, 805, 23, 72]),
  (18, .ifCond .eq 6, 21, 24, 0, [], .null, []),
  (21, .iload 4, 23, 4, 0, [], .null, []),
  (23, .ireturn, 24, 0, 0, [], .null, []),
  (24, .iinc 4 1, 27, 4, 0, [], .int 1, []),
  (27, .goto (-24), 30, 3, 0, [], .null, []),
  (30, .iconst (-1), 31, 0, 0, [], .int (-1), []),
  (31, .ireturn, 32, 0, 0, [], .null, [])]
theorem oX6_leastLate : tX6_leastLate.all (okE (sX6_leastLate).1.cls (sX6_leastLate).2.1) = true := by decide +kernel
def tX6_isHeardLate : List Ent := [(0, .iconst 0, 1, 0, 0, [], .int 0, []),
  (1, .istore 5, 3, 5, 0, [], .null, []),
  (3, .iload_n 3, 4, 3, 0, [], .null, []),
  (4, .istore 6, 6, 6, 0, [], .null, []),
  (6, .iload 6, 8, 6, 0, [], .null, []),
  (8, .aload_n 0, 9, 0, 0, [], .null, []),
  (9, .getfield 25, 12, 6, 1, [], .null, [198]),
  (12, .if_icmp .ge 56, 15, 68, 0, [], .null, []),
  (15, .iload 5, 17, 5, 0, [], .null, []),
  (17, .aload_n 0, 18, 0, 0, [], .null, []),
  (18, .getfield 25, 21, 6, 1, [], .null, [198]),
  (21, .if_icmp .ge 47, 24, 68, 0, [], .null, []),
  (24, .iload 5, 26, 5, 0, [], .null, []),
  (26, .iload 4, 28, 4, 0, [], .null, []),
  (28, .if_icmp .ge 7, 31, 35, 0, [], .null, []),
  (31, .iconst 0, 32, 0, 0, [], .int 0, []),
  (32, .goto 9, 35, 41, 0, [], .null, []),
  (35, .aload_n 0, 36, 0, 0, [], .null, []),
  (36, .iload 6, 38, 6, 0, [], .null, []),
  (38, .invokevirtual 58, 41, 75, 1, [(0, 6)], .int 0, [673, 675, 12, 72]),
  (41, .istore 7, 43, 7, 0, [], .null, []),
  (43, .aload_n 1, 44, 1, 0, [], .null, []),
  (44, .iload 6, 46, 6, 0, [], .null, []),
  (46, .invokevirtual 72, 49, 87, 1, [(0, 7)], .int 0, [807, 721, 722, 73]),
  (49, .iload 7, 51, 7, 0, [], .null, []),
  (51, .if_icmp .eq 5, 54, 56, 0, [], .null, []),
  (54, .iconst 0, 55, 0, 0, [], .int 0, []),
  (55, .ireturn, 56, 0, 0, [], .null, []),
  (56, .iinc 5 1, 59, 5, 0, [], .int 1, []),
  (59, .iload 6, 61, 6, 0, [], .null, []),
  (61, .iload_n 2, 62, 2, 0, [], .null, []),
  (62, .iadd, 63, 0, 0, [], .null, []),
  (63, .istore 6, 65, 6, 0, [], .null, []),
  (65, .goto (-59), 68, 6, 0, [], .null, []),
  (68, .iconst 1, 69, 0, 0, [], .int 1, []),
  (69, .ireturn, 70, 0, 0, [], .null, [])]
theorem oX6_isHeardLate : tX6_isHeardLate.all (okE (sX6_isHeardLate).1.cls (sX6_isHeardLate).2.1) = true := by decide +kernel
def tX7_length : List Ent := [(0, .aload_n 0, 1, 0, 0, [], .null, []),
  (1, .getfield 15, 4, 7, 1, [], .null, [220]),
  (4, .ireturn, 5, 0, 0, [], .null, [])]
theorem oX7_length : tX7_length.all (okE (sX7_length).1.cls (sX7_length).2.1) = true := by decide +kernel
def tX7_isFull : List Ent := [(0, .aload_n 0, 1, 0, 0, [], .null, []),
  (1, .getfield 15, 4, 7, 1, [], .null, [220]),
  (4, .bipush 60, 6, 0, 0, [], .int 60, []),
  (6, .if_icmp .lt 7, 9, 13, 0, [], .null, []),
  (9, .iconst 1, 10, 0, 0, [], .int 1, []),
  (10, .goto 4, 13, 14, 0, [], .null, []),
  (13, .iconst 0, 14, 0, 0, [], .int 0, []),
  (14, .ireturn, 15, 0, 0, [], .null, [])]
theorem oX7_isFull : tX7_isFull.all (okE (sX7_isFull).1.cls (sX7_isFull).2.1) = true := by decide +kernel
def tX7_makeEmpty : List Ent := [(0, .aload_n 0, 1, 0, 0, [], .null, []),
  (1, .getfield 15, 4, 7, 1, [], .null, [220]),
  (4, .istore_n 1, 5, 1, 0, [], .null, []),
  (5, .aload_n 0, 6, 0, 0, [], .null, []),
  (6, .iconst 0, 7, 0, 0, [], .int 0, []),
  (7, .putfield 15, 10, 7, 1, [], .null, [220]),
  (10, .iload_n 1, 11, 1, 0, [], .null, []),
  (11, .ireturn, 12, 0, 0, [], .null, [])]
theorem oX7_makeEmpty : tX7_makeEmpty.all (okE (sX7_makeEmpty).1.cls (sX7_makeEmpty).2.1) = true := by decide +kernel
def tX7_append : List Ent := [(0, .aload_n 0, 1, 0, 0, [], .null, []),
  (1, .invokevirtual 19, 4, 84, 0, [(0, 7)], .int 0, [698, 691, 692, 73]),
  (4, .ifCond .eq 4, 7, 8, 0, [], .null, []),
  (7, .return_, 8, 0, 0, [], .null, []),
  (8, .aload_n 0, 9, 0, 0, [], .null, []),
  (9, .getfield 9, 12, 7, 0, [], .null, [219]),
  (12, .aload_n 0, 13, 0, 0, [], .null, []),
  (13, .getfield 15, 16, 7, 1, [], .null, [220]),
  (16, .iload_n 1, 17, 1, 0, [], .null, []),
  (17, .iastore, 18, 0, 0, [], .null, []),
  (18, .aload_n 0, 19, 0, 0, [], .null, []),
  (19, .dup, 20, 0, 0, [], .null, []),
  (20, .getfield 15, 23, 7, 1, [], .null, [220]),
  (23, .iconst 1, 24, 0, 0, [], .int 1, []),
  (24, .iadd, 25, 0, 0, [], .null, []),
  (25, .putfield 15, 28, 7, 1, [], .null, [220]),
  (28, .return_, 29, 0, 0, [], .null, [])]
theorem oX7_append : tX7_append.all (okE (sX7_append).1.cls (sX7_append).2.1) = true := by decide +kernel
def tX7_at : List Ent := [(0, .iload_n 1, 1, 1, 0, [], .null, []),
  (1, .ifCond .lt 11, 4, 12, 0, [], .null, []),
  (4, .iload_n 1, 5, 1, 0, [], .null, []),
  (5, .aload_n 0, 6, 0, 0, [], .null, []),
  (6, .getfield 15, 9, 7, 1, [], .null, [220]),
  (9, .if_icmp .lt 7, 12, 16, 0, [], .null, []),
  (12, .iconst (-1), 13, 0, 0, [], .int (-1), []),
  (13, .goto 9, 16, 22, 0, [], .null, []),
  (16, .aload_n 0, 17, 0, 0, [], .null, []),
  (17, .getfield 9, 20, 7, 0, [], .null, [219]),
  (20, .iload_n 1, 21, 1, 0, [], .null, []),
  (21, .iaload, 22, 0, 0, [], .null, []),
  (22, .ireturn, 23, 0, 0, [], .null, [])]
theorem oX7_at : tX7_at.all (okE (sX7_at).1.cls (sX7_at).2.1) = true := by decide +kernel
def tX7_isFitting : List Ent := [(0, .aload_n 1, 1, 1, 0, [], .null, []),
  (1, .iload_n 2, 2, 2, 0, [], .null, []),
  (2, .invokevirtual 23, 5, 94, 1, [(0, 9)], .int 0, [719, 487, 488, 69]),
  (5, .istore 4, 7, 4, 0, [], .null, []),
  (7, .iload 4, 9, 4, 0, [], .null, []),
  (9, .aload_n 0, 10, 0, 0, [], .null, []),
  (10, .getfield 15, 13, 7, 1, [], .null, [220]),
  (13, .iload_n 3, 14, 3, 0, [], .null, []),
  (14, .isub, 15, 0, 0, [], .null, []),
  (15, .if_icmp .le 5, 18, 20, 0, [], .null, []),
  (18, .iconst 0, 19, 0, 0, [], .int 0, []),
  (19, .ireturn, 20, 0, 0, [], .null, []),
  (20, .iconst 0, 21, 0, 0, [], .int 0, []),
  (21, .istore 5, 23, 5, 0, [], .null, []),
  (23, .iload 5, 25, 5, 0, [], .null, []),
  (25, .iload 4, 27, 4, 0, [], .null, []),
  (27, .if_icmp .ge 38, 30, 65, 0, [], .null, []),
  (30, .aload_n 0, 31, 0, 0, [], .null, []),
  (31, .iload_n 3, 32, 3, 0, [], .null, []),
  (32, .iload 5, 34, 5, 0, [], .null, []),
  (34, .iadd, 35, 0, 0, [], .null, []),
  (35, .invokevirtual 29, 38, 87, 1, [(0, 7)], .int 0, [720, 721, 722, 73]),
  (38, .istore 6, 40, 6, 0, [], .null, []),
  (40, .iload 6, 42, 6, 0, [], .null, []),
  (42, .ifCond .eq 17, 45, 59, 0, [], .null, []),
  (45, .iload 6, 47, 6, 0, [], .null, []),
  (47, .aload_n 1, 48, 1, 0, [], .null, []),
  (48, .iload_n 2, 49, 2, 0, [], .null, []),
  (49, .iload 5, 51, 5, 0, [], .null, []),
  (51, .invokevirtual 32, 54, 96, 2, [(0, 9)], .int 0, [724, 491, 492, 69]),
  (54, .if_icmp .eq 5, 57, 59, 0, [], .null, []),
  (57, .iconst 0, 58, 0, 0, [], .int 0, []),
  (58, .ireturn, 59, 0, 0, [], .null, []),
  (59, .iinc 5 1, 62, 5, 0, [], .int 1, []),
  (62, .goto (-39), 65, 23, 0, [], .null, []),
  (65, .iconst 1, 66, 0, 0, [], .int 1, []),
  (66, .ireturn, 67, 0, 0, [], .null, [])]
theorem oX7_isFitting : tX7_isFitting.all (okE (sX7_isFitting).1.cls (sX7_isFitting).2.1) = true := by decide +kernel
def tX8_copyFrom : List Ent := [(0, .aload_n 0, 1, 0, 0, [], .null, []),
  (1, .getfield 10, 4, 8, 0, [], .null, [154]),
  (4, .aload_n 1, 5, 1, 0, [], .null, []),
  (5, .getfield 10, 8, 8, 0, [], .null, [154]),
  (8, .invokevirtual 23, 11, 90, 1, [(0, 9)], .null, [364, 365, 366, 69]),
  (11, .aload_n 0, 12, 0, 0, [], .null, []),
  (12, .getfield 19, 15, 8, 1, [], .null, [160]),
  (15, .aload_n 1, 16, 1, 0, [], .null, []),
  (16, .getfield 19, 19, 8, 1, [], .null, [160]),
  (19, .invokevirtual 27, 22, 0, 1, [(0, 0)], .null, [371, 372, 373, 70]),
  (22, .return_, 23, 0, 0, [], .null, [])]
theorem oX8_copyFrom : tX8_copyFrom.all (okE (sX8_copyFrom).1.cls (sX8_copyFrom).2.1) = true := by decide +kernel
def tX9_copyFrom : List Ent := [(0, .aload_n 1, 1, 1, 0, [], .null, []),
  (1, .getfield 9, 4, 9, 0, [], .null, [119]),
  (4, .iconst 0, 5, 0, 0, [], .int 0, []),
  (5, .aload_n 0, 6, 0, 0, [], .null, []),
  (6, .getfield 9, 9, 9, 0, [], .null, [119]),
  (9, .iconst 0, 10, 0, 0, [], .int 0, []),
  (10, .aload_n 0, 11, 0, 0, [], .null, []),
  (11, .getfield 9, 14, 9, 0, [], .null, [119]),
  (14, .arraylength, 15, 0, 0, [], .null, []),
  (15, .invokestatic 25, 18, 999, 0, [], .null, [368, 370, 369, 78]),
  (18, .aload_n 1, 19, 1, 0, [], .null, []),
  (19, .getfield 15, 22, 9, 1, [], .null, [120]),
  (22, .iconst 0, 23, 0, 0, [], .int 0, []),
  (23, .aload_n 0, 24, 0, 0, [], .null, []),
  (24, .getfield 15, 27, 9, 1, [], .null, [120]),
  (27, .iconst 0, 28, 0, 0, [], .int 0, []),
  (28, .aload_n 0, 29, 0, 0, [], .null, []),
  (29, .getfield 15, 32, 9, 1, [], .null, [120]),
  (32, .arraylength, 33, 0, 0, [], .null, []),
  (33, .invokestatic 25, 36, 999, 0, [], .null, [368, 370, 369, 78]),
  (36, .aload_n 1, 37, 1, 0, [], .null, []),
  (37, .getfield 18, 40, 9, 2, [], .null, [121]),
  (40, .iconst 0, 41, 0, 0, [], .int 0, []),
  (41, .aload_n 0, 42, 0, 0, [], .null, []),
  (42, .getfield 18, 45, 9, 2, [], .null, [121]),
  (45, .iconst 0, 46, 0, 0, [], .int 0, []),
  (46, .aload_n 0, 47, 0, 0, [], .null, []),
  (47, .getfield 18, 50, 9, 2, [], .null, [121]),
  (50, .arraylength, 51, 0, 0, [], .null, []),
  (51, .invokestatic 25, 54, 999, 0, [], .null, [368, 370, 369, 78]),
  (54, .aload_n 0, 55, 0, 0, [], .null, []),
  (55, .aload_n 1, 56, 1, 0, [], .null, []),
  (56, .getfield 31, 59, 9, 3, [], .null, [122]),
  (59, .putfield 31, 62, 9, 3, [], .null, [122]),
  (62, .aload_n 0, 63, 0, 0, [], .null, []),
  (63, .aload_n 1, 64, 1, 0, [], .null, []),
  (64, .getfield 21, 67, 9, 4, [], .null, [123]),
  (67, .putfield 21, 70, 9, 4, [], .null, [123]),
  (70, .return_, 71, 0, 0, [], .null, [])]
theorem oX9_copyFrom : tX9_copyFrom.all (okE (sX9_copyFrom).1.cls (sX9_copyFrom).2.1) = true := by decide +kernel
def tX9_size : List Ent := [(0, .aload_n 0, 1, 0, 0, [], .null, []),
  (1, .getfield 31, 4, 9, 3, [], .null, [122]),
  (4, .ireturn, 5, 0, 0, [], .null, [])]
theorem oX9_size : tX9_size.all (okE (sX9_size).1.cls (sX9_size).2.1) = true := by decide +kernel
def tX9_isFull : List Ent := [(0, .aload_n 0, 1, 0, 0, [], .null, []),
  (1, .getfield 31, 4, 9, 3, [], .null, [122]),
  (4, .bipush 12, 6, 0, 0, [], .int 12, []),
  (6, .if_icmp .lt 7, 9, 13, 0, [], .null, []),
  (9, .iconst 1, 10, 0, 0, [], .int 1, []),
  (10, .goto 4, 13, 14, 0, [], .null, []),
  (13, .iconst 0, 14, 0, 0, [], .int 0, []),
  (14, .ireturn, 15, 0, 0, [], .null, [])]
theorem oX9_isFull : tX9_isFull.all (okE (sX9_isFull).1.cls (sX9_isFull).2.1) = true := by decide +kernel
def tX9_has : List Ent := [(0, .iload_n 1, 1, 1, 0, [], .null, []),
  (1, .ifCond .lt 15, 4, 16, 0, [], .null, []),
  (4, .iload_n 1, 5, 1, 0, [], .null, []),
  (5, .aload_n 0, 6, 0, 0, [], .null, []),
  (6, .getfield 31, 9, 9, 3, [], .null, [122]),
  (9, .if_icmp .ge 7, 12, 16, 0, [], .null, []),
  (12, .iconst 1, 13, 0, 0, [], .int 1, []),
  (13, .goto 4, 16, 17, 0, [], .null, []),
  (16, .iconst 0, 17, 0, 0, [], .int 0, []),
  (17, .ireturn, 18, 0, 0, [], .null, [])]
theorem oX9_has : tX9_has.all (okE (sX9_has).1.cls (sX9_has).2.1) = true := by decide +kernel
def tX9_lengthOf : List Ent := [(0, .iload_n 1, 1, 1, 0, [], .null, []),
  (1, .ifCond .lt 11, 4, 12, 0, [], .null, []),
  (4, .iload_n 1, 5, 1, 0, [], .null, []),
  (5, .aload_n 0, 6, 0, 0, [], .null, []),
  (6, .getfield 31, 9, 9, 3, [], .null, [122]),
  (9, .if_icmp .lt 7, 12, 16, 0, [], .null, []),
  (12, .iconst 0, 13, 0, 0, [], .int 0, []),
  (13, .goto 9, 16, 22, 0, [], .null, []),
  (16, .aload_n 0, 17, 0, 0, [], .null, []),
  (17, .getfield 15, 20, 9, 1, [], .null, [120]),
  (20, .iload_n 1, 21, 1, 0, [], .null, []),
  (21, .iaload, 22, 0, 0, [], .null, []),
  (22, .ireturn, 23, 0, 0, [], .null, [])]
theorem oX9_lengthOf : tX9_lengthOf.all (okE (sX9_lengthOf).1.cls (sX9_lengthOf).2.1) = true := by decide +kernel
def tX9_sortOf : List Ent := [(0, .iload_n 1, 1, 1, 0, [], .null, []),
  (1, .ifCond .lt 11, 4, 12, 0, [], .null, []),
  (4, .iload_n 1, 5, 1, 0, [], .null, []),
  (5, .aload_n 0, 6, 0, 0, [], .null, []),
  (6, .getfield 31, 9, 9, 3, [], .null, [122]),
  (9, .if_icmp .lt 7, 12, 16, 0, [], .null, []),
  (12, .iconst 0, 13, 0, 0, [], .int 0, []),
  (13, .goto 9, 16, 22, 0, [], .null, []),
  (16, .aload_n 0, 17, 0, 0, [], .null, []),
  (17, .getfield 18, 20, 9, 2, [], .null, [121]),
  (20, .iload_n 1, 21, 1, 0, [], .null, []),
  (21, .iaload, 22, 0, 0, [], .null, []),
  (22, .ireturn, 23, 0, 0, [], .null, [])]
theorem oX9_sortOf : tX9_sortOf.all (okE (sX9_sortOf).1.cls (sX9_sortOf).2.1) = true := by decide +kernel
def tX9_letterOf : List Ent := [(0, .iload_n 1, 1, 1, 0, [], .null, []),
  (1, .ifCond .lt 25, 4, 26, 0, [], .null, []),
  (4, .iload_n 1, 5, 1, 0, [], .null, []),
  (5, .aload_n 0, 6, 0, 0, [], .null, []),
  (6, .getfield 31, 9, 9, 3, [], .null, [122]),
  (9, .if_icmp .ge 17, 12, 26, 0, [], .null, []),
  (12, .iload_n 2, 13, 2, 0, [], .null, []),
  (13, .ifCond .lt 13, 16, 26, 0, [], .null, []),
  (16, .iload_n 2, 17, 2, 0, [], .null, []),
  (17, .aload_n 0, 18, 0, 0, [], .null, []),
  (18, .getfield 15, 21, 9, 1, [], .null, [120]),
  (21, .iload_n 1, 22, 1, 0, [], .null, []),
  (22, .iaload, 23, 0, 0, [], .null, []),
  (23, .if_icmp .lt 5, 26, 28, 0, [], .null, []),
  (26, .iconst (-1), 27, 0, 0, [], .int (-1), []),
  (27, .ireturn, 28, 0, 0, [], .null, []),
  (28, .aload_n 0, 29, 0, 0, [], .null, []),
  (29, .getfield 9, 32, 9, 0, [], .null, [119]),
  (32, .iload_n 1, 33, 1, 0, [], .null, []),
  (33, .bipush 10, 35, 0, 0, [], .int 10, []),
  (35, .imul, 36, 0, 0, [], .null, []),
  (36, .iload_n 2, 37, 2, 0, [], .null, []),
  (37, .iadd, 38, 0, 0, [], .null, []),
  (38, .iaload, 39, 0, 0, [], .null, []),
  (39, .ireturn, 40, 0, 0, [], .null, [])]
theorem oX9_letterOf : tX9_letterOf.all (okE (sX9_letterOf).1.cls (sX9_letterOf).2.1) = true := by decide +kernel
def tX9_followBits : List Ent := [(0, .aload_n 0, 1, 0, 0, [], .null, []),
  (1, .getfield 21, 4, 9, 4, [], .null, [123]),
  (4, .ireturn, 5, 0, 0, [], .null, [])]
theorem oX9_followBits : tX9_followBits.all (okE (sX9_followBits).1.cls (sX9_followBits).2.1) = true := by decide +kernel
def tX9_mayFollow : List Ent := [(0, .aload_n 0, 1, 0, 0, [], .null, []),
  (1, .getfield 21, 4, 9, 4, [], .null, [123]),
  (4, .iconst 3, 5, 0, 0, [], .int 3, []),
  (5, .iload_n 1, 6, 1, 0, [], .null, []),
  (6, .imul, 7, 0, 0, [], .null, []),
  (7, .iload_n 2, 8, 2, 0, [], .null, []),
  (8, .iadd, 9, 0, 0, [], .null, []),
  (9, .ishr, 10, 0, 0, [], .null, []),
  (10, .iconst 1, 11, 0, 0, [], .int 1, []),
  (11, .iand, 12, 0, 0, [], .null, []),
  (12, .ifCond .eq 7, 15, 19, 0, [], .null, []),
  (15, .iconst 1, 16, 0, 0, [], .int 1, []),
  (16, .goto 4, 19, 20, 0, [], .null, []),
  (19, .iconst 0, 20, 0, 0, [], .int 0, []),
  (20, .ireturn, 21, 0, 0, [], .null, [])]
theorem oX9_mayFollow : tX9_mayFollow.all (okE (sX9_mayFollow).1.cls (sX9_mayFollow).2.1) = true := by decide +kernel
def tX9_forbid : List Ent := [(0, .aload_n 0, 1, 0, 0, [], .null, []),
  (1, .dup, 2, 0, 0, [], .null, []),
  (2, .getfield 21, 5, 9, 4, [], .null, [123]),
  (5, .iconst 1, 6, 0, 0, [], .int 1, []),
  (6, .iconst 3, 7, 0, 0, [], .int 3, []),
  (7, .iload_n 1, 8, 1, 0, [], .null, []),
  (8, .imul, 9, 0, 0, [], .null, []),
  (9, .iload_n 2, 10, 2, 0, [], .null, []),
  (10, .iadd, 11, 0, 0, [], .null, []),
  (11, .ishl, 12, 0, 0, [], .null, []),
  (12, .iconst (-1), 13, 0, 0, [], .int (-1), []),
  (13, .ixor, 14, 0, 0, [], .null, []),
  (14, .iand, 15, 0, 0, [], .null, []),
  (15, .putfield 21, 18, 9, 4, [], .null, [123]),
  (18, .return_, 19, 0, 0, [], .null, [])]
theorem oX9_forbid : tX9_forbid.all (okE (sX9_forbid).1.cls (sX9_forbid).2.1) = true := by decide +kernel
def tX9_makeFree : List Ent := [(0, .aload_n 0, 1, 0, 0, [], .null, []),
  (1, .iconst 0, 2, 0, 0, [], .int 0, []),
  (2, .putfield 31, 5, 9, 3, [], .null, [122]),
  (5, .aload_n 0, 6, 0, 0, [], .null, []),
  (6, .sipush 511, 9, 0, 0, [], .int 511, []),
  (9, .putfield 21, 12, 9, 4, [], .null, [123]),
  (12, .return_, 13, 0, 0, [], .null, [])]
theorem oX9_makeFree : tX9_makeFree.all (okE (sX9_makeFree).1.cls (sX9_makeFree).2.1) = true := by decide +kernel
def tX9_isTold : List Ent := [(0, .iconst 0, 1, 0, 0, [], .int 0, []),
  (1, .istore 4, 3, 4, 0, [], .null, []),
  (3, .iload 4, 5, 4, 0, [], .null, []),
  (5, .aload_n 0, 6, 0, 0, [], .null, []),
  (6, .getfield 31, 9, 9, 3, [], .null, [122]),
  (9, .if_icmp .ge 23, 12, 32, 0, [], .null, []),
  (12, .aload_n 0, 13, 0, 0, [], .null, []),
  (13, .iload 4, 15, 4, 0, [], .null, []),
  (15, .aload_n 1, 16, 1, 0, [], .null, []),
  (16, .iload_n 2, 17, 2, 0, [], .null, []),
  (17, .iload_n 3, 18, 3, 0, [], .null, []),
  (18, .invokevirtual 34, 21, 102, 4, [(0, 9)], .int 0, [482, 484, 6, 69]),
  (21, .ifCond .eq 5, 24, 26, 0, [], .null, []),
  (24, .iconst 1, 25, 0, 0, [], .int 1, []),
  (25, .ireturn, 26, 0, 0, [], .null, []),
  (26, .iinc 4 1, 29, 4, 0, [], .int 1, []),
  (29, .goto (-26), 32, 3, 0, [], .null, []),
  (32, .iconst 0, 33, 0, 0, [], .int 0, []),
  (33, .ireturn, 34, 0, 0, [], .null, [])]
theorem oX9_isTold : tX9_isTold.all (okE (sX9_isTold).1.cls (sX9_isTold).2.1) = true := by decide +kernel
def tX9_isSpelt : List Ent := [(0, .aload_n 0, 1, 0, 0, [], .null, []),
  (1, .iload_n 1, 2, 1, 0, [], .null, []),
  (2, .invokevirtual 38, 5, 94, 1, [(0, 9)], .int 0, [486, 487, 488, 69]),
  (5, .iload 4, 7, 4, 0, [], .null, []),
  (7, .iload_n 3, 8, 3, 0, [], .null, []),
  (8, .isub, 9, 0, 0, [], .null, []),
  (9, .if_icmp .eq 5, 12, 14, 0, [], .null, []),
  (12, .iconst 0, 13, 0, 0, [], .int 0, []),
  (13, .ireturn, 14, 0, 0, [], .null, []),
  (14, .iconst 0, 15, 0, 0, [], .int 0, []),
  (15, .istore 5, 17, 5, 0, [], .null, []),
  (17, .iload 5, 19, 5, 0, [], .null, []),
  (19, .iload 4, 21, 4, 0, [], .null, []),
  (21, .iload_n 3, 22, 3, 0, [], .null, []),
  (22, .isub, 23, 0, 0, [], .null, []),
  (23, .if_icmp .ge 34, 26, 57, 0, [], .null, []),
  (26, .aload_n 0, 27, 0, 0, [], .null, []),
  (27, .iload_n 1, 28, 1, 0, [], .null, []),
  (28, .iload 5, 30, 5, 0, [], .null, []),
  (30, .invokevirtual 42, 33, 96, 2, [(0, 9)], .int 0, [490, 491, 492, 69]),
  (33, .aload_n 2, 34, 2, 0, [], .null, []),
  (34, .iload_n 3, 35, 3, 0, [], .null, []),
  (35, .iload 5, 37, 5, 0, [], .null, []),
  (37, .iadd, 38, 0, 0, [], .null, []),
  (38, .invokevirtual 46, 41, 56, 1, [(0, 4)], .int 0, [494, 412, 413, 67]),
  (41, .bipush 97, 43, 0, 0, [], .int 97, []),
  (43, .isub, 44, 0, 0, [], .null, []),
  (44, .iconst 1, 45, 0, 0, [], .int 1, []),
  (45, .iadd, 46, 0, 0, [], .null, []),
  (46, .if_icmp .eq 5, 49, 51, 0, [], .null, []),
  (49, .iconst 0, 50, 0, 0, [], .int 0, []),
  (50, .ireturn, 51, 0, 0, [], .null, []),
  (51, .iinc 5 1, 54, 5, 0, [], .int 1, []),
  (54, .goto (-37), 57, 17, 0, [], .null, []),
  (57, .iconst 1, 58, 0, 0, [], .int 1, []),
  (58, .ireturn, 59, 0, 0, [], .null, [])]
theorem oX9_isSpelt : tX9_isSpelt.all (okE (sX9_isSpelt).1.cls (sX9_isSpelt).2.1) = true := by decide +kernel
def tX9_append : List Ent := [(0, .iload 4, 2, 4, 0, [], .null, []),
  (2, .iload_n 3, 3, 3, 0, [], .null, []),
  (3, .isub, 4, 0, 0, [], .null, []),
  (4, .istore 5, 6, 5, 0, [], .null, []),
  (6, .aload_n 0, 7, 0, 0, [], .null, []),
  (7, .getfield 31, 10, 9, 3, [], .null, [122]),
  (10, .bipush 12, 12, 0, 0, [], .int 12, []),
  (12, .if_icmp .ge 16, 15, 28, 0, [], .null, []),
  (15, .iload 5, 17, 5, 0, [], .null, []),
  (17, .iconst 1, 18, 0, 0, [], .int 1, []),
  (18, .if_icmp .lt 10, 21, 28, 0, [], .null, []),
  (21, .iload 5, 23, 5, 0, [], .null, []),
  (23, .bipush 10, 25, 0, 0, [], .int 10, []),
  (25, .if_icmp .le 4, 28, 29, 0, [], .null, []),
  (28, .return_, 29, 0, 0, [], .null, []),
  (29, .iconst 0, 30, 0, 0, [], .int 0, []),
  (30, .istore 6, 32, 6, 0, [], .null, []),
  (32, .iload 6, 34, 6, 0, [], .null, []),
  (34, .iload 5, 36, 5, 0, [], .null, []),
  (36, .if_icmp .ge 37, 39, 73, 0, [], .null, []),
  (39, .aload_n 0, 40, 0, 0, [], .null, []),
  (40, .getfield 9, 43, 9, 0, [], .null, [119]),
  (43, .aload_n 0, 44, 0, 0, [], .null, []),
  (44, .getfield 31, 47, 9, 3, [], .null, [122]),
  (47, .bipush 10, 49, 0, 0, [], .int 10, []),
  (49, .imul, 50, 0, 0, [], .null, []),
  (50, .iload 6, 52, 6, 0, [], .null, []),
  (52, .iadd, 53, 0, 0, [], .null, []),
  (53, .aload_n 2, 54, 2, 0, [], .null, []),
  (54, .iload_n 3, 55, 3, 0, [], .null, []),
  (55, .iload 6, 57, 6, 0, [], .null, []),
  (57, .iadd, 58, 0, 0, [], .null, []),
  (58, .invokevirtual 46, 61, 56, 1, [(0, 4)], .int 0, [494, 412, 413, 67]),
  (61, .bipush 97, 63, 0, 0, [], .int 97, []),
  (63, .isub, 64, 0, 0, [], .null, []),
  (64, .iconst 1, 65, 0, 0, [], .int 1, []),
  (65, .iadd, 66, 0, 0, [], .null, []),
  (66, .iastore, 67, 0, 0, [], .null, []),
  (67, .iinc 6 1, 70, 6, 0, [], .int 1, []),
  (70, .goto (-38), 73, 32, 0, [], .null, []),
  (73, .aload_n 0, 74, 0, 0, [], .null, []),
  (74, .getfield 15, 77, 9, 1, [], .null, [120]),
  (77, .aload_n 0, 78, 0, 0, [], .null, []),
  (78, .getfield 31, 81, 9, 3, [], .null, [122]),
  (81, .iload 5, 83, 5, 0, [], .null, []),
  (83, .iastore, 84, 0, 0, [], .null, []),
  (84, .aload_n 0, 85, 0, 0, [], .null, []),
  (85, .getfield 18, 88, 9, 2, [], .null, [121]),
  (88, .aload_n 0, 89, 0, 0, [], .null, []),
  (89, .getfield 31, 92, 9, 3, [], .null, [122]),
  (92, .iload_n 1, 93, 1, 0, [], .null, []),
  (93, .iastore, 94, 0, 0, [], .null, []),
  (94, .aload_n 0, 95, 0, 0, [], .null, []),
  (95, .dup, 96, 0, 0, [], .null, []),
  (96, .getfield 31, 99, 9, 3, [], .null, [122]),
  (99, .iconst 1, 100, 0, 0, [], .int 1, []),
  (100, .iadd, 101, 0, 0, [], .null, []),
  (101, .putfield 31, 104, 9, 3, [], .null, [122]),
  (104, .return_, 105, 0, 0, [], .null, [])]
theorem oX9_append : tX9_append.all (okE (sX9_append).1.cls (sX9_append).2.1) = true := by decide +kernel
def tX10_write : List Ent := [(0, .iload_n 3, 1, 3, 0, [], .null, []),
  (1, .iconst 1, 2, 0, 0, [], .int 1, []),
  (2, .if_icmp .lt 9, 5, 11, 0, [], .null, []),
  (5, .iload_n 3, 6, 3, 0, [], .null, []),
  (6, .bipush 8, 8, 0, 0, [], .int 8, []),
  (8, .if_icmp .le 6, 11, 14, 0, [], .null, []),
  (11, .bipush (-3), 13, 0, 0, [], .int (-3), []),
  (13, .ireturn, 14, 0, 0, [], .null, []),
  (14, .aload_n 0, 15, 0, 0, [], .null, []),
  (15, .getfield 10, 18, 10, 0, [], .null, [294]),
  (18, .iload_n 3, 19, 3, 0, [], .null, []),
  (19, .invokevirtual 88, 22, 53, 1, [(0, 4)], .int 0, [335, 336, 337, 67]),
  (22, .ifCond .ne 6, 25, 28, 0, [], .null, []),
  (25, .bipush (-5), 27, 0, 0, [], .int (-5), []),
  (27, .ireturn, 28, 0, 0, [], .null, []),
  (28, .aload_n 0, 29, 0, 0, [], .null, []),
  (29, .getfield 10, 32, 10, 0, [], .null, [294]),
  (32, .lload_n 1, 33, 1, 0, [], .null, []),
  (33, .iload_n 3, 34, 3, 0, [], .null, []),
  (34, .invokevirtual 92, 37, 54, 2, [(0, 4)], .null, [339, 340, 341, 67]),
  (37, .aload_n 0, 38, 0, 0, [], .null, []),
  (38, .getfield 10, 41, 10, 0, [], .null, [294]),
  (41, .invokevirtual 96, 44, 52, 0, [(0, 4)], .int 0, [344, 345, 346, 67]),
  (44, .ireturn, 45, 0, 0, [], .null, [])]
theorem oX10_write : tX10_write.all (okE (sX10_write).1.cls (sX10_write).2.1) = true := by decide +kernel
def tX10_erase : List Ent := [(0, .aload_n 0, 1, 0, 0, [], .null, []),
  (1, .getfield 10, 4, 10, 0, [], .null, [294]),
  (4, .invokevirtual 100, 7, 55, 0, [(0, 4)], .int 0, [352, 353, 354, 67]),
  (7, .ireturn, 8, 0, 0, [], .null, [])]
theorem oX10_erase : tX10_erase.all (okE (sX10_erase).1.cls (sX10_erase).2.1) = true := by decide +kernel
def tX10_fault : List Ent := [(0, .aload_n 0, 1, 0, 0, [], .null, []),
  (1, .getfield 23, 4, 10, 2, [], .null, [296]),
  (4, .aload_n 0, 5, 0, 0, [], .null, []),
  (5, .getfield 19, 8, 10, 1, [], .null, [295]),
  (8, .invokevirtual 103, 11, 89, 1, [(0, 8)], .null, [360, 361, 362, 68]),
  (11, .aload_n 0, 12, 0, 0, [], .null, []),
  (12, .getfield 31, 15, 10, 3, [], .null, [297]),
  (15, .invokevirtual 106, 18, 40, 0, [(0, 3)], .int 0, [376, 377, 378, 71]),
  (18, .ireturn, 19, 0, 0, [], .null, [])]
theorem oX10_fault : tX10_fault.all (okE (sX10_fault).1.cls (sX10_fault).2.1) = true := by decide +kernel
def tX10_order : List Ent := [(0, .aload_n 0, 1, 0, 0, [], .null, []),
  (1, .getfield 23, 4, 10, 2, [], .null, [296]),
  (4, .aload_n 0, 5, 0, 0, [], .null, []),
  (5, .getfield 19, 8, 10, 1, [], .null, [295]),
  (8, .invokevirtual 103, 11, 89, 1, [(0, 8)], .null, [360, 361, 362, 68]),
  (11, .aload_n 0, 12, 0, 0, [], .null, []),
  (12, .getfield 31, 15, 10, 3, [], .null, [297]),
  (15, .invokevirtual 106, 18, 40, 0, [(0, 3)], .int 0, [376, 377, 378, 71]),
  (18, .iconst (-1), 19, 0, 0, [], .int (-1), []),
  (19, .if_icmp .eq 6, 22, 25, 0, [], .null, []),
  (22, .bipush (-4), 24, 0, 0, [], .int (-4), []),
  (24, .ireturn, 25, 0, 0, [], .null, []),
  (25, .aload_n 0, 26, 0, 0, [], .null, []),
  (26, .getfield 19, 29, 10, 1, [], .null, [295]),
  (29, .aload_n 0, 30, 0, 0, [], .null, []),
  (30, .getfield 23, 33, 10, 2, [], .null, [296]),
  (33, .invokevirtual 103, 36, 89, 1, [(0, 8)], .null, [360, 361, 362, 68]),
  (36, .aload_n 0, 37, 0, 0, [], .null, []),
  (37, .getfield 10, 40, 10, 0, [], .null, [294]),
  (40, .invokevirtual 100, 43, 55, 0, [(0, 4)], .int 0, [352, 353, 354, 67]),
  (43, .pop, 44, 0, 0, [], .null, []),
  (44, .aload_n 0, 45, 0, 0, [], .null, []),
  (45, .getfield 38, 48, 10, 4, [], .null, [298]),
  (48, .invokevirtual 109, 51, 67, 0, [(0, 6)], .null, [559, 560, 561, 72]),
  (51, .aload_n 0, 52, 0, 0, [], .null, []),
  (52, .getfield 51, 55, 10, 8, [], .null, [302]),
  (55, .invokevirtual 111, 58, 85, 0, [(0, 7)], .int 0, [563, 564, 565, 73]),
  (58, .pop, 59, 0, 0, [], .null, []),
  (59, .aload_n 0, 60, 0, 0, [], .null, []),
  (60, .iconst 0, 61, 0, 0, [], .int 0, []),
  (61, .putfield 84, 64, 10, 7, [], .null, [301]),
  (64, .aload_n 0, 65, 0, 0, [], .null, []),
  (65, .getfield 31, 68, 10, 3, [], .null, [297]),
  (68, .invokevirtual 112, 71, 39, 0, [(0, 3)], .int 0, [567, 568, 569, 71]),
  (71, .ireturn, 72, 0, 0, [], .null, [])]
theorem oX10_order : tX10_order.all (okE (sX10_order).1.cls (sX10_order).2.1) = true := by decide +kernel
def tX10_word : List Ent := [(0, .aload_n 0, 1, 0, 0, [], .null, []),
  (1, .getfield 19, 4, 10, 1, [], .null, [295]),
  (4, .getfield 57, 7, 8, 0, [], .null, [157]),
  (7, .iload_n 1, 8, 1, 0, [], .null, []),
  (8, .invokevirtual 115, 11, 93, 1, [(0, 9)], .int 0, [575, 576, 577, 69]),
  (11, .ifCond .ne 6, 14, 17, 0, [], .null, []),
  (14, .bipush (-2), 16, 0, 0, [], .int (-2), []),
  (16, .ireturn, 17, 0, 0, [], .null, []),
  (17, .iload_n 2, 18, 2, 0, [], .null, []),
  (18, .ifCond .ne 15, 21, 33, 0, [], .null, []),
  (21, .aload_n 0, 22, 0, 0, [], .null, []),
  (22, .getfield 19, 25, 10, 1, [], .null, [295]),
  (25, .getfield 57, 28, 8, 0, [], .null, [157]),
  (28, .iload_n 1, 29, 1, 0, [], .null, []),
  (29, .invokevirtual 120, 32, 94, 1, [(0, 9)], .int 0, [579, 487, 488, 69]),
  (32, .ireturn, 33, 0, 0, [], .null, []),
  (33, .iload_n 2, 34, 2, 0, [], .null, []),
  (34, .iconst 1, 35, 0, 0, [], .int 1, []),
  (35, .if_icmp .ne 15, 38, 50, 0, [], .null, []),
  (38, .aload_n 0, 39, 0, 0, [], .null, []),
  (39, .getfield 19, 42, 10, 1, [], .null, [295]),
  (42, .getfield 57, 45, 8, 0, [], .null, [157]),
  (45, .iload_n 1, 46, 1, 0, [], .null, []),
  (46, .invokevirtual 124, 49, 95, 1, [(0, 9)], .int 0, [580, 581, 582, 69]),
  (49, .ireturn, 50, 0, 0, [], .null, []),
  (50, .iload_n 2, 51, 2, 0, [], .null, []),
  (51, .bipush 10, 53, 0, 0, [], .int 10, []),
  (53, .if_icmp .lt 9, 56, 62, 0, [], .null, []),
  (56, .iload_n 2, 57, 2, 0, [], .null, []),
  (57, .bipush 20, 59, 0, 0, [], .int 20, []),
  (59, .if_icmp .lt 6, 62, 65, 0, [], .null, []),
  (62, .bipush (-3), 64, 0, 0, [], .int (-3), []),
  (64, .ireturn, 65, 0, 0, [], .null, []),
  (65, .aload_n 0, 66, 0, 0, [], .null, []),
  (66, .getfield 19, 69, 10, 1, [], .null, [295]),
  (69, .getfield 57, 72, 8, 0, [], .null, [157]),
  (72, .iload_n 1, 73, 1, 0, [], .null, []),
  (73, .iload_n 2, 74, 2, 0, [], .null, []),
  (74, .bipush 10, 76, 0, 0, [], .int 10, []),
  (76, .isub, 77, 0, 0, [], .null, []),
  (77, .invokevirtual 127, 80, 96, 2, [(0, 9)], .int 0, [584, 491, 492, 69]),
  (80, .ireturn, 81, 0, 0, [], .null, [])]
theorem oX10_word : tX10_word.all (okE (sX10_word).1.cls (sX10_word).2.1) = true := by decide +kernel
def tX10_voice : List Ent := [(0, .aload_n 0, 1, 0, 0, [], .null, []),
  (1, .getfield 19, 4, 10, 1, [], .null, [295]),
  (4, .getfield 131, 7, 8, 1, [], .null, [162]),
  (7, .iload_n 1, 8, 1, 0, [], .null, []),
  (8, .invokevirtual 135, 11, 4, 1, [(0, 0)], .int 0, [589, 551, 552, 70]),
  (11, .ifCond .ne 6, 14, 17, 0, [], .null, []),
  (14, .bipush (-2), 16, 0, 0, [], .int (-2), []),
  (16, .ireturn, 17, 0, 0, [], .null, []),
  (17, .iload_n 2, 18, 2, 0, [], .null, []),
  (18, .tableswitch 98 0 3 #[30, 50, 70, 82], 48, 116, 0, [(0, 48), (1, 68), (2, 88), (3, 100)], .null, []),
  (48, .aload_n 0, 49, 0, 0, [], .null, []),
  (49, .getfield 19, 52, 10, 1, [], .null, [295]),
  (52, .getfield 131, 55, 8, 1, [], .null, [162]),
  (55, .iload_n 1, 56, 1, 0, [], .null, []),
  (56, .invokevirtual 138, 59, 5, 1, [(0, 0)], .int 0, [590, 591, 592, 70]),
  (59, .ifCond .eq 7, 62, 66, 0, [], .null, []),
  (62, .iconst 1, 63, 0, 0, [], .int 1, []),
  (63, .goto 4, 66, 67, 0, [], .null, []),
  (66, .iconst 0, 67, 0, 0, [], .int 0, []),
  (67, .ireturn, 68, 0, 0, [], .null, []),
  (68, .aload_n 0, 69, 0, 0, [], .null, []),
  (69, .getfield 19, 72, 10, 1, [], .null, [295]),
  (72, .getfield 131, 75, 8, 1, [], .null, [162]),
  (75, .iload_n 1, 76, 1, 0, [], .null, []),
  (76, .invokevirtual 141, 79, 6, 1, [(0, 0)], .int 0, [594, 595, 596, 70]),
  (79, .ifCond .eq 7, 82, 86, 0, [], .null, []),
  (82, .iconst 1, 83, 0, 0, [], .int 1, []),
  (83, .goto 4, 86, 87, 0, [], .null, []),
  (86, .iconst 0, 87, 0, 0, [], .int 0, []),
  (87, .ireturn, 88, 0, 0, [], .null, []),
  (88, .aload_n 0, 89, 0, 0, [], .null, []),
  (89, .getfield 19, 92, 10, 1, [], .null, [295]),
  (92, .getfield 131, 95, 8, 1, [], .null, [162]),
  (95, .iload_n 1, 96, 1, 0, [], .null, []),
  (96, .invokevirtual 144, 99, 7, 1, [(0, 0)], .int 0, [598, 599, 600, 70]),
  (99, .ireturn, 100, 0, 0, [], .null, []),
  (100, .aload_n 0, 101, 0, 0, [], .null, []),
  (101, .getfield 38, 104, 10, 4, [], .null, [298]),
  (104, .iload_n 1, 105, 1, 0, [], .null, []),
  (105, .aload_n 0, 106, 0, 0, [], .null, []),
  (106, .getfield 19, 109, 10, 1, [], .null, [295]),
  (109, .getfield 131, 112, 8, 1, [], .null, [162]),
  (112, .invokevirtual 147, 115, 78, 2, [(0, 6)], .int 0, [602, 603, 604, 72]),
  (115, .ireturn, 116, 0, 0, [], .null, []),
  (116, .bipush (-3), 118, 0, 0, [], .int (-3), []),
  (118, .ireturn, 119, 0, 0, [], .null, [])]
theorem oX10_voice : tX10_voice.all (okE (sX10_voice).1.cls (sX10_voice).2.1) = true := by decide +kernel
def tX10_preach : List Ent := [(0, .aload_n 0, 1, 0, 0, [], .null, []),
  (1, .getfield 19, 4, 10, 1, [], .null, [295]),
  (4, .getfield 57, 7, 8, 0, [], .null, [157]),
  (7, .iload_n 1, 8, 1, 0, [], .null, []),
  (8, .invokevirtual 115, 11, 93, 1, [(0, 9)], .int 0, [575, 576, 577, 69]),
  (11, .ifCond .ne 6, 14, 17, 0, [], .null, []),
  (14, .bipush (-2), 16, 0, 0, [], .int (-2), []),
  (16, .ireturn, 17, 0, 0, [], .null, []),
  (17, .aload_n 0, 18, 0, 0, [], .null, []),
  (18, .getfield 38, 21, 10, 4, [], .null, [298]),
  (21, .invokevirtual 151, 24, 71, 0, [(0, 6)], .int 0, [621, 622, 623, 72]),
  (24, .istore_n 2, 25, 2, 0, [], .null, []),
  (25, .iload_n 2, 26, 2, 0, [], .null, []),
  (26, .iconst (-1), 27, 0, 0, [], .int (-1), []),
  (27, .if_icmp .eq 41, 30, 68, 0, [], .null, []),
  (30, .aload_n 0, 31, 0, 0, [], .null, []),
  (31, .getfield 19, 34, 10, 1, [], .null, [295]),
  (34, .getfield 57, 37, 8, 0, [], .null, [157]),
  (37, .aload_n 0, 38, 0, 0, [], .null, []),
  (38, .getfield 19, 41, 10, 1, [], .null, [295]),
  (41, .getfield 57, 44, 8, 0, [], .null, [157]),
  (44, .iload_n 2, 45, 2, 0, [], .null, []),
  (45, .invokevirtual 124, 48, 95, 1, [(0, 9)], .int 0, [580, 581, 582, 69]),
  (48, .aload_n 0, 49, 0, 0, [], .null, []),
  (49, .getfield 19, 52, 10, 1, [], .null, [295]),
  (52, .getfield 57, 55, 8, 0, [], .null, [157]),
  (55, .iload_n 1, 56, 1, 0, [], .null, []),
  (56, .invokevirtual 124, 59, 95, 1, [(0, 9)], .int 0, [580, 581, 582, 69]),
  (59, .invokevirtual 154, 62, 98, 2, [(0, 9)], .int 0, [625, 626, 627, 69]),
  (62, .ifCond .ne 6, 65, 68, 0, [], .null, []),
  (65, .bipush (-4), 67, 0, 0, [], .int (-4), []),
  (67, .ireturn, 68, 0, 0, [], .null, []),
  (68, .aload_n 0, 69, 0, 0, [], .null, []),
  (69, .getfield 38, 72, 10, 4, [], .null, [298]),
  (72, .aload_n 0, 73, 0, 0, [], .null, []),
  (73, .getfield 19, 76, 10, 1, [], .null, [295]),
  (76, .getfield 57, 79, 8, 0, [], .null, [157]),
  (79, .iload_n 1, 80, 1, 0, [], .null, []),
  (80, .invokevirtual 120, 83, 94, 1, [(0, 9)], .int 0, [579, 487, 488, 69]),
  (83, .invokevirtual 158, 86, 72, 1, [(0, 6)], .int 0, [629, 630, 631, 72]),
  (86, .ifCond .ne 6, 89, 92, 0, [], .null, []),
  (89, .bipush (-5), 91, 0, 0, [], .int (-5), []),
  (91, .ireturn, 92, 0, 0, [], .null, []),
  (92, .aload_n 0, 93, 0, 0, [], .null, []),
  (93, .getfield 38, 96, 10, 4, [], .null, [298]),
  (96, .iload_n 1, 97, 1, 0, [], .null, []),
  (97, .aload_n 0, 98, 0, 0, [], .null, []),
  (98, .getfield 19, 101, 10, 1, [], .null, [295]),
  (101, .getfield 57, 104, 8, 0, [], .null, [157]),
  (104, .invokevirtual 159, 107, 73, 2, [(0, 6)], .null, [633, 634, 635, 72]),
  (107, .aload_n 0, 108, 0, 0, [], .null, []),
  (108, .getfield 38, 111, 10, 4, [], .null, [298]),
  (111, .invokevirtual 162, 114, 68, 0, [(0, 6)], .int 0, [640, 641, 642, 72]),
  (114, .ireturn, 115, 0, 0, [], .null, [])]
theorem oX10_preach : tX10_preach.all (okE (sX10_preach).1.cls (sX10_preach).2.1) = true := by decide +kernel
def tX10_amen : List Ent := [(0, .aload_n 0, 1, 0, 0, [], .null, []),
  (1, .getfield 38, 4, 10, 4, [], .null, [298]),
  (4, .invokevirtual 165, 7, 69, 0, [(0, 6)], .int 0, [648, 649, 650, 72]),
  (7, .istore_n 1, 8, 1, 0, [], .null, []),
  (8, .aload_n 0, 9, 0, 0, [], .null, []),
  (9, .getfield 38, 12, 10, 4, [], .null, [298]),
  (12, .invokevirtual 109, 15, 67, 0, [(0, 6)], .null, [559, 560, 561, 72]),
  (15, .iload_n 1, 16, 1, 0, [], .null, []),
  (16, .ireturn, 17, 0, 0, [], .null, [])]
theorem oX10_amen : tX10_amen.all (okE (sX10_amen).1.cls (sX10_amen).2.1) = true := by decide +kernel
def tX10_say : List Ent := [(0, .iload_n 1, 1, 1, 0, [], .null, []),
  (1, .iconst 1, 2, 0, 0, [], .int 1, []),
  (2, .if_icmp .lt 9, 5, 11, 0, [], .null, []),
  (5, .iload_n 1, 6, 1, 0, [], .null, []),
  (6, .bipush 60, 8, 0, 0, [], .int 60, []),
  (8, .if_icmp .le 6, 11, 14, 0, [], .null, []),
  (11, .bipush (-3), 13, 0, 0, [], .int (-3), []),
  (13, .ireturn, 14, 0, 0, [], .null, []),
  (14, .aload_n 0, 15, 0, 0, [], .null, []),
  (15, .getfield 38, 18, 10, 4, [], .null, [298]),
  (18, .iload_n 1, 19, 1, 0, [], .null, []),
  (19, .invokevirtual 168, 22, 74, 1, [(0, 6)], .null, [656, 657, 658, 72]),
  (22, .aload_n 0, 23, 0, 0, [], .null, []),
  (23, .getfield 38, 26, 10, 4, [], .null, [298]),
  (26, .invokevirtual 172, 29, 70, 0, [(0, 6)], .int 0, [661, 662, 663, 72]),
  (29, .ireturn, 30, 0, 0, [], .null, [])]
theorem oX10_say : tX10_say.all (okE (sX10_say).1.cls (sX10_say).2.1) = true := by decide +kernel
def tX10_heard : List Ent := [(0, .iload_n 1, 1, 1, 0, [], .null, []),
  (1, .ifCond .ge 6, 4, 7, 0, [], .null, []),
  (4, .bipush (-3), 6, 0, 0, [], .int (-3), []),
  (6, .ireturn, 7, 0, 0, [], .null, []),
  (7, .iload_n 1, 8, 1, 0, [], .null, []),
  (8, .aload_n 0, 9, 0, 0, [], .null, []),
  (9, .getfield 38, 12, 10, 4, [], .null, [298]),
  (12, .invokevirtual 172, 15, 70, 0, [(0, 6)], .int 0, [661, 662, 663, 72]),
  (15, .if_icmp .lt 5, 18, 20, 0, [], .null, []),
  (18, .iconst (-1), 19, 0, 0, [], .int (-1), []),
  (19, .ireturn, 20, 0, 0, [], .null, []),
  (20, .aload_n 0, 21, 0, 0, [], .null, []),
  (21, .getfield 38, 24, 10, 4, [], .null, [298]),
  (24, .iload_n 1, 25, 1, 0, [], .null, []),
  (25, .aload_n 0, 26, 0, 0, [], .null, []),
  (26, .getfield 19, 29, 10, 1, [], .null, [295]),
  (29, .getfield 131, 32, 8, 1, [], .null, [162]),
  (32, .invokevirtual 175, 35, 76, 2, [(0, 6)], .int 0, [669, 670, 671, 72]),
  (35, .ireturn, 36, 0, 0, [], .null, [])]
theorem oX10_heard : tX10_heard.all (okE (sX10_heard).1.cls (sX10_heard).2.1) = true := by decide +kernel
def tX10_tally : List Ent := [(0, .iload_n 1, 1, 1, 0, [], .null, []),
  (1, .tableswitch 104 0 2 #[27, 50, 65], 28, 105, 0, [(0, 28), (1, 51), (2, 66)], .null, []),
  (28, .aload_n 0, 29, 0, 0, [], .null, []),
  (29, .getfield 38, 32, 10, 4, [], .null, [298]),
  (32, .invokevirtual 172, 35, 70, 0, [(0, 6)], .int 0, [661, 662, 663, 72]),
  (35, .aload_n 0, 36, 0, 0, [], .null, []),
  (36, .getfield 38, 39, 10, 4, [], .null, [298]),
  (39, .aload_n 0, 40, 0, 0, [], .null, []),
  (40, .getfield 19, 43, 10, 1, [], .null, [295]),
  (43, .getfield 131, 46, 8, 1, [], .null, [162]),
  (46, .invokevirtual 178, 49, 77, 1, [(0, 6)], .int 0, [681, 682, 683, 72]),
  (49, .isub, 50, 0, 0, [], .null, []),
  (50, .ireturn, 51, 0, 0, [], .null, []),
  (51, .aload_n 0, 52, 0, 0, [], .null, []),
  (52, .getfield 38, 55, 10, 4, [], .null, [298]),
  (55, .aload_n 0, 56, 0, 0, [], .null, []),
  (56, .getfield 19, 59, 10, 1, [], .null, [295]),
  (59, .getfield 131, 62, 8, 1, [], .null, [162]),
  (62, .invokevirtual 178, 65, 77, 1, [(0, 6)], .int 0, [681, 682, 683, 72]),
  (65, .ireturn, 66, 0, 0, [], .null, []),
  (66, .aload_n 0, 67, 0, 0, [], .null, []),
  (67, .getfield 38, 70, 10, 4, [], .null, [298]),
  (70, .invokevirtual 172, 73, 70, 0, [(0, 6)], .int 0, [661, 662, 663, 72]),
  (73, .aload_n 0, 74, 0, 0, [], .null, []),
  (74, .getfield 38, 77, 10, 4, [], .null, [298]),
  (77, .invokevirtual 162, 80, 68, 0, [(0, 6)], .int 0, [640, 641, 642, 72]),
  (80, .if_icmp .ge 23, 83, 103, 0, [], .null, []),
  (83, .aload_n 0, 84, 0, 0, [], .null, []),
  (84, .getfield 19, 87, 10, 1, [], .null, [295]),
  (87, .getfield 131, 90, 8, 1, [], .null, [162]),
  (90, .aload_n 0, 91, 0, 0, [], .null, []),
  (91, .getfield 38, 94, 10, 4, [], .null, [298]),
  (94, .invokevirtual 172, 97, 70, 0, [(0, 6)], .int 0, [661, 662, 663, 72]),
  (97, .invokevirtual 182, 100, 11, 1, [(0, 0)], .int 0, [685, 607, 608, 70]),
  (100, .goto 4, 103, 104, 0, [], .null, []),
  (103, .iconst (-1), 104, 0, 0, [], .int (-1), []),
  (104, .ireturn, 105, 0, 0, [], .null, []),
  (105, .bipush (-3), 107, 0, 0, [], .int (-3), []),
  (107, .ireturn, 108, 0, 0, [], .null, [])]
theorem oX10_tally : tX10_tally.all (okE (sX10_tally).1.cls (sX10_tally).2.1) = true := by decide +kernel
def tX10_sound : List Ent := [(0, .iload_n 1, 1, 1, 0, [], .null, []),
  (1, .ifCond .lt 9, 4, 10, 0, [], .null, []),
  (4, .iload_n 1, 5, 1, 0, [], .null, []),
  (5, .bipush 26, 7, 0, 0, [], .int 26, []),
  (7, .if_icmp .le 6, 10, 13, 0, [], .null, []),
  (10, .bipush (-3), 12, 0, 0, [], .int (-3), []),
  (12, .ireturn, 13, 0, 0, [], .null, []),
  (13, .aload_n 0, 14, 0, 0, [], .null, []),
  (14, .getfield 51, 17, 10, 8, [], .null, [302]),
  (17, .invokevirtual 185, 20, 84, 0, [(0, 7)], .int 0, [690, 691, 692, 73]),
  (20, .ifCond .eq 6, 23, 26, 0, [], .null, []),
  (23, .bipush (-5), 25, 0, 0, [], .int (-5), []),
  (25, .ireturn, 26, 0, 0, [], .null, []),
  (26, .aload_n 0, 27, 0, 0, [], .null, []),
  (27, .getfield 51, 30, 10, 8, [], .null, [302]),
  (30, .iload_n 1, 31, 1, 0, [], .null, []),
  (31, .invokevirtual 189, 34, 86, 1, [(0, 7)], .null, [694, 695, 696, 73]),
  (34, .aload_n 0, 35, 0, 0, [], .null, []),
  (35, .getfield 51, 38, 10, 8, [], .null, [302]),
  (38, .invokevirtual 191, 41, 83, 0, [(0, 7)], .int 0, [699, 700, 701, 73]),
  (41, .ireturn, 42, 0, 0, [], .null, [])]
theorem oX10_sound : tX10_sound.all (okE (sX10_sound).1.cls (sX10_sound).2.1) = true := by decide +kernel
def tX10_listen : List Ent := [(0, .aload_n 0, 1, 0, 0, [], .null, []),
  (1, .getfield 51, 4, 10, 8, [], .null, [302]),
  (4, .invokevirtual 111, 7, 85, 0, [(0, 7)], .int 0, [563, 564, 565, 73]),
  (7, .pop, 8, 0, 0, [], .null, []),
  (8, .iconst 0, 9, 0, 0, [], .int 0, []),
  (9, .istore_n 1, 10, 1, 0, [], .null, []),
  (10, .iload_n 1, 11, 1, 0, [], .null, []),
  (11, .aload_n 0, 12, 0, 0, [], .null, []),
  (12, .getfield 38, 15, 10, 4, [], .null, [298]),
  (15, .invokevirtual 172, 18, 70, 0, [(0, 6)], .int 0, [661, 662, 663, 72]),
  (18, .if_icmp .ge 31, 21, 49, 0, [], .null, []),
  (21, .aload_n 0, 22, 0, 0, [], .null, []),
  (22, .getfield 51, 25, 10, 8, [], .null, [302]),
  (25, .aload_n 0, 26, 0, 0, [], .null, []),
  (26, .getfield 38, 29, 10, 4, [], .null, [298]),
  (29, .iload_n 1, 30, 1, 0, [], .null, []),
  (30, .aload_n 0, 31, 0, 0, [], .null, []),
  (31, .getfield 19, 34, 10, 1, [], .null, [295]),
  (34, .getfield 131, 37, 8, 1, [], .null, [162]),
  (37, .invokevirtual 175, 40, 76, 2, [(0, 6)], .int 0, [669, 670, 671, 72]),
  (40, .invokevirtual 189, 43, 86, 1, [(0, 7)], .null, [694, 695, 696, 73]),
  (43, .iinc 1 1, 46, 1, 0, [], .int 1, []),
  (46, .goto (-36), 49, 10, 0, [], .null, []),
  (49, .aload_n 0, 50, 0, 0, [], .null, []),
  (50, .getfield 51, 53, 10, 8, [], .null, [302]),
  (53, .invokevirtual 191, 56, 83, 0, [(0, 7)], .int 0, [699, 700, 701, 73]),
  (56, .ireturn, 57, 0, 0, [], .null, [])]
theorem oX10_listen : tX10_listen.all (okE (sX10_listen).1.cls (sX10_listen).2.1) = true := by decide +kernel
def tX10_hush : List Ent := [(0, .aload_n 0, 1, 0, 0, [], .null, []),
  (1, .getfield 51, 4, 10, 8, [], .null, [302]),
  (4, .invokevirtual 111, 7, 85, 0, [(0, 7)], .int 0, [563, 564, 565, 73]),
  (7, .ireturn, 8, 0, 0, [], .null, [])]
theorem oX10_hush : tX10_hush.all (okE (sX10_hush).1.cls (sX10_hush).2.1) = true := by decide +kernel
def tX10_fits : List Ent := [(0, .aload_n 0, 1, 0, 0, [], .null, []),
  (1, .getfield 19, 4, 10, 1, [], .null, [295]),
  (4, .getfield 57, 7, 8, 0, [], .null, [157]),
  (7, .iload_n 1, 8, 1, 0, [], .null, []),
  (8, .invokevirtual 115, 11, 93, 1, [(0, 9)], .int 0, [575, 576, 577, 69]),
  (11, .ifCond .ne 6, 14, 17, 0, [], .null, []),
  (14, .bipush (-2), 16, 0, 0, [], .int (-2), []),
  (16, .ireturn, 17, 0, 0, [], .null, []),
  (17, .iload_n 2, 18, 2, 0, [], .null, []),
  (18, .ifCond .lt 14, 21, 32, 0, [], .null, []),
  (21, .iload_n 2, 22, 2, 0, [], .null, []),
  (22, .aload_n 0, 23, 0, 0, [], .null, []),
  (23, .getfield 51, 26, 10, 8, [], .null, [302]),
  (26, .invokevirtual 191, 29, 83, 0, [(0, 7)], .int 0, [699, 700, 701, 73]),
  (29, .if_icmp .le 6, 32, 35, 0, [], .null, []),
  (32, .bipush (-3), 34, 0, 0, [], .int (-3), []),
  (34, .ireturn, 35, 0, 0, [], .null, []),
  (35, .aload_n 0, 36, 0, 0, [], .null, []),
  (36, .getfield 51, 39, 10, 8, [], .null, [302]),
  (39, .aload_n 0, 40, 0, 0, [], .null, []),
  (40, .getfield 19, 43, 10, 1, [], .null, [295]),
  (43, .getfield 57, 46, 8, 0, [], .null, [157]),
  (46, .iload_n 1, 47, 1, 0, [], .null, []),
  (47, .iload_n 2, 48, 2, 0, [], .null, []),
  (48, .invokevirtual 192, 51, 88, 3, [(0, 7)], .int 0, [715, 716, 717, 73]),
  (51, .ifCond .eq 7, 54, 58, 0, [], .null, []),
  (54, .iconst 1, 55, 0, 0, [], .int 1, []),
  (55, .goto 4, 58, 59, 0, [], .null, []),
  (58, .iconst 0, 59, 0, 0, [], .int 0, []),
  (59, .ireturn, 60, 0, 0, [], .null, [])]
theorem oX10_fits : tX10_fits.all (okE (sX10_fits).1.cls (sX10_fits).2.1) = true := by decide +kernel
def tX10_readings : List Ent := [(0, .iload_n 1, 1, 1, 0, [], .null, []),
  (1, .bipush 10, 3, 0, 0, [], .int 10, []),
  (3, .if_icmp .lt 13, 6, 16, 0, [], .null, []),
  (6, .iload_n 1, 7, 1, 0, [], .null, []),
  (7, .bipush 16, 9, 0, 0, [], .int 16, []),
  (9, .if_icmp .ge 7, 12, 16, 0, [], .null, []),
  (12, .iconst 1, 13, 0, 0, [], .int 1, []),
  (13, .goto 4, 16, 17, 0, [], .null, []),
  (16, .iconst 0, 17, 0, 0, [], .int 0, []),
  (17, .istore_n 2, 18, 2, 0, [], .null, []),
  (18, .iload_n 1, 19, 1, 0, [], .null, []),
  (19, .ifCond .eq 15, 22, 34, 0, [], .null, []),
  (22, .iload_n 1, 23, 1, 0, [], .null, []),
  (23, .iconst 1, 24, 0, 0, [], .int 1, []),
  (24, .if_icmp .eq 10, 27, 34, 0, [], .null, []),
  (27, .iload_n 2, 28, 2, 0, [], .null, []),
  (28, .ifCond .ne 6, 31, 34, 0, [], .null, []),
  (31, .bipush (-3), 33, 0, 0, [], .int (-3), []),
  (33, .ireturn, 34, 0, 0, [], .null, []),
  (34, .aload_n 0, 35, 0, 0, [], .null, []),
  (35, .getfield 64, 38, 10, 9, [], .null, [303]),
  (38, .invokevirtual 196, 41, 13, 0, [(0, 1)], .null, [729, 730, 731, 74]),
  (41, .iload_n 1, 42, 1, 0, [], .null, []),
  (42, .ifCond .ne 11, 45, 53, 0, [], .null, []),
  (45, .aload_n 0, 46, 0, 0, [], .null, []),
  (46, .getfield 64, 49, 10, 9, [], .null, [303]),
  (49, .invokevirtual 199, 52, 22, 0, [(0, 1)], .int 0, [774, 775, 776, 74]),
  (52, .ireturn, 53, 0, 0, [], .null, []),
  (53, .iload_n 1, 54, 1, 0, [], .null, []),
  (54, .iconst 1, 55, 0, 0, [], .int 1, []),
  (55, .if_icmp .ne 13, 58, 68, 0, [], .null, []),
  (58, .aload_n 0, 59, 0, 0, [], .null, []),
  (59, .getfield 64, 62, 10, 9, [], .null, [303]),
  (62, .invokevirtual 202, 65, 23, 0, [(0, 1)], .int 0, [778, 779, 780, 74]),
  (65, .goto 14, 68, 79, 0, [], .null, []),
  (68, .aload_n 0, 69, 0, 0, [], .null, []),
  (69, .getfield 64, 72, 10, 9, [], .null, [303]),
  (72, .iload_n 1, 73, 1, 0, [], .null, []),
  (73, .bipush 10, 75, 0, 0, [], .int 10, []),
  (75, .isub, 76, 0, 0, [], .null, []),
  (76, .invokevirtual 205, 79, 25, 1, [(0, 1)], .int 0, [786, 787, 788, 74]),
  (79, .ireturn, 80, 0, 0, [], .null, [])]
theorem oX10_readings : tX10_readings.all (okE (sX10_readings).1.cls (sX10_readings).2.1) = true := by decide +kernel
def tX10_came : List Ent := [(0, .iload_n 1, 1, 1, 0, [], .null, []),
  (1, .ifCond .eq 11, 4, 12, 0, [], .null, []),
  (4, .iload_n 1, 5, 1, 0, [], .null, []),
  (5, .iconst 1, 6, 0, 0, [], .int 1, []),
  (6, .if_icmp .eq 6, 9, 12, 0, [], .null, []),
  (9, .bipush (-3), 11, 0, 0, [], .int (-3), []),
  (11, .ireturn, 12, 0, 0, [], .null, []),
  (12, .aload_n 0, 13, 0, 0, [], .null, []),
  (13, .getfield 51, 16, 10, 8, [], .null, [302]),
  (16, .invokevirtual 191, 19, 83, 0, [(0, 7)], .int 0, [699, 700, 701, 73]),
  (19, .aload_n 0, 20, 0, 0, [], .null, []),
  (20, .getfield 38, 23, 10, 4, [], .null, [298]),
  (23, .invokevirtual 162, 26, 68, 0, [(0, 6)], .int 0, [640, 641, 642, 72]),
  (26, .if_icmp .eq 6, 29, 32, 0, [], .null, []),
  (29, .bipush (-4), 31, 0, 0, [], .int (-4), []),
  (31, .ireturn, 32, 0, 0, [], .null, []),
  (32, .iload_n 1, 33, 1, 0, [], .null, []),
  (33, .ifCond .ne 27, 36, 60, 0, [], .null, []),
  (36, .aload_n 0, 37, 0, 0, [], .null, []),
  (37, .getfield 38, 40, 10, 4, [], .null, [298]),
  (40, .aload_n 0, 41, 0, 0, [], .null, []),
  (41, .getfield 51, 44, 10, 8, [], .null, [302]),
  (44, .aload_n 0, 45, 0, 0, [], .null, []),
  (45, .getfield 19, 48, 10, 1, [], .null, [295]),
  (48, .getfield 131, 51, 8, 1, [], .null, [162]),
  (51, .invokevirtual 208, 54, 2, 0, [(0, 0)], .int 0, [798, 523, 524, 70]),
  (54, .invokevirtual 211, 57, 79, 2, [(0, 6)], .int 0, [799, 800, 801, 72]),
  (57, .goto 24, 60, 81, 0, [], .null, []),
  (60, .aload_n 0, 61, 0, 0, [], .null, []),
  (61, .getfield 38, 64, 10, 4, [], .null, [298]),
  (64, .aload_n 0, 65, 0, 0, [], .null, []),
  (65, .getfield 51, 68, 10, 8, [], .null, [302]),
  (68, .aload_n 0, 69, 0, 0, [], .null, []),
  (69, .getfield 19, 72, 10, 1, [], .null, [295]),
  (72, .getfield 131, 75, 8, 1, [], .null, [162]),
  (75, .invokevirtual 208, 78, 2, 0, [(0, 0)], .int 0, [798, 523, 524, 70]),
  (78, .invokevirtual 215, 81, 80, 2, [(0, 6)], .int 0, [808, 809, 810, 72]),
  (81, .ireturn, 82, 0, 0, [], .null, [])]
theorem oX10_came : tX10_came.all (okE (sX10_came).1.cls (sX10_came).2.1) = true := by decide +kernel
def tX10_alone : List Ent := [(0, .aload_n 0, 1, 0, 0, [], .null, []),
  (1, .getfield 19, 4, 10, 1, [], .null, [295]),
  (4, .getfield 57, 7, 8, 0, [], .null, [157]),
  (7, .iload_n 1, 8, 1, 0, [], .null, []),
  (8, .invokevirtual 115, 11, 93, 1, [(0, 9)], .int 0, [575, 576, 577, 69]),
  (11, .ifCond .ne 6, 14, 17, 0, [], .null, []),
  (14, .bipush (-2), 16, 0, 0, [], .int (-2), []),
  (16, .ireturn, 17, 0, 0, [], .null, []),
  (17, .iload_n 2, 18, 2, 0, [], .null, []),
  (18, .ifCond .lt 17, 21, 35, 0, [], .null, []),
  (21, .iload_n 2, 22, 2, 0, [], .null, []),
  (22, .aload_n 0, 23, 0, 0, [], .null, []),
  (23, .getfield 19, 26, 10, 1, [], .null, [295]),
  (26, .getfield 131, 29, 8, 1, [], .null, [162]),
  (29, .invokevirtual 218, 32, 3, 0, [(0, 0)], .int 0, [820, 821, 822, 70]),
  (32, .if_icmp .le 6, 35, 38, 0, [], .null, []),
  (35, .bipush (-3), 37, 0, 0, [], .int (-3), []),
  (37, .ireturn, 38, 0, 0, [], .null, []),
  (38, .aload_n 0, 39, 0, 0, [], .null, []),
  (39, .getfield 73, 42, 10, 10, [], .null, [304]),
  (42, .iload_n 1, 43, 1, 0, [], .null, []),
  (43, .iload_n 2, 44, 2, 0, [], .null, []),
  (44, .invokevirtual 221, 47, 27, 2, [(0, 2)], .int 0, [824, 825, 826, 75]),
  (47, .ireturn, 48, 0, 0, [], .null, [])]
theorem oX10_alone : tX10_alone.all (okE (sX10_alone).1.cls (sX10_alone).2.1) = true := by decide +kernel
def tX10_twins : List Ent := [(0, .aload_n 0, 1, 0, 0, [], .null, []),
  (1, .getfield 19, 4, 10, 1, [], .null, [295]),
  (4, .getfield 131, 7, 8, 1, [], .null, [162]),
  (7, .iload_n 1, 8, 1, 0, [], .null, []),
  (8, .invokevirtual 135, 11, 4, 1, [(0, 0)], .int 0, [589, 551, 552, 70]),
  (11, .ifCond .ne 6, 14, 17, 0, [], .null, []),
  (14, .bipush (-2), 16, 0, 0, [], .int (-2), []),
  (16, .ireturn, 17, 0, 0, [], .null, []),
  (17, .iload_n 2, 18, 2, 0, [], .null, []),
  (18, .ifCond .eq 11, 21, 29, 0, [], .null, []),
  (21, .iload_n 2, 22, 2, 0, [], .null, []),
  (22, .iconst 1, 23, 0, 0, [], .int 1, []),
  (23, .if_icmp .eq 6, 26, 29, 0, [], .null, []),
  (26, .bipush (-3), 28, 0, 0, [], .int (-3), []),
  (28, .ireturn, 29, 0, 0, [], .null, []),
  (29, .iload_n 2, 30, 2, 0, [], .null, []),
  (30, .ifCond .ne 14, 33, 44, 0, [], .null, []),
  (33, .aload_n 0, 34, 0, 0, [], .null, []),
  (34, .getfield 73, 37, 10, 10, [], .null, [304]),
  (37, .iload_n 1, 38, 1, 0, [], .null, []),
  (38, .invokevirtual 224, 41, 29, 1, [(0, 2)], .int 0, [840, 841, 842, 75]),
  (41, .goto 11, 44, 52, 0, [], .null, []),
  (44, .aload_n 0, 45, 0, 0, [], .null, []),
  (45, .getfield 73, 48, 10, 10, [], .null, [304]),
  (48, .iload_n 1, 49, 1, 0, [], .null, []),
  (49, .invokevirtual 227, 52, 30, 1, [(0, 2)], .int 0, [850, 851, 852, 75]),
  (52, .ireturn, 53, 0, 0, [], .null, [])]
theorem oX10_twins : tX10_twins.all (okE (sX10_twins).1.cls (sX10_twins).2.1) = true := by decide +kernel
def tX10_learnt : List Ent := [(0, .aload_n 0, 1, 0, 0, [], .null, []),
  (1, .getfield 19, 4, 10, 1, [], .null, [295]),
  (4, .getfield 131, 7, 8, 1, [], .null, [162]),
  (7, .iload_n 1, 8, 1, 0, [], .null, []),
  (8, .invokevirtual 135, 11, 4, 1, [(0, 0)], .int 0, [589, 551, 552, 70]),
  (11, .ifCond .ne 6, 14, 17, 0, [], .null, []),
  (14, .bipush (-2), 16, 0, 0, [], .int (-2), []),
  (16, .ireturn, 17, 0, 0, [], .null, []),
  (17, .iload_n 2, 18, 2, 0, [], .null, []),
  (18, .ifCond .eq 11, 21, 29, 0, [], .null, []),
  (21, .iload_n 2, 22, 2, 0, [], .null, []),
  (22, .iconst 1, 23, 0, 0, [], .int 1, []),
  (23, .if_icmp .eq 6, 26, 29, 0, [], .null, []),
  (26, .bipush (-3), 28, 0, 0, [], .int (-3), []),
  (28, .ireturn, 29, 0, 0, [], .null, []),
  (29, .iload_n 3, 30, 3, 0, [], .null, []),
  (30, .ifCond .eq 11, 33, 41, 0, [], .null, []),
  (33, .iload_n 3, 34, 3, 0, [], .null, []),
  (34, .iconst 1, 35, 0, 0, [], .int 1, []),
  (35, .if_icmp .eq 6, 38, 41, 0, [], .null, []),
  (38, .bipush (-3), 40, 0, 0, [], .int (-3), []),
  (40, .ireturn, 41, 0, 0, [], .null, []),
  (41, .aload_n 0, 42, 0, 0, [], .null, []),
  (42, .getfield 19, 45, 10, 1, [], .null, [295]),
  (45, .getfield 57, 48, 8, 0, [], .null, [157]),
  (48, .invokevirtual 230, 51, 91, 0, [(0, 9)], .int 0, [858, 739, 740, 69]),
  (51, .istore 4, 53, 4, 0, [], .null, []),
  (53, .iload 4, 55, 4, 0, [], .null, []),
  (55, .ifCond .ne 6, 58, 61, 0, [], .null, []),
  (58, .bipush (-4), 60, 0, 0, [], .int (-4), []),
  (60, .ireturn, 61, 0, 0, [], .null, []),
  (61, .iload_n 2, 62, 2, 0, [], .null, []),
  (62, .ifCond .ne 14, 65, 76, 0, [], .null, []),
  (65, .aload_n 0, 66, 0, 0, [], .null, []),
  (66, .getfield 73, 69, 10, 10, [], .null, [304]),
  (69, .iload_n 1, 70, 1, 0, [], .null, []),
  (70, .invokevirtual 231, 73, 32, 1, [(0, 2)], .int 0, [859, 860, 861, 75]),
  (73, .goto 11, 76, 84, 0, [], .null, []),
  (76, .aload_n 0, 77, 0, 0, [], .null, []),
  (77, .getfield 73, 80, 10, 10, [], .null, [304]),
  (80, .iload_n 1, 81, 1, 0, [], .null, []),
  (81, .invokevirtual 234, 84, 33, 1, [(0, 2)], .int 0, [871, 872, 873, 75]),
  (84, .istore 5, 86, 5, 0, [], .null, []),
  (86, .iload_n 3, 87, 3, 0, [], .null, []),
  (87, .ifCond .ne 8, 90, 95, 0, [], .null, []),
  (90, .iload 5, 92, 5, 0, [], .null, []),
  (92, .goto 5, 95, 97, 0, [], .null, []),
  (95, .iload 4, 97, 4, 0, [], .null, []),
  (97, .iload_n 3, 98, 3, 0, [], .null, []),
  (98, .ifCond .ne 8, 101, 106, 0, [], .null, []),
  (101, .iload 4, 103, 4, 0, [], .null, []),
  (103, .goto 5, 106, 108, 0, [], .null, []),
  (106, .iload 5, 108, 5, 0, [], .null, []),
  (108, .invokestatic 237, 111, 130, 2, [], .int 0, [875, 876, 66]),
  (111, .ireturn, 112, 0, 0, [], .null, [])]
theorem oX10_learnt : tX10_learnt.all (okE (sX10_learnt).1.cls (sX10_learnt).2.1) = true := by decide +kernel
def tX10_seats : List Ent := [(0, .iload_n 1, 1, 1, 0, [], .null, []),
  (1, .iconst (-1), 2, 0, 0, [], .int (-1), []),
  (2, .if_icmp .ge 6, 5, 8, 0, [], .null, []),
  (5, .bipush (-3), 7, 0, 0, [], .int (-3), []),
  (7, .ireturn, 8, 0, 0, [], .null, []),
  (8, .iload_n 1, 9, 1, 0, [], .null, []),
  (9, .aload_n 0, 10, 0, 0, [], .null, []),
  (10, .getfield 19, 13, 10, 1, [], .null, [295]),
  (13, .getfield 131, 16, 8, 1, [], .null, [162]),
  (16, .invokevirtual 208, 19, 2, 0, [(0, 0)], .int 0, [798, 523, 524, 70]),
  (19, .if_icmp .lt 5, 22, 24, 0, [], .null, []),
  (22, .iconst (-1), 23, 0, 0, [], .int (-1), []),
  (23, .ireturn, 24, 0, 0, [], .null, []),
  (24, .aload_n 0, 25, 0, 0, [], .null, []),
  (25, .getfield 80, 28, 10, 11, [], .null, [305]),
  (28, .invokevirtual 240, 31, 58, 0, [(0, 5)], .null, [883, 884, 885, 76]),
  (31, .iload_n 1, 32, 1, 0, [], .null, []),
  (32, .iconst (-1), 33, 0, 0, [], .int (-1), []),
  (33, .if_icmp .ne 13, 36, 46, 0, [], .null, []),
  (36, .aload_n 0, 37, 0, 0, [], .null, []),
  (37, .getfield 80, 40, 10, 11, [], .null, [305]),
  (40, .invokevirtual 241, 43, 64, 0, [(0, 5)], .int 0, [920, 921, 922, 76]),
  (43, .goto 11, 46, 54, 0, [], .null, []),
  (46, .aload_n 0, 47, 0, 0, [], .null, []),
  (47, .getfield 80, 50, 10, 11, [], .null, [305]),
  (50, .iload_n 1, 51, 1, 0, [], .null, []),
  (51, .invokevirtual 244, 54, 65, 1, [(0, 5)], .int 0, [924, 925, 926, 76]),
  (54, .ireturn, 55, 0, 0, [], .null, [])]
theorem oX10_seats : tX10_seats.all (okE (sX10_seats).1.cls (sX10_seats).2.1) = true := by decide +kernel
def tX10_bears : List Ent := [(0, .iload_n 1, 1, 1, 0, [], .null, []),
  (1, .ifCond .eq 11, 4, 12, 0, [], .null, []),
  (4, .iload_n 1, 5, 1, 0, [], .null, []),
  (5, .iconst 1, 6, 0, 0, [], .int 1, []),
  (6, .if_icmp .eq 6, 9, 12, 0, [], .null, []),
  (9, .bipush (-3), 11, 0, 0, [], .int (-3), []),
  (11, .ireturn, 12, 0, 0, [], .null, []),
  (12, .aload_n 0, 13, 0, 0, [], .null, []),
  (13, .getfield 73, 16, 10, 10, [], .null, [304]),
  (16, .invokevirtual 247, 19, 36, 0, [(0, 2)], .int 0, [932, 933, 934, 75]),
  (19, .istore_n 2, 20, 2, 0, [], .null, []),
  (20, .iload_n 1, 21, 1, 0, [], .null, []),
  (21, .ifCond .ne 10, 24, 31, 0, [], .null, []),
  (24, .iload_n 2, 25, 2, 0, [], .null, []),
  (25, .invokestatic 250, 28, 189, 1, [], .int 0, [944, 909, 84]),
  (28, .goto 4, 31, 32, 0, [], .null, []),
  (31, .iload_n 2, 32, 2, 0, [], .null, []),
  (32, .ireturn, 33, 0, 0, [], .null, [])]
theorem oX10_bears : tX10_bears.all (okE (sX10_bears).1.cls (sX10_bears).2.1) = true := by decide +kernel
def tX10_keep : List Ent := [(0, .iload_n 1, 1, 1, 0, [], .null, []),
  (1, .ifCond .lt 8, 4, 9, 0, [], .null, []),
  (4, .iload_n 1, 5, 1, 0, [], .null, []),
  (5, .iconst 2, 6, 0, 0, [], .int 2, []),
  (6, .if_icmp .lt 6, 9, 12, 0, [], .null, []),
  (9, .bipush (-2), 11, 0, 0, [], .int (-2), []),
  (11, .ireturn, 12, 0, 0, [], .null, []),
  (12, .aload_n 0, 13, 0, 0, [], .null, []),
  (13, .iload_n 1, 14, 1, 0, [], .null, []),
  (14, .invokevirtual 255, 17, 129, 1, [(0, 10)], .ref 0, [949, 951, 35, 66]),
  (17, .aload_n 0, 18, 0, 0, [], .null, []),
  (18, .getfield 38, 21, 10, 4, [], .null, [298]),
  (21, .invokevirtual 259, 24, 66, 1, [(0, 6)], .null, [953, 954, 955, 72]),
  (24, .aload_n 0, 25, 0, 0, [], .null, []),
  (25, .dup, 26, 0, 0, [], .null, []),
  (26, .getfield 84, 29, 10, 7, [], .null, [301]),
  (29, .iconst 1, 30, 0, 0, [], .int 1, []),
  (30, .iload_n 1, 31, 1, 0, [], .null, []),
  (31, .ishl, 32, 0, 0, [], .null, []),
  (32, .ior, 33, 0, 0, [], .null, []),
  (33, .putfield 84, 36, 10, 7, [], .null, [301]),
  (36, .aload_n 0, 37, 0, 0, [], .null, []),
  (37, .getfield 38, 40, 10, 4, [], .null, [298]),
  (40, .invokevirtual 172, 43, 70, 0, [(0, 6)], .int 0, [661, 662, 663, 72]),
  (43, .ireturn, 44, 0, 0, [], .null, [])]
theorem oX10_keep : tX10_keep.all (okE (sX10_keep).1.cls (sX10_keep).2.1) = true := by decide +kernel
def tX10_back : List Ent := [(0, .iload_n 1, 1, 1, 0, [], .null, []),
  (1, .ifCond .lt 8, 4, 9, 0, [], .null, []),
  (4, .iload_n 1, 5, 1, 0, [], .null, []),
  (5, .iconst 2, 6, 0, 0, [], .int 2, []),
  (6, .if_icmp .lt 6, 9, 12, 0, [], .null, []),
  (9, .bipush (-2), 11, 0, 0, [], .int (-2), []),
  (11, .ireturn, 12, 0, 0, [], .null, []),
  (12, .aload_n 0, 13, 0, 0, [], .null, []),
  (13, .getfield 84, 16, 10, 7, [], .null, [301]),
  (16, .iload_n 1, 17, 1, 0, [], .null, []),
  (17, .ishr, 18, 0, 0, [], .null, []),
  (18, .iconst 1, 19, 0, 0, [], .int 1, []),
  (19, .iand, 20, 0, 0, [], .null, []),
  (20, .ifCond .ne 6, 23, 26, 0, [], .null, []),
  (23, .bipush (-4), 25, 0, 0, [], .int (-4), []),
  (25, .ireturn, 26, 0, 0, [], .null, []),
  (26, .aload_n 0, 27, 0, 0, [], .null, []),
  (27, .getfield 38, 30, 10, 4, [], .null, [298]),
  (30, .aload_n 0, 31, 0, 0, [], .null, []),
  (31, .iload_n 1, 32, 1, 0, [], .null, []),
  (32, .invokevirtual 255, 35, 129, 1, [(0, 10)], .ref 0, [949, 951, 35, 66]),
  (35, .invokevirtual 259, 38, 66, 1, [(0, 6)], .null, [953, 954, 955, 72]),
  (38, .aload_n 0, 39, 0, 0, [], .null, []),
  (39, .getfield 38, 42, 10, 4, [], .null, [298]),
  (42, .invokevirtual 172, 45, 70, 0, [(0, 6)], .int 0, [661, 662, 663, 72]),
  (45, .ireturn, 46, 0, 0, [], .null, [])]
theorem oX10_back : tX10_back.all (okE (sX10_back).1.cls (sX10_back).2.1) = true := by decide +kernel
def tX10_count : List Ent := [(0, .iload_n 1, 1, 1, 0, [], .null, []),
  (1, .tableswitch 120 0 7 #[47, 58, 69, 77, 85, 93, 101, 109], 48, 121, 0, [(0, 48), (1, 59), (2, 70), (3, 78), (4, 86), (5, 94), (6, 102), (7, 110)], .null, []),
  (48, .aload_n 0, 49, 0, 0, [], .null, []),
  (49, .getfield 19, 52, 10, 1, [], .null, [295]),
  (52, .getfield 131, 55, 8, 1, [], .null, [162]),
  (55, .invokevirtual 208, 58, 2, 0, [(0, 0)], .int 0, [798, 523, 524, 70]),
  (58, .ireturn, 59, 0, 0, [], .null, []),
  (59, .aload_n 0, 60, 0, 0, [], .null, []),
  (60, .getfield 19, 63, 10, 1, [], .null, [295]),
  (63, .getfield 57, 66, 8, 0, [], .null, [157]),
  (66, .invokevirtual 230, 69, 91, 0, [(0, 9)], .int 0, [858, 739, 740, 69]),
  (69, .ireturn, 70, 0, 0, [], .null, []),
  (70, .aload_n 0, 71, 0, 0, [], .null, []),
  (71, .getfield 38, 74, 10, 4, [], .null, [298]),
  (74, .invokevirtual 165, 77, 69, 0, [(0, 6)], .int 0, [648, 649, 650, 72]),
  (77, .ireturn, 78, 0, 0, [], .null, []),
  (78, .aload_n 0, 79, 0, 0, [], .null, []),
  (79, .getfield 38, 82, 10, 4, [], .null, [298]),
  (82, .invokevirtual 162, 85, 68, 0, [(0, 6)], .int 0, [640, 641, 642, 72]),
  (85, .ireturn, 86, 0, 0, [], .null, []),
  (86, .aload_n 0, 87, 0, 0, [], .null, []),
  (87, .getfield 38, 90, 10, 4, [], .null, [298]),
  (90, .invokevirtual 172, 93, 70, 0, [(0, 6)], .int 0, [661, 662, 663, 72]),
  (93, .ireturn, 94, 0, 0, [], .null, []),
  (94, .aload_n 0, 95, 0, 0, [], .null, []),
  (95, .getfield 51, 98, 10, 8, [], .null, [302]),
  (98, .invokevirtual 191, 101, 83, 0, [(0, 7)], .int 0, [699, 700, 701, 73]),
  (101, .ireturn, 102, 0, 0, [], .null, []),
  (102, .aload_n 0, 103, 0, 0, [], .null, []),
  (103, .getfield 10, 106, 10, 0, [], .null, [294]),
  (106, .invokevirtual 96, 109, 52, 0, [(0, 4)], .int 0, [344, 345, 346, 67]),
  (109, .ireturn, 110, 0, 0, [], .null, []),
  (110, .aload_n 0, 111, 0, 0, [], .null, []),
  (111, .getfield 19, 114, 10, 1, [], .null, [295]),
  (114, .getfield 57, 117, 8, 0, [], .null, [157]),
  (117, .invokevirtual 262, 120, 97, 0, [(0, 9)], .int 0, [966, 967, 968, 69]),
  (120, .ireturn, 121, 0, 0, [], .null, []),
  (121, .bipush (-3), 123, 0, 0, [], .int (-3), []),
  (123, .ireturn, 124, 0, 0, [], .null, [])]
theorem oX10_count : tX10_count.all (okE (sX10_count).1.cls (sX10_count).2.1) = true := by decide +kernel
def tX10_shelf : List Ent := [(0, .iload_n 1, 1, 1, 0, [], .null, []),
  (1, .ifCond .ne 10, 4, 11, 0, [], .null, []),
  (4, .aload_n 0, 5, 0, 0, [], .null, []),
  (5, .getfield 42, 8, 10, 5, [], .null, [299]),
  (8, .goto 7, 11, 15, 0, [], .null, []),
  (11, .aload_n 0, 12, 0, 0, [], .null, []),
  (12, .getfield 45, 15, 10, 6, [], .null, [300]),
  (15, .areturn, 16, 0, 0, [], .null, [])]
theorem oX10_shelf : tX10_shelf.all (okE (sX10_shelf).1.cls (sX10_shelf).2.1) = true := by decide +kernel
def tX10_lowestTerm : List Ent := [(0, .iload_n 0, 1, 0, 0, [], .null, []),
  (1, .iload_n 1, 2, 1, 0, [], .null, []),
  (2, .invokestatic 265, 5, 998, 0, [], .null, [878, 466, 79, 467]),
  (5, .istore_n 2, 6, 2, 0, [], .null, []),
  (6, .iload_n 2, 7, 2, 0, [], .null, []),
  (7, .iconst 1, 8, 0, 0, [], .int 1, []),
  (8, .if_icmp .le 25, 11, 33, 0, [], .null, []),
  (11, .iload_n 0, 12, 0, 0, [], .null, []),
  (12, .iload_n 2, 13, 2, 0, [], .null, []),
  (13, .irem, 14, 0, 0, [], .null, []),
  (14, .ifCond .ne 13, 17, 27, 0, [], .null, []),
  (17, .iload_n 1, 18, 1, 0, [], .null, []),
  (18, .iload_n 2, 19, 2, 0, [], .null, []),
  (19, .irem, 20, 0, 0, [], .null, []),
  (20, .ifCond .ne 7, 23, 27, 0, [], .null, []),
  (23, .iload_n 0, 24, 0, 0, [], .null, []),
  (24, .iload_n 2, 25, 2, 0, [], .null, []),
  (25, .idiv, 26, 0, 0, [], .null, []),
  (26, .ireturn, 27, 0, 0, [], .null, []),
  (27, .iinc 2 (-1), 30, 2, 0, [], .int (-1), []),
  (30, .goto (-24), 33, 6, 0, [], .null, []),
  (33, .iload_n 0, 34, 0, 0, [], .null, []),
  (34, .ireturn, 35, 0, 0, [], .null, [])]
theorem oX10_lowestTerm : tX10_lowestTerm.all (okE (sX10_lowestTerm).1.cls (sX10_lowestTerm).2.1) = true := by decide +kernel
end
section
def tX11_in : List Ent := [(0, .iload_n 0, 1, 0, 0, [], .null, []),
  (1, .iload_n 1, 2, 1, 0, [], .null, []),
  (2, .if_icmp .lt 12, 5, 14, 0, [], .null, []),
  (5, .iload_n 0, 6, 0, 0, [], .null, []),
  (6, .iload_n 2, 7, 2, 0, [], .null, []),
  (7, .if_icmp .gt 7, 10, 14, 0, [], .null, []),
  (10, .iconst 1, 11, 0, 0, [], .int 1, []),
  (11, .goto 4, 14, 15, 0, [], .null, []),
  (14, .iconst 0, 15, 0, 0, [], .int 0, []),
  (15, .ireturn, 16, 0, 0, [], .null, [])]
theorem oX11_in : tX11_in.all (okE (sX11_in).1.cls (sX11_in).2.1) = true := by decide +kernel
def tX11_has : List Ent := [(0, .iload_n 0, 1, 0, 0, [], .null, []),
  (1, .iload_n 1, 2, 1, 0, [], .null, []),
  (2, .ishr, 3, 0, 0, [], .null, []),
  (3, .iconst 1, 4, 0, 0, [], .int 1, []),
  (4, .iand, 5, 0, 0, [], .null, []),
  (5, .iconst 1, 6, 0, 0, [], .int 1, []),
  (6, .if_icmp .ne 7, 9, 13, 0, [], .null, []),
  (9, .iconst 1, 10, 0, 0, [], .int 1, []),
  (10, .goto 4, 13, 14, 0, [], .null, []),
  (13, .iconst 0, 14, 0, 0, [], .int 0, []),
  (14, .ireturn, 15, 0, 0, [], .null, [])]
theorem oX11_has : tX11_has.all (okE (sX11_has).1.cls (sX11_has).2.1) = true := by decide +kernel
def tX11_isWord : List Ent := [(0, .iload_n 1, 1, 1, 0, [], .null, []),
  (1, .iconst 0, 2, 0, 0, [], .int 0, []),
  (2, .aload_n 0, 3, 0, 0, [], .null, []),
  (3, .getfield 66, 6, 11, 4, [], .null, [980]),
  (6, .iconst 1, 7, 0, 0, [], .int 1, []),
  (7, .isub, 8, 0, 0, [], .null, []),
  (8, .invokestatic 69, 11, 131, 3, [], .int 0, [1084, 1085, 77]),
  (11, .ireturn, 12, 0, 0, [], .null, [])]
theorem oX11_isWord : tX11_isWord.all (okE (sX11_isWord).1.cls (sX11_isWord).2.1) = true := by decide +kernel
def tX11_isVoice : List Ent := [(0, .iload_n 1, 1, 1, 0, [], .null, []),
  (1, .iconst 0, 2, 0, 0, [], .int 0, []),
  (2, .aload_n 0, 3, 0, 0, [], .null, []),
  (3, .getfield 7, 6, 11, 0, [], .null, [976]),
  (6, .iconst 1, 7, 0, 0, [], .int 1, []),
  (7, .isub, 8, 0, 0, [], .null, []),
  (8, .invokestatic 69, 11, 131, 3, [], .int 0, [1084, 1085, 77]),
  (11, .ireturn, 12, 0, 0, [], .null, [])]
theorem oX11_isVoice : tX11_isVoice.all (okE (sX11_isVoice).1.cls (sX11_isVoice).2.1) = true := by decide +kernel
def tX11_write : List Ent := [(0, .iload_n 3, 1, 3, 0, [], .null, []),
  (1, .iconst 1, 2, 0, 0, [], .int 1, []),
  (2, .bipush 8, 4, 0, 0, [], .int 8, []),
  (4, .invokestatic 69, 7, 131, 3, [], .int 0, [1084, 1085, 77]),
  (7, .ifCond .ne 6, 10, 13, 0, [], .null, []),
  (10, .bipush (-3), 12, 0, 0, [], .int (-3), []),
  (12, .ireturn, 13, 0, 0, [], .null, []),
  (13, .aload_n 0, 14, 0, 0, [], .null, []),
  (14, .getfield 73, 17, 11, 9, [], .null, [985]),
  (17, .iload_n 3, 18, 3, 0, [], .null, []),
  (18, .iadd, 19, 0, 0, [], .null, []),
  (19, .sipush 200, 22, 0, 0, [], .int 200, []),
  (22, .if_icmp .le 6, 25, 28, 0, [], .null, []),
  (25, .bipush (-5), 27, 0, 0, [], .int (-5), []),
  (27, .ireturn, 28, 0, 0, [], .null, []),
  (28, .iconst 0, 29, 0, 0, [], .int 0, []),
  (29, .istore 4, 31, 4, 0, [], .null, []),
  (31, .iload 4, 33, 4, 0, [], .null, []),
  (33, .iload_n 3, 34, 3, 0, [], .null, []),
  (34, .if_icmp .ge 33, 37, 67, 0, [], .null, []),
  (37, .aload_n 0, 38, 0, 0, [], .null, []),
  (38, .getfield 29, 41, 11, 10, [], .null, [986]),
  (41, .aload_n 0, 42, 0, 0, [], .null, []),
  (42, .getfield 73, 45, 11, 9, [], .null, [985]),
  (45, .iload 4, 47, 4, 0, [], .null, []),
  (47, .iadd, 48, 0, 0, [], .null, []),
  (48, .lload_n 1, 49, 1, 0, [], .null, []),
  (49, .bipush 8, 51, 0, 0, [], .int 8, []),
  (51, .iload 4, 53, 4, 0, [], .null, []),
  (53, .imul, 54, 0, 0, [], .null, []),
  (54, .lshr, 55, 0, 0, [], .null, []),
  (55, .ldc2_w 76, 58, 0, 0, [], .long 255, [1087]),
  (58, .land, 59, 0, 0, [], .null, []),
  (59, .l2i, 60, 0, 0, [], .null, []),
  (60, .iastore, 61, 0, 0, [], .null, []),
  (61, .iinc 4 1, 64, 4, 0, [], .int 1, []),
  (64, .goto (-33), 67, 31, 0, [], .null, []),
  (67, .aload_n 0, 68, 0, 0, [], .null, []),
  (68, .dup, 69, 0, 0, [], .null, []),
  (69, .getfield 73, 72, 11, 9, [], .null, [985]),
  (72, .iload_n 3, 73, 3, 0, [], .null, []),
  (73, .iadd, 74, 0, 0, [], .null, []),
  (74, .putfield 73, 77, 11, 9, [], .null, [985]),
  (77, .aload_n 0, 78, 0, 0, [], .null, []),
  (78, .getfield 73, 81, 11, 9, [], .null, [985]),
  (81, .ireturn, 82, 0, 0, [], .null, [])]
theorem oX11_write : tX11_write.all (okE (sX11_write).1.cls (sX11_write).2.1) = true := by decide +kernel
def tX11_erase : List Ent := [(0, .aload_n 0, 1, 0, 0, [], .null, []),
  (1, .getfield 73, 4, 11, 9, [], .null, [985]),
  (4, .istore_n 1, 5, 1, 0, [], .null, []),
  (5, .aload_n 0, 6, 0, 0, [], .null, []),
  (6, .iconst 0, 7, 0, 0, [], .int 0, []),
  (7, .putfield 73, 10, 11, 9, [], .null, [985]),
  (10, .iload_n 1, 11, 1, 0, [], .null, []),
  (11, .ireturn, 12, 0, 0, [], .null, [])]
theorem oX11_erase : tX11_erase.all (okE (sX11_erase).1.cls (sX11_erase).2.1) = true := by decide +kernel
def tX11_nextToken : List Ent := [(0, .aload_n 0, 1, 0, 0, [], .null, []),
  (1, .getfield 78, 4, 11, 11, [], .null, [987]),
  (4, .aload_n 0, 5, 0, 0, [], .null, []),
  (5, .getfield 73, 8, 11, 9, [], .null, [985]),
  (8, .if_icmp .ge 30, 11, 38, 0, [], .null, []),
  (11, .aload_n 0, 12, 0, 0, [], .null, []),
  (12, .getfield 29, 15, 11, 10, [], .null, [986]),
  (15, .aload_n 0, 16, 0, 0, [], .null, []),
  (16, .getfield 78, 19, 11, 11, [], .null, [987]),
  (19, .iaload, 20, 0, 0, [], .null, []),
  (20, .bipush 32, 22, 0, 0, [], .int 32, []),
  (22, .if_icmp .ne 16, 25, 38, 0, [], .null, []),
  (25, .aload_n 0, 26, 0, 0, [], .null, []),
  (26, .dup, 27, 0, 0, [], .null, []),
  (27, .getfield 78, 30, 11, 11, [], .null, [987]),
  (30, .iconst 1, 31, 0, 0, [], .int 1, []),
  (31, .iadd, 32, 0, 0, [], .null, []),
  (32, .putfield 78, 35, 11, 11, [], .null, [987]),
  (35, .goto (-35), 38, 0, 0, [], .null, []),
  (38, .aload_n 0, 39, 0, 0, [], .null, []),
  (39, .aload_n 0, 40, 0, 0, [], .null, []),
  (40, .getfield 78, 43, 11, 11, [], .null, [987]),
  (43, .putfield 81, 46, 11, 12, [], .null, [988]),
  (46, .aload_n 0, 47, 0, 0, [], .null, []),
  (47, .iconst 0, 48, 0, 0, [], .int 0, []),
  (48, .putfield 84, 51, 11, 14, [], .null, [990]),
  (51, .aload_n 0, 52, 0, 0, [], .null, []),
  (52, .iconst 0, 53, 0, 0, [], .int 0, []),
  (53, .putfield 87, 56, 11, 15, [], .null, [991]),
  (56, .aload_n 0, 57, 0, 0, [], .null, []),
  (57, .getfield 78, 60, 11, 11, [], .null, [987]),
  (60, .aload_n 0, 61, 0, 0, [], .null, []),
  (61, .getfield 73, 64, 11, 9, [], .null, [985]),
  (64, .if_icmp .ne 13, 67, 77, 0, [], .null, []),
  (67, .aload_n 0, 68, 0, 0, [], .null, []),
  (68, .ldc2_w 90, 71, 0, 0, [], .long (-2), [1108]),
  (71, .putfield 92, 74, 11, 13, [], .null, [989]),
  (74, .goto 298, 77, 372, 0, [], .null, []),
  (77, .aload_n 0, 78, 0, 0, [], .null, []),
  (78, .getfield 29, 81, 11, 10, [], .null, [986]),
  (81, .aload_n 0, 82, 0, 0, [], .null, []),
  (82, .getfield 78, 85, 11, 11, [], .null, [987]),
  (85, .iaload, 86, 0, 0, [], .null, []),
  (86, .bipush 97, 88, 0, 0, [], .int 97, []),
  (88, .bipush 122, 90, 0, 0, [], .int 122, []),
  (90, .invokestatic 69, 93, 131, 3, [], .int 0, [1084, 1085, 77]),
  (93, .ifCond .eq 107, 96, 200, 0, [], .null, []),
  (96, .aload_n 0, 97, 0, 0, [], .null, []),
  (97, .lconst 0, 98, 0, 0, [], .long 0, []),
  (98, .putfield 92, 101, 11, 13, [], .null, [989]),
  (101, .aload_n 0, 102, 0, 0, [], .null, []),
  (102, .getfield 78, 105, 11, 11, [], .null, [987]),
  (105, .aload_n 0, 106, 0, 0, [], .null, []),
  (106, .getfield 73, 109, 11, 9, [], .null, [985]),
  (109, .if_icmp .ge 62, 112, 171, 0, [], .null, []),
  (112, .aload_n 0, 113, 0, 0, [], .null, []),
  (113, .getfield 29, 116, 11, 10, [], .null, [986]),
  (116, .aload_n 0, 117, 0, 0, [], .null, []),
  (117, .getfield 78, 120, 11, 11, [], .null, [987]),
  (120, .iaload, 121, 0, 0, [], .null, []),
  (121, .bipush 97, 123, 0, 0, [], .int 97, []),
  (123, .bipush 122, 125, 0, 0, [], .int 122, []),
  (125, .invokestatic 69, 128, 131, 3, [], .int 0, [1084, 1085, 77]),
  (128, .ifCond .eq 43, 131, 171, 0, [], .null, []),
  (131, .aload_n 0, 132, 0, 0, [], .null, []),
  (132, .ldc2_w 96, 135, 0, 0, [], .long 27, [1109]),
  (135, .aload_n 0, 136, 0, 0, [], .null, []),
  (136, .getfield 92, 139, 11, 13, [], .null, [989]),
  (139, .lmul, 140, 0, 0, [], .null, []),
  (140, .aload_n 0, 141, 0, 0, [], .null, []),
  (141, .getfield 29, 144, 11, 10, [], .null, [986]),
  (144, .aload_n 0, 145, 0, 0, [], .null, []),
  (145, .getfield 78, 148, 11, 11, [], .null, [987]),
  (148, .iaload, 149, 0, 0, [], .null, []),
  (149, .i2l, 150, 0, 0, [], .null, []),
  (150, .ladd, 151, 0, 0, [], .null, []),
  (151, .ldc2_w 98, 154, 0, 0, [], .long 96, [1110]),
  (154, .lsub, 155, 0, 0, [], .null, []),
  (155, .putfield 92, 158, 11, 13, [], .null, [989]),
  (158, .aload_n 0, 159, 0, 0, [], .null, []),
  (159, .dup, 160, 0, 0, [], .null, []),
  (160, .getfield 78, 163, 11, 11, [], .null, [987]),
  (163, .iconst 1, 164, 0, 0, [], .int 1, []),
  (164, .iadd, 165, 0, 0, [], .null, []),
  (165, .putfield 78, 168, 11, 11, [], .null, [987]),
  (168, .goto (-67), 171, 101, 0, [], .null, []),
  (171, .aload_n 0, 172, 0, 0, [], .null, []),
  (172, .aload_n 0, 173, 0, 0, [], .null, []),
  (173, .getfield 78, 176, 11, 11, [], .null, [987]),
  (176, .aload_n 0, 177, 0, 0, [], .null, []),
  (177, .getfield 81, 180, 11, 12, [], .null, [988]),
  (180, .isub, 181, 0, 0, [], .null, []),
  (181, .bipush 9, 183, 0, 0, [], .int 9, []),
  (183, .if_icmp .le 7, 186, 190, 0, [], .null, []),
  (186, .lconst 0, 187, 0, 0, [], .long 0, []),
  (187, .goto 7, 190, 194, 0, [], .null, []),
  (190, .aload_n 0, 191, 0, 0, [], .null, []),
  (191, .getfield 92, 194, 11, 13, [], .null, [989]),
  (194, .putfield 92, 197, 11, 13, [], .null, [989]),
  (197, .goto 175, 200, 372, 0, [], .null, []),
  (200, .aload_n 0, 201, 0, 0, [], .null, []),
  (201, .getfield 29, 204, 11, 10, [], .null, [986]),
  (204, .aload_n 0, 205, 0, 0, [], .null, []),
  (205, .getfield 78, 208, 11, 11, [], .null, [987]),
  (208, .iaload, 209, 0, 0, [], .null, []),
  (209, .bipush 48, 211, 0, 0, [], .int 48, []),
  (211, .bipush 57, 213, 0, 0, [], .int 57, []),
  (213, .invokestatic 69, 216, 131, 3, [], .int 0, [1084, 1085, 77]),
  (216, .ifCond .eq 119, 219, 335, 0, [], .null, []),
  (219, .aload_n 0, 220, 0, 0, [], .null, []),
  (220, .getfield 78, 223, 11, 11, [], .null, [987]),
  (223, .aload_n 0, 224, 0, 0, [], .null, []),
  (224, .getfield 73, 227, 11, 9, [], .null, [985]),
  (227, .if_icmp .ge 84, 230, 311, 0, [], .null, []),
  (230, .aload_n 0, 231, 0, 0, [], .null, []),
  (231, .getfield 29, 234, 11, 10, [], .null, [986]),
  (234, .aload_n 0, 235, 0, 0, [], .null, []),
  (235, .getfield 78, 238, 11, 11, [], .null, [987]),
  (238, .iaload, 239, 0, 0, [], .null, []),
  (239, .bipush 48, 241, 0, 0, [], .int 48, []),
  (241, .bipush 57, 243, 0, 0, [], .int 57, []),
  (243, .invokestatic 69, 246, 131, 3, [], .int 0, [1084, 1085, 77]),
  (246, .ifCond .eq 65, 249, 311, 0, [], .null, []),
  (249, .aload_n 0, 250, 0, 0, [], .null, []),
  (250, .aload_n 0, 251, 0, 0, [], .null, []),
  (251, .getfield 84, 254, 11, 14, [], .null, [990]),
  (254, .iconst 2, 255, 0, 0, [], .int 2, []),
  (255, .if_icmp .ge 26, 258, 281, 0, [], .null, []),
  (258, .bipush 10, 260, 0, 0, [], .int 10, []),
  (260, .aload_n 0, 261, 0, 0, [], .null, []),
  (261, .getfield 87, 264, 11, 15, [], .null, [991]),
  (264, .imul, 265, 0, 0, [], .null, []),
  (265, .aload_n 0, 266, 0, 0, [], .null, []),
  (266, .getfield 29, 269, 11, 10, [], .null, [986]),
  (269, .aload_n 0, 270, 0, 0, [], .null, []),
  (270, .getfield 78, 273, 11, 11, [], .null, [987]),
  (273, .iaload, 274, 0, 0, [], .null, []),
  (274, .iadd, 275, 0, 0, [], .null, []),
  (275, .bipush 48, 277, 0, 0, [], .int 48, []),
  (277, .isub, 278, 0, 0, [], .null, []),
  (278, .goto 7, 281, 285, 0, [], .null, []),
  (281, .aload_n 0, 282, 0, 0, [], .null, []),
  (282, .getfield 87, 285, 11, 15, [], .null, [991]),
  (285, .putfield 87, 288, 11, 15, [], .null, [991]),
  (288, .aload_n 0, 289, 0, 0, [], .null, []),
  (289, .dup, 290, 0, 0, [], .null, []),
  (290, .getfield 84, 293, 11, 14, [], .null, [990]),
  (293, .iconst 1, 294, 0, 0, [], .int 1, []),
  (294, .iadd, 295, 0, 0, [], .null, []),
  (295, .putfield 84, 298, 11, 14, [], .null, [990]),
  (298, .aload_n 0, 299, 0, 0, [], .null, []),
  (299, .dup, 300, 0, 0, [], .null, []),
  (300, .getfield 78, 303, 11, 11, [], .null, [987]),
  (303, .iconst 1, 304, 0, 0, [], .int 1, []),
  (304, .iadd, 305, 0, 0, [], .null, []),
  (305, .putfield 78, 308, 11, 11, [], .null, [987]),
  (308, .goto (-89), 311, 219, 0, [], .null, []),
  (311, .aload_n 0, 312, 0, 0, [], .null, []),
  (312, .aload_n 0, 313, 0, 0, [], .null, []),
  (313, .getfield 84, 316, 11, 14, [], .null, [990]),
  (316, .iconst 2, 317, 0, 0, [], .int 2, []),
  (317, .if_icmp .le 9, 320, 326, 0, [], .null, []),
  (320, .ldc2_w 100, 323, 0, 0, [], .long (-4), [1111]),
  (323, .goto 6, 326, 329, 0, [], .null, []),
  (326, .ldc2_w 102, 329, 0, 0, [], .long (-1), [1112]),
  (329, .putfield 92, 332, 11, 13, [], .null, [989]),
  (332, .goto 40, 335, 372, 0, [], .null, []),
  (335, .aload_n 0, 336, 0, 0, [], .null, []),
  (336, .aload_n 0, 337, 0, 0, [], .null, []),
  (337, .getfield 29, 340, 11, 10, [], .null, [986]),
  (340, .aload_n 0, 341, 0, 0, [], .null, []),
  (341, .getfield 78, 344, 11, 11, [], .null, [987]),
  (344, .iaload, 345, 0, 0, [], .null, []),
  (345, .bipush 59, 347, 0, 0, [], .int 59, []),
  (347, .if_icmp .ne 9, 350, 356, 0, [], .null, []),
  (350, .ldc2_w 104, 353, 0, 0, [], .long (-3), [1113]),
  (353, .goto 6, 356, 359, 0, [], .null, []),
  (356, .ldc2_w 100, 359, 0, 0, [], .long (-4), [1111]),
  (359, .putfield 92, 362, 11, 13, [], .null, [989]),
  (362, .aload_n 0, 363, 0, 0, [], .null, []),
  (363, .dup, 364, 0, 0, [], .null, []),
  (364, .getfield 78, 367, 11, 11, [], .null, [987]),
  (367, .iconst 1, 368, 0, 0, [], .int 1, []),
  (368, .iadd, 369, 0, 0, [], .null, []),
  (369, .putfield 78, 372, 11, 11, [], .null, [987]),
  (372, .return_, 373, 0, 0, [], .null, [])]
theorem oX11_nextToken : tX11_nextToken.all (okE (sX11_nextToken).1.cls (sX11_nextToken).2.1) = true := by decide +kernel
def tX11_fails : List Ent := [(0, .aload_n 0, 1, 0, 0, [], .null, []),
  (1, .aload_n 0, 2, 0, 0, [], .null, []),
  (2, .getfield 81, 5, 11, 12, [], .null, [988]),
  (5, .putfield 106, 8, 11, 16, [], .null, [992]),
  (8, .iconst 0, 9, 0, 0, [], .int 0, []),
  (9, .ireturn, 10, 0, 0, [], .null, [])]
theorem oX11_fails : tX11_fails.all (okE (sX11_fails).1.cls (sX11_fails).2.1) = true := by decide +kernel
def tX11_isNumber : List Ent := [(0, .aload_n 0, 1, 0, 0, [], .null, []),
  (1, .invokevirtual 109, 4, 137, 0, [(0, 11)], .null, [1104, 1106, 38, 77]),
  (4, .aload_n 0, 5, 0, 0, [], .null, []),
  (5, .getfield 92, 8, 11, 13, [], .null, [989]),
  (8, .ldc2_w 102, 11, 0, 0, [], .long (-1), [1112]),
  (11, .lcmp, 12, 0, 0, [], .null, []),
  (12, .ifCond .ne 15, 15, 27, 0, [], .null, []),
  (15, .aload_n 0, 16, 0, 0, [], .null, []),
  (16, .getfield 87, 19, 11, 15, [], .null, [991]),
  (19, .iload_n 2, 20, 2, 0, [], .null, []),
  (20, .iload_n 3, 21, 3, 0, [], .null, []),
  (21, .invokestatic 69, 24, 131, 3, [], .int 0, [1084, 1085, 77]),
  (24, .ifCond .ne 8, 27, 32, 0, [], .null, []),
  (27, .aload_n 0, 28, 0, 0, [], .null, []),
  (28, .invokevirtual 112, 31, 138, 0, [(0, 11)], .int 0, [1131, 1133, 41, 77]),
  (31, .ireturn, 32, 0, 0, [], .null, []),
  (32, .aload_n 0, 33, 0, 0, [], .null, []),
  (33, .getfield 38, 36, 11, 22, [], .null, [998]),
  (36, .iload_n 1, 37, 1, 0, [], .null, []),
  (37, .aload_n 0, 38, 0, 0, [], .null, []),
  (38, .getfield 87, 41, 11, 15, [], .null, [991]),
  (41, .iastore, 42, 0, 0, [], .null, []),
  (42, .iconst 1, 43, 0, 0, [], .int 1, []),
  (43, .ireturn, 44, 0, 0, [], .null, [])]
theorem oX11_isNumber : tX11_isNumber.all (okE (sX11_isNumber).1.cls (sX11_isNumber).2.1) = true := by decide +kernel
def tX11_isVoiceRead : List Ent := [(0, .aload_n 0, 1, 0, 0, [], .null, []),
  (1, .iload_n 1, 2, 1, 0, [], .null, []),
  (2, .iconst 1, 3, 0, 0, [], .int 1, []),
  (3, .iadd, 4, 0, 0, [], .null, []),
  (4, .iconst 0, 5, 0, 0, [], .int 0, []),
  (5, .aload_n 0, 6, 0, 0, [], .null, []),
  (6, .getfield 116, 9, 11, 18, [], .null, [994]),
  (9, .iconst 1, 10, 0, 0, [], .int 1, []),
  (10, .isub, 11, 0, 0, [], .null, []),
  (11, .invokevirtual 119, 14, 139, 3, [(0, 11)], .int 0, [1127, 1129, 40, 77]),
  (14, .ireturn, 15, 0, 0, [], .null, [])]
theorem oX11_isVoiceRead : tX11_isVoiceRead.all (okE (sX11_isVoiceRead).1.cls (sX11_isVoiceRead).2.1) = true := by decide +kernel
def tX11_isOrder : List Ent := [(0, .aload_n 0, 1, 0, 0, [], .null, []),
  (1, .iload_n 1, 2, 1, 0, [], .null, []),
  (2, .iconst 1, 3, 0, 0, [], .int 1, []),
  (3, .iadd, 4, 0, 0, [], .null, []),
  (4, .iconst 1, 5, 0, 0, [], .int 1, []),
  (5, .iconst 5, 6, 0, 0, [], .int 5, []),
  (6, .invokevirtual 119, 9, 139, 3, [(0, 11)], .int 0, [1127, 1129, 40, 77]),
  (9, .ifCond .ne 5, 12, 14, 0, [], .null, []),
  (12, .iconst 0, 13, 0, 0, [], .int 0, []),
  (13, .ireturn, 14, 0, 0, [], .null, []),
  (14, .aload_n 0, 15, 0, 0, [], .null, []),
  (15, .aload_n 0, 16, 0, 0, [], .null, []),
  (16, .getfield 38, 19, 11, 22, [], .null, [998]),
  (19, .iload_n 1, 20, 1, 0, [], .null, []),
  (20, .iconst 1, 21, 0, 0, [], .int 1, []),
  (21, .iadd, 22, 0, 0, [], .null, []),
  (22, .iaload, 23, 0, 0, [], .null, []),
  (23, .putfield 116, 26, 11, 18, [], .null, [994]),
  (26, .iconst 1, 27, 0, 0, [], .int 1, []),
  (27, .ireturn, 28, 0, 0, [], .null, [])]
theorem oX11_isOrder : tX11_isOrder.all (okE (sX11_isOrder).1.cls (sX11_isOrder).2.1) = true := by decide +kernel
def tX11_isTold : List Ent := [(0, .iconst 0, 1, 0, 0, [], .int 0, []),
  (1, .istore_n 2, 2, 2, 0, [], .null, []),
  (2, .iconst 0, 3, 0, 0, [], .int 0, []),
  (3, .istore_n 3, 4, 3, 0, [], .null, []),
  (4, .iload_n 3, 5, 3, 0, [], .null, []),
  (5, .aload_n 0, 6, 0, 0, [], .null, []),
  (6, .getfield 122, 9, 11, 19, [], .null, [995]),
  (9, .if_icmp .ge 98, 12, 107, 0, [], .null, []),
  (12, .aload_n 0, 13, 0, 0, [], .null, []),
  (13, .getfield 32, 16, 11, 20, [], .null, [996]),
  (16, .iload_n 3, 17, 3, 0, [], .null, []),
  (17, .iaload, 18, 0, 0, [], .null, []),
  (18, .iload_n 1, 19, 1, 0, [], .null, []),
  (19, .if_icmp .ne 7, 22, 26, 0, [], .null, []),
  (22, .iconst 1, 23, 0, 0, [], .int 1, []),
  (23, .goto 4, 26, 27, 0, [], .null, []),
  (26, .iconst 0, 27, 0, 0, [], .int 0, []),
  (27, .istore 4, 29, 4, 0, [], .null, []),
  (29, .iconst 0, 30, 0, 0, [], .int 0, []),
  (30, .istore 5, 32, 5, 0, [], .null, []),
  (32, .iload 5, 34, 5, 0, [], .null, []),
  (34, .iload_n 1, 35, 1, 0, [], .null, []),
  (35, .if_icmp .ge 51, 38, 86, 0, [], .null, []),
  (38, .iload 4, 40, 4, 0, [], .null, []),
  (40, .ifCond .eq 46, 43, 86, 0, [], .null, []),
  (43, .aload_n 0, 44, 0, 0, [], .null, []),
  (44, .getfield 35, 47, 11, 21, [], .null, [997]),
  (47, .bipush 10, 49, 0, 0, [], .int 10, []),
  (49, .iload_n 3, 50, 3, 0, [], .null, []),
  (50, .imul, 51, 0, 0, [], .null, []),
  (51, .iload 5, 53, 5, 0, [], .null, []),
  (53, .iadd, 54, 0, 0, [], .null, []),
  (54, .iaload, 55, 0, 0, [], .null, []),
  (55, .aload_n 0, 56, 0, 0, [], .null, []),
  (56, .getfield 29, 59, 11, 10, [], .null, [986]),
  (59, .aload_n 0, 60, 0, 0, [], .null, []),
  (60, .getfield 81, 63, 11, 12, [], .null, [988]),
  (63, .iload 5, 65, 5, 0, [], .null, []),
  (65, .iadd, 66, 0, 0, [], .null, []),
  (66, .iaload, 67, 0, 0, [], .null, []),
  (67, .bipush 96, 69, 0, 0, [], .int 96, []),
  (69, .isub, 70, 0, 0, [], .null, []),
  (70, .if_icmp .ne 7, 73, 77, 0, [], .null, []),
  (73, .iconst 1, 74, 0, 0, [], .int 1, []),
  (74, .goto 4, 77, 78, 0, [], .null, []),
  (77, .iconst 0, 78, 0, 0, [], .int 0, []),
  (78, .istore 4, 80, 4, 0, [], .null, []),
  (80, .iinc 5 1, 83, 5, 0, [], .int 1, []),
  (83, .goto (-51), 86, 32, 0, [], .null, []),
  (86, .iload_n 2, 87, 2, 0, [], .null, []),
  (87, .ifCond .ne 8, 90, 95, 0, [], .null, []),
  (90, .iload 4, 92, 4, 0, [], .null, []),
  (92, .ifCond .eq 7, 95, 99, 0, [], .null, []),
  (95, .iconst 1, 96, 0, 0, [], .int 1, []),
  (96, .goto 4, 99, 100, 0, [], .null, []),
  (99, .iconst 0, 100, 0, 0, [], .int 0, []),
  (100, .istore_n 2, 101, 2, 0, [], .null, []),
  (101, .iinc 3 1, 104, 3, 0, [], .int 1, []),
  (104, .goto (-100), 107, 4, 0, [], .null, []),
  (107, .iload_n 2, 108, 2, 0, [], .null, []),
  (108, .ireturn, 109, 0, 0, [], .null, [])]
theorem oX11_isTold : tX11_isTold.all (okE (sX11_isTold).1.cls (sX11_isTold).2.1) = true := by decide +kernel
def tX11_isWordLine : List Ent := [(0, .aload_n 0, 1, 0, 0, [], .null, []),
  (1, .getfield 122, 4, 11, 19, [], .null, [995]),
  (4, .bipush 12, 6, 0, 0, [], .int 12, []),
  (6, .if_icmp .ne 8, 9, 14, 0, [], .null, []),
  (9, .aload_n 0, 10, 0, 0, [], .null, []),
  (10, .invokevirtual 112, 13, 138, 0, [(0, 11)], .int 0, [1131, 1133, 41, 77]),
  (13, .ireturn, 14, 0, 0, [], .null, []),
  (14, .aload_n 0, 15, 0, 0, [], .null, []),
  (15, .iload_n 1, 16, 1, 0, [], .null, []),
  (16, .iconst 1, 17, 0, 0, [], .int 1, []),
  (17, .iadd, 18, 0, 0, [], .null, []),
  (18, .iconst 0, 19, 0, 0, [], .int 0, []),
  (19, .iconst 2, 20, 0, 0, [], .int 2, []),
  (20, .invokevirtual 119, 23, 139, 3, [(0, 11)], .int 0, [1127, 1129, 40, 77]),
  (23, .ifCond .ne 5, 26, 28, 0, [], .null, []),
  (26, .iconst 0, 27, 0, 0, [], .int 0, []),
  (27, .ireturn, 28, 0, 0, [], .null, []),
  (28, .aload_n 0, 29, 0, 0, [], .null, []),
  (29, .invokevirtual 109, 32, 137, 0, [(0, 11)], .null, [1104, 1106, 38, 77]),
  (32, .aload_n 0, 33, 0, 0, [], .null, []),
  (33, .getfield 78, 36, 11, 11, [], .null, [987]),
  (36, .aload_n 0, 37, 0, 0, [], .null, []),
  (37, .getfield 81, 40, 11, 12, [], .null, [988]),
  (40, .isub, 41, 0, 0, [], .null, []),
  (41, .istore_n 2, 42, 2, 0, [], .null, []),
  (42, .aload_n 0, 43, 0, 0, [], .null, []),
  (43, .getfield 92, 46, 11, 13, [], .null, [989]),
  (46, .lconst 0, 47, 0, 0, [], .long 0, []),
  (47, .lcmp, 48, 0, 0, [], .null, []),
  (48, .ifCond .lt 17, 51, 65, 0, [], .null, []),
  (51, .iload_n 2, 52, 2, 0, [], .null, []),
  (52, .bipush 10, 54, 0, 0, [], .int 10, []),
  (54, .if_icmp .gt 11, 57, 65, 0, [], .null, []),
  (57, .aload_n 0, 58, 0, 0, [], .null, []),
  (58, .iload_n 2, 59, 2, 0, [], .null, []),
  (59, .invokevirtual 125, 62, 142, 1, [(0, 11)], .int 0, [1139, 1141, 43, 77]),
  (62, .ifCond .eq 8, 65, 70, 0, [], .null, []),
  (65, .aload_n 0, 66, 0, 0, [], .null, []),
  (66, .invokevirtual 112, 69, 138, 0, [(0, 11)], .int 0, [1131, 1133, 41, 77]),
  (69, .ireturn, 70, 0, 0, [], .null, []),
  (70, .aload_n 0, 71, 0, 0, [], .null, []),
  (71, .getfield 38, 74, 11, 22, [], .null, [998]),
  (74, .iload_n 1, 75, 1, 0, [], .null, []),
  (75, .iconst 2, 76, 0, 0, [], .int 2, []),
  (76, .iadd, 77, 0, 0, [], .null, []),
  (77, .aload_n 0, 78, 0, 0, [], .null, []),
  (78, .getfield 81, 81, 11, 12, [], .null, [988]),
  (81, .iastore, 82, 0, 0, [], .null, []),
  (82, .aload_n 0, 83, 0, 0, [], .null, []),
  (83, .getfield 32, 86, 11, 20, [], .null, [996]),
  (86, .aload_n 0, 87, 0, 0, [], .null, []),
  (87, .getfield 122, 90, 11, 19, [], .null, [995]),
  (90, .iload_n 2, 91, 2, 0, [], .null, []),
  (91, .iastore, 92, 0, 0, [], .null, []),
  (92, .iconst 0, 93, 0, 0, [], .int 0, []),
  (93, .istore_n 3, 94, 3, 0, [], .null, []),
  (94, .iload_n 3, 95, 3, 0, [], .null, []),
  (95, .iload_n 2, 96, 2, 0, [], .null, []),
  (96, .if_icmp .ge 37, 99, 133, 0, [], .null, []),
  (99, .aload_n 0, 100, 0, 0, [], .null, []),
  (100, .getfield 35, 103, 11, 21, [], .null, [997]),
  (103, .bipush 10, 105, 0, 0, [], .int 10, []),
  (105, .aload_n 0, 106, 0, 0, [], .null, []),
  (106, .getfield 122, 109, 11, 19, [], .null, [995]),
  (109, .imul, 110, 0, 0, [], .null, []),
  (110, .iload_n 3, 111, 3, 0, [], .null, []),
  (111, .iadd, 112, 0, 0, [], .null, []),
  (112, .aload_n 0, 113, 0, 0, [], .null, []),
  (113, .getfield 29, 116, 11, 10, [], .null, [986]),
  (116, .aload_n 0, 117, 0, 0, [], .null, []),
  (117, .getfield 81, 120, 11, 12, [], .null, [988]),
  (120, .iload_n 3, 121, 3, 0, [], .null, []),
  (121, .iadd, 122, 0, 0, [], .null, []),
  (122, .iaload, 123, 0, 0, [], .null, []),
  (123, .bipush 96, 125, 0, 0, [], .int 96, []),
  (125, .isub, 126, 0, 0, [], .null, []),
  (126, .iastore, 127, 0, 0, [], .null, []),
  (127, .iinc 3 1, 130, 3, 0, [], .int 1, []),
  (130, .goto (-36), 133, 94, 0, [], .null, []),
  (133, .aload_n 0, 134, 0, 0, [], .null, []),
  (134, .dup, 135, 0, 0, [], .null, []),
  (135, .getfield 122, 138, 11, 19, [], .null, [995]),
  (138, .iconst 1, 139, 0, 0, [], .int 1, []),
  (139, .iadd, 140, 0, 0, [], .null, []),
  (140, .putfield 122, 143, 11, 19, [], .null, [995]),
  (143, .iconst 1, 144, 0, 0, [], .int 1, []),
  (144, .ireturn, 145, 0, 0, [], .null, [])]
theorem oX11_isWordLine : tX11_isWordLine.all (okE (sX11_isWordLine).1.cls (sX11_isWordLine).2.1) = true := by decide +kernel
def tX11_isLine : List Ent := [(0, .aload_n 0, 1, 0, 0, [], .null, []),
  (1, .invokevirtual 109, 4, 137, 0, [(0, 11)], .null, [1104, 1106, 38, 77]),
  (4, .aload_n 0, 5, 0, 0, [], .null, []),
  (5, .getfield 92, 8, 11, 13, [], .null, [989]),
  (8, .ldc2_w 129, 11, 0, 0, [], .long 8328978, [1114]),
  (11, .lcmp, 12, 0, 0, [], .null, []),
  (12, .ifCond .ne 7, 15, 19, 0, [], .null, []),
  (15, .iconst 0, 16, 0, 0, [], .int 0, []),
  (16, .goto 64, 19, 80, 0, [], .null, []),
  (19, .aload_n 0, 20, 0, 0, [], .null, []),
  (20, .getfield 92, 23, 11, 13, [], .null, [989]),
  (23, .ldc2_w 131, 26, 0, 0, [], .long 464134, [1115]),
  (26, .lcmp, 27, 0, 0, [], .null, []),
  (27, .ifCond .ne 7, 30, 34, 0, [], .null, []),
  (30, .iconst 1, 31, 0, 0, [], .int 1, []),
  (31, .goto 49, 34, 80, 0, [], .null, []),
  (34, .aload_n 0, 35, 0, 0, [], .null, []),
  (35, .getfield 92, 38, 11, 13, [], .null, [989]),
  (38, .ldc2_w 133, 41, 0, 0, [], .long 10631, [1116]),
  (41, .lcmp, 42, 0, 0, [], .null, []),
  (42, .ifCond .ne 7, 45, 49, 0, [], .null, []),
  (45, .iconst 2, 46, 0, 0, [], .int 2, []),
  (46, .goto 34, 49, 80, 0, [], .null, []),
  (49, .aload_n 0, 50, 0, 0, [], .null, []),
  (50, .getfield 92, 53, 11, 13, [], .null, [989]),
  (53, .ldc2_w 135, 56, 0, 0, [], .long 131360, [1117]),
  (56, .lcmp, 57, 0, 0, [], .null, []),
  (57, .ifCond .ne 7, 60, 64, 0, [], .null, []),
  (60, .iconst 3, 61, 0, 0, [], .int 3, []),
  (61, .goto 19, 64, 80, 0, [], .null, []),
  (64, .aload_n 0, 65, 0, 0, [], .null, []),
  (65, .getfield 92, 68, 11, 13, [], .null, [989]),
  (68, .ldc2_w 137, 71, 0, 0, [], .long 237470, [1118]),
  (71, .lcmp, 72, 0, 0, [], .null, []),
  (72, .ifCond .ne 7, 75, 79, 0, [], .null, []),
  (75, .iconst 4, 76, 0, 0, [], .int 4, []),
  (76, .goto 4, 79, 80, 0, [], .null, []),
  (79, .iconst (-1), 80, 0, 0, [], .int (-1), []),
  (80, .istore_n 2, 81, 2, 0, [], .null, []),
  (81, .aload_n 0, 82, 0, 0, [], .null, []),
  (82, .getfield 92, 85, 11, 13, [], .null, [989]),
  (85, .ldc2_w 139, 88, 0, 0, [], .long 36502, [1119]),
  (88, .lcmp, 89, 0, 0, [], .null, []),
  (89, .ifCond .ne 7, 92, 96, 0, [], .null, []),
  (92, .iconst 5, 93, 0, 0, [], .int 5, []),
  (93, .goto 52, 96, 145, 0, [], .null, []),
  (96, .aload_n 0, 97, 0, 0, [], .null, []),
  (97, .getfield 92, 100, 11, 13, [], .null, [989]),
  (100, .ldc2_w 141, 103, 0, 0, [], .long 161600, [1120]),
  (103, .lcmp, 104, 0, 0, [], .null, []),
  (104, .ifCond .ne 8, 107, 112, 0, [], .null, []),
  (107, .bipush 6, 109, 0, 0, [], .int 6, []),
  (109, .goto 36, 112, 145, 0, [], .null, []),
  (112, .aload_n 0, 113, 0, 0, [], .null, []),
  (113, .getfield 92, 116, 11, 13, [], .null, [989]),
  (116, .ldc2_w 143, 119, 0, 0, [], .long 122796194, [1121]),
  (119, .lcmp, 120, 0, 0, [], .null, []),
  (120, .ifCond .ne 8, 123, 128, 0, [], .null, []),
  (123, .bipush 7, 125, 0, 0, [], .int 7, []),
  (125, .goto 20, 128, 145, 0, [], .null, []),
  (128, .aload_n 0, 129, 0, 0, [], .null, []),
  (129, .getfield 92, 132, 11, 13, [], .null, [989]),
  (132, .ldc2_w 145, 135, 0, 0, [], .long 1834209, [1122]),
  (135, .lcmp, 136, 0, 0, [], .null, []),
  (136, .ifCond .ne 8, 139, 144, 0, [], .null, []),
  (139, .bipush 8, 141, 0, 0, [], .int 8, []),
  (141, .goto 4, 144, 145, 0, [], .null, []),
  (144, .iconst (-1), 145, 0, 0, [], .int (-1), []),
  (145, .istore_n 3, 146, 3, 0, [], .null, []),
  (146, .aload_n 0, 147, 0, 0, [], .null, []),
  (147, .getfield 38, 150, 11, 22, [], .null, [998]),
  (150, .iload_n 1, 151, 1, 0, [], .null, []),
  (151, .iload_n 2, 152, 2, 0, [], .null, []),
  (152, .iconst (-1), 153, 0, 0, [], .int (-1), []),
  (153, .if_icmp .ne 7, 156, 160, 0, [], .null, []),
  (156, .iload_n 3, 157, 3, 0, [], .null, []),
  (157, .goto 4, 160, 161, 0, [], .null, []),
  (160, .iload_n 2, 161, 2, 0, [], .null, []),
  (161, .iastore, 162, 0, 0, [], .null, []),
  (162, .aload_n 0, 163, 0, 0, [], .null, []),
  (163, .getfield 38, 166, 11, 22, [], .null, [998]),
  (166, .iload_n 1, 167, 1, 0, [], .null, []),
  (167, .iaload, 168, 0, 0, [], .null, []),
  (168, .tableswitch 133 0 8 #[52, 58, 64, 94, 101, 127, 127, 127, 127], 220, 301, 0, [(0, 220), (1, 226), (2, 232), (3, 262), (4, 269), (5, 295), (6, 295), (7, 295), (8, 295)], .null, []),
  (220, .aload_n 0, 221, 0, 0, [], .null, []),
  (221, .iload_n 1, 222, 1, 0, [], .null, []),
  (222, .invokevirtual 147, 225, 141, 1, [(0, 11)], .int 0, [1123, 1125, 39, 77]),
  (225, .ireturn, 226, 0, 0, [], .null, []),
  (226, .aload_n 0, 227, 0, 0, [], .null, []),
  (227, .iload_n 1, 228, 1, 0, [], .null, []),
  (228, .invokevirtual 150, 231, 143, 1, [(0, 11)], .int 0, [1135, 1137, 42, 77]),
  (231, .ireturn, 232, 0, 0, [], .null, []),
  (232, .aload_n 0, 233, 0, 0, [], .null, []),
  (233, .iload_n 1, 234, 1, 0, [], .null, []),
  (234, .iconst 1, 235, 0, 0, [], .int 1, []),
  (235, .iadd, 236, 0, 0, [], .null, []),
  (236, .iconst 0, 237, 0, 0, [], .int 0, []),
  (237, .iconst 2, 238, 0, 0, [], .int 2, []),
  (238, .invokevirtual 119, 241, 139, 3, [(0, 11)], .int 0, [1127, 1129, 40, 77]),
  (241, .ifCond .eq 19, 244, 260, 0, [], .null, []),
  (244, .aload_n 0, 245, 0, 0, [], .null, []),
  (245, .iload_n 1, 246, 1, 0, [], .null, []),
  (246, .iconst 2, 247, 0, 0, [], .int 2, []),
  (247, .iadd, 248, 0, 0, [], .null, []),
  (248, .iconst 0, 249, 0, 0, [], .int 0, []),
  (249, .iconst 2, 250, 0, 0, [], .int 2, []),
  (250, .invokevirtual 119, 253, 139, 3, [(0, 11)], .int 0, [1127, 1129, 40, 77]),
  (253, .ifCond .eq 7, 256, 260, 0, [], .null, []),
  (256, .iconst 1, 257, 0, 0, [], .int 1, []),
  (257, .goto 4, 260, 261, 0, [], .null, []),
  (260, .iconst 0, 261, 0, 0, [], .int 0, []),
  (261, .ireturn, 262, 0, 0, [], .null, []),
  (262, .aload_n 0, 263, 0, 0, [], .null, []),
  (263, .iconst 0, 264, 0, 0, [], .int 0, []),
  (264, .putfield 122, 267, 11, 19, [], .null, [995]),
  (267, .iconst 1, 268, 0, 0, [], .int 1, []),
  (268, .ireturn, 269, 0, 0, [], .null, []),
  (269, .aload_n 0, 270, 0, 0, [], .null, []),
  (270, .iload_n 1, 271, 1, 0, [], .null, []),
  (271, .invokevirtual 153, 274, 140, 1, [(0, 11)], .int 0, [1143, 1145, 44, 77]),
  (274, .ifCond .eq 19, 277, 293, 0, [], .null, []),
  (277, .aload_n 0, 278, 0, 0, [], .null, []),
  (278, .iload_n 1, 279, 1, 0, [], .null, []),
  (279, .iconst 2, 280, 0, 0, [], .int 2, []),
  (280, .iadd, 281, 0, 0, [], .null, []),
  (281, .iconst 0, 282, 0, 0, [], .int 0, []),
  (282, .iconst 3, 283, 0, 0, [], .int 3, []),
  (283, .invokevirtual 119, 286, 139, 3, [(0, 11)], .int 0, [1127, 1129, 40, 77]),
  (286, .ifCond .eq 7, 289, 293, 0, [], .null, []),
  (289, .iconst 1, 290, 0, 0, [], .int 1, []),
  (290, .goto 4, 293, 294, 0, [], .null, []),
  (293, .iconst 0, 294, 0, 0, [], .int 0, []),
  (294, .ireturn, 295, 0, 0, [], .null, []),
  (295, .aload_n 0, 296, 0, 0, [], .null, []),
  (296, .iload_n 1, 297, 1, 0, [], .null, []),
  (297, .invokevirtual 153, 300, 140, 1, [(0, 11)], .int 0, [1143, 1145, 44, 77]),
  (300, .ireturn, 301, 0, 0, [], .null, []),
  (301, .aload_n 0, 302, 0, 0, [], .null, []),
  (302, .invokevirtual 112, 305, 138, 0, [(0, 11)], .int 0, [1131, 1133, 41, 77]),
  (305, .ireturn, 306, 0, 0, [], .null, [])]
theorem oX11_isLine : tX11_isLine.all (okE (sX11_isLine).1.cls (sX11_isLine).2.1) = true := by decide +kernel
def tX11_isRead : List Ent := [(0, .aload_n 0, 1, 0, 0, [], .null, []),
  (1, .iconst 0, 2, 0, 0, [], .int 0, []),
  (2, .putfield 78, 5, 11, 11, [], .null, [987]),
  (5, .aload_n 0, 6, 0, 0, [], .null, []),
  (6, .iconst 0, 7, 0, 0, [], .int 0, []),
  (7, .putfield 156, 10, 11, 17, [], .null, [993]),
  (10, .aload_n 0, 11, 0, 0, [], .null, []),
  (11, .aload_n 0, 12, 0, 0, [], .null, []),
  (12, .getfield 7, 15, 11, 0, [], .null, [976]),
  (15, .putfield 116, 18, 11, 18, [], .null, [994]),
  (18, .aload_n 0, 19, 0, 0, [], .null, []),
  (19, .aload_n 0, 20, 0, 0, [], .null, []),
  (20, .getfield 66, 23, 11, 4, [], .null, [980]),
  (23, .putfield 122, 26, 11, 19, [], .null, [995]),
  (26, .iconst 0, 27, 0, 0, [], .int 0, []),
  (27, .istore_n 1, 28, 1, 0, [], .null, []),
  (28, .iload_n 1, 29, 1, 0, [], .null, []),
  (29, .aload_n 0, 30, 0, 0, [], .null, []),
  (30, .getfield 66, 33, 11, 4, [], .null, [980]),
  (33, .if_icmp .ge 57, 36, 90, 0, [], .null, []),
  (36, .aload_n 0, 37, 0, 0, [], .null, []),
  (37, .getfield 32, 40, 11, 20, [], .null, [996]),
  (40, .iload_n 1, 41, 1, 0, [], .null, []),
  (41, .aload_n 0, 42, 0, 0, [], .null, []),
  (42, .getfield 20, 45, 11, 6, [], .null, [982]),
  (45, .iload_n 1, 46, 1, 0, [], .null, []),
  (46, .iaload, 47, 0, 0, [], .null, []),
  (47, .iastore, 48, 0, 0, [], .null, []),
  (48, .iconst 0, 49, 0, 0, [], .int 0, []),
  (49, .istore_n 2, 50, 2, 0, [], .null, []),
  (50, .iload_n 2, 51, 2, 0, [], .null, []),
  (51, .bipush 10, 53, 0, 0, [], .int 10, []),
  (53, .if_icmp .ge 31, 56, 84, 0, [], .null, []),
  (56, .aload_n 0, 57, 0, 0, [], .null, []),
  (57, .getfield 35, 60, 11, 21, [], .null, [997]),
  (60, .bipush 10, 62, 0, 0, [], .int 10, []),
  (62, .iload_n 1, 63, 1, 0, [], .null, []),
  (63, .imul, 64, 0, 0, [], .null, []),
  (64, .iload_n 2, 65, 2, 0, [], .null, []),
  (65, .iadd, 66, 0, 0, [], .null, []),
  (66, .aload_n 0, 67, 0, 0, [], .null, []),
  (67, .getfield 23, 70, 11, 7, [], .null, [983]),
  (70, .bipush 10, 72, 0, 0, [], .int 10, []),
  (72, .iload_n 1, 73, 1, 0, [], .null, []),
  (73, .imul, 74, 0, 0, [], .null, []),
  (74, .iload_n 2, 75, 2, 0, [], .null, []),
  (75, .iadd, 76, 0, 0, [], .null, []),
  (76, .iaload, 77, 0, 0, [], .null, []),
  (77, .iastore, 78, 0, 0, [], .null, []),
  (78, .iinc 2 1, 81, 2, 0, [], .int 1, []),
  (81, .goto (-31), 84, 50, 0, [], .null, []),
  (84, .iinc 1 1, 87, 1, 0, [], .int 1, []),
  (87, .goto (-59), 90, 28, 0, [], .null, []),
  (90, .iconst 1, 91, 0, 0, [], .int 1, []),
  (91, .istore_n 1, 92, 1, 0, [], .null, []),
  (92, .iload_n 1, 93, 1, 0, [], .null, []),
  (93, .ifCond .eq 61, 96, 154, 0, [], .null, []),
  (96, .aload_n 0, 97, 0, 0, [], .null, []),
  (97, .iconst 3, 98, 0, 0, [], .int 3, []),
  (98, .aload_n 0, 99, 0, 0, [], .null, []),
  (99, .getfield 156, 102, 11, 17, [], .null, [993]),
  (102, .imul, 103, 0, 0, [], .null, []),
  (103, .invokevirtual 159, 106, 144, 1, [(0, 11)], .int 0, [1100, 1102, 37, 77]),
  (106, .ifCond .ne 5, 109, 111, 0, [], .null, []),
  (109, .iconst 0, 110, 0, 0, [], .int 0, []),
  (110, .ireturn, 111, 0, 0, [], .null, []),
  (111, .aload_n 0, 112, 0, 0, [], .null, []),
  (112, .dup, 113, 0, 0, [], .null, []),
  (113, .getfield 156, 116, 11, 17, [], .null, [993]),
  (116, .iconst 1, 117, 0, 0, [], .int 1, []),
  (117, .iadd, 118, 0, 0, [], .null, []),
  (118, .putfield 156, 121, 11, 17, [], .null, [993]),
  (121, .aload_n 0, 122, 0, 0, [], .null, []),
  (122, .invokevirtual 109, 125, 137, 0, [(0, 11)], .null, [1104, 1106, 38, 77]),
  (125, .aload_n 0, 126, 0, 0, [], .null, []),
  (126, .getfield 92, 129, 11, 13, [], .null, [989]),
  (129, .ldc2_w 104, 132, 0, 0, [], .long (-3), [1113]),
  (132, .lcmp, 133, 0, 0, [], .null, []),
  (133, .ifCond .ne 16, 136, 149, 0, [], .null, []),
  (136, .aload_n 0, 137, 0, 0, [], .null, []),
  (137, .getfield 156, 140, 11, 17, [], .null, [993]),
  (140, .bipush 12, 142, 0, 0, [], .int 12, []),
  (142, .if_icmp .ge 7, 145, 149, 0, [], .null, []),
  (145, .iconst 1, 146, 0, 0, [], .int 1, []),
  (146, .goto 4, 149, 150, 0, [], .null, []),
  (149, .iconst 0, 150, 0, 0, [], .int 0, []),
  (150, .istore_n 1, 151, 1, 0, [], .null, []),
  (151, .goto (-59), 154, 92, 0, [], .null, []),
  (154, .aload_n 0, 155, 0, 0, [], .null, []),
  (155, .getfield 92, 158, 11, 13, [], .null, [989]),
  (158, .ldc2_w 90, 161, 0, 0, [], .long (-2), [1108]),
  (161, .lcmp, 162, 0, 0, [], .null, []),
  (162, .ifCond .eq 10, 165, 172, 0, [], .null, []),
  (165, .aload_n 0, 166, 0, 0, [], .null, []),
  (166, .invokevirtual 112, 169, 138, 0, [(0, 11)], .int 0, [1131, 1133, 41, 77]),
  (169, .ifCond .eq 7, 172, 176, 0, [], .null, []),
  (172, .iconst 1, 173, 0, 0, [], .int 1, []),
  (173, .goto 4, 176, 177, 0, [], .null, []),
  (176, .iconst 0, 177, 0, 0, [], .int 0, []),
  (177, .ireturn, 178, 0, 0, [], .null, [])]
theorem oX11_isRead : tX11_isRead.all (okE (sX11_isRead).1.cls (sX11_isRead).2.1) = true := by decide +kernel
def tX11_fault : List Ent := [(0, .aload_n 0, 1, 0, 0, [], .null, []),
  (1, .invokevirtual 162, 4, 145, 0, [(0, 11)], .int 0, [1096, 1098, 36, 77]),
  (4, .ifCond .eq 7, 7, 11, 0, [], .null, []),
  (7, .iconst (-1), 8, 0, 0, [], .int (-1), []),
  (8, .goto 7, 11, 15, 0, [], .null, []),
  (11, .aload_n 0, 12, 0, 0, [], .null, []),
  (12, .getfield 106, 15, 11, 16, [], .null, [992]),
  (15, .ireturn, 16, 0, 0, [], .null, [])]
theorem oX11_fault : tX11_fault.all (okE (sX11_fault).1.cls (sX11_fault).2.1) = true := by decide +kernel
def tX11_addWord : List Ent := [(0, .aload_n 0, 1, 0, 0, [], .null, []),
  (1, .getfield 17, 4, 11, 5, [], .null, [981]),
  (4, .aload_n 0, 5, 0, 0, [], .null, []),
  (5, .getfield 66, 8, 11, 4, [], .null, [980]),
  (8, .iload_n 1, 9, 1, 0, [], .null, []),
  (9, .iastore, 10, 0, 0, [], .null, []),
  (10, .iconst 0, 11, 0, 0, [], .int 0, []),
  (11, .istore_n 3, 12, 3, 0, [], .null, []),
  (12, .iload_n 2, 13, 2, 0, [], .null, []),
  (13, .iload_n 3, 14, 3, 0, [], .null, []),
  (14, .iadd, 15, 0, 0, [], .null, []),
  (15, .aload_n 0, 16, 0, 0, [], .null, []),
  (16, .getfield 73, 19, 11, 9, [], .null, [985]),
  (19, .if_icmp .ge 52, 22, 71, 0, [], .null, []),
  (22, .aload_n 0, 23, 0, 0, [], .null, []),
  (23, .getfield 29, 26, 11, 10, [], .null, [986]),
  (26, .iload_n 2, 27, 2, 0, [], .null, []),
  (27, .iload_n 3, 28, 3, 0, [], .null, []),
  (28, .iadd, 29, 0, 0, [], .null, []),
  (29, .iaload, 30, 0, 0, [], .null, []),
  (30, .bipush 97, 32, 0, 0, [], .int 97, []),
  (32, .bipush 122, 34, 0, 0, [], .int 122, []),
  (34, .invokestatic 69, 37, 131, 3, [], .int 0, [1084, 1085, 77]),
  (37, .ifCond .eq 34, 40, 71, 0, [], .null, []),
  (40, .aload_n 0, 41, 0, 0, [], .null, []),
  (41, .getfield 23, 44, 11, 7, [], .null, [983]),
  (44, .bipush 10, 46, 0, 0, [], .int 10, []),
  (46, .aload_n 0, 47, 0, 0, [], .null, []),
  (47, .getfield 66, 50, 11, 4, [], .null, [980]),
  (50, .imul, 51, 0, 0, [], .null, []),
  (51, .iload_n 3, 52, 3, 0, [], .null, []),
  (52, .iadd, 53, 0, 0, [], .null, []),
  (53, .aload_n 0, 54, 0, 0, [], .null, []),
  (54, .getfield 29, 57, 11, 10, [], .null, [986]),
  (57, .iload_n 2, 58, 2, 0, [], .null, []),
  (58, .iload_n 3, 59, 3, 0, [], .null, []),
  (59, .iadd, 60, 0, 0, [], .null, []),
  (60, .iaload, 61, 0, 0, [], .null, []),
  (61, .bipush 96, 63, 0, 0, [], .int 96, []),
  (63, .isub, 64, 0, 0, [], .null, []),
  (64, .iastore, 65, 0, 0, [], .null, []),
  (65, .iinc 3 1, 68, 3, 0, [], .int 1, []),
  (68, .goto (-56), 71, 12, 0, [], .null, []),
  (71, .aload_n 0, 72, 0, 0, [], .null, []),
  (72, .getfield 20, 75, 11, 6, [], .null, [982]),
  (75, .aload_n 0, 76, 0, 0, [], .null, []),
  (76, .getfield 66, 79, 11, 4, [], .null, [980]),
  (79, .iload_n 3, 80, 3, 0, [], .null, []),
  (80, .iastore, 81, 0, 0, [], .null, []),
  (81, .aload_n 0, 82, 0, 0, [], .null, []),
  (82, .dup, 83, 0, 0, [], .null, []),
  (83, .getfield 66, 86, 11, 4, [], .null, [980]),
  (86, .iconst 1, 87, 0, 0, [], .int 1, []),
  (87, .iadd, 88, 0, 0, [], .null, []),
  (88, .putfield 66, 91, 11, 4, [], .null, [980]),
  (91, .return_, 92, 0, 0, [], .null, [])]
theorem oX11_addWord : tX11_addWord.all (okE (sX11_addWord).1.cls (sX11_addWord).2.1) = true := by decide +kernel
def tX11_doLine : List Ent := [(0, .aload_n 0, 1, 0, 0, [], .null, []),
  (1, .getfield 38, 4, 11, 22, [], .null, [998]),
  (4, .iload_n 1, 5, 1, 0, [], .null, []),
  (5, .iconst 1, 6, 0, 0, [], .int 1, []),
  (6, .iadd, 7, 0, 0, [], .null, []),
  (7, .iaload, 8, 0, 0, [], .null, []),
  (8, .istore_n 2, 9, 2, 0, [], .null, []),
  (9, .aload_n 0, 10, 0, 0, [], .null, []),
  (10, .getfield 38, 13, 11, 22, [], .null, [998]),
  (13, .iload_n 1, 14, 1, 0, [], .null, []),
  (14, .iaload, 15, 0, 0, [], .null, []),
  (15, .tableswitch 206 0 7 #[45, 83, 99, 127, 142, 159, 174, 191], 60, 221, 0, [(0, 60), (1, 98), (2, 114), (3, 142), (4, 157), (5, 174), (6, 189), (7, 206)], .null, []),
  (60, .aload_n 0, 61, 0, 0, [], .null, []),
  (61, .iload_n 2, 62, 2, 0, [], .null, []),
  (62, .putfield 7, 65, 11, 0, [], .null, [976]),
  (65, .aload_n 0, 66, 0, 0, [], .null, []),
  (66, .iconst 0, 67, 0, 0, [], .int 0, []),
  (67, .putfield 165, 70, 11, 1, [], .null, [977]),
  (70, .aload_n 0, 71, 0, 0, [], .null, []),
  (71, .iconst 0, 72, 0, 0, [], .int 0, []),
  (72, .putfield 168, 75, 11, 2, [], .null, [978]),
  (75, .iconst 0, 76, 0, 0, [], .int 0, []),
  (76, .istore_n 3, 77, 3, 0, [], .null, []),
  (77, .iload_n 3, 78, 3, 0, [], .null, []),
  (78, .iconst 5, 79, 0, 0, [], .int 5, []),
  (79, .if_icmp .ge 16, 82, 95, 0, [], .null, []),
  (82, .aload_n 0, 83, 0, 0, [], .null, []),
  (83, .getfield 13, 86, 11, 3, [], .null, [979]),
  (86, .iload_n 3, 87, 3, 0, [], .null, []),
  (87, .iconst 0, 88, 0, 0, [], .int 0, []),
  (88, .iastore, 89, 0, 0, [], .null, []),
  (89, .iinc 3 1, 92, 3, 0, [], .int 1, []),
  (92, .goto (-15), 95, 77, 0, [], .null, []),
  (95, .goto 140, 98, 235, 0, [], .null, []),
  (98, .aload_n 0, 99, 0, 0, [], .null, []),
  (99, .iload_n 2, 100, 2, 0, [], .null, []),
  (100, .aload_n 0, 101, 0, 0, [], .null, []),
  (101, .getfield 38, 104, 11, 22, [], .null, [998]),
  (104, .iload_n 1, 105, 1, 0, [], .null, []),
  (105, .iconst 2, 106, 0, 0, [], .int 2, []),
  (106, .iadd, 107, 0, 0, [], .null, []),
  (107, .iaload, 108, 0, 0, [], .null, []),
  (108, .invokevirtual 171, 111, 147, 2, [(0, 11)], .null, [1155, 1157, 46, 77]),
  (111, .goto 124, 114, 235, 0, [], .null, []),
  (114, .aload_n 0, 115, 0, 0, [], .null, []),
  (115, .aload_n 0, 116, 0, 0, [], .null, []),
  (116, .getfield 26, 119, 11, 8, [], .null, [984]),
  (119, .iconst 1, 120, 0, 0, [], .int 1, []),
  (120, .iconst 3, 121, 0, 0, [], .int 3, []),
  (121, .iload_n 2, 122, 2, 0, [], .null, []),
  (122, .imul, 123, 0, 0, [], .null, []),
  (123, .aload_n 0, 124, 0, 0, [], .null, []),
  (124, .getfield 38, 127, 11, 22, [], .null, [998]),
  (127, .iload_n 1, 128, 1, 0, [], .null, []),
  (128, .iconst 2, 129, 0, 0, [], .int 2, []),
  (129, .iadd, 130, 0, 0, [], .null, []),
  (130, .iaload, 131, 0, 0, [], .null, []),
  (131, .iadd, 132, 0, 0, [], .null, []),
  (132, .ishl, 133, 0, 0, [], .null, []),
  (133, .iconst (-1), 134, 0, 0, [], .int (-1), []),
  (134, .ixor, 135, 0, 0, [], .null, []),
  (135, .iand, 136, 0, 0, [], .null, []),
  (136, .putfield 26, 139, 11, 8, [], .null, [984]),
  (139, .goto 96, 142, 235, 0, [], .null, []),
  (142, .aload_n 0, 143, 0, 0, [], .null, []),
  (143, .iconst 0, 144, 0, 0, [], .int 0, []),
  (144, .putfield 66, 147, 11, 4, [], .null, [980]),
  (147, .aload_n 0, 148, 0, 0, [], .null, []),
  (148, .sipush 511, 151, 0, 0, [], .int 511, []),
  (151, .putfield 26, 154, 11, 8, [], .null, [984]),
  (154, .goto 81, 157, 235, 0, [], .null, []),
  (157, .aload_n 0, 158, 0, 0, [], .null, []),
  (158, .getfield 13, 161, 11, 3, [], .null, [979]),
  (161, .iload_n 2, 162, 2, 0, [], .null, []),
  (162, .aload_n 0, 163, 0, 0, [], .null, []),
  (163, .getfield 38, 166, 11, 22, [], .null, [998]),
  (166, .iload_n 1, 167, 1, 0, [], .null, []),
  (167, .iconst 2, 168, 0, 0, [], .int 2, []),
  (168, .iadd, 169, 0, 0, [], .null, []),
  (169, .iaload, 170, 0, 0, [], .null, []),
  (170, .iastore, 171, 0, 0, [], .null, []),
  (171, .goto 64, 174, 235, 0, [], .null, []),
  (174, .aload_n 0, 175, 0, 0, [], .null, []),
  (175, .aload_n 0, 176, 0, 0, [], .null, []),
  (176, .getfield 165, 179, 11, 1, [], .null, [977]),
  (179, .iconst 1, 180, 0, 0, [], .int 1, []),
  (180, .iload_n 2, 181, 2, 0, [], .null, []),
  (181, .ishl, 182, 0, 0, [], .null, []),
  (182, .ior, 183, 0, 0, [], .null, []),
  (183, .putfield 165, 186, 11, 1, [], .null, [977]),
  (186, .goto 49, 189, 235, 0, [], .null, []),
  (189, .aload_n 0, 190, 0, 0, [], .null, []),
  (190, .aload_n 0, 191, 0, 0, [], .null, []),
  (191, .getfield 165, 194, 11, 1, [], .null, [977]),
  (194, .iconst 1, 195, 0, 0, [], .int 1, []),
  (195, .iload_n 2, 196, 2, 0, [], .null, []),
  (196, .ishl, 197, 0, 0, [], .null, []),
  (197, .iconst (-1), 198, 0, 0, [], .int (-1), []),
  (198, .ixor, 199, 0, 0, [], .null, []),
  (199, .iand, 200, 0, 0, [], .null, []),
  (200, .putfield 165, 203, 11, 1, [], .null, [977]),
  (203, .goto 32, 206, 235, 0, [], .null, []),
  (206, .aload_n 0, 207, 0, 0, [], .null, []),
  (207, .aload_n 0, 208, 0, 0, [], .null, []),
  (208, .getfield 168, 211, 11, 2, [], .null, [978]),
  (211, .iconst 1, 212, 0, 0, [], .int 1, []),
  (212, .iload_n 2, 213, 2, 0, [], .null, []),
  (213, .ishl, 214, 0, 0, [], .null, []),
  (214, .ior, 215, 0, 0, [], .null, []),
  (215, .putfield 168, 218, 11, 2, [], .null, [978]),
  (218, .goto 17, 221, 235, 0, [], .null, []),
  (221, .aload_n 0, 222, 0, 0, [], .null, []),
  (222, .aload_n 0, 223, 0, 0, [], .null, []),
  (223, .getfield 168, 226, 11, 2, [], .null, [978]),
  (226, .iconst 1, 227, 0, 0, [], .int 1, []),
  (227, .iload_n 2, 228, 2, 0, [], .null, []),
  (228, .ishl, 229, 0, 0, [], .null, []),
  (229, .iconst (-1), 230, 0, 0, [], .int (-1), []),
  (230, .ixor, 231, 0, 0, [], .null, []),
  (231, .iand, 232, 0, 0, [], .null, []),
  (232, .putfield 168, 235, 11, 2, [], .null, [978]),
  (235, .return_, 236, 0, 0, [], .null, [])]
theorem oX11_doLine : tX11_doLine.all (okE (sX11_doLine).1.cls (sX11_doLine).2.1) = true := by decide +kernel
def tX11_order : List Ent := [(0, .aload_n 0, 1, 0, 0, [], .null, []),
  (1, .invokevirtual 162, 4, 145, 0, [(0, 11)], .int 0, [1096, 1098, 36, 77]),
  (4, .ifCond .ne 6, 7, 10, 0, [], .null, []),
  (7, .bipush (-4), 9, 0, 0, [], .int (-4), []),
  (9, .ireturn, 10, 0, 0, [], .null, []),
  (10, .iconst 0, 11, 0, 0, [], .int 0, []),
  (11, .istore_n 1, 12, 1, 0, [], .null, []),
  (12, .iload_n 1, 13, 1, 0, [], .null, []),
  (13, .aload_n 0, 14, 0, 0, [], .null, []),
  (14, .getfield 156, 17, 11, 17, [], .null, [993]),
  (17, .if_icmp .ge 16, 20, 33, 0, [], .null, []),
  (20, .aload_n 0, 21, 0, 0, [], .null, []),
  (21, .iconst 3, 22, 0, 0, [], .int 3, []),
  (22, .iload_n 1, 23, 1, 0, [], .null, []),
  (23, .imul, 24, 0, 0, [], .null, []),
  (24, .invokevirtual 175, 27, 148, 1, [(0, 11)], .null, [1151, 1153, 45, 77]),
  (27, .iinc 1 1, 30, 1, 0, [], .int 1, []),
  (30, .goto (-18), 33, 12, 0, [], .null, []),
  (33, .aload_n 0, 34, 0, 0, [], .null, []),
  (34, .iconst 0, 35, 0, 0, [], .int 0, []),
  (35, .putfield 73, 38, 11, 9, [], .null, [985]),
  (38, .aload_n 0, 39, 0, 0, [], .null, []),
  (39, .iconst 0, 40, 0, 0, [], .int 0, []),
  (40, .putfield 179, 43, 11, 23, [], .null, [999]),
  (43, .aload_n 0, 44, 0, 0, [], .null, []),
  (44, .iconst 0, 45, 0, 0, [], .int 0, []),
  (45, .putfield 182, 48, 11, 25, [], .null, [1001]),
  (48, .aload_n 0, 49, 0, 0, [], .null, []),
  (49, .iconst 0, 50, 0, 0, [], .int 0, []),
  (50, .putfield 185, 53, 11, 26, [], .null, [1002]),
  (53, .aload_n 0, 54, 0, 0, [], .null, []),
  (54, .getfield 50, 57, 11, 29, [], .null, [1005]),
  (57, .iconst 0, 58, 0, 0, [], .int 0, []),
  (58, .iconst 0, 59, 0, 0, [], .int 0, []),
  (59, .bastore, 60, 0, 0, [], .null, []),
  (60, .aload_n 0, 61, 0, 0, [], .null, []),
  (61, .getfield 50, 64, 11, 29, [], .null, [1005]),
  (64, .iconst 1, 65, 0, 0, [], .int 1, []),
  (65, .iconst 0, 66, 0, 0, [], .int 0, []),
  (66, .bastore, 67, 0, 0, [], .null, []),
  (67, .aload_n 0, 68, 0, 0, [], .null, []),
  (68, .getfield 156, 71, 11, 17, [], .null, [993]),
  (71, .ireturn, 72, 0, 0, [], .null, [])]
theorem oX11_order : tX11_order.all (okE (sX11_order).1.cls (sX11_order).2.1) = true := by decide +kernel
def tX11_word : List Ent := [(0, .aload_n 0, 1, 0, 0, [], .null, []),
  (1, .iload_n 1, 2, 1, 0, [], .null, []),
  (2, .invokevirtual 188, 5, 133, 1, [(0, 11)], .int 0, [1163, 1165, 47, 77]),
  (5, .ifCond .ne 6, 8, 11, 0, [], .null, []),
  (8, .bipush (-2), 10, 0, 0, [], .int (-2), []),
  (10, .ireturn, 11, 0, 0, [], .null, []),
  (11, .iload_n 2, 12, 2, 0, [], .null, []),
  (12, .ifCond .eq 8, 15, 20, 0, [], .null, []),
  (15, .iload_n 2, 16, 2, 0, [], .null, []),
  (16, .iconst 1, 17, 0, 0, [], .int 1, []),
  (17, .if_icmp .ne 23, 20, 40, 0, [], .null, []),
  (20, .iload_n 2, 21, 2, 0, [], .null, []),
  (21, .ifCond .ne 12, 24, 33, 0, [], .null, []),
  (24, .aload_n 0, 25, 0, 0, [], .null, []),
  (25, .getfield 20, 28, 11, 6, [], .null, [982]),
  (28, .iload_n 1, 29, 1, 0, [], .null, []),
  (29, .iaload, 30, 0, 0, [], .null, []),
  (30, .goto 9, 33, 39, 0, [], .null, []),
  (33, .aload_n 0, 34, 0, 0, [], .null, []),
  (34, .getfield 17, 37, 11, 5, [], .null, [981]),
  (37, .iload_n 1, 38, 1, 0, [], .null, []),
  (38, .iaload, 39, 0, 0, [], .null, []),
  (39, .ireturn, 40, 0, 0, [], .null, []),
  (40, .iload_n 2, 41, 2, 0, [], .null, []),
  (41, .bipush 10, 43, 0, 0, [], .int 10, []),
  (43, .bipush 19, 45, 0, 0, [], .int 19, []),
  (45, .invokestatic 69, 48, 131, 3, [], .int 0, [1084, 1085, 77]),
  (48, .ifCond .ne 6, 51, 54, 0, [], .null, []),
  (51, .bipush (-3), 53, 0, 0, [], .int (-3), []),
  (53, .ireturn, 54, 0, 0, [], .null, []),
  (54, .iload_n 2, 55, 2, 0, [], .null, []),
  (55, .bipush 10, 57, 0, 0, [], .int 10, []),
  (57, .isub, 58, 0, 0, [], .null, []),
  (58, .aload_n 0, 59, 0, 0, [], .null, []),
  (59, .getfield 20, 62, 11, 6, [], .null, [982]),
  (62, .iload_n 1, 63, 1, 0, [], .null, []),
  (63, .iaload, 64, 0, 0, [], .null, []),
  (64, .if_icmp .ge 20, 67, 84, 0, [], .null, []),
  (67, .aload_n 0, 68, 0, 0, [], .null, []),
  (68, .getfield 23, 71, 11, 7, [], .null, [983]),
  (71, .bipush 10, 73, 0, 0, [], .int 10, []),
  (73, .iload_n 1, 74, 1, 0, [], .null, []),
  (74, .imul, 75, 0, 0, [], .null, []),
  (75, .iload_n 2, 76, 2, 0, [], .null, []),
  (76, .iadd, 77, 0, 0, [], .null, []),
  (77, .bipush 10, 79, 0, 0, [], .int 10, []),
  (79, .isub, 80, 0, 0, [], .null, []),
  (80, .iaload, 81, 0, 0, [], .null, []),
  (81, .goto 4, 84, 85, 0, [], .null, []),
  (84, .iconst (-1), 85, 0, 0, [], .int (-1), []),
  (85, .ireturn, 86, 0, 0, [], .null, [])]
theorem oX11_word : tX11_word.all (okE (sX11_word).1.cls (sX11_word).2.1) = true := by decide +kernel
def tX11_lettersOf : List Ent := [(0, .iconst 0, 1, 0, 0, [], .int 0, []),
  (1, .istore_n 1, 2, 1, 0, [], .null, []),
  (2, .iconst 0, 3, 0, 0, [], .int 0, []),
  (3, .istore_n 2, 4, 2, 0, [], .null, []),
  (4, .iload_n 2, 5, 2, 0, [], .null, []),
  (5, .aload_n 0, 6, 0, 0, [], .null, []),
  (6, .getfield 179, 9, 11, 23, [], .null, [999]),
  (9, .if_icmp .ge 23, 12, 32, 0, [], .null, []),
  (12, .iload_n 1, 13, 1, 0, [], .null, []),
  (13, .aload_n 0, 14, 0, 0, [], .null, []),
  (14, .getfield 20, 17, 11, 6, [], .null, [982]),
  (17, .aload_n 0, 18, 0, 0, [], .null, []),
  (18, .getfield 41, 21, 11, 24, [], .null, [1000]),
  (21, .iload_n 2, 22, 2, 0, [], .null, []),
  (22, .iaload, 23, 0, 0, [], .null, []),
  (23, .iaload, 24, 0, 0, [], .null, []),
  (24, .iadd, 25, 0, 0, [], .null, []),
  (25, .istore_n 1, 26, 1, 0, [], .null, []),
  (26, .iinc 2 1, 29, 2, 0, [], .int 1, []),
  (29, .goto (-25), 32, 4, 0, [], .null, []),
  (32, .iload_n 1, 33, 1, 0, [], .null, []),
  (33, .ireturn, 34, 0, 0, [], .null, [])]
theorem oX11_lettersOf : tX11_lettersOf.all (okE (sX11_lettersOf).1.cls (sX11_lettersOf).2.1) = true := by decide +kernel
def tX11_letterAt : List Ent := [(0, .iload_n 1, 1, 1, 0, [], .null, []),
  (1, .istore_n 2, 2, 2, 0, [], .null, []),
  (2, .iconst 0, 3, 0, 0, [], .int 0, []),
  (3, .istore_n 3, 4, 3, 0, [], .null, []),
  (4, .iload_n 3, 5, 3, 0, [], .null, []),
  (5, .aload_n 0, 6, 0, 0, [], .null, []),
  (6, .getfield 179, 9, 11, 23, [], .null, [999]),
  (9, .if_icmp .ge 51, 12, 60, 0, [], .null, []),
  (12, .aload_n 0, 13, 0, 0, [], .null, []),
  (13, .getfield 41, 16, 11, 24, [], .null, [1000]),
  (16, .iload_n 3, 17, 3, 0, [], .null, []),
  (17, .iaload, 18, 0, 0, [], .null, []),
  (18, .istore 4, 20, 4, 0, [], .null, []),
  (20, .iload_n 2, 21, 2, 0, [], .null, []),
  (21, .aload_n 0, 22, 0, 0, [], .null, []),
  (22, .getfield 20, 25, 11, 6, [], .null, [982]),
  (25, .iload 4, 27, 4, 0, [], .null, []),
  (27, .iaload, 28, 0, 0, [], .null, []),
  (28, .if_icmp .ge 16, 31, 44, 0, [], .null, []),
  (31, .aload_n 0, 32, 0, 0, [], .null, []),
  (32, .getfield 23, 35, 11, 7, [], .null, [983]),
  (35, .bipush 10, 37, 0, 0, [], .int 10, []),
  (37, .iload 4, 39, 4, 0, [], .null, []),
  (39, .imul, 40, 0, 0, [], .null, []),
  (40, .iload_n 2, 41, 2, 0, [], .null, []),
  (41, .iadd, 42, 0, 0, [], .null, []),
  (42, .iaload, 43, 0, 0, [], .null, []),
  (43, .ireturn, 44, 0, 0, [], .null, []),
  (44, .iload_n 2, 45, 2, 0, [], .null, []),
  (45, .aload_n 0, 46, 0, 0, [], .null, []),
  (46, .getfield 20, 49, 11, 6, [], .null, [982]),
  (49, .iload 4, 51, 4, 0, [], .null, []),
  (51, .iaload, 52, 0, 0, [], .null, []),
  (52, .isub, 53, 0, 0, [], .null, []),
  (53, .istore_n 2, 54, 2, 0, [], .null, []),
  (54, .iinc 3 1, 57, 3, 0, [], .int 1, []),
  (57, .goto (-53), 60, 4, 0, [], .null, []),
  (60, .iconst 0, 61, 0, 0, [], .int 0, []),
  (61, .ireturn, 62, 0, 0, [], .null, [])]
theorem oX11_letterAt : tX11_letterAt.all (okE (sX11_letterAt).1.cls (sX11_letterAt).2.1) = true := by decide +kernel
def tX11_isSaid : List Ent := [(0, .iload_n 1, 1, 1, 0, [], .null, []),
  (1, .aload_n 0, 2, 0, 0, [], .null, []),
  (2, .getfield 7, 5, 11, 0, [], .null, [976]),
  (5, .irem, 6, 0, 0, [], .null, []),
  (6, .istore_n 2, 7, 2, 0, [], .null, []),
  (7, .iload_n 1, 8, 1, 0, [], .null, []),
  (8, .aload_n 0, 9, 0, 0, [], .null, []),
  (9, .getfield 7, 12, 11, 0, [], .null, [976]),
  (12, .idiv, 13, 0, 0, [], .null, []),
  (13, .aload_n 0, 14, 0, 0, [], .null, []),
  (14, .getfield 13, 17, 11, 3, [], .null, [979]),
  (17, .iload_n 2, 18, 2, 0, [], .null, []),
  (18, .iaload, 19, 0, 0, [], .null, []),
  (19, .isub, 20, 0, 0, [], .null, []),
  (20, .istore_n 3, 21, 3, 0, [], .null, []),
  (21, .aload_n 0, 22, 0, 0, [], .null, []),
  (22, .getfield 165, 25, 11, 1, [], .null, [977]),
  (25, .iload_n 2, 26, 2, 0, [], .null, []),
  (26, .invokestatic 191, 29, 132, 2, [], .int 0, [1179, 1180, 77]),
  (29, .ifCond .ne 28, 32, 57, 0, [], .null, []),
  (32, .iload_n 3, 33, 3, 0, [], .null, []),
  (33, .ifCond .lt 24, 36, 57, 0, [], .null, []),
  (36, .aload_n 0, 37, 0, 0, [], .null, []),
  (37, .getfield 168, 40, 11, 2, [], .null, [978]),
  (40, .iload_n 2, 41, 2, 0, [], .null, []),
  (41, .invokestatic 191, 44, 132, 2, [], .int 0, [1179, 1180, 77]),
  (44, .ifCond .eq 9, 47, 53, 0, [], .null, []),
  (47, .iload_n 3, 48, 3, 0, [], .null, []),
  (48, .iconst 2, 49, 0, 0, [], .int 2, []),
  (49, .irem, 50, 0, 0, [], .null, []),
  (50, .ifCond .ne 7, 53, 57, 0, [], .null, []),
  (53, .iconst 1, 54, 0, 0, [], .int 1, []),
  (54, .goto 4, 57, 58, 0, [], .null, []),
  (57, .iconst 0, 58, 0, 0, [], .int 0, []),
  (58, .ireturn, 59, 0, 0, [], .null, [])]
theorem oX11_isSaid : tX11_isSaid.all (okE (sX11_isSaid).1.cls (sX11_isSaid).2.1) = true := by decide +kernel
def tX11_voice : List Ent := [(0, .aload_n 0, 1, 0, 0, [], .null, []),
  (1, .iload_n 1, 2, 1, 0, [], .null, []),
  (2, .invokevirtual 195, 5, 134, 1, [(0, 11)], .int 0, [1171, 1173, 48, 77]),
  (5, .ifCond .ne 6, 8, 11, 0, [], .null, []),
  (8, .bipush (-2), 10, 0, 0, [], .int (-2), []),
  (10, .ireturn, 11, 0, 0, [], .null, []),
  (11, .iconst 0, 12, 0, 0, [], .int 0, []),
  (12, .istore_n 3, 13, 3, 0, [], .null, []),
  (13, .iload_n 1, 14, 1, 0, [], .null, []),
  (14, .istore 4, 16, 4, 0, [], .null, []),
  (16, .iload 4, 18, 4, 0, [], .null, []),
  (18, .aload_n 0, 19, 0, 0, [], .null, []),
  (19, .getfield 182, 22, 11, 25, [], .null, [1001]),
  (22, .if_icmp .ge 32, 25, 54, 0, [], .null, []),
  (25, .iload_n 3, 26, 3, 0, [], .null, []),
  (26, .aload_n 0, 27, 0, 0, [], .null, []),
  (27, .iload 4, 29, 4, 0, [], .null, []),
  (29, .invokevirtual 198, 32, 153, 1, [(0, 11)], .int 0, [1175, 1177, 49, 77]),
  (32, .ifCond .eq 7, 35, 39, 0, [], .null, []),
  (35, .iconst 1, 36, 0, 0, [], .int 1, []),
  (36, .goto 4, 39, 40, 0, [], .null, []),
  (39, .iconst 0, 40, 0, 0, [], .int 0, []),
  (40, .iadd, 41, 0, 0, [], .null, []),
  (41, .istore_n 3, 42, 3, 0, [], .null, []),
  (42, .iload 4, 44, 4, 0, [], .null, []),
  (44, .aload_n 0, 45, 0, 0, [], .null, []),
  (45, .getfield 7, 48, 11, 0, [], .null, [976]),
  (48, .iadd, 49, 0, 0, [], .null, []),
  (49, .istore 4, 51, 4, 0, [], .null, []),
  (51, .goto (-35), 54, 16, 0, [], .null, []),
  (54, .iload_n 2, 55, 2, 0, [], .null, []),
  (55, .tableswitch 72 0 3 #[29, 46, 63, 70], 84, 127, 0, [(0, 84), (1, 101), (2, 118), (3, 125)], .null, []),
  (84, .aload_n 0, 85, 0, 0, [], .null, []),
  (85, .getfield 165, 88, 11, 1, [], .null, [977]),
  (88, .iload_n 1, 89, 1, 0, [], .null, []),
  (89, .invokestatic 191, 92, 132, 2, [], .int 0, [1179, 1180, 77]),
  (92, .ifCond .eq 7, 95, 99, 0, [], .null, []),
  (95, .iconst 1, 96, 0, 0, [], .int 1, []),
  (96, .goto 4, 99, 100, 0, [], .null, []),
  (99, .iconst 0, 100, 0, 0, [], .int 0, []),
  (100, .ireturn, 101, 0, 0, [], .null, []),
  (101, .aload_n 0, 102, 0, 0, [], .null, []),
  (102, .getfield 168, 105, 11, 2, [], .null, [978]),
  (105, .iload_n 1, 106, 1, 0, [], .null, []),
  (106, .invokestatic 191, 109, 132, 2, [], .int 0, [1179, 1180, 77]),
  (109, .ifCond .eq 7, 112, 116, 0, [], .null, []),
  (112, .iconst 1, 113, 0, 0, [], .int 1, []),
  (113, .goto 4, 116, 117, 0, [], .null, []),
  (116, .iconst 0, 117, 0, 0, [], .int 0, []),
  (117, .ireturn, 118, 0, 0, [], .null, []),
  (118, .aload_n 0, 119, 0, 0, [], .null, []),
  (119, .getfield 13, 122, 11, 3, [], .null, [979]),
  (122, .iload_n 1, 123, 1, 0, [], .null, []),
  (123, .iaload, 124, 0, 0, [], .null, []),
  (124, .ireturn, 125, 0, 0, [], .null, []),
  (125, .iload_n 3, 126, 3, 0, [], .null, []),
  (126, .ireturn, 127, 0, 0, [], .null, []),
  (127, .bipush (-3), 129, 0, 0, [], .int (-3), []),
  (129, .ireturn, 130, 0, 0, [], .null, [])]
theorem oX11_voice : tX11_voice.all (okE (sX11_voice).1.cls (sX11_voice).2.1) = true := by decide +kernel
def tX11_mayFollow : List Ent := [(0, .aload_n 0, 1, 0, 0, [], .null, []),
  (1, .getfield 26, 4, 11, 8, [], .null, [984]),
  (4, .iconst 3, 5, 0, 0, [], .int 3, []),
  (5, .aload_n 0, 6, 0, 0, [], .null, []),
  (6, .getfield 17, 9, 11, 5, [], .null, [981]),
  (9, .iload_n 1, 10, 1, 0, [], .null, []),
  (10, .iaload, 11, 0, 0, [], .null, []),
  (11, .imul, 12, 0, 0, [], .null, []),
  (12, .aload_n 0, 13, 0, 0, [], .null, []),
  (13, .getfield 17, 16, 11, 5, [], .null, [981]),
  (16, .iload_n 2, 17, 2, 0, [], .null, []),
  (17, .iaload, 18, 0, 0, [], .null, []),
  (18, .iadd, 19, 0, 0, [], .null, []),
  (19, .invokestatic 191, 22, 132, 2, [], .int 0, [1179, 1180, 77]),
  (22, .ireturn, 23, 0, 0, [], .null, [])]
theorem oX11_mayFollow : tX11_mayFollow.all (okE (sX11_mayFollow).1.cls (sX11_mayFollow).2.1) = true := by decide +kernel
def tX11_preach : List Ent := [(0, .aload_n 0, 1, 0, 0, [], .null, []),
  (1, .iload_n 1, 2, 1, 0, [], .null, []),
  (2, .invokevirtual 188, 5, 133, 1, [(0, 11)], .int 0, [1163, 1165, 47, 77]),
  (5, .ifCond .ne 6, 8, 11, 0, [], .null, []),
  (8, .bipush (-2), 10, 0, 0, [], .int (-2), []),
  (10, .ireturn, 11, 0, 0, [], .null, []),
  (11, .aload_n 0, 12, 0, 0, [], .null, []),
  (12, .getfield 179, 15, 11, 23, [], .null, [999]),
  (15, .ifCond .le 25, 18, 40, 0, [], .null, []),
  (18, .aload_n 0, 19, 0, 0, [], .null, []),
  (19, .aload_n 0, 20, 0, 0, [], .null, []),
  (20, .getfield 41, 23, 11, 24, [], .null, [1000]),
  (23, .aload_n 0, 24, 0, 0, [], .null, []),
  (24, .getfield 179, 27, 11, 23, [], .null, [999]),
  (27, .iconst 1, 28, 0, 0, [], .int 1, []),
  (28, .isub, 29, 0, 0, [], .null, []),
  (29, .iaload, 30, 0, 0, [], .null, []),
  (30, .iload_n 1, 31, 1, 0, [], .null, []),
  (31, .invokevirtual 201, 34, 155, 2, [(0, 11)], .int 0, [1186, 1188, 50, 77]),
  (34, .ifCond .ne 6, 37, 40, 0, [], .null, []),
  (37, .bipush (-4), 39, 0, 0, [], .int (-4), []),
  (39, .ireturn, 40, 0, 0, [], .null, []),
  (40, .aload_n 0, 41, 0, 0, [], .null, []),
  (41, .getfield 179, 44, 11, 23, [], .null, [999]),
  (44, .bipush 6, 46, 0, 0, [], .int 6, []),
  (46, .if_icmp .eq 19, 49, 65, 0, [], .null, []),
  (49, .aload_n 0, 50, 0, 0, [], .null, []),
  (50, .invokevirtual 204, 53, 151, 0, [(0, 11)], .int 0, [1190, 1192, 51, 77]),
  (53, .aload_n 0, 54, 0, 0, [], .null, []),
  (54, .getfield 20, 57, 11, 6, [], .null, [982]),
  (57, .iload_n 1, 58, 1, 0, [], .null, []),
  (58, .iaload, 59, 0, 0, [], .null, []),
  (59, .iadd, 60, 0, 0, [], .null, []),
  (60, .bipush 60, 62, 0, 0, [], .int 60, []),
  (62, .if_icmp .le 6, 65, 68, 0, [], .null, []),
  (65, .bipush (-5), 67, 0, 0, [], .int (-5), []),
  (67, .ireturn, 68, 0, 0, [], .null, []),
  (68, .aload_n 0, 69, 0, 0, [], .null, []),
  (69, .getfield 41, 72, 11, 24, [], .null, [1000]),
  (72, .aload_n 0, 73, 0, 0, [], .null, []),
  (73, .getfield 179, 76, 11, 23, [], .null, [999]),
  (76, .iload_n 1, 77, 1, 0, [], .null, []),
  (77, .iastore, 78, 0, 0, [], .null, []),
  (78, .aload_n 0, 79, 0, 0, [], .null, []),
  (79, .dup, 80, 0, 0, [], .null, []),
  (80, .getfield 179, 83, 11, 23, [], .null, [999]),
  (83, .iconst 1, 84, 0, 0, [], .int 1, []),
  (84, .iadd, 85, 0, 0, [], .null, []),
  (85, .putfield 179, 88, 11, 23, [], .null, [999]),
  (88, .aload_n 0, 89, 0, 0, [], .null, []),
  (89, .invokevirtual 204, 92, 151, 0, [(0, 11)], .int 0, [1190, 1192, 51, 77]),
  (92, .ireturn, 93, 0, 0, [], .null, [])]
theorem oX11_preach : tX11_preach.all (okE (sX11_preach).1.cls (sX11_preach).2.1) = true := by decide +kernel
def tX11_amen : List Ent := [(0, .aload_n 0, 1, 0, 0, [], .null, []),
  (1, .getfield 179, 4, 11, 23, [], .null, [999]),
  (4, .istore_n 1, 5, 1, 0, [], .null, []),
  (5, .aload_n 0, 6, 0, 0, [], .null, []),
  (6, .iconst 0, 7, 0, 0, [], .int 0, []),
  (7, .putfield 179, 10, 11, 23, [], .null, [999]),
  (10, .aload_n 0, 11, 0, 0, [], .null, []),
  (11, .iconst 0, 12, 0, 0, [], .int 0, []),
  (12, .putfield 182, 15, 11, 25, [], .null, [1001]),
  (15, .iload_n 1, 16, 1, 0, [], .null, []),
  (16, .ireturn, 17, 0, 0, [], .null, [])]
theorem oX11_amen : tX11_amen.all (okE (sX11_amen).1.cls (sX11_amen).2.1) = true := by decide +kernel
def tX11_say : List Ent := [(0, .iload_n 1, 1, 1, 0, [], .null, []),
  (1, .iconst 1, 2, 0, 0, [], .int 1, []),
  (2, .bipush 60, 4, 0, 0, [], .int 60, []),
  (4, .invokestatic 69, 7, 131, 3, [], .int 0, [1084, 1085, 77]),
  (7, .ifCond .ne 6, 10, 13, 0, [], .null, []),
  (10, .bipush (-3), 12, 0, 0, [], .int (-3), []),
  (12, .ireturn, 13, 0, 0, [], .null, []),
  (13, .aload_n 0, 14, 0, 0, [], .null, []),
  (14, .invokevirtual 204, 17, 151, 0, [(0, 11)], .int 0, [1190, 1192, 51, 77]),
  (17, .istore_n 2, 18, 2, 0, [], .null, []),
  (18, .aload_n 0, 19, 0, 0, [], .null, []),
  (19, .aload_n 0, 20, 0, 0, [], .null, []),
  (20, .getfield 182, 23, 11, 25, [], .null, [1001]),
  (23, .iload_n 1, 24, 1, 0, [], .null, []),
  (24, .iadd, 25, 0, 0, [], .null, []),
  (25, .iload_n 2, 26, 2, 0, [], .null, []),
  (26, .if_icmp .ge 12, 29, 38, 0, [], .null, []),
  (29, .aload_n 0, 30, 0, 0, [], .null, []),
  (30, .getfield 182, 33, 11, 25, [], .null, [1001]),
  (33, .iload_n 1, 34, 1, 0, [], .null, []),
  (34, .iadd, 35, 0, 0, [], .null, []),
  (35, .goto 4, 38, 39, 0, [], .null, []),
  (38, .iload_n 2, 39, 2, 0, [], .null, []),
  (39, .putfield 182, 42, 11, 25, [], .null, [1001]),
  (42, .aload_n 0, 43, 0, 0, [], .null, []),
  (43, .getfield 182, 46, 11, 25, [], .null, [1001]),
  (46, .ireturn, 47, 0, 0, [], .null, [])]
theorem oX11_say : tX11_say.all (okE (sX11_say).1.cls (sX11_say).2.1) = true := by decide +kernel
def tX11_heardAt : List Ent := [(0, .aload_n 0, 1, 0, 0, [], .null, []),
  (1, .iload_n 1, 2, 1, 0, [], .null, []),
  (2, .invokevirtual 198, 5, 153, 1, [(0, 11)], .int 0, [1175, 1177, 49, 77]),
  (5, .ifCond .eq 11, 8, 16, 0, [], .null, []),
  (8, .aload_n 0, 9, 0, 0, [], .null, []),
  (9, .iload_n 1, 10, 1, 0, [], .null, []),
  (10, .invokevirtual 208, 13, 152, 1, [(0, 11)], .int 0, [1210, 1212, 53, 77]),
  (13, .goto 4, 16, 17, 0, [], .null, []),
  (16, .iconst 0, 17, 0, 0, [], .int 0, []),
  (17, .ireturn, 18, 0, 0, [], .null, [])]
theorem oX11_heardAt : tX11_heardAt.all (okE (sX11_heardAt).1.cls (sX11_heardAt).2.1) = true := by decide +kernel
def tX11_heard : List Ent := [(0, .iload_n 1, 1, 1, 0, [], .null, []),
  (1, .ifCond .ge 6, 4, 7, 0, [], .null, []),
  (4, .bipush (-3), 6, 0, 0, [], .int (-3), []),
  (6, .ireturn, 7, 0, 0, [], .null, []),
  (7, .iload_n 1, 8, 1, 0, [], .null, []),
  (8, .aload_n 0, 9, 0, 0, [], .null, []),
  (9, .getfield 182, 12, 11, 25, [], .null, [1001]),
  (12, .if_icmp .ge 11, 15, 23, 0, [], .null, []),
  (15, .aload_n 0, 16, 0, 0, [], .null, []),
  (16, .iload_n 1, 17, 1, 0, [], .null, []),
  (17, .invokevirtual 212, 20, 159, 1, [(0, 11)], .int 0, [1206, 1208, 52, 77]),
  (20, .goto 4, 23, 24, 0, [], .null, []),
  (23, .iconst (-1), 24, 0, 0, [], .int (-1), []),
  (24, .ireturn, 25, 0, 0, [], .null, [])]
theorem oX11_heard : tX11_heard.all (okE (sX11_heard).1.cls (sX11_heard).2.1) = true := by decide +kernel
def tX11_tally : List Ent := [(0, .iload_n 1, 1, 1, 0, [], .null, []),
  (1, .iconst 0, 2, 0, 0, [], .int 0, []),
  (2, .iconst 2, 3, 0, 0, [], .int 2, []),
  (3, .invokestatic 69, 6, 131, 3, [], .int 0, [1084, 1085, 77]),
  (6, .ifCond .ne 6, 9, 12, 0, [], .null, []),
  (9, .bipush (-3), 11, 0, 0, [], .int (-3), []),
  (11, .ireturn, 12, 0, 0, [], .null, []),
  (12, .iconst 0, 13, 0, 0, [], .int 0, []),
  (13, .istore_n 2, 14, 2, 0, [], .null, []),
  (14, .iconst 0, 15, 0, 0, [], .int 0, []),
  (15, .istore_n 3, 16, 3, 0, [], .null, []),
  (16, .iload_n 3, 17, 3, 0, [], .null, []),
  (17, .aload_n 0, 18, 0, 0, [], .null, []),
  (18, .getfield 182, 21, 11, 25, [], .null, [1001]),
  (21, .if_icmp .ge 25, 24, 46, 0, [], .null, []),
  (24, .iload_n 2, 25, 2, 0, [], .null, []),
  (25, .aload_n 0, 26, 0, 0, [], .null, []),
  (26, .iload_n 3, 27, 3, 0, [], .null, []),
  (27, .invokevirtual 198, 30, 153, 1, [(0, 11)], .int 0, [1175, 1177, 49, 77]),
  (30, .ifCond .eq 7, 33, 37, 0, [], .null, []),
  (33, .iconst 1, 34, 0, 0, [], .int 1, []),
  (34, .goto 4, 37, 38, 0, [], .null, []),
  (37, .iconst 0, 38, 0, 0, [], .int 0, []),
  (38, .iadd, 39, 0, 0, [], .null, []),
  (39, .istore_n 2, 40, 2, 0, [], .null, []),
  (40, .iinc 3 1, 43, 3, 0, [], .int 1, []),
  (43, .goto (-27), 46, 16, 0, [], .null, []),
  (46, .iload_n 1, 47, 1, 0, [], .null, []),
  (47, .ifCond .ne 12, 50, 59, 0, [], .null, []),
  (50, .aload_n 0, 51, 0, 0, [], .null, []),
  (51, .getfield 182, 54, 11, 25, [], .null, [1001]),
  (54, .iload_n 2, 55, 2, 0, [], .null, []),
  (55, .isub, 56, 0, 0, [], .null, []),
  (56, .goto 36, 59, 92, 0, [], .null, []),
  (59, .iload_n 1, 60, 1, 0, [], .null, []),
  (60, .iconst 1, 61, 0, 0, [], .int 1, []),
  (61, .if_icmp .ne 7, 64, 68, 0, [], .null, []),
  (64, .iload_n 2, 65, 2, 0, [], .null, []),
  (65, .goto 27, 68, 92, 0, [], .null, []),
  (68, .aload_n 0, 69, 0, 0, [], .null, []),
  (69, .getfield 182, 72, 11, 25, [], .null, [1001]),
  (72, .aload_n 0, 73, 0, 0, [], .null, []),
  (73, .invokevirtual 204, 76, 151, 0, [(0, 11)], .int 0, [1190, 1192, 51, 77]),
  (76, .if_icmp .ge 15, 79, 91, 0, [], .null, []),
  (79, .aload_n 0, 80, 0, 0, [], .null, []),
  (80, .getfield 182, 83, 11, 25, [], .null, [1001]),
  (83, .aload_n 0, 84, 0, 0, [], .null, []),
  (84, .getfield 7, 87, 11, 0, [], .null, [976]),
  (87, .irem, 88, 0, 0, [], .null, []),
  (88, .goto 4, 91, 92, 0, [], .null, []),
  (91, .iconst (-1), 92, 0, 0, [], .int (-1), []),
  (92, .ireturn, 93, 0, 0, [], .null, [])]
theorem oX11_tally : tX11_tally.all (okE (sX11_tally).1.cls (sX11_tally).2.1) = true := by decide +kernel
def tX11_sound : List Ent := [(0, .iload_n 1, 1, 1, 0, [], .null, []),
  (1, .iconst 0, 2, 0, 0, [], .int 0, []),
  (2, .bipush 26, 4, 0, 0, [], .int 26, []),
  (4, .invokestatic 69, 7, 131, 3, [], .int 0, [1084, 1085, 77]),
  (7, .ifCond .ne 6, 10, 13, 0, [], .null, []),
  (10, .bipush (-3), 12, 0, 0, [], .int (-3), []),
  (12, .ireturn, 13, 0, 0, [], .null, []),
  (13, .aload_n 0, 14, 0, 0, [], .null, []),
  (14, .getfield 185, 17, 11, 26, [], .null, [1002]),
  (17, .bipush 60, 19, 0, 0, [], .int 60, []),
  (19, .if_icmp .ne 6, 22, 25, 0, [], .null, []),
  (22, .bipush (-5), 24, 0, 0, [], .int (-5), []),
  (24, .ireturn, 25, 0, 0, [], .null, []),
  (25, .aload_n 0, 26, 0, 0, [], .null, []),
  (26, .getfield 44, 29, 11, 27, [], .null, [1003]),
  (29, .aload_n 0, 30, 0, 0, [], .null, []),
  (30, .getfield 185, 33, 11, 26, [], .null, [1002]),
  (33, .iload_n 1, 34, 1, 0, [], .null, []),
  (34, .iastore, 35, 0, 0, [], .null, []),
  (35, .aload_n 0, 36, 0, 0, [], .null, []),
  (36, .dup, 37, 0, 0, [], .null, []),
  (37, .getfield 185, 40, 11, 26, [], .null, [1002]),
  (40, .iconst 1, 41, 0, 0, [], .int 1, []),
  (41, .iadd, 42, 0, 0, [], .null, []),
  (42, .putfield 185, 45, 11, 26, [], .null, [1002]),
  (45, .aload_n 0, 46, 0, 0, [], .null, []),
  (46, .getfield 185, 49, 11, 26, [], .null, [1002]),
  (49, .ireturn, 50, 0, 0, [], .null, [])]
theorem oX11_sound : tX11_sound.all (okE (sX11_sound).1.cls (sX11_sound).2.1) = true := by decide +kernel
def tX11_listen : List Ent := [(0, .aload_n 0, 1, 0, 0, [], .null, []),
  (1, .aload_n 0, 2, 0, 0, [], .null, []),
  (2, .getfield 182, 5, 11, 25, [], .null, [1001]),
  (5, .putfield 185, 8, 11, 26, [], .null, [1002]),
  (8, .iconst 0, 9, 0, 0, [], .int 0, []),
  (9, .istore_n 1, 10, 1, 0, [], .null, []),
  (10, .iload_n 1, 11, 1, 0, [], .null, []),
  (11, .aload_n 0, 12, 0, 0, [], .null, []),
  (12, .getfield 182, 15, 11, 25, [], .null, [1001]),
  (15, .if_icmp .ge 20, 18, 35, 0, [], .null, []),
  (18, .aload_n 0, 19, 0, 0, [], .null, []),
  (19, .getfield 44, 22, 11, 27, [], .null, [1003]),
  (22, .iload_n 1, 23, 1, 0, [], .null, []),
  (23, .aload_n 0, 24, 0, 0, [], .null, []),
  (24, .iload_n 1, 25, 1, 0, [], .null, []),
  (25, .invokevirtual 212, 28, 159, 1, [(0, 11)], .int 0, [1206, 1208, 52, 77]),
  (28, .iastore, 29, 0, 0, [], .null, []),
  (29, .iinc 1 1, 32, 1, 0, [], .int 1, []),
  (32, .goto (-22), 35, 10, 0, [], .null, []),
  (35, .aload_n 0, 36, 0, 0, [], .null, []),
  (36, .getfield 185, 39, 11, 26, [], .null, [1002]),
  (39, .ireturn, 40, 0, 0, [], .null, [])]
theorem oX11_listen : tX11_listen.all (okE (sX11_listen).1.cls (sX11_listen).2.1) = true := by decide +kernel
def tX11_hush : List Ent := [(0, .aload_n 0, 1, 0, 0, [], .null, []),
  (1, .getfield 185, 4, 11, 26, [], .null, [1002]),
  (4, .istore_n 1, 5, 1, 0, [], .null, []),
  (5, .aload_n 0, 6, 0, 0, [], .null, []),
  (6, .iconst 0, 7, 0, 0, [], .int 0, []),
  (7, .putfield 185, 10, 11, 26, [], .null, [1002]),
  (10, .iload_n 1, 11, 1, 0, [], .null, []),
  (11, .ireturn, 12, 0, 0, [], .null, [])]
theorem oX11_hush : tX11_hush.all (okE (sX11_hush).1.cls (sX11_hush).2.1) = true := by decide +kernel
def tX11_doesFit : List Ent := [(0, .iload_n 2, 1, 2, 0, [], .null, []),
  (1, .aload_n 0, 2, 0, 0, [], .null, []),
  (2, .getfield 20, 5, 11, 6, [], .null, [982]),
  (5, .iload_n 1, 6, 1, 0, [], .null, []),
  (6, .iaload, 7, 0, 0, [], .null, []),
  (7, .iadd, 8, 0, 0, [], .null, []),
  (8, .aload_n 0, 9, 0, 0, [], .null, []),
  (9, .getfield 185, 12, 11, 26, [], .null, [1002]),
  (12, .if_icmp .gt 7, 15, 19, 0, [], .null, []),
  (15, .iconst 1, 16, 0, 0, [], .int 1, []),
  (16, .goto 4, 19, 20, 0, [], .null, []),
  (19, .iconst 0, 20, 0, 0, [], .int 0, []),
  (20, .istore_n 3, 21, 3, 0, [], .null, []),
  (21, .iconst 0, 22, 0, 0, [], .int 0, []),
  (22, .istore 4, 24, 4, 0, [], .null, []),
  (24, .iload 4, 26, 4, 0, [], .null, []),
  (26, .aload_n 0, 27, 0, 0, [], .null, []),
  (27, .getfield 20, 30, 11, 6, [], .null, [982]),
  (30, .iload_n 1, 31, 1, 0, [], .null, []),
  (31, .iaload, 32, 0, 0, [], .null, []),
  (32, .if_icmp .ge 55, 35, 87, 0, [], .null, []),
  (35, .iload_n 3, 36, 3, 0, [], .null, []),
  (36, .ifCond .eq 51, 39, 87, 0, [], .null, []),
  (39, .aload_n 0, 40, 0, 0, [], .null, []),
  (40, .getfield 44, 43, 11, 27, [], .null, [1003]),
  (43, .iload_n 2, 44, 2, 0, [], .null, []),
  (44, .iload 4, 46, 4, 0, [], .null, []),
  (46, .iadd, 47, 0, 0, [], .null, []),
  (47, .iaload, 48, 0, 0, [], .null, []),
  (48, .ifCond .eq 27, 51, 75, 0, [], .null, []),
  (51, .aload_n 0, 52, 0, 0, [], .null, []),
  (52, .getfield 44, 55, 11, 27, [], .null, [1003]),
  (55, .iload_n 2, 56, 2, 0, [], .null, []),
  (56, .iload 4, 58, 4, 0, [], .null, []),
  (58, .iadd, 59, 0, 0, [], .null, []),
  (59, .iaload, 60, 0, 0, [], .null, []),
  (60, .aload_n 0, 61, 0, 0, [], .null, []),
  (61, .getfield 23, 64, 11, 7, [], .null, [983]),
  (64, .bipush 10, 66, 0, 0, [], .int 10, []),
  (66, .iload_n 1, 67, 1, 0, [], .null, []),
  (67, .imul, 68, 0, 0, [], .null, []),
  (68, .iload 4, 70, 4, 0, [], .null, []),
  (70, .iadd, 71, 0, 0, [], .null, []),
  (71, .iaload, 72, 0, 0, [], .null, []),
  (72, .if_icmp .ne 7, 75, 79, 0, [], .null, []),
  (75, .iconst 1, 76, 0, 0, [], .int 1, []),
  (76, .goto 4, 79, 80, 0, [], .null, []),
  (79, .iconst 0, 80, 0, 0, [], .int 0, []),
  (80, .istore_n 3, 81, 3, 0, [], .null, []),
  (81, .iinc 4 1, 84, 4, 0, [], .int 1, []),
  (84, .goto (-60), 87, 24, 0, [], .null, []),
  (87, .iload_n 3, 88, 3, 0, [], .null, []),
  (88, .ireturn, 89, 0, 0, [], .null, [])]
theorem oX11_doesFit : tX11_doesFit.all (okE (sX11_doesFit).1.cls (sX11_doesFit).2.1) = true := by decide +kernel
def tX11_fits : List Ent := [(0, .aload_n 0, 1, 0, 0, [], .null, []),
  (1, .iload_n 1, 2, 1, 0, [], .null, []),
  (2, .invokevirtual 188, 5, 133, 1, [(0, 11)], .int 0, [1163, 1165, 47, 77]),
  (5, .ifCond .ne 6, 8, 11, 0, [], .null, []),
  (8, .bipush (-2), 10, 0, 0, [], .int (-2), []),
  (10, .ireturn, 11, 0, 0, [], .null, []),
  (11, .iload_n 2, 12, 2, 0, [], .null, []),
  (12, .iconst 0, 13, 0, 0, [], .int 0, []),
  (13, .aload_n 0, 14, 0, 0, [], .null, []),
  (14, .getfield 185, 17, 11, 26, [], .null, [1002]),
  (17, .invokestatic 69, 20, 131, 3, [], .int 0, [1084, 1085, 77]),
  (20, .ifCond .ne 6, 23, 26, 0, [], .null, []),
  (23, .bipush (-3), 25, 0, 0, [], .int (-3), []),
  (25, .ireturn, 26, 0, 0, [], .null, []),
  (26, .aload_n 0, 27, 0, 0, [], .null, []),
  (27, .iload_n 1, 28, 1, 0, [], .null, []),
  (28, .iload_n 2, 29, 2, 0, [], .null, []),
  (29, .invokevirtual 215, 32, 165, 2, [(0, 11)], .int 0, [1234, 1236, 54, 77]),
  (32, .ifCond .eq 7, 35, 39, 0, [], .null, []),
  (35, .iconst 1, 36, 0, 0, [], .int 1, []),
  (36, .goto 4, 39, 40, 0, [], .null, []),
  (39, .iconst 0, 40, 0, 0, [], .int 0, []),
  (40, .ireturn, 41, 0, 0, [], .null, [])]
theorem oX11_fits : tX11_fits.all (okE (sX11_fits).1.cls (sX11_fits).2.1) = true := by decide +kernel
def tX11_waysAt : List Ent := [(0, .iload_n 1, 1, 1, 0, [], .null, []),
  (1, .bipush 61, 3, 0, 0, [], .int 61, []),
  (3, .imul, 4, 0, 0, [], .null, []),
  (4, .iload_n 2, 5, 2, 0, [], .null, []),
  (5, .iadd, 6, 0, 0, [], .null, []),
  (6, .bipush 12, 8, 0, 0, [], .int 12, []),
  (8, .imul, 9, 0, 0, [], .null, []),
  (9, .iload_n 3, 10, 3, 0, [], .null, []),
  (10, .iadd, 11, 0, 0, [], .null, []),
  (11, .ireturn, 12, 0, 0, [], .null, [])]
theorem oX11_waysAt : tX11_waysAt.all (okE (sX11_waysAt).1.cls (sX11_waysAt).2.1) = true := by decide +kernel
def tX11_layWays : List Ent := [(0, .iconst 1, 1, 0, 0, [], .int 1, []),
  (1, .istore_n 1, 2, 1, 0, [], .null, []),
  (2, .iload_n 1, 3, 1, 0, [], .null, []),
  (3, .bipush 6, 5, 0, 0, [], .int 6, []),
  (5, .if_icmp .gt 160, 8, 165, 0, [], .null, []),
  (8, .iconst 0, 9, 0, 0, [], .int 0, []),
  (9, .istore_n 2, 10, 2, 0, [], .null, []),
  (10, .iload_n 2, 11, 2, 0, [], .null, []),
  (11, .aload_n 0, 12, 0, 0, [], .null, []),
  (12, .getfield 185, 15, 11, 26, [], .null, [1002]),
  (15, .if_icmp .ge 144, 18, 159, 0, [], .null, []),
  (18, .iconst 0, 19, 0, 0, [], .int 0, []),
  (19, .istore_n 3, 20, 3, 0, [], .null, []),
  (20, .iload_n 3, 21, 3, 0, [], .null, []),
  (21, .aload_n 0, 22, 0, 0, [], .null, []),
  (22, .getfield 66, 25, 11, 4, [], .null, [980]),
  (25, .if_icmp .ge 128, 28, 153, 0, [], .null, []),
  (28, .iload_n 2, 29, 2, 0, [], .null, []),
  (29, .aload_n 0, 30, 0, 0, [], .null, []),
  (30, .getfield 20, 33, 11, 6, [], .null, [982]),
  (33, .iload_n 3, 34, 3, 0, [], .null, []),
  (34, .iaload, 35, 0, 0, [], .null, []),
  (35, .iadd, 36, 0, 0, [], .null, []),
  (36, .istore 4, 38, 4, 0, [], .null, []),
  (38, .iconst 0, 39, 0, 0, [], .int 0, []),
  (39, .istore 5, 41, 5, 0, [], .null, []),
  (41, .aload_n 0, 42, 0, 0, [], .null, []),
  (42, .iload_n 3, 43, 3, 0, [], .null, []),
  (43, .iload_n 2, 44, 2, 0, [], .null, []),
  (44, .invokevirtual 215, 47, 165, 2, [(0, 11)], .int 0, [1234, 1236, 54, 77]),
  (47, .ifCond .eq 86, 50, 133, 0, [], .null, []),
  (50, .iload 4, 52, 4, 0, [], .null, []),
  (52, .aload_n 0, 53, 0, 0, [], .null, []),
  (53, .getfield 185, 56, 11, 26, [], .null, [1002]),
  (56, .if_icmp .ne 7, 59, 63, 0, [], .null, []),
  (59, .iconst 1, 60, 0, 0, [], .int 1, []),
  (60, .goto 4, 63, 64, 0, [], .null, []),
  (63, .iconst 0, 64, 0, 0, [], .int 0, []),
  (64, .istore 5, 66, 5, 0, [], .null, []),
  (66, .iconst 0, 67, 0, 0, [], .int 0, []),
  (67, .istore 6, 69, 6, 0, [], .null, []),
  (69, .iload 6, 71, 6, 0, [], .null, []),
  (71, .aload_n 0, 72, 0, 0, [], .null, []),
  (72, .getfield 66, 75, 11, 4, [], .null, [980]),
  (75, .if_icmp .ge 58, 78, 133, 0, [], .null, []),
  (78, .iload 4, 80, 4, 0, [], .null, []),
  (80, .aload_n 0, 81, 0, 0, [], .null, []),
  (81, .getfield 185, 84, 11, 26, [], .null, [1002]),
  (84, .if_icmp .ge 49, 87, 133, 0, [], .null, []),
  (87, .iload_n 1, 88, 1, 0, [], .null, []),
  (88, .iconst 1, 89, 0, 0, [], .int 1, []),
  (89, .if_icmp .le 44, 92, 133, 0, [], .null, []),
  (92, .iload 5, 94, 5, 0, [], .null, []),
  (94, .aload_n 0, 95, 0, 0, [], .null, []),
  (95, .iload_n 3, 96, 3, 0, [], .null, []),
  (96, .iload 6, 98, 6, 0, [], .null, []),
  (98, .invokevirtual 201, 101, 155, 2, [(0, 11)], .int 0, [1186, 1188, 50, 77]),
  (101, .ifCond .eq 22, 104, 123, 0, [], .null, []),
  (104, .aload_n 0, 105, 0, 0, [], .null, []),
  (105, .getfield 54, 108, 11, 30, [], .null, [1006]),
  (108, .aload_n 0, 109, 0, 0, [], .null, []),
  (109, .iload_n 1, 110, 1, 0, [], .null, []),
  (110, .iconst 1, 111, 0, 0, [], .int 1, []),
  (111, .isub, 112, 0, 0, [], .null, []),
  (112, .iload 4, 114, 4, 0, [], .null, []),
  (114, .iload 6, 116, 6, 0, [], .null, []),
  (116, .invokevirtual 218, 119, 167, 3, [(0, 11)], .int 0, [1246, 1248, 56, 77]),
  (119, .iaload, 120, 0, 0, [], .null, []),
  (120, .goto 4, 123, 124, 0, [], .null, []),
  (123, .iconst 0, 124, 0, 0, [], .int 0, []),
  (124, .iadd, 125, 0, 0, [], .null, []),
  (125, .istore 5, 127, 5, 0, [], .null, []),
  (127, .iinc 6 1, 130, 6, 0, [], .int 1, []),
  (130, .goto (-61), 133, 69, 0, [], .null, []),
  (133, .aload_n 0, 134, 0, 0, [], .null, []),
  (134, .getfield 54, 137, 11, 30, [], .null, [1006]),
  (137, .aload_n 0, 138, 0, 0, [], .null, []),
  (138, .iload_n 1, 139, 1, 0, [], .null, []),
  (139, .iload_n 2, 140, 2, 0, [], .null, []),
  (140, .iload_n 3, 141, 3, 0, [], .null, []),
  (141, .invokevirtual 218, 144, 167, 3, [(0, 11)], .int 0, [1246, 1248, 56, 77]),
  (144, .iload 5, 146, 5, 0, [], .null, []),
  (146, .iastore, 147, 0, 0, [], .null, []),
  (147, .iinc 3 1, 150, 3, 0, [], .int 1, []),
  (150, .goto (-130), 153, 20, 0, [], .null, []),
  (153, .iinc 2 1, 156, 2, 0, [], .int 1, []),
  (156, .goto (-146), 159, 10, 0, [], .null, []),
  (159, .iinc 1 1, 162, 1, 0, [], .int 1, []),
  (162, .goto (-160), 165, 2, 0, [], .null, []),
  (165, .return_, 166, 0, 0, [], .null, [])]
theorem oX11_layWays : tX11_layWays.all (okE (sX11_layWays).1.cls (sX11_layWays).2.1) = true := by decide +kernel
def tX11_readingMany : List Ent := [(0, .iconst 0, 1, 0, 0, [], .int 0, []),
  (1, .istore_n 1, 2, 1, 0, [], .null, []),
  (2, .iconst 0, 3, 0, 0, [], .int 0, []),
  (3, .istore_n 2, 4, 2, 0, [], .null, []),
  (4, .iload_n 2, 5, 2, 0, [], .null, []),
  (5, .aload_n 0, 6, 0, 0, [], .null, []),
  (6, .getfield 66, 9, 11, 4, [], .null, [980]),
  (9, .if_icmp .ge 32, 12, 41, 0, [], .null, []),
  (12, .aload_n 0, 13, 0, 0, [], .null, []),
  (13, .getfield 185, 16, 11, 26, [], .null, [1002]),
  (16, .ifCond .le 25, 19, 41, 0, [], .null, []),
  (19, .iload_n 1, 20, 1, 0, [], .null, []),
  (20, .aload_n 0, 21, 0, 0, [], .null, []),
  (21, .getfield 54, 24, 11, 30, [], .null, [1006]),
  (24, .aload_n 0, 25, 0, 0, [], .null, []),
  (25, .bipush 6, 27, 0, 0, [], .int 6, []),
  (27, .iconst 0, 28, 0, 0, [], .int 0, []),
  (28, .iload_n 2, 29, 2, 0, [], .null, []),
  (29, .invokevirtual 218, 32, 167, 3, [(0, 11)], .int 0, [1246, 1248, 56, 77]),
  (32, .iaload, 33, 0, 0, [], .null, []),
  (33, .iadd, 34, 0, 0, [], .null, []),
  (34, .istore_n 1, 35, 1, 0, [], .null, []),
  (35, .iinc 2 1, 38, 2, 0, [], .int 1, []),
  (38, .goto (-34), 41, 4, 0, [], .null, []),
  (41, .iload_n 1, 42, 1, 0, [], .null, []),
  (42, .ireturn, 43, 0, 0, [], .null, [])]
theorem oX11_readingMany : tX11_readingMany.all (okE (sX11_readingMany).1.cls (sX11_readingMany).2.1) = true := by decide +kernel
def tX11_comeIn : List Ent := [(0, .iconst 0, 1, 0, 0, [], .int 0, []),
  (1, .istore_n 1, 2, 1, 0, [], .null, []),
  (2, .iconst 0, 3, 0, 0, [], .int 0, []),
  (3, .istore_n 2, 4, 2, 0, [], .null, []),
  (4, .iload_n 2, 5, 2, 0, [], .null, []),
  (5, .sipush 5124, 8, 0, 0, [], .int 5124, []),
  (8, .if_icmp .ge 16, 11, 24, 0, [], .null, []),
  (11, .aload_n 0, 12, 0, 0, [], .null, []),
  (12, .getfield 57, 15, 11, 31, [], .null, [1007]),
  (15, .iload_n 2, 16, 2, 0, [], .null, []),
  (16, .iconst 0, 17, 0, 0, [], .int 0, []),
  (17, .bastore, 18, 0, 0, [], .null, []),
  (18, .iinc 2 1, 21, 2, 0, [], .int 1, []),
  (21, .goto (-17), 24, 4, 0, [], .null, []),
  (24, .iconst 0, 25, 0, 0, [], .int 0, []),
  (25, .istore_n 2, 26, 2, 0, [], .null, []),
  (26, .iload_n 2, 27, 2, 0, [], .null, []),
  (27, .aload_n 0, 28, 0, 0, [], .null, []),
  (28, .getfield 66, 31, 11, 4, [], .null, [980]),
  (31, .if_icmp .ge 23, 34, 54, 0, [], .null, []),
  (34, .aload_n 0, 35, 0, 0, [], .null, []),
  (35, .getfield 57, 38, 11, 31, [], .null, [1007]),
  (38, .aload_n 0, 39, 0, 0, [], .null, []),
  (39, .bipush 6, 41, 0, 0, [], .int 6, []),
  (41, .iconst 0, 42, 0, 0, [], .int 0, []),
  (42, .iload_n 2, 43, 2, 0, [], .null, []),
  (43, .invokevirtual 218, 46, 167, 3, [(0, 11)], .int 0, [1246, 1248, 56, 77]),
  (46, .iconst 1, 47, 0, 0, [], .int 1, []),
  (47, .bastore, 48, 0, 0, [], .null, []),
  (48, .iinc 2 1, 51, 2, 0, [], .int 1, []),
  (51, .goto (-25), 54, 26, 0, [], .null, []),
  (54, .bipush 6, 56, 0, 0, [], .int 6, []),
  (56, .istore_n 2, 57, 2, 0, [], .null, []),
  (57, .iload_n 2, 58, 2, 0, [], .null, []),
  (58, .ifCond .le 153, 61, 211, 0, [], .null, []),
  (61, .iconst 0, 62, 0, 0, [], .int 0, []),
  (62, .istore_n 3, 63, 3, 0, [], .null, []),
  (63, .iload_n 3, 64, 3, 0, [], .null, []),
  (64, .aload_n 0, 65, 0, 0, [], .null, []),
  (65, .getfield 185, 68, 11, 26, [], .null, [1002]),
  (68, .if_icmp .ge 137, 71, 205, 0, [], .null, []),
  (71, .iconst 0, 72, 0, 0, [], .int 0, []),
  (72, .istore 4, 74, 4, 0, [], .null, []),
  (74, .iload 4, 76, 4, 0, [], .null, []),
  (76, .aload_n 0, 77, 0, 0, [], .null, []),
  (77, .getfield 66, 80, 11, 4, [], .null, [980]),
  (80, .if_icmp .ge 119, 83, 199, 0, [], .null, []),
  (83, .aload_n 0, 84, 0, 0, [], .null, []),
  (84, .getfield 57, 87, 11, 31, [], .null, [1007]),
  (87, .aload_n 0, 88, 0, 0, [], .null, []),
  (88, .iload_n 2, 89, 2, 0, [], .null, []),
  (89, .iload_n 3, 90, 3, 0, [], .null, []),
  (90, .iload 4, 92, 4, 0, [], .null, []),
  (92, .invokevirtual 218, 95, 167, 3, [(0, 11)], .int 0, [1246, 1248, 56, 77]),
  (95, .baload, 96, 0, 0, [], .null, []),
  (96, .ifCond .eq 97, 99, 193, 0, [], .null, []),
  (99, .aload_n 0, 100, 0, 0, [], .null, []),
  (100, .getfield 54, 103, 11, 30, [], .null, [1006]),
  (103, .aload_n 0, 104, 0, 0, [], .null, []),
  (104, .iload_n 2, 105, 2, 0, [], .null, []),
  (105, .iload_n 3, 106, 3, 0, [], .null, []),
  (106, .iload 4, 108, 4, 0, [], .null, []),
  (108, .invokevirtual 218, 111, 167, 3, [(0, 11)], .int 0, [1246, 1248, 56, 77]),
  (111, .iaload, 112, 0, 0, [], .null, []),
  (112, .ifCond .le 81, 115, 193, 0, [], .null, []),
  (115, .iload_n 1, 116, 1, 0, [], .null, []),
  (116, .iconst 1, 117, 0, 0, [], .int 1, []),
  (117, .iload 4, 119, 4, 0, [], .null, []),
  (119, .ishl, 120, 0, 0, [], .null, []),
  (120, .ior, 121, 0, 0, [], .null, []),
  (121, .istore_n 1, 122, 1, 0, [], .null, []),
  (122, .iload_n 3, 123, 3, 0, [], .null, []),
  (123, .aload_n 0, 124, 0, 0, [], .null, []),
  (124, .getfield 20, 127, 11, 6, [], .null, [982]),
  (127, .iload 4, 129, 4, 0, [], .null, []),
  (129, .iaload, 130, 0, 0, [], .null, []),
  (130, .iadd, 131, 0, 0, [], .null, []),
  (131, .istore 5, 133, 5, 0, [], .null, []),
  (133, .iconst 0, 134, 0, 0, [], .int 0, []),
  (134, .istore 6, 136, 6, 0, [], .null, []),
  (136, .iload 6, 138, 6, 0, [], .null, []),
  (138, .aload_n 0, 139, 0, 0, [], .null, []),
  (139, .getfield 66, 142, 11, 4, [], .null, [980]),
  (142, .if_icmp .ge 51, 145, 193, 0, [], .null, []),
  (145, .iload_n 2, 146, 2, 0, [], .null, []),
  (146, .iconst 1, 147, 0, 0, [], .int 1, []),
  (147, .if_icmp .le 46, 150, 193, 0, [], .null, []),
  (150, .iload 5, 152, 5, 0, [], .null, []),
  (152, .aload_n 0, 153, 0, 0, [], .null, []),
  (153, .getfield 185, 156, 11, 26, [], .null, [1002]),
  (156, .if_icmp .ge 37, 159, 193, 0, [], .null, []),
  (159, .aload_n 0, 160, 0, 0, [], .null, []),
  (160, .iload 4, 162, 4, 0, [], .null, []),
  (162, .iload 6, 164, 6, 0, [], .null, []),
  (164, .invokevirtual 201, 167, 155, 2, [(0, 11)], .int 0, [1186, 1188, 50, 77]),
  (167, .ifCond .eq 20, 170, 187, 0, [], .null, []),
  (170, .aload_n 0, 171, 0, 0, [], .null, []),
  (171, .getfield 57, 174, 11, 31, [], .null, [1007]),
  (174, .aload_n 0, 175, 0, 0, [], .null, []),
  (175, .iload_n 2, 176, 2, 0, [], .null, []),
  (176, .iconst 1, 177, 0, 0, [], .int 1, []),
  (177, .isub, 178, 0, 0, [], .null, []),
  (178, .iload 5, 180, 5, 0, [], .null, []),
  (180, .iload 6, 182, 6, 0, [], .null, []),
  (182, .invokevirtual 218, 185, 167, 3, [(0, 11)], .int 0, [1246, 1248, 56, 77]),
  (185, .iconst 1, 186, 0, 0, [], .int 1, []),
  (186, .bastore, 187, 0, 0, [], .null, []),
  (187, .iinc 6 1, 190, 6, 0, [], .int 1, []),
  (190, .goto (-54), 193, 136, 0, [], .null, []),
  (193, .iinc 4 1, 196, 4, 0, [], .int 1, []),
  (196, .goto (-122), 199, 74, 0, [], .null, []),
  (199, .iinc 3 1, 202, 3, 0, [], .int 1, []),
  (202, .goto (-139), 205, 63, 0, [], .null, []),
  (205, .iinc 2 (-1), 208, 2, 0, [], .int (-1), []),
  (208, .goto (-151), 211, 57, 0, [], .null, []),
  (211, .iload_n 1, 212, 1, 0, [], .null, []),
  (212, .ireturn, 213, 0, 0, [], .null, [])]
theorem oX11_comeIn : tX11_comeIn.all (okE (sX11_comeIn).1.cls (sX11_comeIn).2.1) = true := by decide +kernel
def tX11_firstReading : List Ent := [(0, .iconst 0, 1, 0, 0, [], .int 0, []),
  (1, .istore_n 2, 2, 2, 0, [], .null, []),
  (2, .iconst (-1), 3, 0, 0, [], .int (-1), []),
  (3, .istore_n 3, 4, 3, 0, [], .null, []),
  (4, .iconst 0, 5, 0, 0, [], .int 0, []),
  (5, .istore 4, 7, 4, 0, [], .null, []),
  (7, .iload 4, 9, 4, 0, [], .null, []),
  (9, .iload_n 1, 10, 1, 0, [], .null, []),
  (10, .if_icmp .gt 116, 13, 126, 0, [], .null, []),
  (13, .iconst (-1), 14, 0, 0, [], .int (-1), []),
  (14, .istore 5, 16, 5, 0, [], .null, []),
  (16, .aload_n 0, 17, 0, 0, [], .null, []),
  (17, .getfield 66, 20, 11, 4, [], .null, [980]),
  (20, .iconst 1, 21, 0, 0, [], .int 1, []),
  (21, .isub, 22, 0, 0, [], .null, []),
  (22, .istore 6, 24, 6, 0, [], .null, []),
  (24, .iload 6, 26, 6, 0, [], .null, []),
  (26, .ifCond .lt 73, 29, 99, 0, [], .null, []),
  (29, .iload_n 2, 30, 2, 0, [], .null, []),
  (30, .aload_n 0, 31, 0, 0, [], .null, []),
  (31, .getfield 185, 34, 11, 26, [], .null, [1002]),
  (34, .if_icmp .ge 65, 37, 99, 0, [], .null, []),
  (37, .aload_n 0, 38, 0, 0, [], .null, []),
  (38, .getfield 54, 41, 11, 30, [], .null, [1006]),
  (41, .aload_n 0, 42, 0, 0, [], .null, []),
  (42, .bipush 6, 44, 0, 0, [], .int 6, []),
  (44, .iload 4, 46, 4, 0, [], .null, []),
  (46, .isub, 47, 0, 0, [], .null, []),
  (47, .iload_n 2, 48, 2, 0, [], .null, []),
  (48, .iload 6, 50, 6, 0, [], .null, []),
  (50, .invokevirtual 218, 53, 167, 3, [(0, 11)], .int 0, [1246, 1248, 56, 77]),
  (53, .iaload, 54, 0, 0, [], .null, []),
  (54, .ifCond .le 22, 57, 76, 0, [], .null, []),
  (57, .iload_n 3, 58, 3, 0, [], .null, []),
  (58, .iconst (-1), 59, 0, 0, [], .int (-1), []),
  (59, .if_icmp .eq 13, 62, 72, 0, [], .null, []),
  (62, .aload_n 0, 63, 0, 0, [], .null, []),
  (63, .iload_n 3, 64, 3, 0, [], .null, []),
  (64, .iload 6, 66, 6, 0, [], .null, []),
  (66, .invokevirtual 201, 69, 155, 2, [(0, 11)], .int 0, [1186, 1188, 50, 77]),
  (69, .ifCond .eq 7, 72, 76, 0, [], .null, []),
  (72, .iconst 1, 73, 0, 0, [], .int 1, []),
  (73, .goto 4, 76, 77, 0, [], .null, []),
  (76, .iconst 0, 77, 0, 0, [], .int 0, []),
  (77, .istore 7, 79, 7, 0, [], .null, []),
  (79, .iload 7, 81, 7, 0, [], .null, []),
  (81, .ifCond .eq 8, 84, 89, 0, [], .null, []),
  (84, .iload 6, 86, 6, 0, [], .null, []),
  (86, .goto 5, 89, 91, 0, [], .null, []),
  (89, .iload 5, 91, 5, 0, [], .null, []),
  (91, .istore 5, 93, 5, 0, [], .null, []),
  (93, .iinc 6 (-1), 96, 6, 0, [], .int (-1), []),
  (96, .goto (-72), 99, 24, 0, [], .null, []),
  (99, .iload 5, 101, 5, 0, [], .null, []),
  (101, .iconst (-1), 102, 0, 0, [], .int (-1), []),
  (102, .if_icmp .ne 5, 105, 107, 0, [], .null, []),
  (105, .iconst (-1), 106, 0, 0, [], .int (-1), []),
  (106, .ireturn, 107, 0, 0, [], .null, []),
  (107, .iload 5, 109, 5, 0, [], .null, []),
  (109, .istore_n 3, 110, 3, 0, [], .null, []),
  (110, .iload_n 2, 111, 2, 0, [], .null, []),
  (111, .aload_n 0, 112, 0, 0, [], .null, []),
  (112, .getfield 20, 115, 11, 6, [], .null, [982]),
  (115, .iload 5, 117, 5, 0, [], .null, []),
  (117, .iaload, 118, 0, 0, [], .null, []),
  (118, .iadd, 119, 0, 0, [], .null, []),
  (119, .istore_n 2, 120, 2, 0, [], .null, []),
  (120, .iinc 4 1, 123, 4, 0, [], .int 1, []),
  (123, .goto (-116), 126, 7, 0, [], .null, []),
  (126, .iload_n 3, 127, 3, 0, [], .null, []),
  (127, .ireturn, 128, 0, 0, [], .null, [])]
theorem oX11_firstReading : tX11_firstReading.all (okE (sX11_firstReading).1.cls (sX11_firstReading).2.1) = true := by decide +kernel
def tX11_readings : List Ent := [(0, .iload_n 1, 1, 1, 0, [], .null, []),
  (1, .iconst 0, 2, 0, 0, [], .int 0, []),
  (2, .iconst 1, 3, 0, 0, [], .int 1, []),
  (3, .invokestatic 69, 6, 131, 3, [], .int 0, [1084, 1085, 77]),
  (6, .ifCond .ne 17, 9, 23, 0, [], .null, []),
  (9, .iload_n 1, 10, 1, 0, [], .null, []),
  (10, .bipush 10, 12, 0, 0, [], .int 10, []),
  (12, .bipush 15, 14, 0, 0, [], .int 15, []),
  (14, .invokestatic 69, 17, 131, 3, [], .int 0, [1084, 1085, 77]),
  (17, .ifCond .ne 6, 20, 23, 0, [], .null, []),
  (20, .bipush (-3), 22, 0, 0, [], .int (-3), []),
  (22, .ireturn, 23, 0, 0, [], .null, []),
  (23, .aload_n 0, 24, 0, 0, [], .null, []),
  (24, .invokevirtual 222, 27, 168, 0, [(0, 11)], .null, [1242, 1244, 55, 77]),
  (27, .iload_n 1, 28, 1, 0, [], .null, []),
  (28, .ifCond .ne 8, 31, 36, 0, [], .null, []),
  (31, .aload_n 0, 32, 0, 0, [], .null, []),
  (32, .invokevirtual 225, 35, 169, 0, [(0, 11)], .int 0, [1250, 1252, 57, 77]),
  (35, .ireturn, 36, 0, 0, [], .null, []),
  (36, .iload_n 1, 37, 1, 0, [], .null, []),
  (37, .iconst 1, 38, 0, 0, [], .int 1, []),
  (38, .if_icmp .ne 21, 41, 59, 0, [], .null, []),
  (41, .aload_n 0, 42, 0, 0, [], .null, []),
  (42, .getfield 185, 45, 11, 26, [], .null, [1002]),
  (45, .ifCond .ne 7, 48, 52, 0, [], .null, []),
  (48, .iconst 0, 49, 0, 0, [], .int 0, []),
  (49, .goto 18, 52, 67, 0, [], .null, []),
  (52, .aload_n 0, 53, 0, 0, [], .null, []),
  (53, .invokevirtual 228, 56, 170, 0, [(0, 11)], .int 0, [1254, 1256, 58, 77]),
  (56, .goto 11, 59, 67, 0, [], .null, []),
  (59, .aload_n 0, 60, 0, 0, [], .null, []),
  (60, .iload_n 1, 61, 1, 0, [], .null, []),
  (61, .bipush 10, 63, 0, 0, [], .int 10, []),
  (63, .isub, 64, 0, 0, [], .null, []),
  (64, .invokevirtual 231, 67, 171, 1, [(0, 11)], .int 0, [1258, 1260, 59, 77]),
  (67, .ireturn, 68, 0, 0, [], .null, [])]
theorem oX11_readings : tX11_readings.all (okE (sX11_readings).1.cls (sX11_readings).2.1) = true := by decide +kernel
def tX11_came : List Ent := [(0, .iload_n 1, 1, 1, 0, [], .null, []),
  (1, .iconst 0, 2, 0, 0, [], .int 0, []),
  (2, .iconst 1, 3, 0, 0, [], .int 1, []),
  (3, .invokestatic 69, 6, 131, 3, [], .int 0, [1084, 1085, 77]),
  (6, .ifCond .ne 6, 9, 12, 0, [], .null, []),
  (9, .bipush (-3), 11, 0, 0, [], .int (-3), []),
  (11, .ireturn, 12, 0, 0, [], .null, []),
  (12, .aload_n 0, 13, 0, 0, [], .null, []),
  (13, .getfield 185, 16, 11, 26, [], .null, [1002]),
  (16, .aload_n 0, 17, 0, 0, [], .null, []),
  (17, .invokevirtual 204, 20, 151, 0, [(0, 11)], .int 0, [1190, 1192, 51, 77]),
  (20, .if_icmp .eq 6, 23, 26, 0, [], .null, []),
  (23, .bipush (-4), 25, 0, 0, [], .int (-4), []),
  (25, .ireturn, 26, 0, 0, [], .null, []),
  (26, .iconst 0, 27, 0, 0, [], .int 0, []),
  (27, .istore_n 2, 28, 2, 0, [], .null, []),
  (28, .iconst (-1), 29, 0, 0, [], .int (-1), []),
  (29, .istore_n 3, 30, 3, 0, [], .null, []),
  (30, .iconst 0, 31, 0, 0, [], .int 0, []),
  (31, .istore 4, 33, 4, 0, [], .null, []),
  (33, .iload 4, 35, 4, 0, [], .null, []),
  (35, .iconst 1, 36, 0, 0, [], .int 1, []),
  (36, .iconst 2, 37, 0, 0, [], .int 2, []),
  (37, .aload_n 0, 38, 0, 0, [], .null, []),
  (38, .getfield 7, 41, 11, 0, [], .null, [976]),
  (41, .imul, 42, 0, 0, [], .null, []),
  (42, .ishl, 43, 0, 0, [], .null, []),
  (43, .if_icmp .ge 130, 46, 173, 0, [], .null, []),
  (46, .iconst 1, 47, 0, 0, [], .int 1, []),
  (47, .istore 5, 49, 5, 0, [], .null, []),
  (49, .iconst 0, 50, 0, 0, [], .int 0, []),
  (50, .istore 6, 52, 6, 0, [], .null, []),
  (52, .iload 6, 54, 6, 0, [], .null, []),
  (54, .aload_n 0, 55, 0, 0, [], .null, []),
  (55, .getfield 185, 58, 11, 26, [], .null, [1002]),
  (58, .if_icmp .ge 80, 61, 138, 0, [], .null, []),
  (61, .iload 5, 63, 5, 0, [], .null, []),
  (63, .ifCond .eq 75, 66, 138, 0, [], .null, []),
  (66, .iload 6, 68, 6, 0, [], .null, []),
  (68, .aload_n 0, 69, 0, 0, [], .null, []),
  (69, .getfield 7, 72, 11, 0, [], .null, [976]),
  (72, .irem, 73, 0, 0, [], .null, []),
  (73, .istore 7, 75, 7, 0, [], .null, []),
  (75, .iload 4, 77, 4, 0, [], .null, []),
  (77, .iconst 2, 78, 0, 0, [], .int 2, []),
  (78, .aload_n 0, 79, 0, 0, [], .null, []),
  (79, .getfield 7, 82, 11, 0, [], .null, [976]),
  (82, .iconst 1, 83, 0, 0, [], .int 1, []),
  (83, .isub, 84, 0, 0, [], .null, []),
  (84, .iload 7, 86, 7, 0, [], .null, []),
  (86, .isub, 87, 0, 0, [], .null, []),
  (87, .imul, 88, 0, 0, [], .null, []),
  (88, .ishr, 89, 0, 0, [], .null, []),
  (89, .iconst 3, 90, 0, 0, [], .int 3, []),
  (90, .iand, 91, 0, 0, [], .null, []),
  (91, .istore 8, 93, 8, 0, [], .null, []),
  (93, .aload_n 0, 94, 0, 0, [], .null, []),
  (94, .getfield 44, 97, 11, 27, [], .null, [1003]),
  (97, .iload 6, 99, 6, 0, [], .null, []),
  (99, .iaload, 100, 0, 0, [], .null, []),
  (100, .iload 6, 102, 6, 0, [], .null, []),
  (102, .aload_n 0, 103, 0, 0, [], .null, []),
  (103, .getfield 7, 106, 11, 0, [], .null, [976]),
  (106, .idiv, 107, 0, 0, [], .null, []),
  (107, .iload 8, 109, 8, 0, [], .null, []),
  (109, .if_icmp .ge 7, 112, 116, 0, [], .null, []),
  (112, .iconst 0, 113, 0, 0, [], .int 0, []),
  (113, .goto 9, 116, 122, 0, [], .null, []),
  (116, .aload_n 0, 117, 0, 0, [], .null, []),
  (117, .iload 6, 119, 6, 0, [], .null, []),
  (119, .invokevirtual 208, 122, 152, 1, [(0, 11)], .int 0, [1210, 1212, 53, 77]),
  (122, .if_icmp .ne 7, 125, 129, 0, [], .null, []),
  (125, .iconst 1, 126, 0, 0, [], .int 1, []),
  (126, .goto 4, 129, 130, 0, [], .null, []),
  (129, .iconst 0, 130, 0, 0, [], .int 0, []),
  (130, .istore 5, 132, 5, 0, [], .null, []),
  (132, .iinc 6 1, 135, 6, 0, [], .int 1, []),
  (135, .goto (-83), 138, 52, 0, [], .null, []),
  (138, .iload 5, 140, 5, 0, [], .null, []),
  (140, .ifCond .eq 12, 143, 152, 0, [], .null, []),
  (143, .iload_n 2, 144, 2, 0, [], .null, []),
  (144, .ifCond .ne 8, 147, 152, 0, [], .null, []),
  (147, .iload 4, 149, 4, 0, [], .null, []),
  (149, .goto 4, 152, 153, 0, [], .null, []),
  (152, .iload_n 3, 153, 3, 0, [], .null, []),
  (153, .istore_n 3, 154, 3, 0, [], .null, []),
  (154, .iload_n 2, 155, 2, 0, [], .null, []),
  (155, .iload 5, 157, 5, 0, [], .null, []),
  (157, .ifCond .eq 7, 160, 164, 0, [], .null, []),
  (160, .iconst 1, 161, 0, 0, [], .int 1, []),
  (161, .goto 4, 164, 165, 0, [], .null, []),
  (164, .iconst 0, 165, 0, 0, [], .int 0, []),
  (165, .iadd, 166, 0, 0, [], .null, []),
  (166, .istore_n 2, 167, 2, 0, [], .null, []),
  (167, .iinc 4 1, 170, 4, 0, [], .int 1, []),
  (170, .goto (-137), 173, 33, 0, [], .null, []),
  (173, .iload_n 1, 174, 1, 0, [], .null, []),
  (174, .ifCond .ne 7, 177, 181, 0, [], .null, []),
  (177, .iload_n 2, 178, 2, 0, [], .null, []),
  (178, .goto 4, 181, 182, 0, [], .null, []),
  (181, .iload_n 3, 182, 3, 0, [], .null, []),
  (182, .ireturn, 183, 0, 0, [], .null, [])]
theorem oX11_came : tX11_came.all (okE (sX11_came).1.cls (sX11_came).2.1) = true := by decide +kernel
def tX11_wordBy : List Ent := [(0, .iconst 0, 1, 0, 0, [], .int 0, []),
  (1, .istore_n 3, 2, 3, 0, [], .null, []),
  (2, .iload_n 3, 3, 3, 0, [], .null, []),
  (3, .aload_n 0, 4, 0, 0, [], .null, []),
  (4, .getfield 66, 7, 11, 4, [], .null, [980]),
  (7, .if_icmp .ge 120, 10, 127, 0, [], .null, []),
  (10, .iconst 0, 11, 0, 0, [], .int 0, []),
  (11, .istore 4, 13, 4, 0, [], .null, []),
  (13, .iconst 1, 14, 0, 0, [], .int 1, []),
  (14, .istore 5, 16, 5, 0, [], .null, []),
  (16, .iconst 0, 17, 0, 0, [], .int 0, []),
  (17, .istore 6, 19, 6, 0, [], .null, []),
  (19, .iload 6, 21, 6, 0, [], .null, []),
  (21, .aload_n 0, 22, 0, 0, [], .null, []),
  (22, .getfield 20, 25, 11, 6, [], .null, [982]),
  (25, .iload_n 1, 26, 1, 0, [], .null, []),
  (26, .iaload, 27, 0, 0, [], .null, []),
  (27, .if_icmp .ge 76, 30, 103, 0, [], .null, []),
  (30, .iload_n 2, 31, 2, 0, [], .null, []),
  (31, .iload 6, 33, 6, 0, [], .null, []),
  (33, .aload_n 0, 34, 0, 0, [], .null, []),
  (34, .getfield 7, 37, 11, 0, [], .null, [976]),
  (37, .irem, 38, 0, 0, [], .null, []),
  (38, .invokestatic 191, 41, 132, 2, [], .int 0, [1179, 1180, 77]),
  (41, .ifCond .eq 56, 44, 97, 0, [], .null, []),
  (44, .iload 5, 46, 5, 0, [], .null, []),
  (46, .ifCond .eq 45, 49, 91, 0, [], .null, []),
  (49, .iload 4, 51, 4, 0, [], .null, []),
  (51, .aload_n 0, 52, 0, 0, [], .null, []),
  (52, .getfield 20, 55, 11, 6, [], .null, [982]),
  (55, .iload_n 3, 56, 3, 0, [], .null, []),
  (56, .iaload, 57, 0, 0, [], .null, []),
  (57, .if_icmp .ge 34, 60, 91, 0, [], .null, []),
  (60, .aload_n 0, 61, 0, 0, [], .null, []),
  (61, .getfield 23, 64, 11, 7, [], .null, [983]),
  (64, .bipush 10, 66, 0, 0, [], .int 10, []),
  (66, .iload_n 3, 67, 3, 0, [], .null, []),
  (67, .imul, 68, 0, 0, [], .null, []),
  (68, .iload 4, 70, 4, 0, [], .null, []),
  (70, .iadd, 71, 0, 0, [], .null, []),
  (71, .iaload, 72, 0, 0, [], .null, []),
  (72, .aload_n 0, 73, 0, 0, [], .null, []),
  (73, .getfield 23, 76, 11, 7, [], .null, [983]),
  (76, .bipush 10, 78, 0, 0, [], .int 10, []),
  (78, .iload_n 1, 79, 1, 0, [], .null, []),
  (79, .imul, 80, 0, 0, [], .null, []),
  (80, .iload 6, 82, 6, 0, [], .null, []),
  (82, .iadd, 83, 0, 0, [], .null, []),
  (83, .iaload, 84, 0, 0, [], .null, []),
  (84, .if_icmp .ne 7, 87, 91, 0, [], .null, []),
  (87, .iconst 1, 88, 0, 0, [], .int 1, []),
  (88, .goto 4, 91, 92, 0, [], .null, []),
  (91, .iconst 0, 92, 0, 0, [], .int 0, []),
  (92, .istore 5, 94, 5, 0, [], .null, []),
  (94, .iinc 4 1, 97, 4, 0, [], .int 1, []),
  (97, .iinc 6 1, 100, 6, 0, [], .int 1, []),
  (100, .goto (-81), 103, 19, 0, [], .null, []),
  (103, .iload 5, 105, 5, 0, [], .null, []),
  (105, .ifCond .eq 16, 108, 121, 0, [], .null, []),
  (108, .iload 4, 110, 4, 0, [], .null, []),
  (110, .aload_n 0, 111, 0, 0, [], .null, []),
  (111, .getfield 20, 114, 11, 6, [], .null, [982]),
  (114, .iload_n 3, 115, 3, 0, [], .null, []),
  (115, .iaload, 116, 0, 0, [], .null, []),
  (116, .if_icmp .ne 5, 119, 121, 0, [], .null, []),
  (119, .iload_n 3, 120, 3, 0, [], .null, []),
  (120, .ireturn, 121, 0, 0, [], .null, []),
  (121, .iinc 3 1, 124, 3, 0, [], .int 1, []),
  (124, .goto (-122), 127, 2, 0, [], .null, []),
  (127, .iconst (-1), 128, 0, 0, [], .int (-1), []),
  (128, .ireturn, 129, 0, 0, [], .null, [])]
theorem oX11_wordBy : tX11_wordBy.all (okE (sX11_wordBy).1.cls (sX11_wordBy).2.1) = true := by decide +kernel
def tX11_alone : List Ent := [(0, .aload_n 0, 1, 0, 0, [], .null, []),
  (1, .iload_n 1, 2, 1, 0, [], .null, []),
  (2, .invokevirtual 188, 5, 133, 1, [(0, 11)], .int 0, [1163, 1165, 47, 77]),
  (5, .ifCond .ne 6, 8, 11, 0, [], .null, []),
  (8, .bipush (-2), 10, 0, 0, [], .int (-2), []),
  (10, .ireturn, 11, 0, 0, [], .null, []),
  (11, .iload_n 2, 12, 2, 0, [], .null, []),
  (12, .iconst 0, 13, 0, 0, [], .int 0, []),
  (13, .iconst 1, 14, 0, 0, [], .int 1, []),
  (14, .aload_n 0, 15, 0, 0, [], .null, []),
  (15, .getfield 7, 18, 11, 0, [], .null, [976]),
  (18, .ishl, 19, 0, 0, [], .null, []),
  (19, .iconst 1, 20, 0, 0, [], .int 1, []),
  (20, .isub, 21, 0, 0, [], .null, []),
  (21, .invokestatic 69, 24, 131, 3, [], .int 0, [1084, 1085, 77]),
  (24, .ifCond .eq 12, 27, 36, 0, [], .null, []),
  (27, .aload_n 0, 28, 0, 0, [], .null, []),
  (28, .iload_n 1, 29, 1, 0, [], .null, []),
  (29, .iload_n 2, 30, 2, 0, [], .null, []),
  (30, .invokevirtual 234, 33, 174, 2, [(0, 11)], .int 0, [1270, 1272, 60, 77]),
  (33, .goto 5, 36, 38, 0, [], .null, []),
  (36, .bipush (-3), 38, 0, 0, [], .int (-3), []),
  (38, .ireturn, 39, 0, 0, [], .null, [])]
theorem oX11_alone : tX11_alone.all (okE (sX11_alone).1.cls (sX11_alone).2.1) = true := by decide +kernel
def tX11_twins : List Ent := [(0, .aload_n 0, 1, 0, 0, [], .null, []),
  (1, .iload_n 1, 2, 1, 0, [], .null, []),
  (2, .invokevirtual 195, 5, 134, 1, [(0, 11)], .int 0, [1171, 1173, 48, 77]),
  (5, .ifCond .ne 6, 8, 11, 0, [], .null, []),
  (8, .bipush (-2), 10, 0, 0, [], .int (-2), []),
  (10, .ireturn, 11, 0, 0, [], .null, []),
  (11, .iload_n 2, 12, 2, 0, [], .null, []),
  (12, .iconst 0, 13, 0, 0, [], .int 0, []),
  (13, .iconst 1, 14, 0, 0, [], .int 1, []),
  (14, .invokestatic 69, 17, 131, 3, [], .int 0, [1084, 1085, 77]),
  (17, .ifCond .ne 6, 20, 23, 0, [], .null, []),
  (20, .bipush (-3), 22, 0, 0, [], .int (-3), []),
  (22, .ireturn, 23, 0, 0, [], .null, []),
  (23, .iconst 0, 24, 0, 0, [], .int 0, []),
  (24, .istore_n 3, 25, 3, 0, [], .null, []),
  (25, .iconst (-1), 26, 0, 0, [], .int (-1), []),
  (26, .istore 4, 28, 4, 0, [], .null, []),
  (28, .iconst 0, 29, 0, 0, [], .int 0, []),
  (29, .istore 5, 31, 5, 0, [], .null, []),
  (31, .iload 5, 33, 5, 0, [], .null, []),
  (33, .aload_n 0, 34, 0, 0, [], .null, []),
  (34, .getfield 66, 37, 11, 4, [], .null, [980]),
  (37, .if_icmp .ge 66, 40, 103, 0, [], .null, []),
  (40, .aload_n 0, 41, 0, 0, [], .null, []),
  (41, .iload 5, 43, 5, 0, [], .null, []),
  (43, .iconst 1, 44, 0, 0, [], .int 1, []),
  (44, .aload_n 0, 45, 0, 0, [], .null, []),
  (45, .getfield 7, 48, 11, 0, [], .null, [976]),
  (48, .ishl, 49, 0, 0, [], .null, []),
  (49, .iconst 1, 50, 0, 0, [], .int 1, []),
  (50, .isub, 51, 0, 0, [], .null, []),
  (51, .iconst 1, 52, 0, 0, [], .int 1, []),
  (52, .iload_n 1, 53, 1, 0, [], .null, []),
  (53, .ishl, 54, 0, 0, [], .null, []),
  (54, .iconst (-1), 55, 0, 0, [], .int (-1), []),
  (55, .ixor, 56, 0, 0, [], .null, []),
  (56, .iand, 57, 0, 0, [], .null, []),
  (57, .invokevirtual 234, 60, 174, 2, [(0, 11)], .int 0, [1270, 1272, 60, 77]),
  (60, .istore 6, 62, 6, 0, [], .null, []),
  (62, .iload 6, 64, 6, 0, [], .null, []),
  (64, .iconst (-1), 65, 0, 0, [], .int (-1), []),
  (65, .if_icmp .eq 32, 68, 97, 0, [], .null, []),
  (68, .iload 6, 70, 6, 0, [], .null, []),
  (70, .iload 5, 72, 5, 0, [], .null, []),
  (72, .if_icmp .eq 25, 75, 97, 0, [], .null, []),
  (75, .iload_n 3, 76, 3, 0, [], .null, []),
  (76, .ifCond .ne 14, 79, 90, 0, [], .null, []),
  (79, .bipush 20, 81, 0, 0, [], .int 20, []),
  (81, .iload 5, 83, 5, 0, [], .null, []),
  (83, .imul, 84, 0, 0, [], .null, []),
  (84, .iload 6, 86, 6, 0, [], .null, []),
  (86, .iadd, 87, 0, 0, [], .null, []),
  (87, .goto 5, 90, 92, 0, [], .null, []),
  (90, .iload 4, 92, 4, 0, [], .null, []),
  (92, .istore 4, 94, 4, 0, [], .null, []),
  (94, .iinc 3 1, 97, 3, 0, [], .int 1, []),
  (97, .iinc 5 1, 100, 5, 0, [], .int 1, []),
  (100, .goto (-69), 103, 31, 0, [], .null, []),
  (103, .iload_n 2, 104, 2, 0, [], .null, []),
  (104, .ifCond .ne 7, 107, 111, 0, [], .null, []),
  (107, .iload_n 3, 108, 3, 0, [], .null, []),
  (108, .goto 5, 111, 113, 0, [], .null, []),
  (111, .iload 4, 113, 4, 0, [], .null, []),
  (113, .ireturn, 114, 0, 0, [], .null, [])]
theorem oX11_twins : tX11_twins.all (okE (sX11_twins).1.cls (sX11_twins).2.1) = true := by decide +kernel
def tX11_isClassed : List Ent := [(0, .aload_n 0, 1, 0, 0, [], .null, []),
  (1, .getfield 20, 4, 11, 6, [], .null, [982]),
  (4, .iload_n 1, 5, 1, 0, [], .null, []),
  (5, .iaload, 6, 0, 0, [], .null, []),
  (6, .aload_n 0, 7, 0, 0, [], .null, []),
  (7, .getfield 20, 10, 11, 6, [], .null, [982]),
  (10, .iload_n 2, 11, 2, 0, [], .null, []),
  (11, .iaload, 12, 0, 0, [], .null, []),
  (12, .if_icmp .ne 7, 15, 19, 0, [], .null, []),
  (15, .iconst 1, 16, 0, 0, [], .int 1, []),
  (16, .goto 4, 19, 20, 0, [], .null, []),
  (19, .iconst 0, 20, 0, 0, [], .int 0, []),
  (20, .istore 4, 22, 4, 0, [], .null, []),
  (22, .iload_n 3, 23, 3, 0, [], .null, []),
  (23, .istore 5, 25, 5, 0, [], .null, []),
  (25, .iload 5, 27, 5, 0, [], .null, []),
  (27, .aload_n 0, 28, 0, 0, [], .null, []),
  (28, .getfield 20, 31, 11, 6, [], .null, [982]),
  (31, .iload_n 1, 32, 1, 0, [], .null, []),
  (32, .iaload, 33, 0, 0, [], .null, []),
  (33, .if_icmp .ge 54, 36, 87, 0, [], .null, []),
  (36, .iload 4, 38, 4, 0, [], .null, []),
  (38, .ifCond .eq 49, 41, 87, 0, [], .null, []),
  (41, .aload_n 0, 42, 0, 0, [], .null, []),
  (42, .getfield 23, 45, 11, 7, [], .null, [983]),
  (45, .bipush 10, 47, 0, 0, [], .int 10, []),
  (47, .iload_n 1, 48, 1, 0, [], .null, []),
  (48, .imul, 49, 0, 0, [], .null, []),
  (49, .iload 5, 51, 5, 0, [], .null, []),
  (51, .iadd, 52, 0, 0, [], .null, []),
  (52, .iaload, 53, 0, 0, [], .null, []),
  (53, .aload_n 0, 54, 0, 0, [], .null, []),
  (54, .getfield 23, 57, 11, 7, [], .null, [983]),
  (57, .bipush 10, 59, 0, 0, [], .int 10, []),
  (59, .iload_n 2, 60, 2, 0, [], .null, []),
  (60, .imul, 61, 0, 0, [], .null, []),
  (61, .iload 5, 63, 5, 0, [], .null, []),
  (63, .iadd, 64, 0, 0, [], .null, []),
  (64, .iaload, 65, 0, 0, [], .null, []),
  (65, .if_icmp .ne 7, 68, 72, 0, [], .null, []),
  (68, .iconst 1, 69, 0, 0, [], .int 1, []),
  (69, .goto 4, 72, 73, 0, [], .null, []),
  (72, .iconst 0, 73, 0, 0, [], .int 0, []),
  (73, .istore 4, 75, 4, 0, [], .null, []),
  (75, .iload 5, 77, 5, 0, [], .null, []),
  (77, .aload_n 0, 78, 0, 0, [], .null, []),
  (78, .getfield 7, 81, 11, 0, [], .null, [976]),
  (81, .iadd, 82, 0, 0, [], .null, []),
  (82, .istore 5, 84, 5, 0, [], .null, []),
  (84, .goto (-59), 87, 25, 0, [], .null, []),
  (87, .iload 4, 89, 4, 0, [], .null, []),
  (89, .ireturn, 90, 0, 0, [], .null, [])]
theorem oX11_isClassed : tX11_isClassed.all (okE (sX11_isClassed).1.cls (sX11_isClassed).2.1) = true := by decide +kernel
def tX11_divisor : List Ent := [(0, .iload_n 0, 1, 0, 0, [], .null, []),
  (1, .istore_n 2, 2, 2, 0, [], .null, []),
  (2, .iload_n 1, 3, 1, 0, [], .null, []),
  (3, .istore_n 3, 4, 3, 0, [], .null, []),
  (4, .iload_n 3, 5, 3, 0, [], .null, []),
  (5, .ifCond .eq 16, 8, 21, 0, [], .null, []),
  (8, .iload_n 2, 9, 2, 0, [], .null, []),
  (9, .iload_n 3, 10, 3, 0, [], .null, []),
  (10, .irem, 11, 0, 0, [], .null, []),
  (11, .istore 4, 13, 4, 0, [], .null, []),
  (13, .iload_n 3, 14, 3, 0, [], .null, []),
  (14, .istore_n 2, 15, 2, 0, [], .null, []),
  (15, .iload 4, 17, 4, 0, [], .null, []),
  (17, .istore_n 3, 18, 3, 0, [], .null, []),
  (18, .goto (-14), 21, 4, 0, [], .null, []),
  (21, .iload_n 2, 22, 2, 0, [], .null, []),
  (22, .ireturn, 23, 0, 0, [], .null, [])]
theorem oX11_divisor : tX11_divisor.all (okE (sX11_divisor).1.cls (sX11_divisor).2.1) = true := by decide +kernel
def tX11_learnt : List Ent := [(0, .aload_n 0, 1, 0, 0, [], .null, []),
  (1, .iload_n 1, 2, 1, 0, [], .null, []),
  (2, .invokevirtual 195, 5, 134, 1, [(0, 11)], .int 0, [1171, 1173, 48, 77]),
  (5, .ifCond .ne 6, 8, 11, 0, [], .null, []),
  (8, .bipush (-2), 10, 0, 0, [], .int (-2), []),
  (10, .ireturn, 11, 0, 0, [], .null, []),
  (11, .iload_n 2, 12, 2, 0, [], .null, []),
  (12, .iconst 0, 13, 0, 0, [], .int 0, []),
  (13, .iconst 1, 14, 0, 0, [], .int 1, []),
  (14, .invokestatic 69, 17, 131, 3, [], .int 0, [1084, 1085, 77]),
  (17, .ifCond .eq 12, 20, 29, 0, [], .null, []),
  (20, .iload_n 3, 21, 3, 0, [], .null, []),
  (21, .iconst 0, 22, 0, 0, [], .int 0, []),
  (22, .iconst 1, 23, 0, 0, [], .int 1, []),
  (23, .invokestatic 69, 26, 131, 3, [], .int 0, [1084, 1085, 77]),
  (26, .ifCond .ne 6, 29, 32, 0, [], .null, []),
  (29, .bipush (-3), 31, 0, 0, [], .int (-3), []),
  (31, .ireturn, 32, 0, 0, [], .null, []),
  (32, .aload_n 0, 33, 0, 0, [], .null, []),
  (33, .getfield 66, 36, 11, 4, [], .null, [980]),
  (36, .ifCond .ne 6, 39, 42, 0, [], .null, []),
  (39, .bipush (-4), 41, 0, 0, [], .int (-4), []),
  (41, .ireturn, 42, 0, 0, [], .null, []),
  (42, .iconst 0, 43, 0, 0, [], .int 0, []),
  (43, .istore 4, 45, 4, 0, [], .null, []),
  (45, .iconst 0, 46, 0, 0, [], .int 0, []),
  (46, .istore 5, 48, 5, 0, [], .null, []),
  (48, .iconst 0, 49, 0, 0, [], .int 0, []),
  (49, .istore 6, 51, 6, 0, [], .null, []),
  (51, .iload 6, 53, 6, 0, [], .null, []),
  (53, .aload_n 0, 54, 0, 0, [], .null, []),
  (54, .getfield 66, 57, 11, 4, [], .null, [980]),
  (57, .if_icmp .ge 95, 60, 152, 0, [], .null, []),
  (60, .iconst 1, 61, 0, 0, [], .int 1, []),
  (61, .istore 7, 63, 7, 0, [], .null, []),
  (63, .iconst 0, 64, 0, 0, [], .int 0, []),
  (64, .istore 8, 66, 8, 0, [], .null, []),
  (66, .iload 8, 68, 8, 0, [], .null, []),
  (68, .aload_n 0, 69, 0, 0, [], .null, []),
  (69, .getfield 66, 72, 11, 4, [], .null, [980]),
  (72, .if_icmp .ge 59, 75, 131, 0, [], .null, []),
  (75, .aload_n 0, 76, 0, 0, [], .null, []),
  (76, .iload 6, 78, 6, 0, [], .null, []),
  (78, .iload 8, 80, 8, 0, [], .null, []),
  (80, .iload_n 1, 81, 1, 0, [], .null, []),
  (81, .invokevirtual 238, 84, 177, 3, [(0, 11)], .int 0, [1282, 1284, 61, 77]),
  (84, .istore 9, 86, 9, 0, [], .null, []),
  (86, .iload 4, 88, 4, 0, [], .null, []),
  (88, .iload 9, 90, 9, 0, [], .null, []),
  (90, .ifCond .eq 7, 93, 97, 0, [], .null, []),
  (93, .iconst 1, 94, 0, 0, [], .int 1, []),
  (94, .goto 4, 97, 98, 0, [], .null, []),
  (97, .iconst 0, 98, 0, 0, [], .int 0, []),
  (98, .iadd, 99, 0, 0, [], .null, []),
  (99, .istore 4, 101, 4, 0, [], .null, []),
  (101, .iload 7, 103, 7, 0, [], .null, []),
  (103, .ifCond .eq 19, 106, 122, 0, [], .null, []),
  (106, .iload 9, 108, 9, 0, [], .null, []),
  (108, .ifCond .eq 10, 111, 118, 0, [], .null, []),
  (111, .iload 8, 113, 8, 0, [], .null, []),
  (113, .iload 6, 115, 6, 0, [], .null, []),
  (115, .if_icmp .lt 7, 118, 122, 0, [], .null, []),
  (118, .iconst 1, 119, 0, 0, [], .int 1, []),
  (119, .goto 4, 122, 123, 0, [], .null, []),
  (122, .iconst 0, 123, 0, 0, [], .int 0, []),
  (123, .istore 7, 125, 7, 0, [], .null, []),
  (125, .iinc 8 1, 128, 8, 0, [], .int 1, []),
  (128, .goto (-62), 131, 66, 0, [], .null, []),
  (131, .iload 5, 133, 5, 0, [], .null, []),
  (133, .iload 7, 135, 7, 0, [], .null, []),
  (135, .ifCond .eq 7, 138, 142, 0, [], .null, []),
  (138, .iconst 1, 139, 0, 0, [], .int 1, []),
  (139, .goto 4, 142, 143, 0, [], .null, []),
  (142, .iconst 0, 143, 0, 0, [], .int 0, []),
  (143, .iadd, 144, 0, 0, [], .null, []),
  (144, .istore 5, 146, 5, 0, [], .null, []),
  (146, .iinc 6 1, 149, 6, 0, [], .int 1, []),
  (149, .goto (-98), 152, 51, 0, [], .null, []),
  (152, .iload_n 2, 153, 2, 0, [], .null, []),
  (153, .ifCond .ne 8, 156, 161, 0, [], .null, []),
  (156, .iload 4, 158, 4, 0, [], .null, []),
  (158, .goto 5, 161, 163, 0, [], .null, []),
  (161, .iload 5, 163, 5, 0, [], .null, []),
  (163, .istore 6, 165, 6, 0, [], .null, []),
  (165, .iload_n 3, 166, 3, 0, [], .null, []),
  (166, .ifCond .ne 8, 169, 174, 0, [], .null, []),
  (169, .iload 6, 171, 6, 0, [], .null, []),
  (171, .goto 7, 174, 178, 0, [], .null, []),
  (174, .aload_n 0, 175, 0, 0, [], .null, []),
  (175, .getfield 66, 178, 11, 4, [], .null, [980]),
  (178, .iload 6, 180, 6, 0, [], .null, []),
  (180, .aload_n 0, 181, 0, 0, [], .null, []),
  (181, .getfield 66, 184, 11, 4, [], .null, [980]),
  (184, .invokestatic 241, 187, 178, 2, [], .int 0, [1286, 1287, 77]),
  (187, .idiv, 188, 0, 0, [], .null, []),
  (188, .ireturn, 189, 0, 0, [], .null, [])]
theorem oX11_learnt : tX11_learnt.all (okE (sX11_learnt).1.cls (sX11_learnt).2.1) = true := by decide +kernel
def tX11_laySeats : List Ent := [(0, .iload_n 1, 1, 1, 0, [], .null, []),
  (1, .istore_n 2, 2, 2, 0, [], .null, []),
  (2, .iconst 0, 3, 0, 0, [], .int 0, []),
  (3, .istore_n 3, 4, 3, 0, [], .null, []),
  (4, .aload_n 0, 5, 0, 0, [], .null, []),
  (5, .getfield 7, 8, 11, 0, [], .null, [976]),
  (8, .iconst 1, 9, 0, 0, [], .int 1, []),
  (9, .isub, 10, 0, 0, [], .null, []),
  (10, .istore 4, 12, 4, 0, [], .null, []),
  (12, .iload 4, 14, 4, 0, [], .null, []),
  (14, .ifCond .lt 41, 17, 55, 0, [], .null, []),
  (17, .aload_n 0, 18, 0, 0, [], .null, []),
  (18, .getfield 60, 21, 11, 32, [], .null, [1008]),
  (21, .iload 4, 23, 4, 0, [], .null, []),
  (23, .iload_n 2, 24, 2, 0, [], .null, []),
  (24, .aload_n 0, 25, 0, 0, [], .null, []),
  (25, .getfield 7, 28, 11, 0, [], .null, [976]),
  (28, .irem, 29, 0, 0, [], .null, []),
  (29, .iastore, 30, 0, 0, [], .null, []),
  (30, .iload_n 2, 31, 2, 0, [], .null, []),
  (31, .aload_n 0, 32, 0, 0, [], .null, []),
  (32, .getfield 7, 35, 11, 0, [], .null, [976]),
  (35, .idiv, 36, 0, 0, [], .null, []),
  (36, .istore_n 2, 37, 2, 0, [], .null, []),
  (37, .iload_n 3, 38, 3, 0, [], .null, []),
  (38, .iconst 1, 39, 0, 0, [], .int 1, []),
  (39, .aload_n 0, 40, 0, 0, [], .null, []),
  (40, .getfield 60, 43, 11, 32, [], .null, [1008]),
  (43, .iload 4, 45, 4, 0, [], .null, []),
  (45, .iaload, 46, 0, 0, [], .null, []),
  (46, .ishl, 47, 0, 0, [], .null, []),
  (47, .ior, 48, 0, 0, [], .null, []),
  (48, .istore_n 3, 49, 3, 0, [], .null, []),
  (49, .iinc 4 (-1), 52, 4, 0, [], .int (-1), []),
  (52, .goto (-40), 55, 12, 0, [], .null, []),
  (55, .iload_n 3, 56, 3, 0, [], .null, []),
  (56, .iconst 1, 57, 0, 0, [], .int 1, []),
  (57, .aload_n 0, 58, 0, 0, [], .null, []),
  (58, .getfield 7, 61, 11, 0, [], .null, [976]),
  (61, .ishl, 62, 0, 0, [], .null, []),
  (62, .iconst 1, 63, 0, 0, [], .int 1, []),
  (63, .isub, 64, 0, 0, [], .null, []),
  (64, .if_icmp .ne 7, 67, 71, 0, [], .null, []),
  (67, .iconst 1, 68, 0, 0, [], .int 1, []),
  (68, .goto 4, 71, 72, 0, [], .null, []),
  (71, .iconst 0, 72, 0, 0, [], .int 0, []),
  (72, .ireturn, 73, 0, 0, [], .null, [])]
theorem oX11_laySeats : tX11_laySeats.all (okE (sX11_laySeats).1.cls (sX11_laySeats).2.1) = true := by decide +kernel
def tX11_spoilt : List Ent := [(0, .iconst 0, 1, 0, 0, [], .int 0, []),
  (1, .istore_n 1, 2, 1, 0, [], .null, []),
  (2, .iconst 0, 3, 0, 0, [], .int 0, []),
  (3, .istore_n 2, 4, 2, 0, [], .null, []),
  (4, .iload_n 2, 5, 2, 0, [], .null, []),
  (5, .aload_n 0, 6, 0, 0, [], .null, []),
  (6, .getfield 66, 9, 11, 4, [], .null, [980]),
  (9, .if_icmp .ge 84, 12, 93, 0, [], .null, []),
  (12, .iconst 0, 13, 0, 0, [], .int 0, []),
  (13, .istore_n 3, 14, 3, 0, [], .null, []),
  (14, .iload_n 3, 15, 3, 0, [], .null, []),
  (15, .aload_n 0, 16, 0, 0, [], .null, []),
  (16, .getfield 20, 19, 11, 6, [], .null, [982]),
  (19, .iload_n 2, 20, 2, 0, [], .null, []),
  (20, .iaload, 21, 0, 0, [], .null, []),
  (21, .if_icmp .ge 66, 24, 87, 0, [], .null, []),
  (24, .aload_n 0, 25, 0, 0, [], .null, []),
  (25, .getfield 60, 28, 11, 32, [], .null, [1008]),
  (28, .iload_n 3, 29, 3, 0, [], .null, []),
  (29, .aload_n 0, 30, 0, 0, [], .null, []),
  (30, .getfield 7, 33, 11, 0, [], .null, [976]),
  (33, .irem, 34, 0, 0, [], .null, []),
  (34, .iaload, 35, 0, 0, [], .null, []),
  (35, .istore 4, 37, 4, 0, [], .null, []),
  (37, .iload_n 1, 38, 1, 0, [], .null, []),
  (38, .aload_n 0, 39, 0, 0, [], .null, []),
  (39, .getfield 165, 42, 11, 1, [], .null, [977]),
  (42, .iload 4, 44, 4, 0, [], .null, []),
  (44, .invokestatic 191, 47, 132, 2, [], .int 0, [1179, 1180, 77]),
  (47, .ifCond .ne 27, 50, 74, 0, [], .null, []),
  (50, .aload_n 0, 51, 0, 0, [], .null, []),
  (51, .getfield 168, 54, 11, 2, [], .null, [978]),
  (54, .iload 4, 56, 4, 0, [], .null, []),
  (56, .invokestatic 191, 59, 132, 2, [], .int 0, [1179, 1180, 77]),
  (59, .ifCond .eq 19, 62, 78, 0, [], .null, []),
  (62, .iload_n 3, 63, 3, 0, [], .null, []),
  (63, .aload_n 0, 64, 0, 0, [], .null, []),
  (64, .getfield 7, 67, 11, 0, [], .null, [976]),
  (67, .idiv, 68, 0, 0, [], .null, []),
  (68, .iconst 2, 69, 0, 0, [], .int 2, []),
  (69, .irem, 70, 0, 0, [], .null, []),
  (70, .iconst 1, 71, 0, 0, [], .int 1, []),
  (71, .if_icmp .ne 7, 74, 78, 0, [], .null, []),
  (74, .iconst 1, 75, 0, 0, [], .int 1, []),
  (75, .goto 4, 78, 79, 0, [], .null, []),
  (78, .iconst 0, 79, 0, 0, [], .int 0, []),
  (79, .iadd, 80, 0, 0, [], .null, []),
  (80, .istore_n 1, 81, 1, 0, [], .null, []),
  (81, .iinc 3 1, 84, 3, 0, [], .int 1, []),
  (84, .goto (-70), 87, 14, 0, [], .null, []),
  (87, .iinc 2 1, 90, 2, 0, [], .int 1, []),
  (90, .goto (-86), 93, 4, 0, [], .null, []),
  (93, .iload_n 1, 94, 1, 0, [], .null, []),
  (94, .ireturn, 95, 0, 0, [], .null, [])]
theorem oX11_spoilt : tX11_spoilt.all (okE (sX11_spoilt).1.cls (sX11_spoilt).2.1) = true := by decide +kernel
def tX11_seats : List Ent := [(0, .iload_n 1, 1, 1, 0, [], .null, []),
  (1, .iconst (-1), 2, 0, 0, [], .int (-1), []),
  (2, .if_icmp .ge 6, 5, 8, 0, [], .null, []),
  (5, .bipush (-3), 7, 0, 0, [], .int (-3), []),
  (7, .ireturn, 8, 0, 0, [], .null, []),
  (8, .iconst 1, 9, 0, 0, [], .int 1, []),
  (9, .istore_n 2, 10, 2, 0, [], .null, []),
  (10, .iconst 0, 11, 0, 0, [], .int 0, []),
  (11, .istore_n 3, 12, 3, 0, [], .null, []),
  (12, .iload_n 3, 13, 3, 0, [], .null, []),
  (13, .aload_n 0, 14, 0, 0, [], .null, []),
  (14, .getfield 7, 17, 11, 0, [], .null, [976]),
  (17, .if_icmp .ge 16, 20, 33, 0, [], .null, []),
  (20, .iload_n 2, 21, 2, 0, [], .null, []),
  (21, .aload_n 0, 22, 0, 0, [], .null, []),
  (22, .getfield 7, 25, 11, 0, [], .null, [976]),
  (25, .imul, 26, 0, 0, [], .null, []),
  (26, .istore_n 2, 27, 2, 0, [], .null, []),
  (27, .iinc 3 1, 30, 3, 0, [], .int 1, []),
  (30, .goto (-18), 33, 12, 0, [], .null, []),
  (33, .iconst (-1), 34, 0, 0, [], .int (-1), []),
  (34, .istore_n 3, 35, 3, 0, [], .null, []),
  (35, .iconst 0, 36, 0, 0, [], .int 0, []),
  (36, .istore 4, 38, 4, 0, [], .null, []),
  (38, .iconst 0, 39, 0, 0, [], .int 0, []),
  (39, .istore 5, 41, 5, 0, [], .null, []),
  (41, .iload 5, 43, 5, 0, [], .null, []),
  (43, .iload_n 2, 44, 2, 0, [], .null, []),
  (44, .if_icmp .ge 69, 47, 113, 0, [], .null, []),
  (47, .aload_n 0, 48, 0, 0, [], .null, []),
  (48, .iload 5, 50, 5, 0, [], .null, []),
  (50, .invokevirtual 244, 53, 180, 1, [(0, 11)], .int 0, [1293, 1295, 62, 77]),
  (53, .ifCond .eq 54, 56, 107, 0, [], .null, []),
  (56, .aload_n 0, 57, 0, 0, [], .null, []),
  (57, .invokevirtual 247, 60, 181, 0, [(0, 11)], .int 0, [1297, 1299, 63, 77]),
  (60, .istore 6, 62, 6, 0, [], .null, []),
  (62, .iload_n 3, 63, 3, 0, [], .null, []),
  (63, .iconst (-1), 64, 0, 0, [], .int (-1), []),
  (64, .if_icmp .eq 10, 67, 74, 0, [], .null, []),
  (67, .iload 6, 69, 6, 0, [], .null, []),
  (69, .iload 4, 71, 4, 0, [], .null, []),
  (71, .if_icmp .ge 7, 74, 78, 0, [], .null, []),
  (74, .iconst 1, 75, 0, 0, [], .int 1, []),
  (75, .goto 4, 78, 79, 0, [], .null, []),
  (78, .iconst 0, 79, 0, 0, [], .int 0, []),
  (79, .istore 7, 81, 7, 0, [], .null, []),
  (81, .iload 7, 83, 7, 0, [], .null, []),
  (83, .ifCond .eq 8, 86, 91, 0, [], .null, []),
  (86, .iload 5, 88, 5, 0, [], .null, []),
  (88, .goto 4, 91, 92, 0, [], .null, []),
  (91, .iload_n 3, 92, 3, 0, [], .null, []),
  (92, .istore_n 3, 93, 3, 0, [], .null, []),
  (93, .iload 7, 95, 7, 0, [], .null, []),
  (95, .ifCond .eq 8, 98, 103, 0, [], .null, []),
  (98, .iload 6, 100, 6, 0, [], .null, []),
  (100, .goto 5, 103, 105, 0, [], .null, []),
  (103, .iload 4, 105, 4, 0, [], .null, []),
  (105, .istore 4, 107, 4, 0, [], .null, []),
  (107, .iinc 5 1, 110, 5, 0, [], .int 1, []),
  (110, .goto (-69), 113, 41, 0, [], .null, []),
  (113, .iload_n 1, 114, 1, 0, [], .null, []),
  (114, .iconst (-1), 115, 0, 0, [], .int (-1), []),
  (115, .if_icmp .ne 6, 118, 121, 0, [], .null, []),
  (118, .iload 4, 120, 4, 0, [], .null, []),
  (120, .ireturn, 121, 0, 0, [], .null, []),
  (121, .aload_n 0, 122, 0, 0, [], .null, []),
  (122, .iload_n 3, 123, 3, 0, [], .null, []),
  (123, .invokevirtual 244, 126, 180, 1, [(0, 11)], .int 0, [1293, 1295, 62, 77]),
  (126, .istore 5, 128, 5, 0, [], .null, []),
  (128, .iload 5, 130, 5, 0, [], .null, []),
  (130, .ifCond .eq 20, 133, 150, 0, [], .null, []),
  (133, .iload_n 1, 134, 1, 0, [], .null, []),
  (134, .aload_n 0, 135, 0, 0, [], .null, []),
  (135, .getfield 7, 138, 11, 0, [], .null, [976]),
  (138, .if_icmp .ge 12, 141, 150, 0, [], .null, []),
  (141, .aload_n 0, 142, 0, 0, [], .null, []),
  (142, .getfield 60, 145, 11, 32, [], .null, [1008]),
  (145, .iload_n 1, 146, 1, 0, [], .null, []),
  (146, .iaload, 147, 0, 0, [], .null, []),
  (147, .goto 4, 150, 151, 0, [], .null, []),
  (150, .iconst (-1), 151, 0, 0, [], .int (-1), []),
  (151, .ireturn, 152, 0, 0, [], .null, [])]
theorem oX11_seats : tX11_seats.all (okE (sX11_seats).1.cls (sX11_seats).2.1) = true := by decide +kernel
def tX11_areApart : List Ent := [(0, .aload_n 0, 1, 0, 0, [], .null, []),
  (1, .getfield 20, 4, 11, 6, [], .null, [982]),
  (4, .iload_n 1, 5, 1, 0, [], .null, []),
  (5, .iaload, 6, 0, 0, [], .null, []),
  (6, .aload_n 0, 7, 0, 0, [], .null, []),
  (7, .getfield 20, 10, 11, 6, [], .null, [982]),
  (10, .iload_n 2, 11, 2, 0, [], .null, []),
  (11, .iaload, 12, 0, 0, [], .null, []),
  (12, .if_icmp .eq 5, 15, 17, 0, [], .null, []),
  (15, .iconst 1, 16, 0, 0, [], .int 1, []),
  (16, .ireturn, 17, 0, 0, [], .null, []),
  (17, .iconst 1, 18, 0, 0, [], .int 1, []),
  (18, .istore_n 3, 19, 3, 0, [], .null, []),
  (19, .iconst 0, 20, 0, 0, [], .int 0, []),
  (20, .istore 4, 22, 4, 0, [], .null, []),
  (22, .iload 4, 24, 4, 0, [], .null, []),
  (24, .aload_n 0, 25, 0, 0, [], .null, []),
  (25, .getfield 7, 28, 11, 0, [], .null, [976]),
  (28, .if_icmp .ge 98, 31, 126, 0, [], .null, []),
  (31, .iconst 0, 32, 0, 0, [], .int 0, []),
  (32, .istore 5, 34, 5, 0, [], .null, []),
  (34, .iconst 0, 35, 0, 0, [], .int 0, []),
  (35, .istore 6, 37, 6, 0, [], .null, []),
  (37, .iload 6, 39, 6, 0, [], .null, []),
  (39, .aload_n 0, 40, 0, 0, [], .null, []),
  (40, .getfield 20, 43, 11, 6, [], .null, [982]),
  (43, .iload_n 1, 44, 1, 0, [], .null, []),
  (44, .iaload, 45, 0, 0, [], .null, []),
  (45, .if_icmp .ge 60, 48, 105, 0, [], .null, []),
  (48, .iload 5, 50, 5, 0, [], .null, []),
  (50, .ifCond .ne 42, 53, 92, 0, [], .null, []),
  (53, .iload 6, 55, 6, 0, [], .null, []),
  (55, .aload_n 0, 56, 0, 0, [], .null, []),
  (56, .getfield 7, 59, 11, 0, [], .null, [976]),
  (59, .irem, 60, 0, 0, [], .null, []),
  (60, .iload 4, 62, 4, 0, [], .null, []),
  (62, .if_icmp .eq 34, 65, 96, 0, [], .null, []),
  (65, .aload_n 0, 66, 0, 0, [], .null, []),
  (66, .getfield 23, 69, 11, 7, [], .null, [983]),
  (69, .bipush 10, 71, 0, 0, [], .int 10, []),
  (71, .iload_n 1, 72, 1, 0, [], .null, []),
  (72, .imul, 73, 0, 0, [], .null, []),
  (73, .iload 6, 75, 6, 0, [], .null, []),
  (75, .iadd, 76, 0, 0, [], .null, []),
  (76, .iaload, 77, 0, 0, [], .null, []),
  (77, .aload_n 0, 78, 0, 0, [], .null, []),
  (78, .getfield 23, 81, 11, 7, [], .null, [983]),
  (81, .bipush 10, 83, 0, 0, [], .int 10, []),
  (83, .iload_n 2, 84, 2, 0, [], .null, []),
  (84, .imul, 85, 0, 0, [], .null, []),
  (85, .iload 6, 87, 6, 0, [], .null, []),
  (87, .iadd, 88, 0, 0, [], .null, []),
  (88, .iaload, 89, 0, 0, [], .null, []),
  (89, .if_icmp .eq 7, 92, 96, 0, [], .null, []),
  (92, .iconst 1, 93, 0, 0, [], .int 1, []),
  (93, .goto 4, 96, 97, 0, [], .null, []),
  (96, .iconst 0, 97, 0, 0, [], .int 0, []),
  (97, .istore 5, 99, 5, 0, [], .null, []),
  (99, .iinc 6 1, 102, 6, 0, [], .int 1, []),
  (102, .goto (-65), 105, 37, 0, [], .null, []),
  (105, .iload_n 3, 106, 3, 0, [], .null, []),
  (106, .ifCond .eq 12, 109, 118, 0, [], .null, []),
  (109, .iload 5, 111, 5, 0, [], .null, []),
  (111, .ifCond .eq 7, 114, 118, 0, [], .null, []),
  (114, .iconst 1, 115, 0, 0, [], .int 1, []),
  (115, .goto 4, 118, 119, 0, [], .null, []),
  (118, .iconst 0, 119, 0, 0, [], .int 0, []),
  (119, .istore_n 3, 120, 3, 0, [], .null, []),
  (120, .iinc 4 1, 123, 4, 0, [], .int 1, []),
  (123, .goto (-101), 126, 22, 0, [], .null, []),
  (126, .iload_n 3, 127, 3, 0, [], .null, []),
  (127, .ireturn, 128, 0, 0, [], .null, [])]
theorem oX11_areApart : tX11_areApart.all (okE (sX11_areApart).1.cls (sX11_areApart).2.1) = true := by decide +kernel
def tX11_bits : List Ent := [(0, .iconst 0, 1, 0, 0, [], .int 0, []),
  (1, .istore_n 1, 2, 1, 0, [], .null, []),
  (2, .iconst 0, 3, 0, 0, [], .int 0, []),
  (3, .istore_n 2, 4, 2, 0, [], .null, []),
  (4, .iload_n 2, 5, 2, 0, [], .null, []),
  (5, .bipush 12, 7, 0, 0, [], .int 12, []),
  (7, .if_icmp .ge 17, 10, 24, 0, [], .null, []),
  (10, .iload_n 1, 11, 1, 0, [], .null, []),
  (11, .iload_n 0, 12, 0, 0, [], .null, []),
  (12, .iload_n 2, 13, 2, 0, [], .null, []),
  (13, .ishr, 14, 0, 0, [], .null, []),
  (14, .iconst 1, 15, 0, 0, [], .int 1, []),
  (15, .iand, 16, 0, 0, [], .null, []),
  (16, .iadd, 17, 0, 0, [], .null, []),
  (17, .istore_n 1, 18, 1, 0, [], .null, []),
  (18, .iinc 2 1, 21, 2, 0, [], .int 1, []),
  (21, .goto (-17), 24, 4, 0, [], .null, []),
  (24, .iload_n 1, 25, 1, 0, [], .null, []),
  (25, .ireturn, 26, 0, 0, [], .null, [])]
theorem oX11_bits : tX11_bits.all (okE (sX11_bits).1.cls (sX11_bits).2.1) = true := by decide +kernel
def tX11_bears : List Ent := [(0, .iload_n 1, 1, 1, 0, [], .null, []),
  (1, .iconst 0, 2, 0, 0, [], .int 0, []),
  (2, .iconst 1, 3, 0, 0, [], .int 1, []),
  (3, .invokestatic 69, 6, 131, 3, [], .int 0, [1084, 1085, 77]),
  (6, .ifCond .ne 6, 9, 12, 0, [], .null, []),
  (9, .bipush (-3), 11, 0, 0, [], .int (-3), []),
  (11, .ireturn, 12, 0, 0, [], .null, []),
  (12, .iconst 0, 13, 0, 0, [], .int 0, []),
  (13, .istore_n 2, 14, 2, 0, [], .null, []),
  (14, .iload_n 2, 15, 2, 0, [], .null, []),
  (15, .aload_n 0, 16, 0, 0, [], .null, []),
  (16, .getfield 66, 19, 11, 4, [], .null, [980]),
  (19, .if_icmp .ge 68, 22, 87, 0, [], .null, []),
  (22, .aload_n 0, 23, 0, 0, [], .null, []),
  (23, .getfield 63, 26, 11, 33, [], .null, [1009]),
  (26, .iload_n 2, 27, 2, 0, [], .null, []),
  (27, .iconst 1, 28, 0, 0, [], .int 1, []),
  (28, .iload_n 2, 29, 2, 0, [], .null, []),
  (29, .ishl, 30, 0, 0, [], .null, []),
  (30, .iastore, 31, 0, 0, [], .null, []),
  (31, .iconst 0, 32, 0, 0, [], .int 0, []),
  (32, .istore_n 3, 33, 3, 0, [], .null, []),
  (33, .iload_n 3, 34, 3, 0, [], .null, []),
  (34, .aload_n 0, 35, 0, 0, [], .null, []),
  (35, .getfield 66, 38, 11, 4, [], .null, [980]),
  (38, .if_icmp .ge 43, 41, 81, 0, [], .null, []),
  (41, .aload_n 0, 42, 0, 0, [], .null, []),
  (42, .getfield 63, 45, 11, 33, [], .null, [1009]),
  (45, .iload_n 2, 46, 2, 0, [], .null, []),
  (46, .aload_n 0, 47, 0, 0, [], .null, []),
  (47, .getfield 63, 50, 11, 33, [], .null, [1009]),
  (50, .iload_n 2, 51, 2, 0, [], .null, []),
  (51, .iaload, 52, 0, 0, [], .null, []),
  (52, .iload_n 3, 53, 3, 0, [], .null, []),
  (53, .iload_n 2, 54, 2, 0, [], .null, []),
  (54, .if_icmp .eq 18, 57, 72, 0, [], .null, []),
  (57, .aload_n 0, 58, 0, 0, [], .null, []),
  (58, .iload_n 2, 59, 2, 0, [], .null, []),
  (59, .iload_n 3, 60, 3, 0, [], .null, []),
  (60, .invokevirtual 250, 63, 183, 2, [(0, 11)], .int 0, [1305, 1307, 64, 77]),
  (63, .ifCond .eq 9, 66, 72, 0, [], .null, []),
  (66, .iconst 1, 67, 0, 0, [], .int 1, []),
  (67, .iload_n 3, 68, 3, 0, [], .null, []),
  (68, .ishl, 69, 0, 0, [], .null, []),
  (69, .goto 4, 72, 73, 0, [], .null, []),
  (72, .iconst 0, 73, 0, 0, [], .int 0, []),
  (73, .ior, 74, 0, 0, [], .null, []),
  (74, .iastore, 75, 0, 0, [], .null, []),
  (75, .iinc 3 1, 78, 3, 0, [], .int 1, []),
  (78, .goto (-45), 81, 33, 0, [], .null, []),
  (81, .iinc 2 1, 84, 2, 0, [], .int 1, []),
  (84, .goto (-70), 87, 14, 0, [], .null, []),
  (87, .iconst 0, 88, 0, 0, [], .int 0, []),
  (88, .istore_n 2, 89, 2, 0, [], .null, []),
  (89, .iconst 1, 90, 0, 0, [], .int 1, []),
  (90, .istore_n 3, 91, 3, 0, [], .null, []),
  (91, .iload_n 3, 92, 3, 0, [], .null, []),
  (92, .iconst 1, 93, 0, 0, [], .int 1, []),
  (93, .aload_n 0, 94, 0, 0, [], .null, []),
  (94, .getfield 66, 97, 11, 4, [], .null, [980]),
  (97, .ishl, 98, 0, 0, [], .null, []),
  (98, .if_icmp .ge 91, 101, 189, 0, [], .null, []),
  (101, .iload_n 3, 102, 3, 0, [], .null, []),
  (102, .invokestatic 253, 105, 184, 1, [], .int 0, [1309, 1310, 77]),
  (105, .iload_n 2, 106, 2, 0, [], .null, []),
  (106, .invokestatic 253, 109, 184, 1, [], .int 0, [1309, 1310, 77]),
  (109, .if_icmp .le 7, 112, 116, 0, [], .null, []),
  (112, .iconst 1, 113, 0, 0, [], .int 1, []),
  (113, .goto 4, 116, 117, 0, [], .null, []),
  (116, .iconst 0, 117, 0, 0, [], .int 0, []),
  (117, .istore 4, 119, 4, 0, [], .null, []),
  (119, .iconst 0, 120, 0, 0, [], .int 0, []),
  (120, .istore 5, 122, 5, 0, [], .null, []),
  (122, .iload 5, 124, 5, 0, [], .null, []),
  (124, .aload_n 0, 125, 0, 0, [], .null, []),
  (125, .getfield 66, 128, 11, 4, [], .null, [980]),
  (128, .if_icmp .ge 44, 131, 172, 0, [], .null, []),
  (131, .iload 4, 133, 4, 0, [], .null, []),
  (133, .ifCond .eq 39, 136, 172, 0, [], .null, []),
  (136, .iload_n 3, 137, 3, 0, [], .null, []),
  (137, .iload 5, 139, 5, 0, [], .null, []),
  (139, .invokestatic 191, 142, 132, 2, [], .int 0, [1179, 1180, 77]),
  (142, .ifCond .eq 17, 145, 159, 0, [], .null, []),
  (145, .iload_n 3, 146, 3, 0, [], .null, []),
  (146, .aload_n 0, 147, 0, 0, [], .null, []),
  (147, .getfield 63, 150, 11, 33, [], .null, [1009]),
  (150, .iload 5, 152, 5, 0, [], .null, []),
  (152, .iaload, 153, 0, 0, [], .null, []),
  (153, .iconst (-1), 154, 0, 0, [], .int (-1), []),
  (154, .ixor, 155, 0, 0, [], .null, []),
  (155, .iand, 156, 0, 0, [], .null, []),
  (156, .ifCond .ne 7, 159, 163, 0, [], .null, []),
  (159, .iconst 1, 160, 0, 0, [], .int 1, []),
  (160, .goto 4, 163, 164, 0, [], .null, []),
  (163, .iconst 0, 164, 0, 0, [], .int 0, []),
  (164, .istore 4, 166, 4, 0, [], .null, []),
  (166, .iinc 5 1, 169, 5, 0, [], .int 1, []),
  (169, .goto (-47), 172, 122, 0, [], .null, []),
  (172, .iload 4, 174, 4, 0, [], .null, []),
  (174, .ifCond .eq 7, 177, 181, 0, [], .null, []),
  (177, .iload_n 3, 178, 3, 0, [], .null, []),
  (178, .goto 4, 181, 182, 0, [], .null, []),
  (181, .iload_n 2, 182, 2, 0, [], .null, []),
  (182, .istore_n 2, 183, 2, 0, [], .null, []),
  (183, .iinc 3 1, 186, 3, 0, [], .int 1, []),
  (186, .goto (-95), 189, 91, 0, [], .null, []),
  (189, .iload_n 1, 190, 1, 0, [], .null, []),
  (190, .ifCond .ne 10, 193, 200, 0, [], .null, []),
  (193, .iload_n 2, 194, 2, 0, [], .null, []),
  (194, .invokestatic 253, 197, 184, 1, [], .int 0, [1309, 1310, 77]),
  (197, .goto 4, 200, 201, 0, [], .null, []),
  (200, .iload_n 2, 201, 2, 0, [], .null, []),
  (201, .ireturn, 202, 0, 0, [], .null, [])]
theorem oX11_bears : tX11_bears.all (okE (sX11_bears).1.cls (sX11_bears).2.1) = true := by decide +kernel
def tX11_keep : List Ent := [(0, .iload_n 1, 1, 1, 0, [], .null, []),
  (1, .iconst 0, 2, 0, 0, [], .int 0, []),
  (2, .iconst 1, 3, 0, 0, [], .int 1, []),
  (3, .invokestatic 69, 6, 131, 3, [], .int 0, [1084, 1085, 77]),
  (6, .ifCond .ne 6, 9, 12, 0, [], .null, []),
  (9, .bipush (-2), 11, 0, 0, [], .int (-2), []),
  (11, .ireturn, 12, 0, 0, [], .null, []),
  (12, .aload_n 0, 13, 0, 0, [], .null, []),
  (13, .getfield 47, 16, 11, 28, [], .null, [1004]),
  (16, .bipush 8, 18, 0, 0, [], .int 8, []),
  (18, .iload_n 1, 19, 1, 0, [], .null, []),
  (19, .imul, 20, 0, 0, [], .null, []),
  (20, .aload_n 0, 21, 0, 0, [], .null, []),
  (21, .getfield 179, 24, 11, 23, [], .null, [999]),
  (24, .iastore, 25, 0, 0, [], .null, []),
  (25, .aload_n 0, 26, 0, 0, [], .null, []),
  (26, .getfield 47, 29, 11, 28, [], .null, [1004]),
  (29, .bipush 8, 31, 0, 0, [], .int 8, []),
  (31, .iload_n 1, 32, 1, 0, [], .null, []),
  (32, .imul, 33, 0, 0, [], .null, []),
  (33, .iconst 1, 34, 0, 0, [], .int 1, []),
  (34, .iadd, 35, 0, 0, [], .null, []),
  (35, .aload_n 0, 36, 0, 0, [], .null, []),
  (36, .getfield 182, 39, 11, 25, [], .null, [1001]),
  (39, .iastore, 40, 0, 0, [], .null, []),
  (40, .iconst 0, 41, 0, 0, [], .int 0, []),
  (41, .istore_n 2, 42, 2, 0, [], .null, []),
  (42, .iload_n 2, 43, 2, 0, [], .null, []),
  (43, .bipush 6, 45, 0, 0, [], .int 6, []),
  (45, .if_icmp .ge 28, 48, 73, 0, [], .null, []),
  (48, .aload_n 0, 49, 0, 0, [], .null, []),
  (49, .getfield 47, 52, 11, 28, [], .null, [1004]),
  (52, .bipush 8, 54, 0, 0, [], .int 8, []),
  (54, .iload_n 1, 55, 1, 0, [], .null, []),
  (55, .imul, 56, 0, 0, [], .null, []),
  (56, .iconst 2, 57, 0, 0, [], .int 2, []),
  (57, .iadd, 58, 0, 0, [], .null, []),
  (58, .iload_n 2, 59, 2, 0, [], .null, []),
  (59, .iadd, 60, 0, 0, [], .null, []),
  (60, .aload_n 0, 61, 0, 0, [], .null, []),
  (61, .getfield 41, 64, 11, 24, [], .null, [1000]),
  (64, .iload_n 2, 65, 2, 0, [], .null, []),
  (65, .iaload, 66, 0, 0, [], .null, []),
  (66, .iastore, 67, 0, 0, [], .null, []),
  (67, .iinc 2 1, 70, 2, 0, [], .int 1, []),
  (70, .goto (-28), 73, 42, 0, [], .null, []),
  (73, .aload_n 0, 74, 0, 0, [], .null, []),
  (74, .getfield 50, 77, 11, 29, [], .null, [1005]),
  (77, .iload_n 1, 78, 1, 0, [], .null, []),
  (78, .iconst 1, 79, 0, 0, [], .int 1, []),
  (79, .bastore, 80, 0, 0, [], .null, []),
  (80, .aload_n 0, 81, 0, 0, [], .null, []),
  (81, .getfield 182, 84, 11, 25, [], .null, [1001]),
  (84, .ireturn, 85, 0, 0, [], .null, [])]
theorem oX11_keep : tX11_keep.all (okE (sX11_keep).1.cls (sX11_keep).2.1) = true := by decide +kernel
def tX11_back : List Ent := [(0, .iload_n 1, 1, 1, 0, [], .null, []),
  (1, .iconst 0, 2, 0, 0, [], .int 0, []),
  (2, .iconst 1, 3, 0, 0, [], .int 1, []),
  (3, .invokestatic 69, 6, 131, 3, [], .int 0, [1084, 1085, 77]),
  (6, .ifCond .ne 6, 9, 12, 0, [], .null, []),
  (9, .bipush (-2), 11, 0, 0, [], .int (-2), []),
  (11, .ireturn, 12, 0, 0, [], .null, []),
  (12, .aload_n 0, 13, 0, 0, [], .null, []),
  (13, .getfield 50, 16, 11, 29, [], .null, [1005]),
  (16, .iload_n 1, 17, 1, 0, [], .null, []),
  (17, .baload, 18, 0, 0, [], .null, []),
  (18, .ifCond .ne 6, 21, 24, 0, [], .null, []),
  (21, .bipush (-4), 23, 0, 0, [], .int (-4), []),
  (23, .ireturn, 24, 0, 0, [], .null, []),
  (24, .aload_n 0, 25, 0, 0, [], .null, []),
  (25, .aload_n 0, 26, 0, 0, [], .null, []),
  (26, .getfield 47, 29, 11, 28, [], .null, [1004]),
  (29, .bipush 8, 31, 0, 0, [], .int 8, []),
  (31, .iload_n 1, 32, 1, 0, [], .null, []),
  (32, .imul, 33, 0, 0, [], .null, []),
  (33, .iaload, 34, 0, 0, [], .null, []),
  (34, .putfield 179, 37, 11, 23, [], .null, [999]),
  (37, .aload_n 0, 38, 0, 0, [], .null, []),
  (38, .aload_n 0, 39, 0, 0, [], .null, []),
  (39, .getfield 47, 42, 11, 28, [], .null, [1004]),
  (42, .bipush 8, 44, 0, 0, [], .int 8, []),
  (44, .iload_n 1, 45, 1, 0, [], .null, []),
  (45, .imul, 46, 0, 0, [], .null, []),
  (46, .iconst 1, 47, 0, 0, [], .int 1, []),
  (47, .iadd, 48, 0, 0, [], .null, []),
  (48, .iaload, 49, 0, 0, [], .null, []),
  (49, .putfield 182, 52, 11, 25, [], .null, [1001]),
  (52, .iconst 0, 53, 0, 0, [], .int 0, []),
  (53, .istore_n 2, 54, 2, 0, [], .null, []),
  (54, .iload_n 2, 55, 2, 0, [], .null, []),
  (55, .bipush 6, 57, 0, 0, [], .int 6, []),
  (57, .if_icmp .ge 28, 60, 85, 0, [], .null, []),
  (60, .aload_n 0, 61, 0, 0, [], .null, []),
  (61, .getfield 41, 64, 11, 24, [], .null, [1000]),
  (64, .iload_n 2, 65, 2, 0, [], .null, []),
  (65, .aload_n 0, 66, 0, 0, [], .null, []),
  (66, .getfield 47, 69, 11, 28, [], .null, [1004]),
  (69, .bipush 8, 71, 0, 0, [], .int 8, []),
  (71, .iload_n 1, 72, 1, 0, [], .null, []),
  (72, .imul, 73, 0, 0, [], .null, []),
  (73, .iconst 2, 74, 0, 0, [], .int 2, []),
  (74, .iadd, 75, 0, 0, [], .null, []),
  (75, .iload_n 2, 76, 2, 0, [], .null, []),
  (76, .iadd, 77, 0, 0, [], .null, []),
  (77, .iaload, 78, 0, 0, [], .null, []),
  (78, .iastore, 79, 0, 0, [], .null, []),
  (79, .iinc 2 1, 82, 2, 0, [], .int 1, []),
  (82, .goto (-28), 85, 54, 0, [], .null, []),
  (85, .aload_n 0, 86, 0, 0, [], .null, []),
  (86, .getfield 182, 89, 11, 25, [], .null, [1001]),
  (89, .ireturn, 90, 0, 0, [], .null, [])]
theorem oX11_back : tX11_back.all (okE (sX11_back).1.cls (sX11_back).2.1) = true := by decide +kernel
def tX11_count : List Ent := [(0, .iload_n 1, 1, 1, 0, [], .null, []),
  (1, .tableswitch 87 0 7 #[47, 52, 57, 62, 67, 72, 77, 82], 48, 88, 0, [(0, 48), (1, 53), (2, 58), (3, 63), (4, 68), (5, 73), (6, 78), (7, 83)], .null, []),
  (48, .aload_n 0, 49, 0, 0, [], .null, []),
  (49, .getfield 7, 52, 11, 0, [], .null, [976]),
  (52, .ireturn, 53, 0, 0, [], .null, []),
  (53, .aload_n 0, 54, 0, 0, [], .null, []),
  (54, .getfield 66, 57, 11, 4, [], .null, [980]),
  (57, .ireturn, 58, 0, 0, [], .null, []),
  (58, .aload_n 0, 59, 0, 0, [], .null, []),
  (59, .getfield 179, 62, 11, 23, [], .null, [999]),
  (62, .ireturn, 63, 0, 0, [], .null, []),
  (63, .aload_n 0, 64, 0, 0, [], .null, []),
  (64, .invokevirtual 204, 67, 151, 0, [(0, 11)], .int 0, [1190, 1192, 51, 77]),
  (67, .ireturn, 68, 0, 0, [], .null, []),
  (68, .aload_n 0, 69, 0, 0, [], .null, []),
  (69, .getfield 182, 72, 11, 25, [], .null, [1001]),
  (72, .ireturn, 73, 0, 0, [], .null, []),
  (73, .aload_n 0, 74, 0, 0, [], .null, []),
  (74, .getfield 185, 77, 11, 26, [], .null, [1002]),
  (77, .ireturn, 78, 0, 0, [], .null, []),
  (78, .aload_n 0, 79, 0, 0, [], .null, []),
  (79, .getfield 73, 82, 11, 9, [], .null, [985]),
  (82, .ireturn, 83, 0, 0, [], .null, []),
  (83, .aload_n 0, 84, 0, 0, [], .null, []),
  (84, .getfield 26, 87, 11, 8, [], .null, [984]),
  (87, .ireturn, 88, 0, 0, [], .null, []),
  (88, .bipush (-3), 90, 0, 0, [], .int (-3), []),
  (90, .ireturn, 91, 0, 0, [], .null, [])]
theorem oX11_count : tX11_count.all (okE (sX11_count).1.cls (sX11_count).2.1) = true := by decide +kernel
end
section
def tJ6_bitCount_0f7a4 : List Ent := [(0, .iload_n 0, 1, 0, 0, [], .null, []),
  (1, .iload_n 0, 2, 0, 0, [], .null, []),
  (2, .iconst 1, 3, 0, 0, [], .int 1, []),
  (3, .iushr, 4, 0, 0, [], .null, []),
  (4, .ldc_w 265, 7, 0, 0, [], .int 1431655765, [911]),
  (7, .iand, 8, 0, 0, [], .null, []),
  (8, .isub, 9, 0, 0, [], .null, []),
  (9, .istore_n 0, 10, 0, 0, [], .null, []),
  (10, .iload_n 0, 11, 0, 0, [], .null, []),
  (11, .ldc_w 266, 14, 0, 0, [], .int 858993459, [912]),
  (14, .iand, 15, 0, 0, [], .null, []),
  (15, .iload_n 0, 16, 0, 0, [], .null, []),
  (16, .iconst 2, 17, 0, 0, [], .int 2, []),
  (17, .iushr, 18, 0, 0, [], .null, []),
  (18, .ldc_w 266, 21, 0, 0, [], .int 858993459, [912]),
  (21, .iand, 22, 0, 0, [], .null, []),
  (22, .iadd, 23, 0, 0, [], .null, []),
  (23, .istore_n 0, 24, 0, 0, [], .null, []),
  (24, .iload_n 0, 25, 0, 0, [], .null, []),
  (25, .iload_n 0, 26, 0, 0, [], .null, []),
  (26, .iconst 4, 27, 0, 0, [], .int 4, []),
  (27, .iushr, 28, 0, 0, [], .null, []),
  (28, .iadd, 29, 0, 0, [], .null, []),
  (29, .ldc_w 267, 32, 0, 0, [], .int 252645135, [913]),
  (32, .iand, 33, 0, 0, [], .null, []),
  (33, .istore_n 0, 34, 0, 0, [], .null, []),
  (34, .iload_n 0, 35, 0, 0, [], .null, []),
  (35, .iload_n 0, 36, 0, 0, [], .null, []),
  (36, .bipush 8, 38, 0, 0, [], .int 8, []),
  (38, .iushr, 39, 0, 0, [], .null, []),
  (39, .iadd, 40, 0, 0, [], .null, []),
  (40, .istore_n 0, 41, 0, 0, [], .null, []),
  (41, .iload_n 0, 42, 0, 0, [], .null, []),
  (42, .iload_n 0, 43, 0, 0, [], .null, []),
  (43, .bipush 16, 45, 0, 0, [], .int 16, []),
  (45, .iushr, 46, 0, 0, [], .null, []),
  (46, .iadd, 47, 0, 0, [], .null, []),
  (47, .istore_n 0, 48, 0, 0, [], .null, []),
  (48, .iload_n 0, 49, 0, 0, [], .null, []),
  (49, .bipush 63, 51, 0, 0, [], .int 63, []),
  (51, .iand, 52, 0, 0, [], .null, []),
  (52, .ireturn, 53, 0, 0, [], .null, [])]
theorem oJ6_bitCount_0f7a4 : tJ6_bitCount_0f7a4.all (okE (sJ6_bitCount_0f7a4).1.cls (sJ6_bitCount_0f7a4).2.1) = true := by decide +kernel
def tJ0_length_8abf5 : List Ent := [(0, .aload_n 0, 1, 0, 0, [], .null, []),
  (1, .getfield 9, 4, 20, 0, [], .null, [1325]),
  (4, .arraylength, 5, 0, 0, [], .null, []),
  (5, .aload_n 0, 6, 0, 0, [], .null, []),
  (6, .invokevirtual 335, 9, 192, 0, [(0, 20)], .int 0, [405, 406, 407, 80]),
  (9, .ishr, 10, 0, 0, [], .null, []),
  (10, .ireturn, 11, 0, 0, [], .null, [])]
theorem oJ0_length_8abf5 : tJ0_length_8abf5.all (okE (sJ0_length_8abf5).1.cls (sJ0_length_8abf5).2.1) = true := by decide +kernel
def tJ0_charAt_5068e : List Ent := [(0, .aload_n 0, 1, 0, 0, [], .null, []),
  (1, .invokevirtual 492, 4, 193, 0, [(0, 20)], .int 0, [419, 420, 421, 80]),
  (4, .ifCond .eq 12, 7, 16, 0, [], .null, []),
  (7, .aload_n 0, 8, 0, 0, [], .null, []),
  (8, .getfield 9, 11, 20, 0, [], .null, [1325]),
  (11, .iload_n 1, 12, 1, 0, [], .null, []),
  (12, .invokestatic 495, 15, 195, 2, [], .int 0, [423, 424, 81]),
  (15, .ireturn, 16, 0, 0, [], .null, []),
  (16, .aload_n 0, 17, 0, 0, [], .null, []),
  (17, .getfield 9, 20, 20, 0, [], .null, [1325]),
  (20, .iload_n 1, 21, 1, 0, [], .null, []),
  (24, .ireturn, 25, 0, 0, [], .null, [])]
theorem oJ0_charAt_5068e : tJ0_charAt_5068e.all (okE (sJ0_charAt_5068e).1.cls (sJ0_charAt_5068e).2.1) = true := by decide +kernel
def tJ0_coder_7d493 : List Ent := [(0, .getstatic 38, 3, 0, 0, [], .int 1, [409]),
  (3, .ifCond .eq 10, 6, 13, 0, [], .null, []),
  (6, .aload_n 0, 7, 0, 0, [], .null, []),
  (7, .getfield 15, 10, 20, 1, [], .null, [1326]),
  (10, .goto 4, 13, 14, 0, [], .null, []),
  (13, .iconst 1, 14, 0, 0, [], .int 1, []),
  (14, .ireturn, 15, 0, 0, [], .null, [])]
theorem oJ0_coder_7d493 : tJ0_coder_7d493.all (okE (sJ0_coder_7d493).1.cls (sJ0_coder_7d493).2.1) = true := by decide +kernel
def tJ0_isLatin1_aae02 : List Ent := [(0, .getstatic 38, 3, 0, 0, [], .int 1, [409]),
  (3, .ifCond .eq 14, 6, 17, 0, [], .null, []),
  (6, .aload_n 0, 7, 0, 0, [], .null, []),
  (7, .getfield 15, 10, 20, 1, [], .null, [1326]),
  (10, .ifCond .ne 7, 13, 17, 0, [], .null, []),
  (13, .iconst 1, 14, 0, 0, [], .int 1, []),
  (14, .goto 4, 17, 18, 0, [], .null, []),
  (17, .iconst 0, 18, 0, 0, [], .int 0, []),
  (18, .ireturn, 19, 0, 0, [], .null, [])]
theorem oJ0_isLatin1_aae02 : tJ0_isLatin1_aae02.all (okE (sJ0_isLatin1_aae02).1.cls (sJ0_isLatin1_aae02).2.1) = true := by decide +kernel
def tJ0_checkIndex_df160 : List Ent := [(0, .iload_n 0, 1, 0, 0, [], .null, []),
  (1, .iload_n 1, 2, 1, 0, [], .null, []),
  (2, .getstatic 1053, 5, 1, 0, [], .ref 300, [429]),
  (5, .invokestatic 1059, 8, 196, 3, [], .int 0, [431, 432, 82]),
  (8, .pop, 9, 0, 0, [], .null, []),
  (9, .return_, 10, 0, 0, [], .null, [])]
theorem oJ0_checkIndex_df160 : tJ0_checkIndex_df160.all (okE (sJ0_checkIndex_df160).1.cls (sJ0_checkIndex_df160).2.1) = true := by decide +kernel
def tJ1_charAt_3b067 : List Ent := [(0, .iload_n 1, 1, 1, 0, [], .null, []),
  (1, .aload_n 0, 2, 0, 0, [], .null, []),
  (2, .arraylength, 3, 0, 0, [], .null, []),
  (3, .invokestatic 9, 6, 194, 2, [], .null, [426, 427, 80]),
  (6, .aload_n 0, 7, 0, 0, [], .null, []),
  (7, .iload_n 1, 8, 1, 0, [], .null, []),
  (8, .baload, 9, 1, 0, [], .null, []),
  (9, .sipush 255, 12, 0, 0, [], .int 255, []),
  (12, .iand, 13, 0, 0, [], .null, []),
  (13, .i2c, 14, 0, 0, [], .null, []),
  (14, .ireturn, 15, 0, 0, [], .null, [])]
theorem oJ1_charAt_3b067 : tJ1_charAt_3b067.all (okE (sJ1_charAt_3b067).1.cls (sJ1_charAt_3b067).2.1) = true := by decide +kernel
def tJ3_checkIndex_8e157 : List Ent := [(0, .iload_n 0, 1, 0, 0, [], .null, []),
  (1, .ifCond .lt 8, 4, 9, 0, [], .null, []),
  (4, .iload_n 0, 5, 0, 0, [], .null, []),
  (5, .iload_n 1, 6, 1, 0, [], .null, []),
  (6, .if_icmp .lt 10, 9, 16, 0, [], .null, []),
  (9, .aload_n 2, 10, 2, 0, [], .null, []),
  (10, .iload_n 0, 11, 0, 0, [], .null, []),
  (11, .iload_n 1, 12, 1, 0, [], .null, []),
  (16, .iload_n 0, 17, 0, 0, [], .null, []),
  (17, .ireturn, 18, 0, 0, [], .null, [])]
theorem oJ3_checkIndex_8e157 : tJ3_checkIndex_8e157.all (okE (sJ3_checkIndex_8e157).1.cls (sJ3_checkIndex_8e157).2.1) = true := by decide +kernel
end
section
/-! the world over the heap, the two judgements, and that the walk is sound -/
abbrev Geo : Type := va_G × (Nat → Nat) × ClassId × ClassId × ClassId
def vmp (G : Geo) : Value → Value
  | .ref q => .ref (G.2.1 q)
  | .int x => .int x
  | .long x => .long x
  | .float x => .float x
  | .double x => .double x
  | .null => .null
  | .retAddr x => .retAddr x
def fval (G : Geo) (σ : St) (q k kind : Nat) : Value := match kind with
  | 0 => .int (σ.1 q k)
  | 1 => .long σ.2
  | r + 2 => .ref (G.2.1 r)
def wcell (G : Geo) (σ : St) (q : Nat) : va_E := match lay q with
  | (0, c, fl) => .inr (c, fl.mapIdx (fun k kind => fval G σ q k kind))
  | (1, n, _) => .inl (G.2.2.1, n, .inl (σ.1 q))
  | (2, n, _) => .inl (G.2.2.2.1, n, .inl (σ.1 q))
  | (_, n, fl) => .inl (G.2.2.2.2, n, .inr (.inr (.inr (.inr (fun j => if j < n then some (G.2.1 (fl.headD 0 + j)) else none)))))
def wcells (G : Geo) (σ : St) : va_W := (List.range 68).map (fun q => (G.2.1 q, wcell G σ q))
def wtys (G : Geo) : List (ClassId × FieldType) := [(G.2.2.1, .int), (G.2.2.2.1, .boolean), (G.2.2.2.2, .array .int)]
def inW (G : Geo) : Nat → Prop := fun a => ∃ q, q < 68 ∧ a = G.2.1 q
def dst (G : Geo) : Prop := ∀ i j, i < 68 → j < 68 → G.2.1 i = G.2.1 j → i = j
def strs (G : Geo) (U : State) (H : Heap) : Prop := vk_S 9 slen sbyt (fun i => G.2.1 (100 + i)) (fun i => G.2.1 (200 + i)) (inW G) U H ∧ (∀ i, i < 9 → vk_R RX3 (sIdx.getD i 0) (sTxt.getD i "") (G.2.1 (100 + i)) U) ∧ va_Z "java/lang/String" "COMPACT_STRINGS" "Z" (.int 1) (inW G) U H ∧ va_Z "jdk/internal/util/Preconditions" "SIOOBE_FORMATTER" "Ljava/util/function/BiFunction;" (.ref (G.2.1 300)) (inW G) U H
def gtbl : List Cond := lw_tbl.filter goodWord
def rmD (d : Nat) : Room := { frames := d, cells := 0, slots := 0, locals := 64 * d }
def lhas (G : Geo) (lsA : Array Slot) (nL : Nat) (ls : List Value) : Prop := lsA.size = nL ∧ lv_wf lsA ∧ ls.length ≤ nL ∧ ∀ (i : Nat) (v : Value), ls[i]? = some v → v ≠ .null → lsA[i]? = some (.val (vmp G v))
def QD (G : Geo) (post : Option Value → St → Prop) : Array Value → State → Outcome → State → Prop := fun _ st oc t => (∃ (r : Option Value) (σ' : St), oc = .returned (r.map (vmp G)) ∧ post r σ' ∧ va_P G.1 cls (wcells G σ') t.heap) ∧ va_F (inW G) st t
def FxA (G : Geo) (g : Sig) (p : Program) (s : State) (m : MethodId) (args : Array Value) (meth : Method) (c : Code) : Prop :=
  p.tables.exec = Jvm.exec ∧ c.code = g.2.1 ∧ c.maxLocals = g.2.2.1 ∧ s.vm.findClass g.1.cls = some m.cls ∧ (∀ w ∈ gtbl, w.before args s = true) ∧ meth.sig.returnType = g.2.2.2 ∧ meth.locks = false ∧ va_K G.1 cls (wtys G) s ∧ dst G ∧ strs G s s.heap
def AtA (l : Launch) (G : Geo) (d : Nat) (g : Sig) (pc : Nat) (ls st : List Value) (σ : St) (post : Option Value → St → Prop) : Prop :=
  ∀ (p : Program) (e : Env) (s : State) (m : MethodId) (args : Array Value) (below : List Frame) (meth : Method) (c : Code) (H : Heap) (locs : List Loc) (lsA : Array Slot), FxA G g p s m args meth c → va_P G.1 cls (wcells G σ) H → va_S (inW G) s.heap H locs → lhas G lsA g.2.2.1 ls → W p l e (rmD d) s m args below meth c H locs 0 0 (MQ below (QD G post) args s 0 0 (inW G)) (F0 m pc lsA (st.map (vmp G)))
def WdA (G : Geo) (σ : St) (U : State) : Prop := va_P G.1 cls (wcells G σ) U.heap ∧ va_K G.1 cls (wtys G) U ∧ dst G ∧ strs G U U.heap
def DoesQ (l : Launch) (G : Geo) (d k : Nat) (av : List Value) (σ : St) (post : Option Value → St → Prop) : Prop :=
  ∀ g : Sig, sigs[k]? = some g → Met l g.1 (Cond.code g.1 g.2.1 g.2.2.1 g.2.2.2 :: gtbl) (rmD d) (va_Pc (av.map (vmp G)) (WdA G σ)) (QD G post) 0 0 (inW G)
abbrev DoesI (l : Launch) (G : Geo) (d k : Nat) (av : List Value) (σ : St) (Q : Int32 → St → Prop) : Prop := DoesQ l G d k av σ (pI Q)
abbrev DoesV (l : Launch) (G : Geo) (d k : Nat) (av : List Value) (σ : St) (Q : St → Prop) : Prop := DoesQ l G d k av σ (pV Q)
abbrev DoesR (l : Launch) (G : Geo) (d k : Nat) (av : List Value) (σ : St) (Q : Nat → St → Prop) : Prop := DoesQ l G d k av σ (pR Q)
/-! ===== cells ===== -/
theorem wc_at {G : Geo} {σ : St} {q : Nat} (h : q < 68) : (wcells G σ)[q]? = some (G.2.1 q, wcell G σ q) := by
  simp [wcells, h]
theorem wc_of {G : Geo} {σ : St} {k : Nat} {x : Nat × va_E} (h : (wcells G σ)[k]? = some x) : k < 68 ∧ x = (G.2.1 k, wcell G σ k) := by
  have hk : k < 68 := by
    have := (List.getElem?_eq_some_iff.mp h).1
    simpa [wcells] using this
  rw [wc_at hk] at h
  exact ⟨hk, (Option.some.inj h).symm⟩
theorem wc_D {G : Geo} (h : dst G) (σ : St) : va_D (inW G) (wcells G σ) := by
  refine ⟨fun i j x y hi hj hxy => ?_, fun k x hk => ?_⟩
  · obtain ⟨h1, rfl⟩ := wc_of hi
    obtain ⟨h2, rfl⟩ := wc_of hj
    exact h i j h1 h2 hxy
  · obtain ⟨h1, rfl⟩ := wc_of hk
    exact ⟨k, h1, rfl⟩
theorem wc_set {G : Geo} {σ σ' : St} {q : Nat} {E : va_E} (hE : wcell G σ' q = E) (ho : ∀ q', q' ≠ q → wcell G σ' q' = wcell G σ q') : (wcells G σ).set q (G.2.1 q, E) = wcells G σ' := by
  apply List.ext_getElem?
  intro k
  by_cases hk : k < 68
  · rw [wc_at hk]
    by_cases hkq : k = q
    · subst hkq
      rw [List.getElem?_set_self (by simpa [wcells] using hk), hE]
    · rw [List.getElem?_set_ne (fun z => hkq z.symm), wc_at hk, ho k hkq]
  · rw [List.getElem?_eq_none (by simp [wcells]; omega), List.getElem?_eq_none (by simp [wcells]; omega)]
theorem wc_put_ne {G : Geo} {σ : St} {q k : Nat} {v : Int32} (q' : Nat) (h : q' ≠ q) : wcell G (sput σ q k v) q' = wcell G σ q' := by
  have h1 : (sput σ q k v).1 q' = σ.1 q' := by
    funext j
    simp [sput, h]
  have h2 : ∀ j kd : Nat, fval G (sput σ q k v) q' j kd = fval G σ q' j kd := by
    intro j kd
    match kd with
    | 0 => show Value.int ((sput σ q k v).1 q' j) = _; rw [h1]; rfl
    | 1 => rfl
    | r + 2 => rfl
  unfold wcell
  split
  · simp only [h2]
  · rw [h1]
  · rw [h1]
  · rfl
theorem lay_lt {q : Nat} (h : (lay q).1 ≠ 9) : q < 68 := by
  rcases Nat.lt_or_ge q 68 with h1 | h1
  · exact h1
  · exact absurd (by unfold lay; rw [List.getD_eq_getElem?_getD, List.getElem?_eq_none (by exact h1)]; rfl) h
theorem wc_obj {G : Geo} {σ : St} {q c : Nat} {fl : List Nat} (h : lay q = (0, c, fl)) : wcell G σ q = .inr (c, fl.mapIdx (fun k kind => fval G σ q k kind)) := by
  unfold wcell
  rw [h]
  rfl
theorem wc_int {G : Geo} {σ : St} {q n : Nat} (h : alen q = n) (hn : 0 < n) : q < 68 ∧ wcell G σ q = .inl (G.2.2.1, n, .inl (σ.1 q)) := by
  unfold alen at h
  split at h
  · rename_i m x hl
    subst h
    refine ⟨lay_lt (by rw [hl]; show (1 : Nat) ≠ 9; decide), ?_⟩
    unfold wcell
    rw [hl]
    rfl
  · omega
theorem wc_bool {G : Geo} {σ : St} {q n : Nat} (h : zlen q = n) (hn : 0 < n) : q < 68 ∧ wcell G σ q = .inl (G.2.2.2.1, n, .inl (σ.1 q)) := by
  unfold zlen at h
  split at h
  · rename_i m x hl
    subst h
    refine ⟨lay_lt (by rw [hl]; show (2 : Nat) ≠ 9; decide), ?_⟩
    unfold wcell
    rw [hl]
    rfl
  · omega
theorem in_pos {i : Int32} {n : Nat} (h : vp_in i n) : 0 < n := by
  rcases Nat.eq_zero_or_pos n with h1 | h1
  · exact absurd (Or.inr (by omega)) h
  · exact h1
theorem upd_put (σ : St) (q k : Nat) (v : Int32) : upd (σ.1 q) k v = (sput σ q k v).1 q := by
  funext j
  simp only [upd, sput]
  by_cases h : j = k <;> simp [h]
theorem wc_put_int {G : Geo} {σ : St} {q k n : Nat} {v : Int32} (h : alen q = n) (hn : 0 < n) : (wcells G σ).set q (G.2.1 q, .inl (G.2.2.1, n, .inl (upd (σ.1 q) k v))) = wcells G (sput σ q k v) := by
  refine wc_set ?_ (fun q' hq => wc_put_ne q' hq)
  rw [(wc_int (σ := sput σ q k v) h hn).2, upd_put]
theorem wc_put_bool {G : Geo} {σ : St} {q k n : Nat} {v : Int32} (h : zlen q = n) (hn : 0 < n) : (wcells G σ).set q (G.2.1 q, .inl (G.2.2.2.1, n, .inl (upd (σ.1 q) k v))) = wcells G (sput σ q k v) := by
  refine wc_set ?_ (fun q' hq => wc_put_ne q' hq)
  rw [(wc_bool (σ := sput σ q k v) h hn).2, upd_put]
theorem wc_cpy {G : Geo} {σ : St} {sq sp dq dp n m : Nat} (h : alen dq = m) (hm : 0 < m) : (wcells G σ).set dq (G.2.1 dq, .inl (G.2.2.1, m, .inl (va_cpy (σ.1 sq) (σ.1 dq) sp dp n))) = wcells G (scpy σ sq sp dq dp n) := by
  refine wc_set ?_ (fun q' hq => ?_)
  · rw [(wc_int (σ := scpy σ sq sp dq dp n) h hm).2]
    congr 3
    congr 1
    funext j
    simp [scpy, va_cpy]
  · have h1 : (scpy σ sq sp dq dp n).1 q' = σ.1 q' := by
      funext j
      simp [scpy, hq]
    have h2 : ∀ j kd : Nat, fval G (scpy σ sq sp dq dp n) q' j kd = fval G σ q' j kd := by
      intro j kd
      match kd with
      | 0 => show Value.int ((scpy σ sq sp dq dp n).1 q' j) = _; rw [h1]; rfl
      | 1 => rfl
      | r + 2 => rfl
    unfold wcell
    split
    · simp only [h2]
    · rw [h1]
    · rw [h1]
    · rfl
theorem fk_of {q ci k kd : Nat} (h : fkind q ci k = some kd) : ∃ fl : List Nat, lay q = (0, ci, fl) ∧ fl[k]? = some kd ∧ q < 68 := by
  unfold fkind at h
  split at h
  · rename_i c fl hl
    by_cases hc : c = ci
    · subst hc
      simp at h
      exact ⟨fl, hl, h, lay_lt (by rw [hl]; show (0 : Nat) ≠ 9; decide)⟩
    · have : (c == ci) = false := by simpa using hc
      rw [this] at h
      exact absurd h (by simp)
  · exact absurd h (by simp)
theorem wc_put_fld {G : Geo} {σ : St} {q c k : Nat} {fl : List Nat} {v : Int32} (h : lay q = (0, c, fl)) (hk : fl[k]? = some 0) : (wcells G σ).set q (G.2.1 q, .inr (c, (fl.mapIdx (fun k kind => fval G σ q k kind)).set k (.int v))) = wcells G (sput σ q k v) := by
  refine wc_set ?_ (fun q' hq => wc_put_ne q' hq)
  rw [wc_obj h]
  congr 2
  apply List.ext_getElem?
  intro j
  by_cases hj : j = k
  · subst hj
    have hl : j < fl.length := (List.getElem?_eq_some_iff.mp hk).1
    rw [List.getElem?_set_self (by simpa using hl), List.getElem?_mapIdx, hk]
    simp [fval, sput]
  · rw [List.getElem?_set_ne (fun z => hj z.symm), List.getElem?_mapIdx, List.getElem?_mapIdx]
    cases hf : fl[j]? with
    | none => rfl
    | some kd =>
      simp only [Option.map_some, Option.some.injEq]
      match kd with
      | 0 => simp [fval, sput, hj]
      | 1 => rfl
      | r + 2 => rfl
def lngOK : Bool := (List.range 68).all (fun q => match lay q with
  | (0, _, fl) => (List.range fl.length).all (fun k => match fl[k]? with
    | some 1 => q == 51 && k == 13
    | _ => true)
  | _ => true)
theorem lngOK_t : lngOK = true := by decide +kernel
theorem lng_ok {q c k : Nat} {fl : List Nat} (h : lay q = (0, c, fl)) (hk : fl[k]? = some 1) : q = 51 ∧ k = 13 := by
  have h1 := List.all_eq_true.mp lngOK_t q (List.mem_range.mpr (lay_lt (by rw [h]; show (0 : Nat) ≠ 9; decide)))
  simp only [h] at h1
  have h2 := List.all_eq_true.mp h1 k (List.mem_range.mpr (List.getElem?_eq_some_iff.mp hk).1)
  simp only [hk] at h2
  simpa using h2
theorem wc_put_lng {G : Geo} {σ : St} {q c k : Nat} {fl : List Nat} {x : Int64} (h : lay q = (0, c, fl)) (hk : fl[k]? = some 1) : (wcells G σ).set q (G.2.1 q, .inr (c, (fl.mapIdx (fun k kind => fval G σ q k kind)).set k (.long x))) = wcells G (σ.1, x) := by
  obtain ⟨e1, e2⟩ := lng_ok h hk
  refine wc_set ?_ (fun q' hq => ?_)
  · rw [wc_obj h]
    congr 2
    apply List.ext_getElem?
    intro j
    by_cases hj : j = k
    · subst hj
      have hl : j < fl.length := (List.getElem?_eq_some_iff.mp hk).1
      rw [List.getElem?_set_self (by simpa using hl), List.getElem?_mapIdx, hk]
      rfl
    · rw [List.getElem?_set_ne (fun z => hj z.symm), List.getElem?_mapIdx, List.getElem?_mapIdx]
      cases hf : fl[j]? with
      | none => rfl
      | some kd =>
        simp only [Option.map_some, Option.some.injEq]
        match kd, hf with
        | 0, _ => rfl
        | 1, hf => exact absurd ((lng_ok h hf).2.trans e2.symm) hj
        | r + 2, _ => rfl
  · unfold wcell
    split
    · rename_i c' fl' hl
      congr 2
      apply List.ext_getElem?
      intro j
      rw [List.getElem?_mapIdx, List.getElem?_mapIdx]
      cases hf : fl'[j]? with
      | none => rfl
      | some kd =>
        simp only [Option.map_some, Option.some.injEq]
        match kd, hf with
        | 0, _ => rfl
        | 1, hf => exact absurd ((lng_ok hl hf).1.trans e1.symm) hq
        | r + 2, _ => rfl
    · rfl
    · rfl
    · rfl
end
section
/-! one instruction at a time -/
theorem gt_has {i : Nat} {w : Cond} (h : hasW i w = true) : w ∈ gtbl := by
  unfold hasW at h
  rw [Bool.and_eq_true] at h
  exact List.mem_filter.mpr ⟨List.mem_of_getElem? (of_decide_eq_true h.1), h.2⟩
theorem lh_at {G : Geo} {lsA : Array Slot} {nL i : Nat} {ls : List Value} {v : Value} (h : lhas G lsA nL ls) (hi : ls[i]? = some v) (hv : v ≠ .null) : lsA[i]? = some (.val (vmp G v)) := h.2.2.2 i v hi hv
def prs (G : Geo) (ls : List Value) : List (Nat × Value) := (List.range ls.length).filterMap (fun i => match ls[i]? with
  | some v => if v = .null then none else some (i, vmp G v)
  | none => none)
theorem prs_mem {G : Geo} {ls : List Value} {q : Nat × Value} : q ∈ prs G ls ↔ ∃ v, ls[q.1]? = some v ∧ v ≠ .null ∧ q.2 = vmp G v := by
  unfold prs
  rw [List.mem_filterMap]
  constructor
  · rintro ⟨i, hi, h⟩
    split at h
    · rename_i v hv
      split at h
      · cases h
      · rename_i hn
        cases h
        exact ⟨v, hv, hn, rfl⟩
    · cases h
  · rintro ⟨v, h1, h2, h3⟩
    refine ⟨q.1, List.mem_range.mpr (List.getElem?_eq_some_iff.mp h1).1, ?_⟩
    rw [h1]
    simp only [if_neg h2]
    rw [← h3]
theorem lh_prs {G : Geo} {lsA : Array Slot} {nL : Nat} {ls : List Value} (h : lhas G lsA nL ls) : lv_has lsA nL (prs G ls) :=
  ⟨h.1, h.2.1, fun q hq => by
    obtain ⟨v, h1, h2, h3⟩ := prs_mem.mp hq
    rw [h3]
    exact h.2.2.2 _ _ h1 h2⟩
theorem vmp_cat (G : Geo) (v : Value) : (vmp G v).category = v.category := by cases v <;> rfl
theorem lh_set {G : Geo} {lsA lsB : Array Slot} {nL a : Nat} {ls : List Value} {w : Value} (h : lhas G lsA nL ls) (hok : okst ls a = true) (hB : lv_has lsB nL ((a, vmp G w) :: (prs G ls).filter (fun q => !(q.1 == a) && !(q.1 + 1 == a && q.2.category == 2)))) : lhas G lsB nL (ls.set a w) := by
  refine ⟨hB.1, hB.2.1, by rw [List.length_set]; exact h.2.2.1, fun i v hi hv => ?_⟩
  unfold okst at hok
  rw [Bool.and_eq_true] at hok
  by_cases hia : i = a
  · subst hia
    rw [List.getElem?_set_self (by simpa using hok.1)] at hi
    cases hi
    exact hB.2.2 _ List.mem_cons_self
  · rw [List.getElem?_set_ne (fun z => hia z.symm)] at hi
    refine hB.2.2 (i, vmp G v) (List.mem_cons_of_mem _ (List.mem_filter.mpr ⟨prs_mem.mpr ⟨v, hi, hv, rfl⟩, ?_⟩))
    simp only [Bool.and_eq_true, Bool.not_eq_true', beq_eq_false_iff_ne, ne_eq, Bool.and_eq_false_iff]
    refine ⟨hia, ?_⟩
    by_cases h1 : i + 1 = a
    · right
      rw [vmp_cat]
      subst h1
      have h2 := hok.2
      simp only [Nat.add_sub_cancel, hi] at h2
      cases v <;> simp_all [Value.category]
    · left; exact h1
theorem ok_lt {G : Geo} {lsA : Array Slot} {nL a : Nat} {ls : List Value} (h : lhas G lsA nL ls) (hok : okst ls a = true) : a < nL := by
  unfold okst at hok
  rw [Bool.and_eq_true] at hok
  have := h.2.2.1
  have h1 : a < ls.length := by simpa using hok.1
  omega
theorem sm_room {G : Geo} {st : List Value} (h : okroom st = true) : ((st.map (vmp G)).map fun v => v.category).sum ≤ 8 := by
  have e : (st.map (vmp G)).map (fun v => v.category) = st.map (fun v => v.category) := by
    rw [List.map_map]
    apply List.map_congr_left
    intro v _
    exact vmp_cat G v
  rw [e]
  exact Nat.le_of_ble_eq_true h
theorem cond_t {b : Bool} {P : Prop} (h : cond b P False) : b = true ∧ P := by cases b <;> simp_all
section IS
variable {l : Launch} {G : Geo} {d : Nat} {g : Sig} {post : Option Value → St → Prop} {go : Nat → List Value → List Value → St → Prop} {pc : Nat} {ls st : List Value} {σ : St}

theorem is_iadd {nx a b : Nat} {ts : List (Int32 × Nat)} {v : Value} {rt : FieldType} {KD : Nat → List Value → St → (Option Value → St → Prop) → Prop} {KR : Option Value → St → Prop} (hgo : ∀ pc ls st σ, go pc ls st σ → AtA l G d g pc ls st σ post) (hd : decode g.2.1 pc = .ok (.iadd, 1)) (hn : nx = pc + 1) (h : instP KD KR rt go .iadd nx a b ts v ls st σ) : AtA l G d g pc ls st σ post := by
  subst hn
  simp only [instP] at h
  split at h
  · rename_i y x r
    intro p e s m args below meth c H locs lsA F hP hS hL
    have hx := F.1
    have hb := F.2.1
    refine lv_iadd hx hb hd ?_
    exact hgo _ _ _ _ h p e s m args below meth c H locs lsA F hP hS hL
  · exact h.elim

theorem is_isub {nx a b : Nat} {ts : List (Int32 × Nat)} {v : Value} {rt : FieldType} {KD : Nat → List Value → St → (Option Value → St → Prop) → Prop} {KR : Option Value → St → Prop} (hgo : ∀ pc ls st σ, go pc ls st σ → AtA l G d g pc ls st σ post) (hd : decode g.2.1 pc = .ok (.isub, 1)) (hn : nx = pc + 1) (h : instP KD KR rt go .isub nx a b ts v ls st σ) : AtA l G d g pc ls st σ post := by
  subst hn
  simp only [instP] at h
  split at h
  · rename_i y x r
    intro p e s m args below meth c H locs lsA F hP hS hL
    have hx := F.1
    have hb := F.2.1
    refine lv_isub hx hb hd ?_
    exact hgo _ _ _ _ h p e s m args below meth c H locs lsA F hP hS hL
  · exact h.elim

theorem is_imul {nx a b : Nat} {ts : List (Int32 × Nat)} {v : Value} {rt : FieldType} {KD : Nat → List Value → St → (Option Value → St → Prop) → Prop} {KR : Option Value → St → Prop} (hgo : ∀ pc ls st σ, go pc ls st σ → AtA l G d g pc ls st σ post) (hd : decode g.2.1 pc = .ok (.imul, 1)) (hn : nx = pc + 1) (h : instP KD KR rt go .imul nx a b ts v ls st σ) : AtA l G d g pc ls st σ post := by
  subst hn
  simp only [instP] at h
  split at h
  · rename_i y x r
    intro p e s m args below meth c H locs lsA F hP hS hL
    have hx := F.1
    have hb := F.2.1
    refine lv_imul hx hb hd ?_
    exact hgo _ _ _ _ h p e s m args below meth c H locs lsA F hP hS hL
  · exact h.elim

theorem is_iand {nx a b : Nat} {ts : List (Int32 × Nat)} {v : Value} {rt : FieldType} {KD : Nat → List Value → St → (Option Value → St → Prop) → Prop} {KR : Option Value → St → Prop} (hgo : ∀ pc ls st σ, go pc ls st σ → AtA l G d g pc ls st σ post) (hd : decode g.2.1 pc = .ok (.iand, 1)) (hn : nx = pc + 1) (h : instP KD KR rt go .iand nx a b ts v ls st σ) : AtA l G d g pc ls st σ post := by
  subst hn
  simp only [instP] at h
  split at h
  · rename_i y x r
    intro p e s m args below meth c H locs lsA F hP hS hL
    have hx := F.1
    have hb := F.2.1
    refine lv_iand hx hb hd ?_
    exact hgo _ _ _ _ h p e s m args below meth c H locs lsA F hP hS hL
  · exact h.elim

theorem is_ior {nx a b : Nat} {ts : List (Int32 × Nat)} {v : Value} {rt : FieldType} {KD : Nat → List Value → St → (Option Value → St → Prop) → Prop} {KR : Option Value → St → Prop} (hgo : ∀ pc ls st σ, go pc ls st σ → AtA l G d g pc ls st σ post) (hd : decode g.2.1 pc = .ok (.ior, 1)) (hn : nx = pc + 1) (h : instP KD KR rt go .ior nx a b ts v ls st σ) : AtA l G d g pc ls st σ post := by
  subst hn
  simp only [instP] at h
  split at h
  · rename_i y x r
    intro p e s m args below meth c H locs lsA F hP hS hL
    have hx := F.1
    have hb := F.2.1
    refine lv_ior hx hb hd ?_
    exact hgo _ _ _ _ h p e s m args below meth c H locs lsA F hP hS hL
  · exact h.elim

theorem is_ixor {nx a b : Nat} {ts : List (Int32 × Nat)} {v : Value} {rt : FieldType} {KD : Nat → List Value → St → (Option Value → St → Prop) → Prop} {KR : Option Value → St → Prop} (hgo : ∀ pc ls st σ, go pc ls st σ → AtA l G d g pc ls st σ post) (hd : decode g.2.1 pc = .ok (.ixor, 1)) (hn : nx = pc + 1) (h : instP KD KR rt go .ixor nx a b ts v ls st σ) : AtA l G d g pc ls st σ post := by
  subst hn
  simp only [instP] at h
  split at h
  · rename_i y x r
    intro p e s m args below meth c H locs lsA F hP hS hL
    have hx := F.1
    have hb := F.2.1
    refine lv_ixor hx hb hd ?_
    exact hgo _ _ _ _ h p e s m args below meth c H locs lsA F hP hS hL
  · exact h.elim

theorem is_ishl {nx a b : Nat} {ts : List (Int32 × Nat)} {v : Value} {rt : FieldType} {KD : Nat → List Value → St → (Option Value → St → Prop) → Prop} {KR : Option Value → St → Prop} (hgo : ∀ pc ls st σ, go pc ls st σ → AtA l G d g pc ls st σ post) (hd : decode g.2.1 pc = .ok (.ishl, 1)) (hn : nx = pc + 1) (h : instP KD KR rt go .ishl nx a b ts v ls st σ) : AtA l G d g pc ls st σ post := by
  subst hn
  simp only [instP] at h
  split at h
  · rename_i y x r
    intro p e s m args below meth c H locs lsA F hP hS hL
    have hx := F.1
    have hb := F.2.1
    refine lv_ishl hx hb hd ?_
    exact hgo _ _ _ _ h p e s m args below meth c H locs lsA F hP hS hL
  · exact h.elim

theorem is_ishr {nx a b : Nat} {ts : List (Int32 × Nat)} {v : Value} {rt : FieldType} {KD : Nat → List Value → St → (Option Value → St → Prop) → Prop} {KR : Option Value → St → Prop} (hgo : ∀ pc ls st σ, go pc ls st σ → AtA l G d g pc ls st σ post) (hd : decode g.2.1 pc = .ok (.ishr, 1)) (hn : nx = pc + 1) (h : instP KD KR rt go .ishr nx a b ts v ls st σ) : AtA l G d g pc ls st σ post := by
  subst hn
  simp only [instP] at h
  split at h
  · rename_i y x r
    intro p e s m args below meth c H locs lsA F hP hS hL
    have hx := F.1
    have hb := F.2.1
    refine lv_ishr hx hb hd ?_
    exact hgo _ _ _ _ h p e s m args below meth c H locs lsA F hP hS hL
  · exact h.elim

theorem is_ladd {nx a b : Nat} {ts : List (Int32 × Nat)} {v : Value} {rt : FieldType} {KD : Nat → List Value → St → (Option Value → St → Prop) → Prop} {KR : Option Value → St → Prop} (hgo : ∀ pc ls st σ, go pc ls st σ → AtA l G d g pc ls st σ post) (hd : decode g.2.1 pc = .ok (.ladd, 1)) (hn : nx = pc + 1) (h : instP KD KR rt go .ladd nx a b ts v ls st σ) : AtA l G d g pc ls st σ post := by
  subst hn
  simp only [instP] at h
  split at h
  · rename_i y x r
    intro p e s m args below meth c H locs lsA F hP hS hL
    have hx := F.1
    have hb := F.2.1
    refine lv_ladd hx hb hd ?_
    exact hgo _ _ _ _ h p e s m args below meth c H locs lsA F hP hS hL
  · exact h.elim

theorem is_lsub {nx a b : Nat} {ts : List (Int32 × Nat)} {v : Value} {rt : FieldType} {KD : Nat → List Value → St → (Option Value → St → Prop) → Prop} {KR : Option Value → St → Prop} (hgo : ∀ pc ls st σ, go pc ls st σ → AtA l G d g pc ls st σ post) (hd : decode g.2.1 pc = .ok (.lsub, 1)) (hn : nx = pc + 1) (h : instP KD KR rt go .lsub nx a b ts v ls st σ) : AtA l G d g pc ls st σ post := by
  subst hn
  simp only [instP] at h
  split at h
  · rename_i y x r
    intro p e s m args below meth c H locs lsA F hP hS hL
    have hx := F.1
    have hb := F.2.1
    refine lv_lsub hx hb hd ?_
    exact hgo _ _ _ _ h p e s m args below meth c H locs lsA F hP hS hL
  · exact h.elim

theorem is_lmul {nx a b : Nat} {ts : List (Int32 × Nat)} {v : Value} {rt : FieldType} {KD : Nat → List Value → St → (Option Value → St → Prop) → Prop} {KR : Option Value → St → Prop} (hgo : ∀ pc ls st σ, go pc ls st σ → AtA l G d g pc ls st σ post) (hd : decode g.2.1 pc = .ok (.lmul, 1)) (hn : nx = pc + 1) (h : instP KD KR rt go .lmul nx a b ts v ls st σ) : AtA l G d g pc ls st σ post := by
  subst hn
  simp only [instP] at h
  split at h
  · rename_i y x r
    intro p e s m args below meth c H locs lsA F hP hS hL
    have hx := F.1
    have hb := F.2.1
    refine lv_lmul hx hb hd ?_
    exact hgo _ _ _ _ h p e s m args below meth c H locs lsA F hP hS hL
  · exact h.elim

theorem is_land {nx a b : Nat} {ts : List (Int32 × Nat)} {v : Value} {rt : FieldType} {KD : Nat → List Value → St → (Option Value → St → Prop) → Prop} {KR : Option Value → St → Prop} (hgo : ∀ pc ls st σ, go pc ls st σ → AtA l G d g pc ls st σ post) (hd : decode g.2.1 pc = .ok (.land, 1)) (hn : nx = pc + 1) (h : instP KD KR rt go .land nx a b ts v ls st σ) : AtA l G d g pc ls st σ post := by
  subst hn
  simp only [instP] at h
  split at h
  · rename_i y x r
    intro p e s m args below meth c H locs lsA F hP hS hL
    have hx := F.1
    have hb := F.2.1
    refine lv_land hx hb hd ?_
    exact hgo _ _ _ _ h p e s m args below meth c H locs lsA F hP hS hL
  · exact h.elim

theorem is_idiv {nx a b : Nat} {ts : List (Int32 × Nat)} {v : Value} {rt : FieldType} {KD : Nat → List Value → St → (Option Value → St → Prop) → Prop} {KR : Option Value → St → Prop} (hgo : ∀ pc ls st σ, go pc ls st σ → AtA l G d g pc ls st σ post) (hd : decode g.2.1 pc = .ok (.idiv, 1)) (hn : nx = pc + 1) (h : instP KD KR rt go .idiv nx a b ts v ls st σ) : AtA l G d g pc ls st σ post := by
  subst hn
  simp only [instP] at h
  split at h
  · rename_i y x r
    intro p e s m args below meth c H locs lsA F hP hS hL
    have hx := F.1
    have hb := F.2.1
    obtain ⟨h0, h⟩ := h
    refine lv_idiv hx hb hd h0 ?_
    exact hgo _ _ _ _ h p e s m args below meth c H locs lsA F hP hS hL
  · exact h.elim

theorem is_irem {nx a b : Nat} {ts : List (Int32 × Nat)} {v : Value} {rt : FieldType} {KD : Nat → List Value → St → (Option Value → St → Prop) → Prop} {KR : Option Value → St → Prop} (hgo : ∀ pc ls st σ, go pc ls st σ → AtA l G d g pc ls st σ post) (hd : decode g.2.1 pc = .ok (.irem, 1)) (hn : nx = pc + 1) (h : instP KD KR rt go .irem nx a b ts v ls st σ) : AtA l G d g pc ls st σ post := by
  subst hn
  simp only [instP] at h
  split at h
  · rename_i y x r
    intro p e s m args below meth c H locs lsA F hP hS hL
    have hx := F.1
    have hb := F.2.1
    obtain ⟨h0, h⟩ := h
    refine lv_irem hx hb hd h0 ?_
    exact hgo _ _ _ _ h p e s m args below meth c H locs lsA F hP hS hL
  · exact h.elim

theorem is_iushr {nx a b : Nat} {ts : List (Int32 × Nat)} {v : Value} {rt : FieldType} {KD : Nat → List Value → St → (Option Value → St → Prop) → Prop} {KR : Option Value → St → Prop} (hgo : ∀ pc ls st σ, go pc ls st σ → AtA l G d g pc ls st σ post) (hd : decode g.2.1 pc = .ok (.iushr, 1)) (hn : nx = pc + 1) (h : instP KD KR rt go .iushr nx a b ts v ls st σ) : AtA l G d g pc ls st σ post := by
  subst hn
  simp only [instP] at h
  split at h
  · rename_i y x r
    intro p e s m args below meth c H locs lsA F hP hS hL
    have hx := F.1
    have hb := F.2.1
    refine lv_iushr hx hb hd rfl ?_
    exact hgo _ _ _ _ h p e s m args below meth c H locs lsA F hP hS hL
  · exact h.elim

theorem is_lshr {nx a b : Nat} {ts : List (Int32 × Nat)} {v : Value} {rt : FieldType} {KD : Nat → List Value → St → (Option Value → St → Prop) → Prop} {KR : Option Value → St → Prop} (hgo : ∀ pc ls st σ, go pc ls st σ → AtA l G d g pc ls st σ post) (hd : decode g.2.1 pc = .ok (.lshr, 1)) (hn : nx = pc + 1) (h : instP KD KR rt go .lshr nx a b ts v ls st σ) : AtA l G d g pc ls st σ post := by
  subst hn
  simp only [instP] at h
  split at h
  · rename_i y x r
    intro p e s m args below meth c H locs lsA F hP hS hL
    have hx := F.1
    have hb := F.2.1
    refine lv_lshr hx hb hd rfl ?_
    exact hgo _ _ _ _ h p e s m args below meth c H locs lsA F hP hS hL
  · exact h.elim

theorem is_lcmp {nx a b : Nat} {ts : List (Int32 × Nat)} {v : Value} {rt : FieldType} {KD : Nat → List Value → St → (Option Value → St → Prop) → Prop} {KR : Option Value → St → Prop} (hgo : ∀ pc ls st σ, go pc ls st σ → AtA l G d g pc ls st σ post) (hd : decode g.2.1 pc = .ok (.lcmp, 1)) (hn : nx = pc + 1) (h : instP KD KR rt go .lcmp nx a b ts v ls st σ) : AtA l G d g pc ls st σ post := by
  subst hn
  simp only [instP] at h
  split at h
  · rename_i y x r
    intro p e s m args below meth c H locs lsA F hP hS hL
    have hx := F.1
    have hb := F.2.1
    refine W.lcmp hx hb hd ?_
    exact hgo _ _ _ _ h p e s m args below meth c H locs lsA F hP hS hL
  · exact h.elim

theorem is_i2c {nx a b : Nat} {ts : List (Int32 × Nat)} {v : Value} {rt : FieldType} {KD : Nat → List Value → St → (Option Value → St → Prop) → Prop} {KR : Option Value → St → Prop} (hgo : ∀ pc ls st σ, go pc ls st σ → AtA l G d g pc ls st σ post) (hd : decode g.2.1 pc = .ok (.i2c, 1)) (hn : nx = pc + 1) (h : instP KD KR rt go .i2c nx a b ts v ls st σ) : AtA l G d g pc ls st σ post := by
  subst hn
  simp only [instP] at h
  split at h
  · rename_i x r
    intro p e s m args below meth c H locs lsA F hP hS hL
    have hx := F.1
    have hb := F.2.1
    refine lv_i2c hx hb hd rfl ?_
    exact hgo _ _ _ _ h p e s m args below meth c H locs lsA F hP hS hL
  · exact h.elim

theorem is_i2l {nx a b : Nat} {ts : List (Int32 × Nat)} {v : Value} {rt : FieldType} {KD : Nat → List Value → St → (Option Value → St → Prop) → Prop} {KR : Option Value → St → Prop} (hgo : ∀ pc ls st σ, go pc ls st σ → AtA l G d g pc ls st σ post) (hd : decode g.2.1 pc = .ok (.i2l, 1)) (hn : nx = pc + 1) (h : instP KD KR rt go .i2l nx a b ts v ls st σ) : AtA l G d g pc ls st σ post := by
  subst hn
  simp only [instP] at h
  split at h
  · rename_i x r
    intro p e s m args below meth c H locs lsA F hP hS hL
    have hx := F.1
    have hb := F.2.1
    refine lv_i2l hx hb hd rfl ?_
    exact hgo _ _ _ _ h p e s m args below meth c H locs lsA F hP hS hL
  · exact h.elim

theorem is_l2i {nx a b : Nat} {ts : List (Int32 × Nat)} {v : Value} {rt : FieldType} {KD : Nat → List Value → St → (Option Value → St → Prop) → Prop} {KR : Option Value → St → Prop} (hgo : ∀ pc ls st σ, go pc ls st σ → AtA l G d g pc ls st σ post) (hd : decode g.2.1 pc = .ok (.l2i, 1)) (hn : nx = pc + 1) (h : instP KD KR rt go .l2i nx a b ts v ls st σ) : AtA l G d g pc ls st σ post := by
  subst hn
  simp only [instP] at h
  split at h
  · rename_i x r
    intro p e s m args below meth c H locs lsA F hP hS hL
    have hx := F.1
    have hb := F.2.1
    refine lv_l2i hx hb hd rfl ?_
    exact hgo _ _ _ _ h p e s m args below meth c H locs lsA F hP hS hL
  · exact h.elim

theorem is_pop {nx a b : Nat} {ts : List (Int32 × Nat)} {v : Value} {rt : FieldType} {KD : Nat → List Value → St → (Option Value → St → Prop) → Prop} {KR : Option Value → St → Prop} (hgo : ∀ pc ls st σ, go pc ls st σ → AtA l G d g pc ls st σ post) (hd : decode g.2.1 pc = .ok (.pop, 1)) (hn : nx = pc + 1) (h : instP KD KR rt go .pop nx a b ts v ls st σ) : AtA l G d g pc ls st σ post := by
  subst hn
  simp only [instP] at h
  split at h
  · rename_i x r
    intro p e s m args below meth c H locs lsA F hP hS hL
    have hx := F.1
    have hb := F.2.1
    refine lv_pop hx hb hd rfl ?_
    exact hgo _ _ _ _ h p e s m args below meth c H locs lsA F hP hS hL
  · exact h.elim

theorem is_dup2 {nx a b : Nat} {ts : List (Int32 × Nat)} {v : Value} {rt : FieldType} {KD : Nat → List Value → St → (Option Value → St → Prop) → Prop} {KR : Option Value → St → Prop} (hgo : ∀ pc ls st σ, go pc ls st σ → AtA l G d g pc ls st σ post) (hd : decode g.2.1 pc = .ok (.dup2, 1)) (hn : nx = pc + 1) (h : instP KD KR rt go .dup2 nx a b ts v ls st σ) : AtA l G d g pc ls st σ post := by
  subst hn
  simp only [instP] at h
  split at h
  · rename_i y x r
    intro p e s m args below meth c H locs lsA F hP hS hL
    have hx := F.1
    have hb := F.2.1
    refine lv_dup2_11 hx hb hd rfl rfl ?_
    exact hgo _ _ _ _ h p e s m args below meth c H locs lsA F hP hS hL
  · exact h.elim

theorem is_iconst {nx a b : Nat} {ts : List (Int32 × Nat)} {v : Value} {rt : FieldType} {KD : Nat → List Value → St → (Option Value → St → Prop) → Prop} {KR : Option Value → St → Prop} {n : Int} (hgo : ∀ pc ls st σ, go pc ls st σ → AtA l G d g pc ls st σ post) (hd : decode g.2.1 pc = .ok (.iconst n, 1)) (hn : nx = pc + 1) (hv : v = .int (Int32.ofInt n)) (h : instP KD KR rt go (.iconst n) nx a b ts v ls st σ) : AtA l G d g pc ls st σ post := by
  subst hn
  subst hv
  intro p e s m args below meth c H locs lsA F hP hS hL
  have hx := F.1
  have hb := F.2.1
  refine lv_iconst hx hb hd rfl ?_
  exact hgo _ _ _ _ h p e s m args below meth c H locs lsA F hP hS hL
theorem is_bipush {nx a b : Nat} {ts : List (Int32 × Nat)} {v : Value} {rt : FieldType} {KD : Nat → List Value → St → (Option Value → St → Prop) → Prop} {KR : Option Value → St → Prop} {n : Int} (hgo : ∀ pc ls st σ, go pc ls st σ → AtA l G d g pc ls st σ post) (hd : decode g.2.1 pc = .ok (.bipush n, 2)) (hn : nx = pc + 2) (hv : v = .int ((Int8.ofInt n).toInt32)) (h : instP KD KR rt go (.bipush n) nx a b ts v ls st σ) : AtA l G d g pc ls st σ post := by
  subst hn
  subst hv
  intro p e s m args below meth c H locs lsA F hP hS hL
  have hx := F.1
  have hb := F.2.1
  refine lv_bipush hx hb hd rfl ?_
  exact hgo _ _ _ _ h p e s m args below meth c H locs lsA F hP hS hL
theorem is_sipush {nx a b : Nat} {ts : List (Int32 × Nat)} {v : Value} {rt : FieldType} {KD : Nat → List Value → St → (Option Value → St → Prop) → Prop} {KR : Option Value → St → Prop} {n : Int} (hgo : ∀ pc ls st σ, go pc ls st σ → AtA l G d g pc ls st σ post) (hd : decode g.2.1 pc = .ok (.sipush n, 3)) (hn : nx = pc + 3) (hv : v = .int ((Int16.ofInt n).toInt32)) (h : instP KD KR rt go (.sipush n) nx a b ts v ls st σ) : AtA l G d g pc ls st σ post := by
  subst hn
  subst hv
  intro p e s m args below meth c H locs lsA F hP hS hL
  have hx := F.1
  have hb := F.2.1
  refine lv_sipush hx hb hd rfl ?_
  exact hgo _ _ _ _ h p e s m args below meth c H locs lsA F hP hS hL
theorem is_lconst {nx a b : Nat} {ts : List (Int32 × Nat)} {v : Value} {rt : FieldType} {KD : Nat → List Value → St → (Option Value → St → Prop) → Prop} {KR : Option Value → St → Prop} {n : Fin 2} (hgo : ∀ pc ls st σ, go pc ls st σ → AtA l G d g pc ls st σ post) (hd : decode g.2.1 pc = .ok (.lconst n, 1)) (hn : nx = pc + 1) (hv : v = .long (Int64.ofNat n.val)) (h : instP KD KR rt go (.lconst n) nx a b ts v ls st σ) : AtA l G d g pc ls st σ post := by
  subst hn
  subst hv
  intro p e s m args below meth c H locs lsA F hP hS hL
  have hx := F.1
  have hb := F.2.1
  refine lv_lconst hx hb hd rfl ?_
  exact hgo _ _ _ _ h p e s m args below meth c H locs lsA F hP hS hL
theorem is_ldc {nx a b : Nat} {ts : List (Int32 × Nat)} {v : Value} {rt : FieldType} {KD : Nat → List Value → St → (Option Value → St → Prop) → Prop} {KR : Option Value → St → Prop} {i idx : Nat} (hgo : ∀ pc ls st σ, go pc ls st σ → AtA l G d g pc ls st σ post) (hd : decode g.2.1 pc = .ok (.ldc idx, 2)) (hn : nx = pc + 2) (ho : g.1.cls = RX3) (hi : i < 9) (hk : sIdx.getD i 0 = idx) (hv : v = .ref (100 + i)) (h : instP KD KR rt go (.ldc idx) nx a b ts v ls st σ) : AtA l G d g pc ls st σ post := by
  subst hn
  subst hv
  subst hk
  intro p e s m args below meth c H locs lsA F hP hS hL
  have hx := F.1
  have hb := F.2.1
  refine va_ldcS hx hb F.2.2.2.1 (by rw [ho]; exact F.2.2.2.2.2.2.2.2.2.2.1 i hi) hd ?_
  exact hgo _ _ _ _ h p e s m args below meth c H locs lsA F hP hS hL
theorem is_ldc_w {nx a b : Nat} {ts : List (Int32 × Nat)} {v : Value} {rt : FieldType} {KD : Nat → List Value → St → (Option Value → St → Prop) → Prop} {KR : Option Value → St → Prop} {x : Int32} {idx : Nat} (hgo : ∀ pc ls st σ, go pc ls st σ → AtA l G d g pc ls st σ post) (hd : decode g.2.1 pc = .ok (.ldc_w idx, 3)) (hn : nx = pc + 3) (hw : Cond.constant g.1.cls idx x ∈ gtbl) (hv : v = .int x) (h : instP KD KR rt go (.ldc_w idx) nx a b ts v ls st σ) : AtA l G d g pc ls st σ post := by
  subst hn
  subst hv
  intro p e s m args below meth c H locs lsA F hP hS hL
  have hx := F.1
  have hb := F.2.1
  refine lv_ldcw hx hb F.2.2.2.1 (F.2.2.2.2.1 _ hw) hd ?_
  exact hgo _ _ _ _ h p e s m args below meth c H locs lsA F hP hS hL
theorem is_ldc2_w {nx a b : Nat} {ts : List (Int32 × Nat)} {v : Value} {rt : FieldType} {KD : Nat → List Value → St → (Option Value → St → Prop) → Prop} {KR : Option Value → St → Prop} {x : Int64} {idx : Nat} (hgo : ∀ pc ls st σ, go pc ls st σ → AtA l G d g pc ls st σ post) (hd : decode g.2.1 pc = .ok (.ldc2_w idx, 3)) (hn : nx = pc + 3) (hw : Cond.constantLong g.1.cls idx x ∈ gtbl) (hv : v = .long x) (h : instP KD KR rt go (.ldc2_w idx) nx a b ts v ls st σ) : AtA l G d g pc ls st σ post := by
  subst hn
  subst hv
  intro p e s m args below meth c H locs lsA F hP hS hL
  have hx := F.1
  have hb := F.2.1
  refine lv_ldc2 hx hb F.2.2.2.1 (F.2.2.2.2.1 _ hw) hd ?_
  exact hgo _ _ _ _ h p e s m args below meth c H locs lsA F hP hS hL
theorem is_getstatic0 {nx a b : Nat} {ts : List (Int32 × Nat)} {v : Value} {rt : FieldType} {KD : Nat → List Value → St → (Option Value → St → Prop) → Prop} {KR : Option Value → St → Prop} {idx : Nat} (hgo : ∀ pc ls st σ, go pc ls st σ → AtA l G d g pc ls st σ post) (hd : decode g.2.1 pc = .ok (.getstatic idx, 3)) (hn : nx = pc + 3) (hw : Cond.fieldLink g.1.cls idx "java/lang/String" "COMPACT_STRINGS" "Z" ∈ gtbl) (hv : v = .int 1) (h : instP KD KR rt go (.getstatic idx) nx a b ts v ls st σ) : AtA l G d g pc ls st σ post := by
  subst hn
  subst hv
  intro p e s m args below meth c H locs lsA F hP hS hL
  have hx := F.1
  have hb := F.2.1
  refine va_gets hx hb F.2.2.2.2.2.2.2.2.2.2.2.1 hS F.2.2.2.1 (F.2.2.2.2.1 _ hw) (fun _ h9 => h9) hd ?_
  exact hgo _ _ _ _ h p e s m args below meth c H locs lsA F hP hS hL
theorem is_getstatic1 {nx a b : Nat} {ts : List (Int32 × Nat)} {v : Value} {rt : FieldType} {KD : Nat → List Value → St → (Option Value → St → Prop) → Prop} {KR : Option Value → St → Prop} {idx : Nat} (hgo : ∀ pc ls st σ, go pc ls st σ → AtA l G d g pc ls st σ post) (hd : decode g.2.1 pc = .ok (.getstatic idx, 3)) (hn : nx = pc + 3) (hw : Cond.fieldLink g.1.cls idx "jdk/internal/util/Preconditions" "SIOOBE_FORMATTER" "Ljava/util/function/BiFunction;" ∈ gtbl) (hv : v = .ref 300) (h : instP KD KR rt go (.getstatic idx) nx a b ts v ls st σ) : AtA l G d g pc ls st σ post := by
  subst hn
  subst hv
  intro p e s m args below meth c H locs lsA F hP hS hL
  have hx := F.1
  have hb := F.2.1
  refine va_gets hx hb F.2.2.2.2.2.2.2.2.2.2.2.2 hS F.2.2.2.1 (F.2.2.2.2.1 _ hw) (fun _ h9 => h9) hd ?_
  exact hgo _ _ _ _ h p e s m args below meth c H locs lsA F hP hS hL
theorem is_iload {nx a b : Nat} {ts : List (Int32 × Nat)} {v : Value} {rt : FieldType} {KD : Nat → List Value → St → (Option Value → St → Prop) → Prop} {KR : Option Value → St → Prop} {i : Nat} (hgo : ∀ pc ls st σ, go pc ls st σ → AtA l G d g pc ls st σ post) (hd : decode g.2.1 pc = .ok (.iload i, 2)) (hn : nx = pc + 2) (ha : a = i) (h : instP KD KR rt go (.iload i) nx a b ts v ls st σ) : AtA l G d g pc ls st σ post := by
  subst hn
  subst ha
  simp only [instP] at h
  split at h
  · rename_i x hla
    intro p e s m args below meth c H locs lsA F hP hS hL
    have hx := F.1
    have hb := F.2.1
    refine lv_iload hx hb hd (lh_at hL hla (fun z => by cases z)) ?_
    exact hgo _ _ _ _ h p e s m args below meth c H locs lsA F hP hS hL
  · exact h.elim
theorem is_aload {nx a b : Nat} {ts : List (Int32 × Nat)} {v : Value} {rt : FieldType} {KD : Nat → List Value → St → (Option Value → St → Prop) → Prop} {KR : Option Value → St → Prop} {i : Nat} (hgo : ∀ pc ls st σ, go pc ls st σ → AtA l G d g pc ls st σ post) (hd : decode g.2.1 pc = .ok (.aload i, 2)) (hn : nx = pc + 2) (ha : a = i) (h : instP KD KR rt go (.aload i) nx a b ts v ls st σ) : AtA l G d g pc ls st σ post := by
  subst hn
  subst ha
  simp only [instP] at h
  split at h
  · rename_i x hla
    intro p e s m args below meth c H locs lsA F hP hS hL
    have hx := F.1
    have hb := F.2.1
    refine lv_aload hx hb hd (lh_at hL hla (fun z => by cases z)) ?_
    exact hgo _ _ _ _ h p e s m args below meth c H locs lsA F hP hS hL
  · exact h.elim
theorem is_iload_n {nx a b : Nat} {ts : List (Int32 × Nat)} {v : Value} {rt : FieldType} {KD : Nat → List Value → St → (Option Value → St → Prop) → Prop} {KR : Option Value → St → Prop} {k : Fin 4} (hgo : ∀ pc ls st σ, go pc ls st σ → AtA l G d g pc ls st σ post) (hd : decode g.2.1 pc = .ok (.iload_n k, 1)) (hn : nx = pc + 1) (ha : a = k.val) (h : instP KD KR rt go (.iload_n k) nx a b ts v ls st σ) : AtA l G d g pc ls st σ post := by
  subst hn
  subst ha
  simp only [instP] at h
  split at h
  · rename_i x hla
    intro p e s m args below meth c H locs lsA F hP hS hL
    have hx := F.1
    have hb := F.2.1
    refine lv_iload_n hx hb hd rfl (lh_at hL hla (fun z => by cases z)) ?_
    exact hgo _ _ _ _ h p e s m args below meth c H locs lsA F hP hS hL
  · exact h.elim
theorem is_aload_n {nx a b : Nat} {ts : List (Int32 × Nat)} {v : Value} {rt : FieldType} {KD : Nat → List Value → St → (Option Value → St → Prop) → Prop} {KR : Option Value → St → Prop} {k : Fin 4} (hgo : ∀ pc ls st σ, go pc ls st σ → AtA l G d g pc ls st σ post) (hd : decode g.2.1 pc = .ok (.aload_n k, 1)) (hn : nx = pc + 1) (ha : a = k.val) (h : instP KD KR rt go (.aload_n k) nx a b ts v ls st σ) : AtA l G d g pc ls st σ post := by
  subst hn
  subst ha
  simp only [instP] at h
  split at h
  · rename_i x hla
    intro p e s m args below meth c H locs lsA F hP hS hL
    have hx := F.1
    have hb := F.2.1
    refine lv_aload_n hx hb hd rfl (lh_at hL hla (fun z => by cases z)) ?_
    exact hgo _ _ _ _ h p e s m args below meth c H locs lsA F hP hS hL
  · exact h.elim
theorem is_lload_n {nx a b : Nat} {ts : List (Int32 × Nat)} {v : Value} {rt : FieldType} {KD : Nat → List Value → St → (Option Value → St → Prop) → Prop} {KR : Option Value → St → Prop} {k : Fin 4} (hgo : ∀ pc ls st σ, go pc ls st σ → AtA l G d g pc ls st σ post) (hd : decode g.2.1 pc = .ok (.lload_n k, 1)) (hn : nx = pc + 1) (ha : a = k.val) (h : instP KD KR rt go (.lload_n k) nx a b ts v ls st σ) : AtA l G d g pc ls st σ post := by
  subst hn
  subst ha
  simp only [instP] at h
  split at h
  · rename_i x hla
    intro p e s m args below meth c H locs lsA F hP hS hL
    have hx := F.1
    have hb := F.2.1
    refine lv_lload_n hx hb hd rfl (lh_at hL hla (fun z => by cases z)) ?_
    exact hgo _ _ _ _ h p e s m args below meth c H locs lsA F hP hS hL
  · exact h.elim
theorem is_istore {nx a b : Nat} {ts : List (Int32 × Nat)} {v : Value} {rt : FieldType} {KD : Nat → List Value → St → (Option Value → St → Prop) → Prop} {KR : Option Value → St → Prop} {i : Nat} (hgo : ∀ pc ls st σ, go pc ls st σ → AtA l G d g pc ls st σ post) (hd : decode g.2.1 pc = .ok (.istore i, 2)) (hn : nx = pc + 2) (ha : a = i) (h : instP KD KR rt go (.istore i) nx a b ts v ls st σ) : AtA l G d g pc ls st σ post := by
  subst hn
  subst ha
  simp only [instP] at h
  split at h
  · rename_i x r
    obtain ⟨h0, h⟩ := cond_t h
    intro p e s m args below meth c H locs lsA F hP hS hL
    have hx := F.1
    have hb := F.2.1
    refine lv_istore hx hb hd (lh_prs hL) (ok_lt hL h0) rfl (fun lsB hB => ?_)
    exact hgo _ _ _ _ h p e s m args below meth c H locs lsB F hP hS (lh_set (w := .int x) hL h0 hB)
  · exact h.elim
theorem is_istore_n {nx a b : Nat} {ts : List (Int32 × Nat)} {v : Value} {rt : FieldType} {KD : Nat → List Value → St → (Option Value → St → Prop) → Prop} {KR : Option Value → St → Prop} {k : Fin 4} (hgo : ∀ pc ls st σ, go pc ls st σ → AtA l G d g pc ls st σ post) (hd : decode g.2.1 pc = .ok (.istore_n k, 1)) (hn : nx = pc + 1) (ha : a = k.val) (h : instP KD KR rt go (.istore_n k) nx a b ts v ls st σ) : AtA l G d g pc ls st σ post := by
  subst hn
  subst ha
  simp only [instP] at h
  split at h
  · rename_i x r
    obtain ⟨h0, h⟩ := cond_t h
    intro p e s m args below meth c H locs lsA F hP hS hL
    have hx := F.1
    have hb := F.2.1
    refine lv_istore_n hx hb hd rfl (lh_prs hL) (ok_lt hL h0) rfl (fun lsB hB => ?_)
    exact hgo _ _ _ _ h p e s m args below meth c H locs lsB F hP hS (lh_set (w := .int x) hL h0 hB)
  · exact h.elim
theorem is_iinc {nx a b : Nat} {ts : List (Int32 × Nat)} {v : Value} {rt : FieldType} {KD : Nat → List Value → St → (Option Value → St → Prop) → Prop} {KR : Option Value → St → Prop} {i : Nat} {n : Int} (hgo : ∀ pc ls st σ, go pc ls st σ → AtA l G d g pc ls st σ post) (hd : decode g.2.1 pc = .ok (.iinc i n, 3)) (hn : nx = pc + 3) (ha : a = i) (hv : v = .int (Int32.ofInt n)) (h : instP KD KR rt go (.iinc i n) nx a b ts v ls st σ) : AtA l G d g pc ls st σ post := by
  subst hn
  subst ha
  subst hv
  simp only [instP] at h
  split at h
  · rename_i x hla
    obtain ⟨h0, h⟩ := cond_t h
    intro p e s m args below meth c H locs lsA F hP hS hL
    have hx := F.1
    have hb := F.2.1
    have hm : (a, vmp G (.int x)) ∈ prs G ls := prs_mem.mpr ⟨_, hla, (fun z => by cases z), rfl⟩
    obtain ⟨k, hk⟩ := List.getElem?_of_mem hm
    refine lv_iinc hx hb hd (lh_prs hL) hk rfl (ok_lt hL h0) rfl (fun lsB hB => ?_)
    exact hgo _ _ _ _ h p e s m args below meth c H locs lsB F hP hS (lh_set (w := .int (x + Int32.ofInt n)) hL h0 hB)
  · exact h.elim
theorem is_dup {nx a b : Nat} {ts : List (Int32 × Nat)} {v : Value} {rt : FieldType} {KD : Nat → List Value → St → (Option Value → St → Prop) → Prop} {KR : Option Value → St → Prop} (hgo : ∀ pc ls st σ, go pc ls st σ → AtA l G d g pc ls st σ post) (hd : decode g.2.1 pc = .ok (.dup, 1)) (hn : nx = pc + 1)  (h : instP KD KR rt go (.dup) nx a b ts v ls st σ) : AtA l G d g pc ls st σ post := by
  subst hn
  simp only [instP] at h
  split at h
  · rename_i x r
    intro p e s m args below meth c H locs lsA F hP hS hL
    have hx := F.1
    have hb := F.2.1
    refine lv_dup hx hb hd rfl ?_
    exact hgo _ _ _ _ h p e s m args below meth c H locs lsA F hP hS hL
  · rename_i x r
    intro p e s m args below meth c H locs lsA F hP hS hL
    have hx := F.1
    have hb := F.2.1
    refine lv_dup hx hb hd rfl ?_
    exact hgo _ _ _ _ h p e s m args below meth c H locs lsA F hP hS hL
  · exact h.elim
theorem is_goto {nx a b : Nat} {ts : List (Int32 × Nat)} {v : Value} {rt : FieldType} {KD : Nat → List Value → St → (Option Value → St → Prop) → Prop} {KR : Option Value → St → Prop} {off : Int} (hgo : ∀ pc ls st σ, go pc ls st σ → AtA l G d g pc ls st σ post) (hd : decode g.2.1 pc = .ok (.goto off, 3)) (hn : nx = pc + 3) (ht : (pc : Int) + off = (a : Int)) (h : instP KD KR rt go (.goto off) nx a b ts v ls st σ) : AtA l G d g pc ls st σ post := by
  intro p e s m args below meth c H locs lsA F hP hS hL
  have hx := F.1
  have hb := F.2.1
  refine lv_goto hx hb hd ht ?_
  exact hgo _ _ _ _ h p e s m args below meth c H locs lsA F hP hS hL
theorem is_ifCond {nx a b : Nat} {ts : List (Int32 × Nat)} {v : Value} {rt : FieldType} {KD : Nat → List Value → St → (Option Value → St → Prop) → Prop} {KR : Option Value → St → Prop} {cc : Jvm.ClassFile.Cond} {off : Int} (hgo : ∀ pc ls st σ, go pc ls st σ → AtA l G d g pc ls st σ post) (hd : decode g.2.1 pc = .ok (.ifCond cc off, 3)) (hn : nx = pc + 3) (ht : (pc : Int) + off = (a : Int)) (h : instP KD KR rt go (.ifCond cc off) nx a b ts v ls st σ) : AtA l G d g pc ls st σ post := by
  subst hn
  simp only [instP] at h
  split at h
  · rename_i x r
    intro p e s m args below meth c H locs lsA F hP hS hL
    have hx := F.1
    have hb := F.2.1
    cases cc with
    | eq => exact lv_if_eq hx hb hd ht (fun z => hgo _ _ _ _ (h.1 z) p e s m args below meth c H locs lsA F hP hS hL) (fun z => hgo _ _ _ _ (h.2 z) p e s m args below meth c H locs lsA F hP hS hL)
    | ne => exact lv_if_ne hx hb hd ht (fun z => hgo _ _ _ _ (h.2 z) p e s m args below meth c H locs lsA F hP hS hL) (fun z => hgo _ _ _ _ (h.1 z) p e s m args below meth c H locs lsA F hP hS hL)
    | lt => exact lv_if_lt hx hb hd ht (fun z => hgo _ _ _ _ (h.1 z) p e s m args below meth c H locs lsA F hP hS hL) (fun z => hgo _ _ _ _ (h.2 z) p e s m args below meth c H locs lsA F hP hS hL)
    | ge => exact lv_if_ge hx hb hd ht (fun z => hgo _ _ _ _ (h.2 (Int32.not_lt.mpr z)) p e s m args below meth c H locs lsA F hP hS hL) (fun z => hgo _ _ _ _ (h.1 (Int32.not_le.mp z)) p e s m args below meth c H locs lsA F hP hS hL)
    | gt => exact lv_if_gt hx hb hd ht (fun z => hgo _ _ _ _ (h.1 z) p e s m args below meth c H locs lsA F hP hS hL) (fun z => hgo _ _ _ _ (h.2 z) p e s m args below meth c H locs lsA F hP hS hL)
    | le => exact lv_if_le hx hb hd ht (fun z => hgo _ _ _ _ (h.2 (Int32.not_lt.mpr z)) p e s m args below meth c H locs lsA F hP hS hL) (fun z => hgo _ _ _ _ (h.1 (Int32.not_le.mp z)) p e s m args below meth c H locs lsA F hP hS hL)
  · exact h.elim
theorem is_if_icmp {nx a b : Nat} {ts : List (Int32 × Nat)} {v : Value} {rt : FieldType} {KD : Nat → List Value → St → (Option Value → St → Prop) → Prop} {KR : Option Value → St → Prop} {cc : Jvm.ClassFile.Cond} {off : Int} (hgo : ∀ pc ls st σ, go pc ls st σ → AtA l G d g pc ls st σ post) (hd : decode g.2.1 pc = .ok (.if_icmp cc off, 3)) (hn : nx = pc + 3) (ht : (pc : Int) + off = (a : Int)) (h : instP KD KR rt go (.if_icmp cc off) nx a b ts v ls st σ) : AtA l G d g pc ls st σ post := by
  subst hn
  simp only [instP] at h
  split at h
  · rename_i y x r
    intro p e s m args below meth c H locs lsA F hP hS hL
    have hx := F.1
    have hb := F.2.1
    cases cc with
    | eq => exact lv_icmp_eq hx hb hd ht (fun z => hgo _ _ _ _ (h.1 z) p e s m args below meth c H locs lsA F hP hS hL) (fun z => hgo _ _ _ _ (h.2 z) p e s m args below meth c H locs lsA F hP hS hL)
    | ne => exact lv_icmp_ne hx hb hd ht (fun z => hgo _ _ _ _ (h.2 z) p e s m args below meth c H locs lsA F hP hS hL) (fun z => hgo _ _ _ _ (h.1 z) p e s m args below meth c H locs lsA F hP hS hL)
    | lt => exact lv_icmp_lt hx hb hd ht (fun z => hgo _ _ _ _ (h.1 z) p e s m args below meth c H locs lsA F hP hS hL) (fun z => hgo _ _ _ _ (h.2 z) p e s m args below meth c H locs lsA F hP hS hL)
    | ge => exact lv_icmp_ge hx hb hd ht (fun z => hgo _ _ _ _ (h.2 (Int32.not_lt.mpr z)) p e s m args below meth c H locs lsA F hP hS hL) (fun z => hgo _ _ _ _ (h.1 (Int32.not_le.mp z)) p e s m args below meth c H locs lsA F hP hS hL)
    | gt => exact lv_icmp_gt hx hb hd ht (fun z => hgo _ _ _ _ (h.1 z) p e s m args below meth c H locs lsA F hP hS hL) (fun z => hgo _ _ _ _ (h.2 z) p e s m args below meth c H locs lsA F hP hS hL)
    | le => exact lv_icmp_le hx hb hd ht (fun z => hgo _ _ _ _ (h.2 (Int32.not_lt.mpr z)) p e s m args below meth c H locs lsA F hP hS hL) (fun z => hgo _ _ _ _ (h.1 (Int32.not_le.mp z)) p e s m args below meth c H locs lsA F hP hS hL)
  · exact h.elim
end IS
end
section
/-! fields, arrays, calls, ends -/
def layOK : Bool := (List.range 68).all (fun q => match lay q with
  | (0, c, fl) => (match cls[c]? with
    | some C => fl.length == C.2.2 && (List.range fl.length).all (fun k => match fl[k]? with
      | some 0 => decide (parseFieldDescriptor (C.2.1 k).2.2.1 = some .int)
      | some 1 => decide (parseFieldDescriptor (C.2.1 k).2.2.1 = some .long)
      | _ => true)
    | none => false)
  | _ => true)
theorem layOK_t : layOK = true := by decide +kernel
theorem lay_ok {q c k kd : Nat} {fl : List Nat} (h : lay q = (0, c, fl)) (hq : q < 68) (hk : fl[k]? = some kd) : ∃ C, cls[c]? = some C ∧ fl.length = C.2.2 ∧ (kd = 0 → parseFieldDescriptor (C.2.1 k).2.2.1 = some .int) ∧ (kd = 1 → parseFieldDescriptor (C.2.1 k).2.2.1 = some .long) := by
  have h1 := List.all_eq_true.mp layOK_t q (List.mem_range.mpr hq)
  simp only [h] at h1
  split at h1
  · rename_i C hC
    rw [Bool.and_eq_true] at h1
    refine ⟨C, hC, by simpa using h1.1, ?_⟩
    have h2 := List.all_eq_true.mp h1.2 k (List.mem_range.mpr (List.getElem?_eq_some_iff.mp hk).1)
    simp only [hk] at h2
    refine ⟨fun e => ?_, fun e => ?_⟩
    · subst e
      simpa using h2
    · subst e
      simpa using h2
  · exact absurd h1 (by simp)
def wsOK (c : vw_C) : Bool := (u_ws c.1 c.2.1 c.2.2).all (fun w => decide (w ∈ lw_tbl) && goodWord w)
theorem ws_in {c : vw_C} (h : wsOK c = true) : ∀ w ∈ u_ws c.1 c.2.1 c.2.2, w ∈ gtbl := by
  intro w hw
  have h1 := List.all_eq_true.mp h w hw
  rw [Bool.and_eq_true] at h1
  exact List.mem_filter.mpr ⟨of_decide_eq_true h1.1, h1.2⟩
theorem wsOK_0 : wsOK (RX0, TX0, 4) = true := by decide +kernel
theorem wsOK_1 : wsOK (RX1, TX1, 7) = true := by decide +kernel
theorem wsOK_2 : wsOK (RX2, TX2, 3) = true := by decide +kernel
theorem wsOK_3 : wsOK (RX3, TX3, 5) = true := by decide +kernel
theorem wsOK_4 : wsOK (RX4, TX4, 2) = true := by decide +kernel
theorem wsOK_5 : wsOK (RX5, TX5, 5) = true := by decide +kernel
theorem wsOK_6 : wsOK (RX6, TX6, 5) = true := by decide +kernel
theorem wsOK_7 : wsOK (RX7, TX7, 2) = true := by decide +kernel
theorem wsOK_8 : wsOK (RX8, TX8, 2) = true := by decide +kernel
theorem wsOK_9 : wsOK (RX9, TX9, 5) = true := by decide +kernel
theorem wsOK_10 : wsOK (RX10, TX10, 12) = true := by decide +kernel
theorem wsOK_11 : wsOK (RX11, TX11, 34) = true := by decide +kernel
def clOK (c : vw_C) : Prop := (∀ w ∈ u_ws c.1 c.2.1 c.2.2, w ∈ gtbl) ∧ (∃ ty0 : Nat → FieldType, ∀ k, k < c.2.2 → parseFieldDescriptor (c.2.1 k).2.2.1 = some (ty0 k)) ∧ ∀ a, a < c.2.2 → ∀ b, b < c.2.2 → a ≠ b → (c.2.1 a).2.1 ≠ (c.2.1 b).2.1
theorem cl_ok : ∀ c ∈ cls, clOK c := by
  refine List.forall_mem_cons.mpr ⟨⟨ws_in wsOK_0, ⟨tyX0, tyX0_ok⟩, nmX0⟩, List.forall_mem_cons.mpr ⟨⟨ws_in wsOK_1, ⟨tyX1, tyX1_ok⟩, nmX1⟩, List.forall_mem_cons.mpr ⟨⟨ws_in wsOK_2, ⟨tyX2, tyX2_ok⟩, nmX2⟩, List.forall_mem_cons.mpr ⟨⟨ws_in wsOK_3, ⟨tyX3, tyX3_ok⟩, nmX3⟩, List.forall_mem_cons.mpr ⟨⟨ws_in wsOK_4, ⟨tyX4, tyX4_ok⟩, nmX4⟩, List.forall_mem_cons.mpr ⟨⟨ws_in wsOK_5, ⟨tyX5, tyX5_ok⟩, nmX5⟩, List.forall_mem_cons.mpr ⟨⟨ws_in wsOK_6, ⟨tyX6, tyX6_ok⟩, nmX6⟩, List.forall_mem_cons.mpr ⟨⟨ws_in wsOK_7, ⟨tyX7, tyX7_ok⟩, nmX7⟩, List.forall_mem_cons.mpr ⟨⟨ws_in wsOK_8, ⟨tyX8, tyX8_ok⟩, nmX8⟩, List.forall_mem_cons.mpr ⟨⟨ws_in wsOK_9, ⟨tyX9, tyX9_ok⟩, nmX9⟩, List.forall_mem_cons.mpr ⟨⟨ws_in wsOK_10, ⟨tyX10, tyX10_ok⟩, nmX10⟩, List.forall_mem_cons.mpr ⟨⟨ws_in wsOK_11, ⟨tyX11, tyX11_ok⟩, nmX11⟩, fun _ h => absurd h List.not_mem_nil⟩⟩⟩⟩⟩⟩⟩⟩⟩⟩⟩⟩
section IS2
variable {l : Launch} {G : Geo} {d : Nat} {g : Sig} {post : Option Value → St → Prop} {go : Nat → List Value → List Value → St → Prop} {pc : Nat} {ls st : List Value} {σ : St}
theorem nm_off (b n q : Nat) (h1 : b ≤ q) (h2 : q < b + n) : ∃ i : Nat, i < n ∧ q = b + i := ⟨q - b, by omega, by omega⟩
theorem blen_off (q : Nat) (hp : 0 < blen q) : ∃ i : Nat, i < 9 ∧ q = 200 + i := by
  unfold blen at hp
  split at hp
  · rename_i h0
    rcases Nat.lt_or_ge q 209 with h1 | h1
    · exact ⟨q - 200, by omega, by omega⟩
    · have h9 : slen.length ≤ q - 200 := by
        show 9 ≤ q - 200
        omega
      rw [List.getD_eq_getElem?_getD, List.getElem?_eq_none h9] at hp
      exact absurd hp (by decide)
  · omega
theorem isArr_of (q : Nat) (h : isArr q = true) : (∃ i : Nat, i < 9 ∧ q = 200 + i) ∨ (q < 68 ∧ (lay q).1 = 1 ∧ ¬ 200 ≤ q) := by
  unfold isArr at h
  simp only [Bool.or_eq_true, Bool.and_eq_true, decide_eq_true_eq] at h
  rcases h with ⟨h1, h2⟩ | ⟨h1, h2⟩
  · exact Or.inl ⟨q - 200, by omega, by omega⟩
  · exact Or.inr ⟨h1, by simpa using h2, by omega⟩
theorem fs_at {q k kd : Nat} {fl : List Nat} (hk : fl[k]? = some kd) : (fl.mapIdx (fun k kind => fval G σ q k kind))[k]? = some (fval G σ q k kd) := by
  rw [List.getElem?_mapIdx, hk]
  rfl

theorem is_getfield {nx a b : Nat} {ts : List (Int32 × Nat)} {v : Value} {rt : FieldType} {KD : Nat → List Value → St → (Option Value → St → Prop) → Prop} {KR : Option Value → St → Prop} {idx : Nat} {cc : vw_C} (hgo : ∀ pc ls st σ, go pc ls st σ → AtA l G d g pc ls st σ post) (hd : decode g.2.1 pc = .ok (.getfield idx, 3)) (hn : nx = pc + 3) (hna : a ≠ 20) (hc : cls[a]? = some cc) (hbn : b < cc.2.2) (hw : Cond.fieldLink g.1.cls idx (cc.2.1 b).1 (cc.2.1 b).2.1 (cc.2.1 b).2.2.1 ∈ gtbl) (h : instP KD KR rt go (.getfield idx) nx a b ts v ls st σ) : AtA l G d g pc ls st σ post := by
  subst hn
  simp only [instP] at h
  split at h
  · rename_i q r
    have h2 : (a == 20) = false := by simpa using hna
    rw [h2] at h
    simp only [cond_false] at h
    obtain ⟨cok1, -, -⟩ := cl_ok cc (List.mem_of_getElem? hc)
    split at h
    · rename_i hk
      obtain ⟨fl, hl, hf, hq⟩ := fk_of hk
      intro p e s m args below meth c H locs lsA F hP hS hL
      refine va_get (D := G.1) (ci := a) (C := cc.1) (T := cc.2.1) (N := cc.2.2) F.1 F.2.1 F.2.2.2.2.1 cok1 F.2.2.2.1 F.2.2.2.2.2.2.2.1 hP q (by rw [wc_at hq, wc_obj hl]) hc b hbn (F.2.2.2.2.1 _ hw) (fun _ h9 => h9) (fs_at hf) hd ?_
      exact hgo _ _ _ _ h p e s m args below meth c H locs lsA F hP hS hL
    · rename_i hk
      obtain ⟨fl, hl, hf, hq⟩ := fk_of hk
      intro p e s m args below meth c H locs lsA F hP hS hL
      refine va_get (D := G.1) (ci := a) (C := cc.1) (T := cc.2.1) (N := cc.2.2) F.1 F.2.1 F.2.2.2.2.1 cok1 F.2.2.2.1 F.2.2.2.2.2.2.2.1 hP q (by rw [wc_at hq, wc_obj hl]) hc b hbn (F.2.2.2.2.1 _ hw) (fun _ h9 => h9) (fs_at hf) hd ?_
      exact hgo _ _ _ _ h p e s m args below meth c H locs lsA F hP hS hL
    · rename_i t hk
      obtain ⟨fl, hl, hf, hq⟩ := fk_of hk
      intro p e s m args below meth c H locs lsA F hP hS hL
      refine va_get (D := G.1) (ci := a) (C := cc.1) (T := cc.2.1) (N := cc.2.2) F.1 F.2.1 F.2.2.2.2.1 cok1 F.2.2.2.1 F.2.2.2.2.2.2.2.1 hP q (by rw [wc_at hq, wc_obj hl]) hc b hbn (F.2.2.2.2.1 _ hw) (fun _ h9 => h9) (fs_at hf) hd ?_
      exact hgo _ _ _ _ h p e s m args below meth c H locs lsA F hP hS hL
    · exact h.elim
  · exact h.elim
theorem is_getfieldS {nx a b : Nat} {ts : List (Int32 × Nat)} {v : Value} {rt : FieldType} {KD : Nat → List Value → St → (Option Value → St → Prop) → Prop} {KR : Option Value → St → Prop} {idx : Nat} (hgo : ∀ pc ls st σ, go pc ls st σ → AtA l G d g pc ls st σ post) (hd : decode g.2.1 pc = .ok (.getfield idx, 3)) (hn : nx = pc + 3) (ha : a = 20) (hb2 : b < 2) (hw : Cond.fieldLink g.1.cls idx "java/lang/String" (cond (b == 0) "value" "coder") (cond (b == 0) "[B" "B") ∈ gtbl) (h : instP KD KR rt go (.getfield idx) nx a b ts v ls st σ) : AtA l G d g pc ls st σ post := by
  subst hn
  subst ha
  simp only [instP] at h
  split at h
  · rename_i q r
    simp only [beq_self_eq_true, cond_true] at h
    obtain ⟨⟨h1, h2⟩, h⟩ := h
    obtain ⟨i, hi, rfl⟩ : ∃ i : Nat, i < 9 ∧ q = 100 + i := nm_off 100 9 q h1 h2
    intro p e s m args below meth c H locs lsA F hP hS hL
    obtain ⟨s1, s2, s3, s4⟩ := F.2.2.2.2.2.2.2.2.2.1.1 i hi
    rcases (show b = 0 ∨ b = 1 by omega) with rfl | rfl
    · refine vk_getf F.1 F.2.1 s3 hS F.2.2.2.1 (F.2.2.2.2.1 _ hw) (fun _ h9 => h9) hd ?_
      have ee : (100 + i + 100 : Nat) = 200 + i := by omega
      have h : go (pc + 3) ls (.ref (100 + i + 100) :: r) σ := h
      rw [show ((100 + i + 100 : Nat) : Addr) = 200 + i from ee] at h
      exact hgo _ _ _ _ h p e s m args below meth c H locs lsA F hP hS hL
    · refine vk_getf F.1 F.2.1 s2 hS F.2.2.2.1 (F.2.2.2.2.1 _ hw) (fun _ h9 => h9) hd ?_
      exact hgo _ _ _ _ h p e s m args below meth c H locs lsA F hP hS hL
  · exact h.elim
theorem is_putfield {nx a b : Nat} {ts : List (Int32 × Nat)} {v : Value} {rt : FieldType} {KD : Nat → List Value → St → (Option Value → St → Prop) → Prop} {KR : Option Value → St → Prop} {idx : Nat} {cc : vw_C} (hgo : ∀ pc ls st σ, go pc ls st σ → AtA l G d g pc ls st σ post) (hd : decode g.2.1 pc = .ok (.putfield idx, 3)) (hn : nx = pc + 3) (hc : cls[a]? = some cc) (hbn : b < cc.2.2) (hfin : (cc.2.1 b).2.2.2 = false) (hw : Cond.fieldLink g.1.cls idx (cc.2.1 b).1 (cc.2.1 b).2.1 (cc.2.1 b).2.2.1 ∈ gtbl) (h : instP KD KR rt go (.putfield idx) nx a b ts v ls st σ) : AtA l G d g pc ls st σ post := by
  subst hn
  simp only [instP] at h
  obtain ⟨cok1, ⟨ty0, cok2⟩, cok3⟩ := cl_ok cc (List.mem_of_getElem? hc)
  split at h
  · rename_i x q r
    split at h
    · rename_i hk
      obtain ⟨fl, hl, hf, hq⟩ := fk_of hk
      obtain ⟨C, hC, hlen, hi, -⟩ := lay_ok hl hq hf
      rw [hc] at hC
      cases hC
      intro p e s m args below meth c H locs lsA F hP hS hL
      refine va_put (D := G.1) (ci := a) (v := .int x) (ty := .int) (C := cc.1) (T := cc.2.1) (N := cc.2.2) F.1 F.2.1 F.2.2.2.2.1 cok1 ty0 cok2 cok3 F.2.2.2.1 F.2.2.2.2.2.2.2.1 hP (wc_D F.2.2.2.2.2.2.2.2.1 σ) hS q (by rw [wc_at hq, wc_obj hl]) hc b hbn (F.2.2.2.2.1 _ hw) (fun _ h9 => h9) hfin (hi rfl) rfl rfl (by rw [List.length_mapIdx, hlen]; exact hbn) hd (fun H1 locs1 hP1 hD1 hS1 => ?_)
      rw [wc_put_fld hl hf] at hP1
      exact hgo _ _ _ _ h p e s m args below meth c H1 locs1 lsA F hP1 hS1 hL
    · exact h.elim
  · rename_i x q r
    split at h
    · rename_i hk
      obtain ⟨fl, hl, hf, hq⟩ := fk_of hk
      obtain ⟨C, hC, hlen, -, hi⟩ := lay_ok hl hq hf
      rw [hc] at hC
      cases hC
      intro p e s m args below meth c H locs lsA F hP hS hL
      refine va_put (D := G.1) (ci := a) (v := .long x) (ty := .long) (C := cc.1) (T := cc.2.1) (N := cc.2.2) F.1 F.2.1 F.2.2.2.2.1 cok1 ty0 cok2 cok3 F.2.2.2.1 F.2.2.2.2.2.2.2.1 hP (wc_D F.2.2.2.2.2.2.2.2.1 σ) hS q (by rw [wc_at hq, wc_obj hl]) hc b hbn (F.2.2.2.2.1 _ hw) (fun _ h9 => h9) hfin (hi rfl) rfl rfl (by rw [List.length_mapIdx, hlen]; exact hbn) hd (fun H1 locs1 hP1 hD1 hS1 => ?_)
      rw [wc_put_lng hl hf] at hP1
      exact hgo _ _ _ _ h p e s m args below meth c H1 locs1 lsA F hP1 hS1 hL
    · exact h.elim
  · exact h.elim
theorem is_iaload {nx a b : Nat} {ts : List (Int32 × Nat)} {v : Value} {rt : FieldType} {KD : Nat → List Value → St → (Option Value → St → Prop) → Prop} {KR : Option Value → St → Prop} (hgo : ∀ pc ls st σ, go pc ls st σ → AtA l G d g pc ls st σ post) (hd : decode g.2.1 pc = .ok (.iaload, 1)) (hn : nx = pc + 1)  (h : instP KD KR rt go (.iaload) nx a b ts v ls st σ) : AtA l G d g pc ls st σ post := by
  subst hn
  simp only [instP] at h
  split at h
  · rename_i i q r
    obtain ⟨h0, h⟩ := h
    obtain ⟨hq, hw⟩ := wc_int (G := G) (σ := σ) (q := q) rfl (in_pos h0)
    intro p e s m args below meth c H locs lsA F hP hS hL
    refine va_iald F.1 F.2.1 F.2.2.2.2.2.2.2.1 hP q 0 (by rw [wc_at hq, hw]) rfl h0 hd ?_
    exact hgo _ _ _ _ h p e s m args below meth c H locs lsA F hP hS hL
  · exact h.elim
theorem is_baload {nx a b : Nat} {ts : List (Int32 × Nat)} {v : Value} {rt : FieldType} {KD : Nat → List Value → St → (Option Value → St → Prop) → Prop} {KR : Option Value → St → Prop} (hgo : ∀ pc ls st σ, go pc ls st σ → AtA l G d g pc ls st σ post) (hd : decode g.2.1 pc = .ok (.baload, 1)) (hn : nx = pc + 1) (ha : a = 0) (h : instP KD KR rt go (.baload) nx a b ts v ls st σ) : AtA l G d g pc ls st σ post := by
  subst hn
  subst ha
  simp only [instP] at h
  split at h
  · rename_i i q r
    obtain ⟨h0, h⟩ : vp_in i (zlen q) ∧ _ := h
    obtain ⟨hq, hw⟩ := wc_bool (G := G) (σ := σ) (q := q) rfl (in_pos h0)
    intro p e s m args below meth c H locs lsA F hP hS hL
    refine va_zald F.1 F.2.1 F.2.2.2.2.2.2.2.1 hP q 1 (by rw [wc_at hq, hw]) rfl h0 hd ?_
    exact hgo _ _ _ _ h p e s m args below meth c H locs lsA F hP hS hL
  · exact h.elim
theorem is_baloadS {nx a b : Nat} {ts : List (Int32 × Nat)} {v : Value} {rt : FieldType} {KD : Nat → List Value → St → (Option Value → St → Prop) → Prop} {KR : Option Value → St → Prop} (hgo : ∀ pc ls st σ, go pc ls st σ → AtA l G d g pc ls st σ post) (hd : decode g.2.1 pc = .ok (.baload, 1)) (hn : nx = pc + 1) (ha : a = 1) (h : instP KD KR rt go (.baload) nx a b ts v ls st σ) : AtA l G d g pc ls st σ post := by
  subst hn
  subst ha
  simp only [instP] at h
  split at h
  · rename_i i q r
    obtain ⟨h0, h⟩ : vp_in i (blen q) ∧ go _ ls (.int (sby q i.toNatClampNeg) :: r) σ := h
    obtain ⟨j, hj, rfl⟩ : ∃ j : Nat, j < 9 ∧ q = 200 + j := blen_off q (in_pos h0)
    intro p e s m args below meth c H locs lsA F hP hS hL
    obtain ⟨s1, s2, s3, s4⟩ := F.2.2.2.2.2.2.2.2.2.1.1 j hj
    have hbl : blen (200 + j) = slen.getD j 0 := by
      unfold blen
      rw [if_pos (by omega), Nat.add_sub_cancel_left]
    have hsb : sby (200 + j) i.toNatClampNeg = (sbyt.getD j []).getD i.toNatClampNeg 0 := by
      unfold sby
      rw [Nat.add_sub_cancel_left]
    rw [hbl] at h0
    rw [hsb] at h
    refine va_tb F.1 F.2.1 s4 hS h0 rfl hd ?_
    exact hgo _ _ _ _ h p e s m args below meth c H locs lsA F hP hS hL
  · exact h.elim
theorem is_iastore {nx a b : Nat} {ts : List (Int32 × Nat)} {v : Value} {rt : FieldType} {KD : Nat → List Value → St → (Option Value → St → Prop) → Prop} {KR : Option Value → St → Prop} (hgo : ∀ pc ls st σ, go pc ls st σ → AtA l G d g pc ls st σ post) (hd : decode g.2.1 pc = .ok (.iastore, 1)) (hn : nx = pc + 1)  (h : instP KD KR rt go (.iastore) nx a b ts v ls st σ) : AtA l G d g pc ls st σ post := by
  subst hn
  simp only [instP] at h
  split at h
  · rename_i x i q r
    obtain ⟨h0, h⟩ := h
    obtain ⟨hq, hw⟩ := wc_int (G := G) (σ := σ) (q := q) rfl (in_pos h0)
    intro p e s m args below meth c H locs lsA F hP hS hL
    refine va_iast F.1 F.2.1 F.2.2.2.2.2.2.2.1 hP (wc_D F.2.2.2.2.2.2.2.2.1 σ) hS q 0 (by rw [wc_at hq, hw]) rfl h0 hd (fun H1 locs1 hP1 hD1 hS1 => ?_)
    rw [wc_put_int rfl (in_pos h0)] at hP1
    exact hgo _ _ _ _ h p e s m args below meth c H1 locs1 lsA F hP1 hS1 hL
  · exact h.elim
theorem is_bastore {nx a b : Nat} {ts : List (Int32 × Nat)} {v : Value} {rt : FieldType} {KD : Nat → List Value → St → (Option Value → St → Prop) → Prop} {KR : Option Value → St → Prop} (hgo : ∀ pc ls st σ, go pc ls st σ → AtA l G d g pc ls st σ post) (hd : decode g.2.1 pc = .ok (.bastore, 1)) (hn : nx = pc + 1)  (h : instP KD KR rt go (.bastore) nx a b ts v ls st σ) : AtA l G d g pc ls st σ post := by
  subst hn
  simp only [instP] at h
  split at h
  · rename_i x i q r
    obtain ⟨h0, hz, h⟩ := h
    obtain ⟨hq, hw⟩ := wc_bool (G := G) (σ := σ) (q := q) rfl (in_pos h0)
    intro p e s m args below meth c H locs lsA F hP hS hL
    refine va_zast F.1 F.2.1 F.2.2.2.2.2.2.2.1 hP (wc_D F.2.2.2.2.2.2.2.2.1 σ) hS q 1 (by rw [wc_at hq, hw]) rfl h0 hd (fun H1 locs1 hP1 hD1 hS1 => ?_)
    rw [hz, wc_put_bool rfl (in_pos h0)] at hP1
    exact hgo _ _ _ _ h p e s m args below meth c H1 locs1 lsA F hP1 hS1 hL
  · exact h.elim
theorem is_aaload {nx a b : Nat} {ts : List (Int32 × Nat)} {v : Value} {rt : FieldType} {KD : Nat → List Value → St → (Option Value → St → Prop) → Prop} {KR : Option Value → St → Prop} (hgo : ∀ pc ls st σ, go pc ls st σ → AtA l G d g pc ls st σ post) (hd : decode g.2.1 pc = .ok (.aaload, 1)) (hn : nx = pc + 1)  (h : instP KD KR rt go (.aaload) nx a b ts v ls st σ) : AtA l G d g pc ls st σ post := by
  subst hn
  simp only [instP] at h
  split at h
  · rename_i i q r
    split at h
    · rename_i n fl hl
      obtain ⟨hin, h⟩ := h
      have hq : q < 68 := lay_lt (by rw [hl]; show (3 : Nat) ≠ 9; decide)
      have hw : wcell G σ q = .inl (G.2.2.2.2, n, .inr (.inr (.inr (.inr (fun j => if j < n then some (G.2.1 (fl.headD 0 + j)) else none))))) := by
        unfold wcell
        rw [hl]
        rfl
      intro p e s m args below meth c H locs lsA F hP hS hL
      have hlt : i.toNatClampNeg < n := Nat.not_le.mp fun q => hin (Or.inr q)
      have hcell := hP q _ (by rw [wc_at hq, hw])
      refine W.aald (v := .ref (G.2.1 (fl.headD 0 + i.toNatClampNeg))) (ty := .array .int) F.1 F.2.1 hcell ((F.2.2.2.2.2.2.2.1.2 2 _ rfl).1 n (fun j => va_rf (if j < n then some (G.2.1 (fl.headD 0 + j)) else none))) rfl (fun q => by cases q) (by show ¬ (i < 0 ∨ (arrV _ _ _).slots.size ≤ _); rw [arrV_size]; exact hin) (by show (arrV _ _ _).slots[_]? = _; rw [arrV_read _ _ hlt]; simp only [if_pos hlt]; rfl) rfl rfl hd ?_
      exact hgo _ _ _ _ h p e s m args below meth c H locs lsA F hP hS hL
    · exact h.elim
  · exact h.elim
theorem is_arraylength {nx a b : Nat} {ts : List (Int32 × Nat)} {v : Value} {rt : FieldType} {KD : Nat → List Value → St → (Option Value → St → Prop) → Prop} {KR : Option Value → St → Prop} (hgo : ∀ pc ls st σ, go pc ls st σ → AtA l G d g pc ls st σ post) (hd : decode g.2.1 pc = .ok (.arraylength, 1)) (hn : nx = pc + 1)  (h : instP KD KR rt go (.arraylength) nx a b ts v ls st σ) : AtA l G d g pc ls st σ post := by
  subst hn
  simp only [instP] at h
  split at h
  · rename_i q r
    obtain ⟨h0, h⟩ := h
    intro p e s m args below meth c H locs lsA F hP hS hL
    rcases isArr_of q h0 with ⟨j, hj, rfl⟩ | ⟨h1, h3, h4⟩
    · obtain ⟨s1, s2, s3, s4⟩ := F.2.2.2.2.2.2.2.2.2.1.1 j hj
      have e1 : tlen (200 + j) = slen.getD j 0 := by
        unfold tlen
        rw [if_pos (by omega), Nat.add_sub_cancel_left]
      rw [e1] at h
      refine va_tlen F.1 F.2.1 s4 hS rfl hd ?_
      exact hgo _ _ _ _ h p e s m args below meth c H locs lsA F hP hS hL
    · have e1 : tlen q = (lay q).2.1 := by
        unfold tlen
        rw [if_neg h4]
      obtain ⟨n, fl, hl⟩ : ∃ n fl, lay q = (1, n, fl) := ⟨(lay q).2.1, (lay q).2.2, by rw [← h3]⟩
      have hw : wcell G σ q = .inl (G.2.2.1, n, .inl (σ.1 q)) := by
        unfold wcell
        rw [hl]
        rfl
      rw [e1, hl] at h
      refine va_alen F.1 F.2.1 F.2.2.2.2.2.2.2.1 hP q 0 (by rw [wc_at h1, hw]) rfl rfl hd ?_
      exact hgo _ _ _ _ h p e s m args below meth c H locs lsA F hP hS hL
  · exact h.elim
end IS2
end
section
/-! calls, ends, and the walk -/
theorem strs_go {G : Geo} {s U : State} {H : Heap} {locs : List Loc} (hW : s.WarmedH U.vm) (hU : U.heap = H) (hS : va_S (inW G) s.heap H locs) (h : strs G s s.heap) : strs G U U.heap := by
  obtain ⟨h1, h2, h3, h4⟩ := h
  rw [hU]
  exact ⟨(h1.moved hW.alike).kept hS.2.1, fun i hi => (h2 i hi).warm hW, (h3.moved hW.alike).kept hS.2.1, (h4.moved hW.alike).kept hS.2.1⟩
theorem blind {G : Geo} {av : List Value} {σ : St} : FrameBlind (va_Pc av (WdA G σ)) := by
  intro a U g mk q
  obtain ⟨q0, qP, qK, qd, h1, h2, h3, h4⟩ := q
  exact ⟨q0, qP, va_K.moved (u := U) (U := U.calling g mk a) (Vm.Alike.refl U.vm) qK, qd, h1.moved (u := U) (U := U.calling g mk a) (Vm.Alike.refl U.vm), fun i hi => (h2 i hi).same rfl, h3.moved (u := U) (U := U.calling g mk a) (Vm.Alike.refl U.vm), h4.moved (u := U) (U := U.calling g mk a) (Vm.Alike.refl U.vm)⟩
theorem gt_good {g : Sig} {ws : List Cond} (hc : Cond.code g.1 g.2.1 g.2.2.1 g.2.2.2 ∈ gtbl) (hw : ∀ w ∈ ws, w ∈ gtbl) : GoodIn gtbl (ws ++ (Cond.code g.1 g.2.1 g.2.2.1 g.2.2.2 :: gtbl)) := by
  have key : ∀ w ∈ gtbl, w ∈ gtbl ∧ ((w.onTables && w.keeps) = true ∨ ∃ ty, w = .arrayClass ty) := fun w h => ⟨h, good_of_word (List.mem_filter.mp h).2⟩
  intro w h
  rcases List.mem_append.mp h with h | h
  · exact key w (hw w h)
  · rcases List.mem_cons.mp h with h | h
    · subst h; exact key _ hc
    · exact key w h
section IC
variable {p : Program} {l : Launch} {e : Env} {R : Room} {s : State} {m : MethodId} {args : Array Value} {below : List Frame} {meth : Method} {c : Code} {H : Heap} {locs : List Loc} {cells slots : Nat} {Q : State → Prop}
theorem va_callQ {G : Geo} {post' : Option Value → St → Prop} {av : Array Value} {pc : Nat} {lsA : Array Slot} {st0 rest : List Value} {H0 : Heap} (hr : va_Run p l e R s m args below meth c H locs cells slots 0 0 (F0 m pc lsA st0) rest (QD G post' av) (inW G)) (hS : va_S (inW G) H0 H locs)
    (kk : ∀ (r : Option Value) (σ' : St) (H1 : Heap) (locs1 : List Loc), post' r σ' → va_P G.1 cls (wcells G σ') H1 → va_S (inW G) H0 H1 locs1 → W p l e R s m args below meth c H1 locs1 cells slots Q (F0 m (pc + 3) lsA ((r.map (vmp G)).toList ++ rest))) : W p l e R s m args below meth c H locs cells slots Q (F0 m pc lsA st0) := by
  intro T hT X
  obtain ⟨v, st₀, t, T', L, h0, X', hL, e1, e2, ⟨⟨r, σ', hv, hp, hb⟩, hz, hk⟩, st⟩ := hr T hT X
  cases hv
  rw [h0] at hz hk
  obtain ⟨t2, a1, b1⟩ := kk r σ' T'.heap (locs ++ L) hp (by rw [e1]; exact hb)
    ⟨Nat.le_trans hS.1 (by rw [e1]; exact hz), fun q h1 h2 => by rw [e1, hk q (Nat.lt_of_lt_of_le h1 hS.1) h2]; exact hS.2.1 q h1 h2, fun q hq => by
      rcases List.mem_append.mp hq with h | h
      · exact hS.2.2 q h
      · exact hL q h⟩ T' rfl X'
  exact ⟨t2, st t2 a1, b1⟩
end IC
section IS3
variable {l : Launch} {G : Geo} {d : Nat} {g : Sig} {post : Option Value → St → Prop} {go : Nat → List Value → List Value → St → Prop} {pc : Nat} {ls st : List Value} {σ : St}
/-- what a call gives back, and the walk goes on -/
theorem is_callP {a nx : Nat} {v : Value} {av rest : List Value} (h : callP (DoesQ l G d) (fun st' σ' => go nx ls st' σ') a v av rest σ) : ∃ post', DoesQ l G d a av σ post' ∧ okroom rest = true ∧ ∀ r σ', post' r σ' → ∃ st', (r.map (vmp G)).toList ++ rest.map (vmp G) = st'.map (vmp G) ∧ go nx ls st' σ' := by
  obtain ⟨h0, h⟩ := cond_t h
  split at h
  · refine ⟨_, h, h0, fun r σ' hp => ?_⟩
    unfold pI at hp
    split at hp
    · rename_i x
      exact ⟨_, rfl, hp⟩
    · exact hp.elim
  · refine ⟨_, h, h0, fun r σ' hp => ?_⟩
    unfold pV at hp
    split at hp
    · exact ⟨_, rfl, hp⟩
    · exact hp.elim
  · refine ⟨_, h, h0, fun r σ' hp => ?_⟩
    unfold pR at hp
    split at hp
    · rename_i x
      exact ⟨_, rfl, hp⟩
    · exact hp.elim
  · exact h.elim
theorem mp_take {b : Nat} (st : List Value) : ((st.take b).reverse.map (vmp G)).reverse = (st.map (vmp G)).take b := by
  rw [List.map_reverse, List.reverse_reverse, List.map_take]
theorem is_invokevirtual {nx a b idx : Nat} {ts : List (Int32 × Nat)} {v : Value} {rt : FieldType} {KR : Option Value → St → Prop} {g' : Sig} (hgo : ∀ pc ls st σ, go pc ls st σ → AtA l G (d + 1) g pc ls st σ post) (hd : decode g.2.1 pc = .ok (.invokevirtual idx, 3)) (hn : nx = pc + 3) (hg' : sigs[a]? = some g') (hs' : okS g' 0)
    (w1 : Cond.methodLink g.1.cls idx g'.1 ∈ gtbl) (w2 : Cond.instanceMethod g'.1 ∈ gtbl) (w3 : Cond.selects g'.1.cls g'.1 g'.1 ∈ gtbl) (w4 : Cond.initialized g'.1.cls ∈ gtbl) (hcn : g'.1.cls = clsName (ts.headD (0, 99)).2) (hnum : (parseMethodDescriptor g'.1.desc).map (fun d => d.parameters.length) = some b)
    (h : instP (DoesQ l G d) KR rt go (.invokevirtual idx) nx a b ts v ls st σ) : AtA l G (d + 1) g pc ls st σ post := by
  subst hn
  simp only [instP] at h
  split at h
  · rename_i q r hdrop
    have key : ∀ (hcall : callP (DoesQ l G d) (fun st' σ' => go (pc + 3) ls st' σ') a v (.ref q :: (st.take b).reverse) r σ) (hrec : ∀ (s : State) (H : Heap) (locs : List Loc), va_K G.1 cls (wtys G) s → strs G s s.heap → va_P G.1 cls (wcells G σ) H → va_S (inW G) s.heap H locs → ∃ cell : Cell, H[G.2.1 q]? = some cell ∧ cell.vm.isStatics = false ∧ s.vm.findClass g'.1.cls = some cell.cls), AtA l G (d + 1) g pc ls st σ post := by
      intro hcall hrec
      obtain ⟨post', hD, h0, hback⟩ := is_callP hcall
      intro p e s m args below meth c H locs lsA F hP hS hL
      have hlen : b < st.length := by
        rcases Nat.lt_or_ge b st.length with h9 | h9
        · exact h9
        · rw [List.drop_eq_nil_of_le h9] at hdrop
          cases hdrop
      have hst : st.map (vmp G) = ((st.take b).reverse.map (vmp G)).reverse ++ (.ref (G.2.1 q) :: r.map (vmp G)) := by
        rw [mp_take, ← List.map_take]
        conv => lhs; rw [← List.take_append_drop b st]
        rw [List.map_append, hdrop]
        rfl
      refine va_callQ (va_runV (C := g'.1.cls) (b := G.2.1 q) (As := (st.take b).reverse.map (vmp G)) (rest := r.map (vmp G)) (n := b) ⟨F.1, F.2.1, F.2.2.1, F.2.2.2.1, F.2.2.2.2.1⟩ (hD g' hg') (cwV b F.2.2.2.2.1 (gt_good hs'.1 (by
          intro w hw
          simp only [List.mem_cons, List.not_mem_nil, or_false] at hw
          rcases hw with rfl | rfl | rfl | rfl <;> assumption)) rfl rfl rfl ⟨rfl, hs'.2.2.1, hs'.2.2.2.1, hnum⟩ ⟨Nat.le_refl _, by show 8 + (g'.2.2.1 + 11) + 64 * d ≤ 64 * (d + 1); have := hs'.2.2.2.2; omega⟩) ⟨blind, hrec s H locs F.2.2.2.2.2.2.2.1 F.2.2.2.2.2.2.2.2.2 hP hS, fun U hU hW => ⟨rfl, by rw [hU]; exact hP, va_K.moved hW.alike F.2.2.2.2.2.2.2.1, F.2.2.2.2.2.2.2.2.1, strs_go hW hU hS F.2.2.2.2.2.2.2.2.2⟩⟩ rfl (by rw [List.length_map, List.length_reverse, List.length_take]; omega) hL.1 hst (lv_room (sm_room h0)) hd ⟨Nat.le_refl _, Nat.le_refl _⟩) hS (fun r1 σ1 H1 locs1 hp hP1 hS1 => ?_)
      obtain ⟨st', e1, h⟩ := hback r1 σ1 hp
      rw [e1]
      exact hgo _ _ _ _ h p e s m args below meth c H1 locs1 lsA F hP1 hS1 hL
    unfold rcv at h
    by_cases h20 : (ts.headD (0, 99)).2 = 20
    · rw [h20] at h hcn
      obtain ⟨⟨h1, h2⟩, h⟩ : (100 ≤ q ∧ q < 109) ∧ _ := h
      obtain ⟨i, hi, rfl⟩ : ∃ i : Nat, i < 9 ∧ q = 100 + i := nm_off 100 9 q h1 h2
      refine key h (fun s H locs hK hst hP hS => ?_)
      rw [hcn]
      exact vk_recv (adK := fun i => G.2.1 (100 + i)) hst.1 hi hS
    · have h3 : ((ts.headD (0, 99)).2 == 20) = false := by simpa using h20
      rw [h3] at h
      obtain ⟨h4, h⟩ := cond_t h
      refine key h (fun s H locs hK hst hP hS => ?_)
      unfold isObj at h4
      split at h4
      · rename_i cn fl hl
        rw [Bool.and_eq_true] at h4
        have e1 : cn = (ts.headD (0, 99)).2 := by simpa using h4.1
        subst e1
        have h12 : (ts.headD (0, 99)).2 < 12 := by simpa using h4.2
        have hq : q < 68 := lay_lt (by rw [hl]; show (0 : Nat) ≠ 9; decide)
        have hlt : (ts.headD (0, 99)).2 < cls.length := h12
        have hc : cls[(ts.headD (0, 99)).2]? = some (cls[(ts.headD (0, 99)).2]) := List.getElem?_eq_getElem hlt
        have hnm : g'.1.cls = (cls[(ts.headD (0, 99)).2]).1 := by
          rw [hcn]
          unfold clsName
          rw [hc]
        rw [hnm]
        exact va_recv hK hP hc (by rw [wc_at hq, wc_obj hl])
      · cases h4
  · exact h.elim
theorem is_invokestatic {nx a b idx : Nat} {ts : List (Int32 × Nat)} {v : Value} {rt : FieldType} {KR : Option Value → St → Prop} {g' : Sig} (hgo : ∀ pc ls st σ, go pc ls st σ → AtA l G (d + 1) g pc ls st σ post) (hd : decode g.2.1 pc = .ok (.invokestatic idx, 3)) (hn : nx = pc + 3) (ha : a ≠ 999) (ha8 : a ≠ 998) (ha7 : a ≠ 997) (hg' : sigs[a]? = some g') (hs' : okS g' 0)
    (w1 : Cond.methodLink g.1.cls idx g'.1 ∈ gtbl) (w2 : Cond.static g'.1 ∈ gtbl) (w4 : Cond.initialized g'.1.cls ∈ gtbl) (hnum : (parseMethodDescriptor g'.1.desc).map (fun d => d.parameters.length) = some b)
    (h : instP (DoesQ l G d) KR rt go (.invokestatic idx) nx a b ts v ls st σ) : AtA l G (d + 1) g pc ls st σ post := by
  subst hn
  simp only [instP] at h
  have h3 : (a == 999) = false := by simpa using ha
  have h8 : (a == 998) = false := by simpa using ha8
  have h7 : (a == 997) = false := by simpa using ha7
  rw [h3, h8, h7] at h
  obtain ⟨hle, hcall⟩ := cond_t h
  have hle : b ≤ st.length := Nat.le_of_ble_eq_true hle
  obtain ⟨post', hD, h0, hback⟩ := is_callP hcall
  intro p e s m args below meth c H locs lsA F hP hS hL
  have hst : st.map (vmp G) = ((st.take b).reverse.map (vmp G)).reverse ++ (st.drop b).map (vmp G) := by
    rw [mp_take, ← List.map_take, ← List.map_append, List.take_append_drop]
  refine va_callQ (va_runS (As := (st.take b).reverse.map (vmp G)) (rest := (st.drop b).map (vmp G)) (n := b) ⟨F.1, F.2.1, F.2.2.1, F.2.2.2.1, F.2.2.2.2.1⟩ (hD g' hg') (va_cwS b F.2.2.2.2.1 (gt_good hs'.1 (by
          intro w hw
          simp only [List.mem_cons, List.not_mem_nil, or_false] at hw
          rcases hw with rfl | rfl | rfl <;> assumption)) rfl rfl rfl ⟨hs'.2.2.1, hs'.2.2.2.1, hnum⟩ ⟨Nat.le_refl _, by show 8 + (g'.2.2.1 + 11) + 64 * d ≤ 64 * (d + 1); have := hs'.2.2.2.2; omega⟩) ⟨blind, fun U hU hW => ⟨rfl, by rw [hU]; exact hP, va_K.moved hW.alike F.2.2.2.2.2.2.2.1, F.2.2.2.2.2.2.2.2.1, strs_go hW hU hS F.2.2.2.2.2.2.2.2.2⟩⟩ rfl (by rw [List.length_map, List.length_reverse, List.length_take]; omega) hL.1 hst (lv_room (sm_room h0)) hd ⟨Nat.le_refl _, Nat.le_refl _⟩) hS (fun r1 σ1 H1 locs1 hp hP1 hS1 => ?_)
  obtain ⟨st', e1, h⟩ := hback r1 σ1 hp
  rw [e1]
  exact hgo _ _ _ _ h p e s m args below meth c H1 locs1 lsA F hP1 hS1 hL
theorem is_arraycopy {nx a b idx : Nat} {ts : List (Int32 × Nat)} {v : Value} {rt : FieldType} {KD : Nat → List Value → St → (Option Value → St → Prop) → Prop} {KR : Option Value → St → Prop} (hgo : ∀ pc ls st σ, go pc ls st σ → AtA l G (d + 1) g pc ls st σ post) (hd : decode g.2.1 pc = .ok (.invokestatic idx, 3)) (hn : nx = pc + 3) (ha : a = 999)
    (w1 : Cond.methodLink g.1.cls idx arraycopyName ∈ gtbl) (w2 : Cond.native arraycopyName ∈ gtbl) (w3 : Cond.static arraycopyName ∈ gtbl) (w4 : Cond.initialized "java/lang/System" ∈ gtbl)
    (h : instP KD KR rt go (.invokestatic idx) nx a b ts v ls st σ) : AtA l G (d + 1) g pc ls st σ post := by
  subst hn
  subst ha
  simp only [instP, beq_self_eq_true, cond_true] at h
  split at h
  · rename_i n dp dq sp sq r
    obtain ⟨⟨p1, p2, h1, h2, h3, h4, h5⟩, h⟩ := h
    obtain ⟨h0, h⟩ := cond_t h
    obtain ⟨hq, hw⟩ := wc_int (G := G) (σ := σ) (q := sq) rfl p1
    obtain ⟨hq', hw'⟩ := wc_int (G := G) (σ := σ) (q := dq) rfl p2
    intro p e s m args below meth c H locs lsA F hP hS hL
    refine va_copyi (ty := .int) F.1 F.2.1 (F.2.2.1.trans hL.1.symm) F.2.2.2.1 (F.2.2.2.2.1 _ w1) (F.2.2.2.2.1 _ w2) (F.2.2.2.2.1 _ w3) (F.2.2.2.2.1 _ w4) F.2.2.2.2.2.2.2.1 hP (wc_D F.2.2.2.2.2.2.2.2.1 σ) hS sq dq 0 0 (by rw [wc_at hq, hw]) (by rw [wc_at hq', hw']) rfl rfl rfl h1 h2 h3 h4 h5 (fun _ _ => rfl) (Nat.succ_le_succ (Nat.zero_le d)) (by
      have h9 := sm_room (G := G) h0
      have h8 : nativeFrameWords "java/lang/System" "arraycopy" 5 = 7 := by decide +kernel
      rw [h8]
      show _ ≤ 64 * (d + 1)
      omega) hd (fun H1 locs1 hP1 hD1 hS1 => ?_)
    rw [wc_cpy rfl p2] at hP1
    exact hgo _ _ _ _ h p e s m args below meth c H1 locs1 lsA F hP1 hS1 hL
  · exact h.elim
theorem is_mmin {nx a b idx : Nat} {ts : List (Int32 × Nat)} {v : Value} {rt : FieldType} {KD : Nat → List Value → St → (Option Value → St → Prop) → Prop} {KR : Option Value → St → Prop} (hgo : ∀ pc ls st σ, go pc ls st σ → AtA l G (d + 1) g pc ls st σ post) (hd : decode g.2.1 pc = .ok (.invokestatic idx, 3)) (hn : nx = pc + 3) (ha : a = 998)
    (w1 : Cond.methodLink g.1.cls idx Lib.Math.min.name ∈ gtbl) (w2 : Cond.static Lib.Math.min.name ∈ gtbl) (w3 : Cond.initialized "java/lang/Math" ∈ gtbl) (w4 : Cond.code Lib.Math.min.name Lib.Math.min.code 2 (some .int) ∈ gtbl)
    (h : instP KD KR rt go (.invokestatic idx) nx a b ts v ls st σ) : AtA l G (d + 1) g pc ls st σ post := by
  subst hn
  subst ha
  simp only [instP, show ((998 : Nat) == 999) = false from rfl, beq_self_eq_true, cond_true, cond_false] at h
  split at h
  · rename_i y x r
    obtain ⟨h0, h⟩ := cond_t h
    intro p e s m args below meth c H locs lsA F hP hS hL
    refine va_mmin F.1 F.2.1 (F.2.2.1.trans hL.1.symm) F.2.2.2.1 (F.2.2.2.2.1 _ w1) (F.2.2.2.2.1 _ w2) (F.2.2.2.2.1 _ w3) (F.2.2.2.2.1 _ w4) (Nat.succ_le_succ (Nat.zero_le d)) (by
      have h9 := sm_room (G := G) h0
      show _ ≤ 64 * (d + 1)
      omega) (Nat.le_refl _) (Nat.le_refl _) hd ?_
    exact hgo _ _ _ _ h p e s m args below meth c H locs lsA F hP hS hL
  · exact h.elim
theorem is_mmax {nx a b idx : Nat} {ts : List (Int32 × Nat)} {v : Value} {rt : FieldType} {KD : Nat → List Value → St → (Option Value → St → Prop) → Prop} {KR : Option Value → St → Prop} (hgo : ∀ pc ls st σ, go pc ls st σ → AtA l G (d + 1) g pc ls st σ post) (hd : decode g.2.1 pc = .ok (.invokestatic idx, 3)) (hn : nx = pc + 3) (ha : a = 997)
    (w1 : Cond.methodLink g.1.cls idx Lib.Math.max.name ∈ gtbl) (w2 : Cond.static Lib.Math.max.name ∈ gtbl) (w3 : Cond.initialized "java/lang/Math" ∈ gtbl) (w4 : Cond.code Lib.Math.max.name Lib.Math.max.code 2 (some .int) ∈ gtbl)
    (h : instP KD KR rt go (.invokestatic idx) nx a b ts v ls st σ) : AtA l G (d + 1) g pc ls st σ post := by
  subst hn
  subst ha
  simp only [instP, show ((997 : Nat) == 999) = false from rfl, show ((997 : Nat) == 998) = false from rfl, beq_self_eq_true, cond_true, cond_false] at h
  split at h
  · rename_i y x r
    obtain ⟨h0, h⟩ := cond_t h
    intro p e s m args below meth c H locs lsA F hP hS hL
    refine va_mmax F.1 F.2.1 (F.2.2.1.trans hL.1.symm) F.2.2.2.1 (F.2.2.2.2.1 _ w1) (F.2.2.2.2.1 _ w2) (F.2.2.2.2.1 _ w3) (F.2.2.2.2.1 _ w4) (Nat.succ_le_succ (Nat.zero_le d)) (by
      have h9 := sm_room (G := G) h0
      show _ ≤ 64 * (d + 1)
      omega) (Nat.le_refl _) (Nat.le_refl _) hd ?_
    exact hgo _ _ _ _ h p e s m args below meth c H locs lsA F hP hS hL
  · exact h.elim
theorem is_ireturn {nx a b : Nat} {ts : List (Int32 × Nat)} {v : Value} {rt : FieldType} {KD : Nat → List Value → St → (Option Value → St → Prop) → Prop} (hr : g.2.2.2 = some rt) (hd : decode g.2.1 pc = .ok (.ireturn, 1)) (h : instP KD post rt go .ireturn nx a b ts v ls st σ) : AtA l G d g pc ls st σ post := by
  simp only [instP] at h
  split at h
  · rename_i x
    have key : narrow rt (.int x) = .int x ∧ post (some (.int x)) σ := by
      split at h
      · exact ⟨rfl, h⟩
      · exact h
    intro p e s m args below meth c H locs lsA F hP hS hL
    exact W.zret (v := x) F.1 F.2.1 (F.2.2.2.2.2.1.trans hr) key.1 (fun t ht hW => ⟨⟨some (.int x), σ, rfl, key.2, by rw [ht]; exact hP⟩, hS.F ht⟩) hS.2.2 hd F.2.2.2.2.2.2.1
  · exact h.elim
theorem is_areturn {nx a b : Nat} {ts : List (Int32 × Nat)} {v : Value} {rt : FieldType} {KD : Nat → List Value → St → (Option Value → St → Prop) → Prop} {C : String} (hr : g.2.2.2 = some (.object C)) (hd : decode g.2.1 pc = .ok (.areturn, 1)) (h : instP KD post rt go .areturn nx a b ts v ls st σ) : AtA l G d g pc ls st σ post := by
  simp only [instP] at h
  split at h
  · rename_i x
    intro p e s m args below meth c H locs lsA F hP hS hL
    exact W.aret (v := .ref (G.2.1 x)) F.1 F.2.1 (F.2.2.2.2.2.1.trans hr) (Or.inl ⟨_, rfl⟩) (Or.inr ⟨_, rfl⟩) (fun t ht hW => ⟨⟨some (.ref x), σ, rfl, h, by rw [ht]; exact hP⟩, hS.F ht⟩) hS.2.2 hd F.2.2.2.2.2.2.1
  · exact h.elim
theorem is_return {nx a b : Nat} {ts : List (Int32 × Nat)} {v : Value} {rt : FieldType} {KD : Nat → List Value → St → (Option Value → St → Prop) → Prop} (hr : g.2.2.2 = none) (hd : decode g.2.1 pc = .ok (.return_, 1)) (h : instP KD post rt go .return_ nx a b ts v ls st σ) : AtA l G d g pc ls st σ post := by
  simp only [instP] at h
  split at h
  · intro p e s m args below meth c H locs lsA F hP hS hL
    exact W.vret F.1 F.2.1 (F.2.2.2.2.2.1.trans hr) (fun t ht hW => ⟨⟨none, σ, rfl, h, by rw [ht]; exact hP⟩, hS.F ht⟩) hS.2.2 hd F.2.2.2.2.2.2.1
  · exact h.elim
end IS3
end
section
def sgOK (q : Sig × Nat) : Bool := hasW q.2 (.code q.1.1 q.1.2.1 q.1.2.2.1 q.1.2.2.2) && plainName q.1.1.cls && decide (q.1.1.cls ≠ "java/lang/invoke/MethodHandle") && decide (q.1.1.cls ≠ "java/lang/invoke/VarHandle") && decide (q.1.2.2.1 ≤ 40)
theorem sgt {g : Sig} {i : Nat} (h1 : sgOK (g, i) = true) : okS g 0 := by
  unfold sgOK at h1
  simp only [Bool.and_eq_true] at h1
  exact ⟨gt_has h1.1.1.1.1, h1.1.1.1.2, of_decide_eq_true h1.1.1.2, of_decide_eq_true h1.1.2, of_decide_eq_true h1.2⟩
theorem cw_sX0_copyFrom : sgOK (sX0_copyFrom, 374) = true := by decide +kernel
theorem cw_sX0_beginAnew : sgOK (sX0_beginAnew, 464) = true := by decide +kernel
theorem cw_sX0_size : sgOK (sX0_size, 525) = true := by decide +kernel
theorem cw_sX0_allVoices : sgOK (sX0_allVoices, 823) = true := by decide +kernel
theorem cw_sX0_has : sgOK (sX0_has, 553) = true := by decide +kernel
theorem cw_sX0_isAway : sgOK (sX0_isAway, 593) = true := by decide +kernel
theorem cw_sX0_isHoarse : sgOK (sX0_isHoarse, 597) = true := by decide +kernel
theorem cw_sX0_lateOf : sgOK (sX0_lateOf, 601) = true := by decide +kernel
theorem cw_sX0_setAway : sgOK (sX0_setAway, 529) = true := by decide +kernel
theorem cw_sX0_setHoarse : sgOK (sX0_setHoarse, 539) = true := by decide +kernel
theorem cw_sX0_setLate : sgOK (sX0_setLate, 549) = true := by decide +kernel
theorem cw_sX0_voiceOf : sgOK (sX0_voiceOf, 609) = true := by decide +kernel
theorem cw_sX0_isSaid : sgOK (sX0_isSaid, 613) = true := by decide +kernel
theorem cw_sX1_prepare : sgOK (sX1_prepare, 732) = true := by decide +kernel
theorem cw_sX1_findChoices : sgOK (sX1_findChoices, 737) = true := by decide +kernel
theorem cw_sX1_findReached : sgOK (sX1_findReached, 748) = true := by decide +kernel
theorem cw_sX1_stepFrom : sgOK (sX1_stepFrom, 752) = true := by decide +kernel
theorem cw_sX1_choicesAt : sgOK (sX1_choicesAt, 756) = true := by decide +kernel
theorem cw_sX1_isReached : sgOK (sX1_isReached, 760) = true := by decide +kernel
theorem cw_sX1_findWays : sgOK (sX1_findWays, 765) = true := by decide +kernel
theorem cw_sX1_sumOfWays : sgOK (sX1_sumOfWays, 769) = true := by decide +kernel
theorem cw_sX1_waysBehind : sgOK (sX1_waysBehind, 773) = true := by decide +kernel
theorem cw_sX1_total : sgOK (sX1_total, 777) = true := by decide +kernel
theorem cw_sX1_wordsInAny : sgOK (sX1_wordsInAny, 781) = true := by decide +kernel
theorem cw_sX1_wordsThatEndWell : sgOK (sX1_wordsThatEndWell, 785) = true := by decide +kernel
theorem cw_sX1_wordOfFirst : sgOK (sX1_wordOfFirst, 789) = true := by decide +kernel
theorem cw_sX1_leastThatEndsWell : sgOK (sX1_leastThatEndsWell, 793) = true := by decide +kernel
theorem cw_sX2_wordSaidBy : sgOK (sX2_wordSaidBy, 827) = true := by decide +kernel
theorem cw_sX2_isSaidBy : sgOK (sX2_isSaidBy, 832) = true := by decide +kernel
theorem cw_sX2_countTwins : sgOK (sX2_countTwins, 843) = true := by decide +kernel
theorem cw_sX2_firstTwins : sgOK (sX2_firstTwins, 853) = true := by decide +kernel
theorem cw_sX2_twinOf : sgOK (sX2_twinOf, 847) = true := by decide +kernel
theorem cw_sX2_sumOfClassSizes : sgOK (sX2_sumOfClassSizes, 862) = true := by decide +kernel
theorem cw_sX2_countClasses : sgOK (sX2_countClasses, 874) = true := by decide +kernel
theorem cw_sX2_isOneClass : sgOK (sX2_isOneClass, 866) = true := by decide +kernel
theorem cw_sX2_voicesThatDiffer : sgOK (sX2_voicesThatDiffer, 870) = true := by decide +kernel
theorem cw_sX2_greatestBearing : sgOK (sX2_greatestBearing, 935) = true := by decide +kernel
theorem cw_sX2_isClash : sgOK (sX2_isClash, 939) = true := by decide +kernel
theorem cw_sX2_greatestWithoutClash : sgOK (sX2_greatestWithoutClash, 943) = true := by decide +kernel
theorem cw_sX3_linesRead : sgOK (sX3_linesRead, 570) = true := by decide +kernel
theorem cw_sX3_readToFault : sgOK (sX3_readToFault, 379) = true := by decide +kernel
theorem cw_sX3_advance : sgOK (sX3_advance, 383) = true := by decide +kernel
theorem cw_sX3_tokenIs : sgOK (sX3_tokenIs, 400) = true := by decide +kernel
theorem cw_sX3_takeNumber : sgOK (sX3_takeNumber, 460) = true := by decide +kernel
theorem cw_sX3_doLine : sgOK (sX3_doLine, 395) = true := by decide +kernel
theorem cw_sX3_doOrder : sgOK (sX3_doOrder, 456) = true := by decide +kernel
theorem cw_sX3_doWord : sgOK (sX3_doWord, 473) = true := by decide +kernel
theorem cw_sX3_doNot : sgOK (sX3_doNot, 503) = true := by decide +kernel
theorem cw_sX3_doFree : sgOK (sX3_doFree, 512) = true := by decide +kernel
theorem cw_sX3_doAway : sgOK (sX3_doAway, 521) = true := by decide +kernel
theorem cw_sX3_doHoarse : sgOK (sX3_doHoarse, 535) = true := by decide +kernel
theorem cw_sX3_doLate : sgOK (sX3_doLate, 545) = true := by decide +kernel
theorem cw_sX4_length : sgOK (sX4_length, 347) = true := by decide +kernel
theorem cw_sX4_hasRoom : sgOK (sX4_hasRoom, 338) = true := by decide +kernel
theorem cw_sX4_append : sgOK (sX4_append, 342) = true := by decide +kernel
theorem cw_sX4_makeEmpty : sgOK (sX4_makeEmpty, 355) = true := by decide +kernel
theorem cw_sX4_at : sgOK (sX4_at, 414) = true := by decide +kernel
theorem cw_sX4_endOfRow : sgOK (sX4_endOfRow, 387) = true := by decide +kernel
theorem cw_sX5_prepare : sgOK (sX5_prepare, 886) = true := by decide +kernel
theorem cw_sX5_countLetters : sgOK (sX5_countLetters, 890) = true := by decide +kernel
theorem cw_sX5_countLetter : sgOK (sX5_countLetter, 896) = true := by decide +kernel
theorem cw_sX5_leastBest : sgOK (sX5_leastBest, 903) = true := by decide +kernel
theorem cw_sX5_fewestWith : sgOK (sX5_fewestWith, 907) = true := by decide +kernel
theorem cw_sX5_spoiltBy : sgOK (sX5_spoiltBy, 917) = true := by decide +kernel
theorem cw_sX5_fewestSpoilt : sgOK (sX5_fewestSpoilt, 923) = true := by decide +kernel
theorem cw_sX5_voiceAt : sgOK (sX5_voiceAt, 927) = true := by decide +kernel
theorem cw_sX6_copyFrom : sgOK (sX6_copyFrom, 956) = true := by decide +kernel
theorem cw_sX6_makeEmpty : sgOK (sX6_makeEmpty, 562) = true := by decide +kernel
theorem cw_sX6_letterTotal : sgOK (sX6_letterTotal, 643) = true := by decide +kernel
theorem cw_sX6_wordTotal : sgOK (sX6_wordTotal, 651) = true := by decide +kernel
theorem cw_sX6_saidTotal : sgOK (sX6_saidTotal, 664) = true := by decide +kernel
theorem cw_sX6_lastWord : sgOK (sX6_lastWord, 624) = true := by decide +kernel
theorem cw_sX6_hasRoom : sgOK (sX6_hasRoom, 632) = true := by decide +kernel
theorem cw_sX6_append : sgOK (sX6_append, 636) = true := by decide +kernel
theorem cw_sX6_sayMore : sgOK (sX6_sayMore, 659) = true := by decide +kernel
theorem cw_sX6_letterAt : sgOK (sX6_letterAt, 676) = true := by decide +kernel
theorem cw_sX6_heardAt : sgOK (sX6_heardAt, 672) = true := by decide +kernel
theorem cw_sX6_lettersHeard : sgOK (sX6_lettersHeard, 684) = true := by decide +kernel
theorem cw_sX6_lettersSaidBy : sgOK (sX6_lettersSaidBy, 605) = true := by decide +kernel
theorem cw_sX6_countLateRows : sgOK (sX6_countLateRows, 802) = true := by decide +kernel
theorem cw_sX6_firstLateRow : sgOK (sX6_firstLateRow, 811) = true := by decide +kernel
theorem cw_sX6_leastLate : sgOK (sX6_leastLate, 815) = true := by decide +kernel
theorem cw_sX6_isHeardLate : sgOK (sX6_isHeardLate, 806) = true := by decide +kernel
theorem cw_sX7_length : sgOK (sX7_length, 702) = true := by decide +kernel
theorem cw_sX7_isFull : sgOK (sX7_isFull, 693) = true := by decide +kernel
theorem cw_sX7_makeEmpty : sgOK (sX7_makeEmpty, 566) = true := by decide +kernel
theorem cw_sX7_append : sgOK (sX7_append, 697) = true := by decide +kernel
theorem cw_sX7_at : sgOK (sX7_at, 723) = true := by decide +kernel
theorem cw_sX7_isFitting : sgOK (sX7_isFitting, 718) = true := by decide +kernel
theorem cw_sX8_copyFrom : sgOK (sX8_copyFrom, 363) = true := by decide +kernel
theorem cw_sX9_copyFrom : sgOK (sX9_copyFrom, 367) = true := by decide +kernel
theorem cw_sX9_size : sgOK (sX9_size, 741) = true := by decide +kernel
theorem cw_sX9_isFull : sgOK (sX9_isFull, 477) = true := by decide +kernel
theorem cw_sX9_has : sgOK (sX9_has, 578) = true := by decide +kernel
theorem cw_sX9_lengthOf : sgOK (sX9_lengthOf, 489) = true := by decide +kernel
theorem cw_sX9_sortOf : sgOK (sX9_sortOf, 583) = true := by decide +kernel
theorem cw_sX9_letterOf : sgOK (sX9_letterOf, 493) = true := by decide +kernel
theorem cw_sX9_followBits : sgOK (sX9_followBits, 969) = true := by decide +kernel
theorem cw_sX9_mayFollow : sgOK (sX9_mayFollow, 628) = true := by decide +kernel
theorem cw_sX9_forbid : sgOK (sX9_forbid, 507) = true := by decide +kernel
theorem cw_sX9_makeFree : sgOK (sX9_makeFree, 516) = true := by decide +kernel
theorem cw_sX9_isTold : sgOK (sX9_isTold, 481) = true := by decide +kernel
theorem cw_sX9_isSpelt : sgOK (sX9_isSpelt, 485) = true := by decide +kernel
theorem cw_sX9_append : sgOK (sX9_append, 498) = true := by decide +kernel
theorem cw_sX10_write : sgOK (sX10_write, 334) = true := by decide +kernel
theorem cw_sX10_erase : sgOK (sX10_erase, 351) = true := by decide +kernel
theorem cw_sX10_fault : sgOK (sX10_fault, 359) = true := by decide +kernel
theorem cw_sX10_order : sgOK (sX10_order, 558) = true := by decide +kernel
theorem cw_sX10_word : sgOK (sX10_word, 574) = true := by decide +kernel
theorem cw_sX10_voice : sgOK (sX10_voice, 588) = true := by decide +kernel
theorem cw_sX10_preach : sgOK (sX10_preach, 620) = true := by decide +kernel
theorem cw_sX10_amen : sgOK (sX10_amen, 647) = true := by decide +kernel
theorem cw_sX10_say : sgOK (sX10_say, 655) = true := by decide +kernel
theorem cw_sX10_heard : sgOK (sX10_heard, 668) = true := by decide +kernel
theorem cw_sX10_tally : sgOK (sX10_tally, 680) = true := by decide +kernel
theorem cw_sX10_sound : sgOK (sX10_sound, 689) = true := by decide +kernel
theorem cw_sX10_listen : sgOK (sX10_listen, 706) = true := by decide +kernel
theorem cw_sX10_hush : sgOK (sX10_hush, 710) = true := by decide +kernel
theorem cw_sX10_fits : sgOK (sX10_fits, 714) = true := by decide +kernel
theorem cw_sX10_readings : sgOK (sX10_readings, 728) = true := by decide +kernel
theorem cw_sX10_came : sgOK (sX10_came, 797) = true := by decide +kernel
theorem cw_sX10_alone : sgOK (sX10_alone, 819) = true := by decide +kernel
theorem cw_sX10_twins : sgOK (sX10_twins, 839) = true := by decide +kernel
theorem cw_sX10_learnt : sgOK (sX10_learnt, 857) = true := by decide +kernel
theorem cw_sX10_seats : sgOK (sX10_seats, 882) = true := by decide +kernel
theorem cw_sX10_bears : sgOK (sX10_bears, 931) = true := by decide +kernel
theorem cw_sX10_keep : sgOK (sX10_keep, 948) = true := by decide +kernel
theorem cw_sX10_back : sgOK (sX10_back, 961) = true := by decide +kernel
theorem cw_sX10_count : sgOK (sX10_count, 965) = true := by decide +kernel
theorem cw_sX10_shelf : sgOK (sX10_shelf, 952) = true := by decide +kernel
theorem cw_sX10_lowestTerm : sgOK (sX10_lowestTerm, 877) = true := by decide +kernel
theorem cw_sX11_in : sgOK (sX11_in, 1086) = true := by decide +kernel
theorem cw_sX11_has : sgOK (sX11_has, 1181) = true := by decide +kernel
theorem cw_sX11_isWord : sgOK (sX11_isWord, 1166) = true := by decide +kernel
theorem cw_sX11_isVoice : sgOK (sX11_isVoice, 1174) = true := by decide +kernel
theorem cw_sX11_write : sgOK (sX11_write, 1083) = true := by decide +kernel
theorem cw_sX11_erase : sgOK (sX11_erase, 1091) = true := by decide +kernel
theorem cw_sX11_nextToken : sgOK (sX11_nextToken, 1107) = true := by decide +kernel
theorem cw_sX11_fails : sgOK (sX11_fails, 1134) = true := by decide +kernel
theorem cw_sX11_isNumber : sgOK (sX11_isNumber, 1130) = true := by decide +kernel
theorem cw_sX11_isVoiceRead : sgOK (sX11_isVoiceRead, 1146) = true := by decide +kernel
theorem cw_sX11_isOrder : sgOK (sX11_isOrder, 1126) = true := by decide +kernel
theorem cw_sX11_isTold : sgOK (sX11_isTold, 1142) = true := by decide +kernel
theorem cw_sX11_isWordLine : sgOK (sX11_isWordLine, 1138) = true := by decide +kernel
theorem cw_sX11_isLine : sgOK (sX11_isLine, 1103) = true := by decide +kernel
theorem cw_sX11_isRead : sgOK (sX11_isRead, 1099) = true := by decide +kernel
theorem cw_sX11_fault : sgOK (sX11_fault, 1095) = true := by decide +kernel
theorem cw_sX11_addWord : sgOK (sX11_addWord, 1158) = true := by decide +kernel
theorem cw_sX11_doLine : sgOK (sX11_doLine, 1154) = true := by decide +kernel
theorem cw_sX11_order : sgOK (sX11_order, 1150) = true := by decide +kernel
theorem cw_sX11_word : sgOK (sX11_word, 1162) = true := by decide +kernel
theorem cw_sX11_lettersOf : sgOK (sX11_lettersOf, 1193) = true := by decide +kernel
theorem cw_sX11_letterAt : sgOK (sX11_letterAt, 1213) = true := by decide +kernel
theorem cw_sX11_isSaid : sgOK (sX11_isSaid, 1178) = true := by decide +kernel
theorem cw_sX11_voice : sgOK (sX11_voice, 1170) = true := by decide +kernel
theorem cw_sX11_mayFollow : sgOK (sX11_mayFollow, 1189) = true := by decide +kernel
theorem cw_sX11_preach : sgOK (sX11_preach, 1185) = true := by decide +kernel
theorem cw_sX11_amen : sgOK (sX11_amen, 1197) = true := by decide +kernel
theorem cw_sX11_say : sgOK (sX11_say, 1201) = true := by decide +kernel
theorem cw_sX11_heardAt : sgOK (sX11_heardAt, 1209) = true := by decide +kernel
theorem cw_sX11_heard : sgOK (sX11_heard, 1205) = true := by decide +kernel
theorem cw_sX11_tally : sgOK (sX11_tally, 1217) = true := by decide +kernel
theorem cw_sX11_sound : sgOK (sX11_sound, 1221) = true := by decide +kernel
theorem cw_sX11_listen : sgOK (sX11_listen, 1225) = true := by decide +kernel
theorem cw_sX11_hush : sgOK (sX11_hush, 1229) = true := by decide +kernel
theorem cw_sX11_doesFit : sgOK (sX11_doesFit, 1237) = true := by decide +kernel
theorem cw_sX11_fits : sgOK (sX11_fits, 1233) = true := by decide +kernel
theorem cw_sX11_waysAt : sgOK (sX11_waysAt, 1249) = true := by decide +kernel
theorem cw_sX11_layWays : sgOK (sX11_layWays, 1245) = true := by decide +kernel
theorem cw_sX11_readingMany : sgOK (sX11_readingMany, 1253) = true := by decide +kernel
theorem cw_sX11_comeIn : sgOK (sX11_comeIn, 1257) = true := by decide +kernel
theorem cw_sX11_firstReading : sgOK (sX11_firstReading, 1261) = true := by decide +kernel
theorem cw_sX11_readings : sgOK (sX11_readings, 1241) = true := by decide +kernel
theorem cw_sX11_came : sgOK (sX11_came, 1265) = true := by decide +kernel
theorem cw_sX11_wordBy : sgOK (sX11_wordBy, 1273) = true := by decide +kernel
theorem cw_sX11_alone : sgOK (sX11_alone, 1269) = true := by decide +kernel
theorem cw_sX11_twins : sgOK (sX11_twins, 1277) = true := by decide +kernel
theorem cw_sX11_isClassed : sgOK (sX11_isClassed, 1285) = true := by decide +kernel
theorem cw_sX11_divisor : sgOK (sX11_divisor, 1288) = true := by decide +kernel
theorem cw_sX11_learnt : sgOK (sX11_learnt, 1281) = true := by decide +kernel
theorem cw_sX11_laySeats : sgOK (sX11_laySeats, 1296) = true := by decide +kernel
theorem cw_sX11_spoilt : sgOK (sX11_spoilt, 1300) = true := by decide +kernel
theorem cw_sX11_seats : sgOK (sX11_seats, 1292) = true := by decide +kernel
theorem cw_sX11_areApart : sgOK (sX11_areApart, 1308) = true := by decide +kernel
theorem cw_sX11_bits : sgOK (sX11_bits, 1311) = true := by decide +kernel
theorem cw_sX11_bears : sgOK (sX11_bears, 1304) = true := by decide +kernel
theorem cw_sX11_keep : sgOK (sX11_keep, 1315) = true := by decide +kernel
theorem cw_sX11_back : sgOK (sX11_back, 1319) = true := by decide +kernel
theorem cw_sX11_count : sgOK (sX11_count, 1323) = true := by decide +kernel
theorem cw_sJ6_bitCount_0f7a4 : sgOK (sJ6_bitCount_0f7a4, 910) = true := by decide +kernel
theorem cw_sJ0_length_8abf5 : sgOK (sJ0_length_8abf5, 404) = true := by decide +kernel
theorem cw_sJ0_charAt_5068e : sgOK (sJ0_charAt_5068e, 418) = true := by decide +kernel
theorem cw_sJ0_coder_7d493 : sgOK (sJ0_coder_7d493, 408) = true := by decide +kernel
theorem cw_sJ0_isLatin1_aae02 : sgOK (sJ0_isLatin1_aae02, 422) = true := by decide +kernel
theorem cw_sJ0_checkIndex_df160 : sgOK (sJ0_checkIndex_df160, 428) = true := by decide +kernel
theorem cw_sJ1_charAt_3b067 : sgOK (sJ1_charAt_3b067, 425) = true := by decide +kernel
theorem cw_sJ3_checkIndex_8e157 : sgOK (sJ3_checkIndex_8e157, 433) = true := by decide +kernel
set_option maxRecDepth 100000 in
theorem sg_all : ∀ g ∈ sigs, okS g 0 := by
  unfold sigs
  exact List.forall_mem_cons.mpr ⟨sgt cw_sX0_copyFrom, List.forall_mem_cons.mpr ⟨sgt cw_sX0_beginAnew, List.forall_mem_cons.mpr ⟨sgt cw_sX0_size, List.forall_mem_cons.mpr ⟨sgt cw_sX0_allVoices, List.forall_mem_cons.mpr ⟨sgt cw_sX0_has, List.forall_mem_cons.mpr ⟨sgt cw_sX0_isAway, List.forall_mem_cons.mpr ⟨sgt cw_sX0_isHoarse, List.forall_mem_cons.mpr ⟨sgt cw_sX0_lateOf, List.forall_mem_cons.mpr ⟨sgt cw_sX0_setAway, List.forall_mem_cons.mpr ⟨sgt cw_sX0_setHoarse, List.forall_mem_cons.mpr ⟨sgt cw_sX0_setLate, List.forall_mem_cons.mpr ⟨sgt cw_sX0_voiceOf, List.forall_mem_cons.mpr ⟨sgt cw_sX0_isSaid, List.forall_mem_cons.mpr ⟨sgt cw_sX1_prepare, List.forall_mem_cons.mpr ⟨sgt cw_sX1_findChoices, List.forall_mem_cons.mpr ⟨sgt cw_sX1_findReached, List.forall_mem_cons.mpr ⟨sgt cw_sX1_stepFrom, List.forall_mem_cons.mpr ⟨sgt cw_sX1_choicesAt, List.forall_mem_cons.mpr ⟨sgt cw_sX1_isReached, List.forall_mem_cons.mpr ⟨sgt cw_sX1_findWays, List.forall_mem_cons.mpr ⟨sgt cw_sX1_sumOfWays, List.forall_mem_cons.mpr ⟨sgt cw_sX1_waysBehind, List.forall_mem_cons.mpr ⟨sgt cw_sX1_total, List.forall_mem_cons.mpr ⟨sgt cw_sX1_wordsInAny, List.forall_mem_cons.mpr ⟨sgt cw_sX1_wordsThatEndWell, List.forall_mem_cons.mpr ⟨sgt cw_sX1_wordOfFirst, List.forall_mem_cons.mpr ⟨sgt cw_sX1_leastThatEndsWell, List.forall_mem_cons.mpr ⟨sgt cw_sX2_wordSaidBy, List.forall_mem_cons.mpr ⟨sgt cw_sX2_isSaidBy, List.forall_mem_cons.mpr ⟨sgt cw_sX2_countTwins, List.forall_mem_cons.mpr ⟨sgt cw_sX2_firstTwins, List.forall_mem_cons.mpr ⟨sgt cw_sX2_twinOf, List.forall_mem_cons.mpr ⟨sgt cw_sX2_sumOfClassSizes, List.forall_mem_cons.mpr ⟨sgt cw_sX2_countClasses, List.forall_mem_cons.mpr ⟨sgt cw_sX2_isOneClass, List.forall_mem_cons.mpr ⟨sgt cw_sX2_voicesThatDiffer, List.forall_mem_cons.mpr ⟨sgt cw_sX2_greatestBearing, List.forall_mem_cons.mpr ⟨sgt cw_sX2_isClash, List.forall_mem_cons.mpr ⟨sgt cw_sX2_greatestWithoutClash, List.forall_mem_cons.mpr ⟨sgt cw_sX3_linesRead, List.forall_mem_cons.mpr ⟨sgt cw_sX3_readToFault, List.forall_mem_cons.mpr ⟨sgt cw_sX3_advance, List.forall_mem_cons.mpr ⟨sgt cw_sX3_tokenIs, List.forall_mem_cons.mpr ⟨sgt cw_sX3_takeNumber, List.forall_mem_cons.mpr ⟨sgt cw_sX3_doLine, List.forall_mem_cons.mpr ⟨sgt cw_sX3_doOrder, List.forall_mem_cons.mpr ⟨sgt cw_sX3_doWord, List.forall_mem_cons.mpr ⟨sgt cw_sX3_doNot, List.forall_mem_cons.mpr ⟨sgt cw_sX3_doFree, List.forall_mem_cons.mpr ⟨sgt cw_sX3_doAway, List.forall_mem_cons.mpr ⟨sgt cw_sX3_doHoarse, List.forall_mem_cons.mpr ⟨sgt cw_sX3_doLate, List.forall_mem_cons.mpr ⟨sgt cw_sX4_length, List.forall_mem_cons.mpr ⟨sgt cw_sX4_hasRoom, List.forall_mem_cons.mpr ⟨sgt cw_sX4_append, List.forall_mem_cons.mpr ⟨sgt cw_sX4_makeEmpty, List.forall_mem_cons.mpr ⟨sgt cw_sX4_at, List.forall_mem_cons.mpr ⟨sgt cw_sX4_endOfRow, List.forall_mem_cons.mpr ⟨sgt cw_sX5_prepare, List.forall_mem_cons.mpr ⟨sgt cw_sX5_countLetters, List.forall_mem_cons.mpr ⟨sgt cw_sX5_countLetter, List.forall_mem_cons.mpr ⟨sgt cw_sX5_leastBest, List.forall_mem_cons.mpr ⟨sgt cw_sX5_fewestWith, List.forall_mem_cons.mpr ⟨sgt cw_sX5_spoiltBy, List.forall_mem_cons.mpr ⟨sgt cw_sX5_fewestSpoilt, List.forall_mem_cons.mpr ⟨sgt cw_sX5_voiceAt, List.forall_mem_cons.mpr ⟨sgt cw_sX6_copyFrom, List.forall_mem_cons.mpr ⟨sgt cw_sX6_makeEmpty, List.forall_mem_cons.mpr ⟨sgt cw_sX6_letterTotal, List.forall_mem_cons.mpr ⟨sgt cw_sX6_wordTotal, List.forall_mem_cons.mpr ⟨sgt cw_sX6_saidTotal, List.forall_mem_cons.mpr ⟨sgt cw_sX6_lastWord, List.forall_mem_cons.mpr ⟨sgt cw_sX6_hasRoom, List.forall_mem_cons.mpr ⟨sgt cw_sX6_append, List.forall_mem_cons.mpr ⟨sgt cw_sX6_sayMore, List.forall_mem_cons.mpr ⟨sgt cw_sX6_letterAt, List.forall_mem_cons.mpr ⟨sgt cw_sX6_heardAt, List.forall_mem_cons.mpr ⟨sgt cw_sX6_lettersHeard, List.forall_mem_cons.mpr ⟨sgt cw_sX6_lettersSaidBy, List.forall_mem_cons.mpr ⟨sgt cw_sX6_countLateRows, List.forall_mem_cons.mpr ⟨sgt cw_sX6_firstLateRow, List.forall_mem_cons.mpr ⟨sgt cw_sX6_leastLate, List.forall_mem_cons.mpr ⟨sgt cw_sX6_isHeardLate, List.forall_mem_cons.mpr ⟨sgt cw_sX7_length, List.forall_mem_cons.mpr ⟨sgt cw_sX7_isFull, List.forall_mem_cons.mpr ⟨sgt cw_sX7_makeEmpty, List.forall_mem_cons.mpr ⟨sgt cw_sX7_append, List.forall_mem_cons.mpr ⟨sgt cw_sX7_at, List.forall_mem_cons.mpr ⟨sgt cw_sX7_isFitting, List.forall_mem_cons.mpr ⟨sgt cw_sX8_copyFrom, List.forall_mem_cons.mpr ⟨sgt cw_sX9_copyFrom, List.forall_mem_cons.mpr ⟨sgt cw_sX9_size, List.forall_mem_cons.mpr ⟨sgt cw_sX9_isFull, List.forall_mem_cons.mpr ⟨sgt cw_sX9_has, List.forall_mem_cons.mpr ⟨sgt cw_sX9_lengthOf, List.forall_mem_cons.mpr ⟨sgt cw_sX9_sortOf, List.forall_mem_cons.mpr ⟨sgt cw_sX9_letterOf, List.forall_mem_cons.mpr ⟨sgt cw_sX9_followBits, List.forall_mem_cons.mpr ⟨sgt cw_sX9_mayFollow, List.forall_mem_cons.mpr ⟨sgt cw_sX9_forbid, List.forall_mem_cons.mpr ⟨sgt cw_sX9_makeFree, List.forall_mem_cons.mpr ⟨sgt cw_sX9_isTold, List.forall_mem_cons.mpr ⟨sgt cw_sX9_isSpelt, List.forall_mem_cons.mpr ⟨sgt cw_sX9_append, List.forall_mem_cons.mpr ⟨sgt cw_sX10_write, List.forall_mem_cons.mpr ⟨sgt cw_sX10_erase, List.forall_mem_cons.mpr ⟨sgt cw_sX10_fault, List.forall_mem_cons.mpr ⟨sgt cw_sX10_order, List.forall_mem_cons.mpr ⟨sgt cw_sX10_word, List.forall_mem_cons.mpr ⟨sgt cw_sX10_voice, List.forall_mem_cons.mpr ⟨sgt cw_sX10_preach, List.forall_mem_cons.mpr ⟨sgt cw_sX10_amen, List.forall_mem_cons.mpr ⟨sgt cw_sX10_say, List.forall_mem_cons.mpr ⟨sgt cw_sX10_heard, List.forall_mem_cons.mpr ⟨sgt cw_sX10_tally, List.forall_mem_cons.mpr ⟨sgt cw_sX10_sound, List.forall_mem_cons.mpr ⟨sgt cw_sX10_listen, List.forall_mem_cons.mpr ⟨sgt cw_sX10_hush, List.forall_mem_cons.mpr ⟨sgt cw_sX10_fits, List.forall_mem_cons.mpr ⟨sgt cw_sX10_readings, List.forall_mem_cons.mpr ⟨sgt cw_sX10_came, List.forall_mem_cons.mpr ⟨sgt cw_sX10_alone, List.forall_mem_cons.mpr ⟨sgt cw_sX10_twins, List.forall_mem_cons.mpr ⟨sgt cw_sX10_learnt, List.forall_mem_cons.mpr ⟨sgt cw_sX10_seats, List.forall_mem_cons.mpr ⟨sgt cw_sX10_bears, List.forall_mem_cons.mpr ⟨sgt cw_sX10_keep, List.forall_mem_cons.mpr ⟨sgt cw_sX10_back, List.forall_mem_cons.mpr ⟨sgt cw_sX10_count, List.forall_mem_cons.mpr ⟨sgt cw_sX10_shelf, List.forall_mem_cons.mpr ⟨sgt cw_sX10_lowestTerm, List.forall_mem_cons.mpr ⟨sgt cw_sX11_in, List.forall_mem_cons.mpr ⟨sgt cw_sX11_has, List.forall_mem_cons.mpr ⟨sgt cw_sX11_isWord, List.forall_mem_cons.mpr ⟨sgt cw_sX11_isVoice, List.forall_mem_cons.mpr ⟨sgt cw_sX11_write, List.forall_mem_cons.mpr ⟨sgt cw_sX11_erase, List.forall_mem_cons.mpr ⟨sgt cw_sX11_nextToken, List.forall_mem_cons.mpr ⟨sgt cw_sX11_fails, List.forall_mem_cons.mpr ⟨sgt cw_sX11_isNumber, List.forall_mem_cons.mpr ⟨sgt cw_sX11_isVoiceRead, List.forall_mem_cons.mpr ⟨sgt cw_sX11_isOrder, List.forall_mem_cons.mpr ⟨sgt cw_sX11_isTold, List.forall_mem_cons.mpr ⟨sgt cw_sX11_isWordLine, List.forall_mem_cons.mpr ⟨sgt cw_sX11_isLine, List.forall_mem_cons.mpr ⟨sgt cw_sX11_isRead, List.forall_mem_cons.mpr ⟨sgt cw_sX11_fault, List.forall_mem_cons.mpr ⟨sgt cw_sX11_addWord, List.forall_mem_cons.mpr ⟨sgt cw_sX11_doLine, List.forall_mem_cons.mpr ⟨sgt cw_sX11_order, List.forall_mem_cons.mpr ⟨sgt cw_sX11_word, List.forall_mem_cons.mpr ⟨sgt cw_sX11_lettersOf, List.forall_mem_cons.mpr ⟨sgt cw_sX11_letterAt, List.forall_mem_cons.mpr ⟨sgt cw_sX11_isSaid, List.forall_mem_cons.mpr ⟨sgt cw_sX11_voice, List.forall_mem_cons.mpr ⟨sgt cw_sX11_mayFollow, List.forall_mem_cons.mpr ⟨sgt cw_sX11_preach, List.forall_mem_cons.mpr ⟨sgt cw_sX11_amen, List.forall_mem_cons.mpr ⟨sgt cw_sX11_say, List.forall_mem_cons.mpr ⟨sgt cw_sX11_heardAt, List.forall_mem_cons.mpr ⟨sgt cw_sX11_heard, List.forall_mem_cons.mpr ⟨sgt cw_sX11_tally, List.forall_mem_cons.mpr ⟨sgt cw_sX11_sound, List.forall_mem_cons.mpr ⟨sgt cw_sX11_listen, List.forall_mem_cons.mpr ⟨sgt cw_sX11_hush, List.forall_mem_cons.mpr ⟨sgt cw_sX11_doesFit, List.forall_mem_cons.mpr ⟨sgt cw_sX11_fits, List.forall_mem_cons.mpr ⟨sgt cw_sX11_waysAt, List.forall_mem_cons.mpr ⟨sgt cw_sX11_layWays, List.forall_mem_cons.mpr ⟨sgt cw_sX11_readingMany, List.forall_mem_cons.mpr ⟨sgt cw_sX11_comeIn, List.forall_mem_cons.mpr ⟨sgt cw_sX11_firstReading, List.forall_mem_cons.mpr ⟨sgt cw_sX11_readings, List.forall_mem_cons.mpr ⟨sgt cw_sX11_came, List.forall_mem_cons.mpr ⟨sgt cw_sX11_wordBy, List.forall_mem_cons.mpr ⟨sgt cw_sX11_alone, List.forall_mem_cons.mpr ⟨sgt cw_sX11_twins, List.forall_mem_cons.mpr ⟨sgt cw_sX11_isClassed, List.forall_mem_cons.mpr ⟨sgt cw_sX11_divisor, List.forall_mem_cons.mpr ⟨sgt cw_sX11_learnt, List.forall_mem_cons.mpr ⟨sgt cw_sX11_laySeats, List.forall_mem_cons.mpr ⟨sgt cw_sX11_spoilt, List.forall_mem_cons.mpr ⟨sgt cw_sX11_seats, List.forall_mem_cons.mpr ⟨sgt cw_sX11_areApart, List.forall_mem_cons.mpr ⟨sgt cw_sX11_bits, List.forall_mem_cons.mpr ⟨sgt cw_sX11_bears, List.forall_mem_cons.mpr ⟨sgt cw_sX11_keep, List.forall_mem_cons.mpr ⟨sgt cw_sX11_back, List.forall_mem_cons.mpr ⟨sgt cw_sX11_count, List.forall_mem_cons.mpr ⟨sgt cw_sJ6_bitCount_0f7a4, List.forall_mem_cons.mpr ⟨sgt cw_sJ0_length_8abf5, List.forall_mem_cons.mpr ⟨sgt cw_sJ0_charAt_5068e, List.forall_mem_cons.mpr ⟨sgt cw_sJ0_coder_7d493, List.forall_mem_cons.mpr ⟨sgt cw_sJ0_isLatin1_aae02, List.forall_mem_cons.mpr ⟨sgt cw_sJ0_checkIndex_df160, List.forall_mem_cons.mpr ⟨sgt cw_sJ1_charAt_3b067, List.forall_mem_cons.mpr ⟨sgt cw_sJ3_checkIndex_8e157, fun _ h => absurd h List.not_mem_nil⟩⟩⟩⟩⟩⟩⟩⟩⟩⟩⟩⟩⟩⟩⟩⟩⟩⟩⟩⟩⟩⟩⟩⟩⟩⟩⟩⟩⟩⟩⟩⟩⟩⟩⟩⟩⟩⟩⟩⟩⟩⟩⟩⟩⟩⟩⟩⟩⟩⟩⟩⟩⟩⟩⟩⟩⟩⟩⟩⟩⟩⟩⟩⟩⟩⟩⟩⟩⟩⟩⟩⟩⟩⟩⟩⟩⟩⟩⟩⟩⟩⟩⟩⟩⟩⟩⟩⟩⟩⟩⟩⟩⟩⟩⟩⟩⟩⟩⟩⟩⟩⟩⟩⟩⟩⟩⟩⟩⟩⟩⟩⟩⟩⟩⟩⟩⟩⟩⟩⟩⟩⟩⟩⟩⟩⟩⟩⟩⟩⟩⟩⟩⟩⟩⟩⟩⟩⟩⟩⟩⟩⟩⟩⟩⟩⟩⟩⟩⟩⟩⟩⟩⟩⟩⟩⟩⟩⟩⟩⟩⟩⟩⟩⟩⟩⟩⟩⟩⟩⟩⟩⟩⟩⟩⟩⟩⟩⟩⟩⟩⟩⟩⟩⟩⟩⟩⟩⟩⟩⟩⟩⟩⟩⟩⟩⟩⟩
theorem sg_ok {k : Nat} {g : Sig} (h : sigs[k]? = some g) : okS g 0 := sg_all g (List.mem_of_getElem? h)
end
section
/-! switches; all instructions; the walk -/
theorem sw_nil {x : Int32} {go : Nat → Prop} {D : Prop} (h : sw x go D []) : D := h
theorem sw_cons {x : Int32} {go : Nat → Prop} {D : Prop} {t : Int32 × Nat} {ts : List (Int32 × Nat)} (h : sw x go D (t :: ts)) : (x = t.1 → go t.2) ∧ (¬ x = t.1 → sw x go D ts) := h
theorem sw_out {x : Int32} {go : Nat → Prop} {D : Prop} : ∀ {ts : List (Int32 × Nat)}, (∀ t ∈ ts, ¬ x = t.1) → sw x go D ts → D
  | [], _, h => sw_nil h
  | _ :: _, hn, h => sw_out (fun t ht => hn t (List.mem_cons_of_mem _ ht)) ((sw_cons h).2 (hn _ List.mem_cons_self))
theorem sw_in {x : Int32} {go : Nat → Prop} {D : Prop} : ∀ {ts : List (Int32 × Nat)} {j : Nat} {t : Int32 × Nat}, ts[j]? = some t → x = t.1 → (∀ i u, i < j → ts[i]? = some u → ¬ x = u.1) → sw x go D ts → go t.2
  | [], j, t, hj, _, _, _ => by simp at hj
  | u :: ts, 0, t, hj, hx, _, h => by
    simp at hj
    subst hj
    exact (sw_cons h).1 hx
  | u :: ts, j + 1, t, hj, hx, hn, h => by
    rw [List.getElem?_cons_succ] at hj
    exact sw_in hj hx (fun i w hi hw => hn (i + 1) w (by omega) (by rw [List.getElem?_cons_succ]; exact hw)) ((sw_cons h).2 (hn 0 u (by omega) rfl))
section IS4
variable {l : Launch} {G : Geo} {d : Nat} {g : Sig} {post : Option Value → St → Prop} {go : Nat → List Value → List Value → St → Prop} {pc : Nat} {ls st : List Value} {σ : St}
theorem is_tableswitch {nx a b len : Nat} {ts : List (Int32 × Nat)} {v : Value} {rt : FieldType} {KD : Nat → List Value → St → (Option Value → St → Prop) → Prop} {KR : Option Value → St → Prop} {dflt lo hi : Int} {offs : Array Int} (hgo : ∀ pc ls st σ, go pc ls st σ → AtA l G d g pc ls st σ post) (hd : decode g.2.1 pc = .ok (.tableswitch dflt lo hi offs, len))
    (h1 : (pc : Int) + dflt = (a : Int)) (h2 : ts.map (fun t => (t.2 : Int)) = offs.toList.map (fun o => (pc : Int) + o)) (h3 : ts.map (fun t => t.1.toInt) = (List.range ts.length).map (fun (j : Nat) => lo + (j : Int))) (h4 : hi + 1 = lo + (ts.length : Int)) (h : instP KD KR rt go (.tableswitch dflt lo hi offs) nx a b ts v ls st σ) : AtA l G d g pc ls st σ post := by
  simp only [instP] at h
  split at h
  · rename_i x r
    have key : ∀ (j : Nat) (t : Int32 × Nat), ts[j]? = some t → t.1.toInt = lo + (j : Int) := by
      intro j t hj
      have hlt : j < ts.length := (List.getElem?_eq_some_iff.mp hj).1
      have e1 : (ts.map (fun t => t.1.toInt))[j]? = some t.1.toInt := by rw [List.getElem?_map, hj]; rfl
      rw [h3, List.getElem?_map, List.getElem?_range hlt] at e1
      exact (Option.some.inj e1).symm
    intro p e s m args below meth c H locs lsA F hP hS hL
    by_cases hin : ¬ x.toInt < lo ∧ ¬ hi < x.toInt
    · obtain ⟨j, hj⟩ : ∃ j : Nat, x.toInt = lo + (j : Int) := ⟨(x.toInt - lo).toNat, by omega⟩
      have hlt : j < ts.length := by omega
      have ht : ts[j]? = some ts[j] := List.getElem?_eq_getElem hlt
      have hxt : x = ts[j].1 := Int32.toInt_inj.mp (by rw [key j _ ht]; exact hj)
      have hgo2 := sw_in ht hxt (fun i u hi hu z => by
        have e1 := key i u hu
        rw [← z, hj] at e1
        omega) h
      have e2 : (ts.map (fun t => (t.2 : Int)))[j]? = some (ts[j].2 : Int) := by rw [List.getElem?_map, ht]; rfl
      rw [h2, List.getElem?_map] at e2
      obtain ⟨off, ho, hoe⟩ := Option.map_eq_some_iff.mp e2
      have ho' : offs[(x.toInt - lo).toNat]? = some off := by
        have : (x.toInt - lo).toNat = j := by omega
        rw [this, ← Array.getElem?_toList]
        exact ho
      exact lv_tableIn F.1 F.2.1 hd hin.1 hin.2 ho' hoe (hgo _ _ _ _ hgo2 p e s m args below meth c H locs lsA F hP hS hL)
    · have hout : x.toInt < lo ∨ hi < x.toInt := by omega
      have hgo2 := sw_out (fun t ht z => by
        obtain ⟨j, hj⟩ := List.getElem?_of_mem ht
        have e1 := key j t hj
        have hlt : j < ts.length := (List.getElem?_eq_some_iff.mp hj).1
        rw [← z] at e1
        omega) h
      exact lv_tableOut F.1 F.2.1 hd hout h1 (hgo _ _ _ _ hgo2 p e s m args below meth c H locs lsA F hP hS hL)
  · exact h.elim
end IS4
def retok (g : Sig) (rt : FieldType) (e : Ent) : Bool := match e.2.1 with
  | .ireturn => decide (g.2.2.2 = some rt)
  | .return_ => decide (g.2.2.2 = none)
  | .areturn => (match g.2.2.2 with
    | some (.object _) => true
    | _ => false)
  | _ => true
section IS5
variable {l : Launch} {G : Geo} {d : Nat} {g : Sig} {post : Option Value → St → Prop} {go : Nat → List Value → List Value → St → Prop} {pc : Nat} {ls st : List Value} {σ : St}
theorem inst_sound {ins : Instr} {nx a b : Nat} {ts : List (Int32 × Nat)} {v : Value} {wi : List Nat} {rt : FieldType} (hgo : ∀ pc ls st σ, go pc ls st σ → AtA l G (d + 1) g pc ls st σ post) (hE : okE g.1.cls g.2.1 (pc, ins, nx, a, b, ts, v, wi) = true) (hR : retok g rt (pc, ins, nx, a, b, ts, v, wi) = true) (h : instP (DoesQ l G d) post rt go ins nx a b ts v ls st σ) : AtA l G (d + 1) g pc ls st σ post := by
  cases ins with

  | iadd =>
    simp only [okE, okA, ilen, Bool.and_eq_true, beq_iff_eq] at hE
    exact is_iadd hgo (of_decide_eq_true hE.1.1) hE.1.2 h
  | isub =>
    simp only [okE, okA, ilen, Bool.and_eq_true, beq_iff_eq] at hE
    exact is_isub hgo (of_decide_eq_true hE.1.1) hE.1.2 h
  | imul =>
    simp only [okE, okA, ilen, Bool.and_eq_true, beq_iff_eq] at hE
    exact is_imul hgo (of_decide_eq_true hE.1.1) hE.1.2 h
  | idiv =>
    simp only [okE, okA, ilen, Bool.and_eq_true, beq_iff_eq] at hE
    exact is_idiv hgo (of_decide_eq_true hE.1.1) hE.1.2 h
  | irem =>
    simp only [okE, okA, ilen, Bool.and_eq_true, beq_iff_eq] at hE
    exact is_irem hgo (of_decide_eq_true hE.1.1) hE.1.2 h
  | iand =>
    simp only [okE, okA, ilen, Bool.and_eq_true, beq_iff_eq] at hE
    exact is_iand hgo (of_decide_eq_true hE.1.1) hE.1.2 h
  | ior =>
    simp only [okE, okA, ilen, Bool.and_eq_true, beq_iff_eq] at hE
    exact is_ior hgo (of_decide_eq_true hE.1.1) hE.1.2 h
  | ixor =>
    simp only [okE, okA, ilen, Bool.and_eq_true, beq_iff_eq] at hE
    exact is_ixor hgo (of_decide_eq_true hE.1.1) hE.1.2 h
  | ishl =>
    simp only [okE, okA, ilen, Bool.and_eq_true, beq_iff_eq] at hE
    exact is_ishl hgo (of_decide_eq_true hE.1.1) hE.1.2 h
  | ishr =>
    simp only [okE, okA, ilen, Bool.and_eq_true, beq_iff_eq] at hE
    exact is_ishr hgo (of_decide_eq_true hE.1.1) hE.1.2 h
  | iushr =>
    simp only [okE, okA, ilen, Bool.and_eq_true, beq_iff_eq] at hE
    exact is_iushr hgo (of_decide_eq_true hE.1.1) hE.1.2 h
  | i2c =>
    simp only [okE, okA, ilen, Bool.and_eq_true, beq_iff_eq] at hE
    exact is_i2c hgo (of_decide_eq_true hE.1.1) hE.1.2 h
  | i2l =>
    simp only [okE, okA, ilen, Bool.and_eq_true, beq_iff_eq] at hE
    exact is_i2l hgo (of_decide_eq_true hE.1.1) hE.1.2 h
  | l2i =>
    simp only [okE, okA, ilen, Bool.and_eq_true, beq_iff_eq] at hE
    exact is_l2i hgo (of_decide_eq_true hE.1.1) hE.1.2 h
  | ladd =>
    simp only [okE, okA, ilen, Bool.and_eq_true, beq_iff_eq] at hE
    exact is_ladd hgo (of_decide_eq_true hE.1.1) hE.1.2 h
  | lsub =>
    simp only [okE, okA, ilen, Bool.and_eq_true, beq_iff_eq] at hE
    exact is_lsub hgo (of_decide_eq_true hE.1.1) hE.1.2 h
  | lmul =>
    simp only [okE, okA, ilen, Bool.and_eq_true, beq_iff_eq] at hE
    exact is_lmul hgo (of_decide_eq_true hE.1.1) hE.1.2 h
  | land =>
    simp only [okE, okA, ilen, Bool.and_eq_true, beq_iff_eq] at hE
    exact is_land hgo (of_decide_eq_true hE.1.1) hE.1.2 h
  | lshr =>
    simp only [okE, okA, ilen, Bool.and_eq_true, beq_iff_eq] at hE
    exact is_lshr hgo (of_decide_eq_true hE.1.1) hE.1.2 h
  | lcmp =>
    simp only [okE, okA, ilen, Bool.and_eq_true, beq_iff_eq] at hE
    exact is_lcmp hgo (of_decide_eq_true hE.1.1) hE.1.2 h
  | pop =>
    simp only [okE, okA, ilen, Bool.and_eq_true, beq_iff_eq] at hE
    exact is_pop hgo (of_decide_eq_true hE.1.1) hE.1.2 h
  | dup2 =>
    simp only [okE, okA, ilen, Bool.and_eq_true, beq_iff_eq] at hE
    exact is_dup2 hgo (of_decide_eq_true hE.1.1) hE.1.2 h
  | dup =>
    simp only [okE, okA, ilen, Bool.and_eq_true, beq_iff_eq] at hE
    exact is_dup hgo (of_decide_eq_true hE.1.1) hE.1.2 h
  | iaload =>
    simp only [okE, okA, ilen, Bool.and_eq_true, beq_iff_eq] at hE
    exact is_iaload hgo (of_decide_eq_true hE.1.1) hE.1.2 h
  | iastore =>
    simp only [okE, okA, ilen, Bool.and_eq_true, beq_iff_eq] at hE
    exact is_iastore hgo (of_decide_eq_true hE.1.1) hE.1.2 h
  | bastore =>
    simp only [okE, okA, ilen, Bool.and_eq_true, beq_iff_eq] at hE
    exact is_bastore hgo (of_decide_eq_true hE.1.1) hE.1.2 h
  | aaload =>
    simp only [okE, okA, ilen, Bool.and_eq_true, beq_iff_eq] at hE
    exact is_aaload hgo (of_decide_eq_true hE.1.1) hE.1.2 h
  | arraylength =>
    simp only [okE, okA, ilen, Bool.and_eq_true, beq_iff_eq] at hE
    exact is_arraylength hgo (of_decide_eq_true hE.1.1) hE.1.2 h
  | iconst n =>
    simp only [okE, okA, ilen, Bool.and_eq_true, beq_iff_eq] at hE
    exact is_iconst hgo (of_decide_eq_true hE.1.1) hE.1.2 (of_decide_eq_true hE.2) h
  | bipush n =>
    simp only [okE, okA, ilen, Bool.and_eq_true, beq_iff_eq] at hE
    exact is_bipush hgo (of_decide_eq_true hE.1.1) hE.1.2 (of_decide_eq_true hE.2) h
  | sipush n =>
    simp only [okE, okA, ilen, Bool.and_eq_true, beq_iff_eq] at hE
    exact is_sipush hgo (of_decide_eq_true hE.1.1) hE.1.2 (of_decide_eq_true hE.2) h
  | lconst n =>
    simp only [okE, okA, ilen, Bool.and_eq_true, beq_iff_eq] at hE
    exact is_lconst hgo (of_decide_eq_true hE.1.1) hE.1.2 (of_decide_eq_true hE.2) h
  | iload i =>
    simp only [okE, okA, ilen, Bool.and_eq_true, beq_iff_eq] at hE
    exact is_iload hgo (of_decide_eq_true hE.1.1) hE.1.2 hE.2 h
  | aload i =>
    simp only [okE, okA, ilen, Bool.and_eq_true, beq_iff_eq] at hE
    exact is_aload hgo (of_decide_eq_true hE.1.1) hE.1.2 hE.2 h
  | istore i =>
    simp only [okE, okA, ilen, Bool.and_eq_true, beq_iff_eq] at hE
    exact is_istore hgo (of_decide_eq_true hE.1.1) hE.1.2 hE.2 h
  | iload_n k =>
    simp only [okE, okA, ilen, Bool.and_eq_true, beq_iff_eq] at hE
    exact is_iload_n hgo (of_decide_eq_true hE.1.1) hE.1.2 hE.2 h
  | aload_n k =>
    simp only [okE, okA, ilen, Bool.and_eq_true, beq_iff_eq] at hE
    exact is_aload_n hgo (of_decide_eq_true hE.1.1) hE.1.2 hE.2 h
  | istore_n k =>
    simp only [okE, okA, ilen, Bool.and_eq_true, beq_iff_eq] at hE
    exact is_istore_n hgo (of_decide_eq_true hE.1.1) hE.1.2 hE.2 h
  | lload_n k =>
    simp only [okE, okA, ilen, Bool.and_eq_true, beq_iff_eq] at hE
    exact is_lload_n hgo (of_decide_eq_true hE.1.1) hE.1.2 hE.2 h
  | iinc i n =>
    simp only [okE, okA, ilen, Bool.and_eq_true, beq_iff_eq] at hE
    exact is_iinc hgo (of_decide_eq_true hE.1.1) hE.1.2 hE.2.1 (of_decide_eq_true hE.2.2) h
  | ifCond cc off =>
    simp only [okE, okA, ilen, Bool.and_eq_true, beq_iff_eq] at hE
    exact is_ifCond hgo (of_decide_eq_true hE.1.1) hE.1.2 (of_decide_eq_true hE.2) h
  | if_icmp cc off =>
    simp only [okE, okA, ilen, Bool.and_eq_true, beq_iff_eq] at hE
    exact is_if_icmp hgo (of_decide_eq_true hE.1.1) hE.1.2 (of_decide_eq_true hE.2) h
  | goto off =>
    simp only [okE, okA, ilen, Bool.and_eq_true, beq_iff_eq] at hE
    exact is_goto hgo (of_decide_eq_true hE.1.1) hE.1.2 (of_decide_eq_true hE.2) h
  | tableswitch dflt lo hi offs =>
    simp only [okE, okA, ilen, Bool.and_eq_true, beq_iff_eq] at hE
    have e9 := of_decide_eq_true hE.2
    exact is_tableswitch hgo (of_decide_eq_true hE.1) e9.1 e9.2.1 e9.2.2.1 e9.2.2.2 h
  | ldc idx =>
    simp only [okE, okA, ilen, Bool.and_eq_true, beq_iff_eq] at hE
    have e9 := of_decide_eq_true hE.2
    exact is_ldc hgo (of_decide_eq_true hE.1.1) hE.1.2 e9.1 e9.2.1 e9.2.2.1 e9.2.2.2 h
  | ldc_w idx =>
    simp only [okE, okA, ilen, Bool.and_eq_true, beq_iff_eq] at hE
    obtain ⟨⟨e1, e2⟩, e3⟩ := hE
    have e1 := of_decide_eq_true e1
    split at e3
    · exact is_ldc_w hgo e1 e2 (gt_has e3) rfl h
    · cases e3
  | ldc2_w idx =>
    simp only [okE, okA, ilen, Bool.and_eq_true, beq_iff_eq] at hE
    obtain ⟨⟨e1, e2⟩, e3⟩ := hE
    have e1 := of_decide_eq_true e1
    split at e3
    · exact is_ldc2_w hgo e1 e2 (gt_has e3) rfl h
    · cases e3
  | getstatic idx =>
    simp only [okE, okA, ilen, Bool.and_eq_true, beq_iff_eq] at hE
    obtain ⟨⟨e1, e2⟩, e3⟩ := hE
    have e1 := of_decide_eq_true e1
    split at e3
    · rw [Bool.and_eq_true] at e3
      exact is_getstatic0 hgo e1 e2 (gt_has e3.2) (of_decide_eq_true e3.1) h
    · rw [Bool.and_eq_true] at e3
      exact is_getstatic1 hgo e1 e2 (gt_has e3.2) (of_decide_eq_true e3.1) h
  | baload =>
    simp only [okE, okA, ilen, Bool.and_eq_true, beq_iff_eq] at hE
    obtain ⟨e1, e2⟩ := hE.1
    have e1 := of_decide_eq_true e1
    by_cases ha : a = 1
    · exact is_baloadS hgo e1 e2 ha h
    · refine is_baload (a := 0) (b := b) (ts := ts) (v := v) (rt := rt) (KD := DoesQ l G d) (KR := post) hgo e1 e2 rfl ?_
      have h3 : (a == 1) = false := by simpa using ha
      simp only [instP, h3, cond_false] at h ⊢
      exact h
  | getfield idx =>
    simp only [okE, okA, ilen, Bool.and_eq_true, beq_iff_eq] at hE
    obtain ⟨⟨e1, e2⟩, e3⟩ := hE
    have e1 := of_decide_eq_true e1
    by_cases ha : a = 20
    · subst ha
      simp only [beq_self_eq_true, cond_true, Bool.and_eq_true] at e3
      exact is_getfieldS hgo e1 e2 rfl (of_decide_eq_true e3.1) (gt_has e3.2) h
    · have h3 : (a == 20) = false := by simpa using ha
      rw [h3] at e3
      simp only [cond_false] at e3
      split at e3
      · rename_i cc hc
        rw [Bool.and_eq_true] at e3
        exact is_getfield hgo e1 e2 ha hc (of_decide_eq_true e3.1) (gt_has e3.2) h
      · cases e3
  | putfield idx =>
    simp only [okE, okA, ilen, Bool.and_eq_true, beq_iff_eq] at hE
    obtain ⟨⟨e1, e2⟩, e3⟩ := hE
    have e1 := of_decide_eq_true e1
    split at e3
    · rename_i cc hc
      simp only [Bool.and_eq_true] at e3
      exact is_putfield hgo e1 e2 hc (of_decide_eq_true e3.1.1) (of_decide_eq_true e3.1.2) (gt_has e3.2) h
    · cases e3
  | invokevirtual idx =>
    simp only [okE, okA, ilen, Bool.and_eq_true, beq_iff_eq] at hE
    obtain ⟨⟨e1, e2⟩, e3⟩ := hE
    have e1 := of_decide_eq_true e1
    split at e3
    · rename_i g' hg'
      simp only [Bool.and_eq_true] at e3
      obtain ⟨⟨⟨⟨w1, w2⟩, w3⟩, w4⟩, e7⟩ := e3
      obtain ⟨e5, e6⟩ := of_decide_eq_true e7
      exact is_invokevirtual hgo e1 e2 hg' (sg_ok hg') (gt_has w1) (gt_has w2) (gt_has w3) (gt_has w4) e5 e6 h
    · cases e3
  | invokestatic idx =>
    simp only [okE, okA, ilen, Bool.and_eq_true, beq_iff_eq] at hE
    obtain ⟨⟨e1, e2⟩, e3⟩ := hE
    have e1 := of_decide_eq_true e1
    by_cases ha : a = 999
    · subst ha
      simp only [beq_self_eq_true, cond_true, Bool.and_eq_true] at e3
      obtain ⟨⟨⟨w1, w2⟩, w3⟩, w4⟩ := e3
      exact is_arraycopy hgo e1 e2 rfl (gt_has w1) (gt_has w2) (gt_has w3) (gt_has w4) h
    by_cases ha8 : a = 998
    · subst ha8
      simp only [show ((998 : Nat) == 999) = false from rfl, beq_self_eq_true, cond_true, cond_false, Bool.and_eq_true] at e3
      obtain ⟨⟨⟨w1, w2⟩, w3⟩, w4⟩ := e3
      exact is_mmin hgo e1 e2 rfl (gt_has w1) (gt_has w2) (gt_has w3) (gt_has w4) h
    by_cases ha7 : a = 997
    · subst ha7
      simp only [show ((997 : Nat) == 999) = false from rfl, show ((997 : Nat) == 998) = false from rfl, beq_self_eq_true, cond_true, cond_false, Bool.and_eq_true] at e3
      obtain ⟨⟨⟨w1, w2⟩, w3⟩, w4⟩ := e3
      exact is_mmax hgo e1 e2 rfl (gt_has w1) (gt_has w2) (gt_has w3) (gt_has w4) h
    · have h3 : (a == 999) = false := by simpa using ha
      have h8 : (a == 998) = false := by simpa using ha8
      have h7 : (a == 997) = false := by simpa using ha7
      rw [h3, h8, h7] at e3
      simp only [cond_false] at e3
      split at e3
      · rename_i g' hg'
        simp only [Bool.and_eq_true] at e3
        obtain ⟨⟨⟨w1, w2⟩, w4⟩, e6⟩ := e3
        have e6 := of_decide_eq_true e6
        exact is_invokestatic hgo e1 e2 ha ha8 ha7 hg' (sg_ok hg') (gt_has w1) (gt_has w2) (gt_has w4) e6 h
      · cases e3
  | ireturn =>
    simp only [okE, okA, ilen, Bool.and_eq_true, beq_iff_eq] at hE
    exact is_ireturn (of_decide_eq_true hR) (of_decide_eq_true hE.1.1) h
  | return_ =>
    simp only [okE, okA, ilen, Bool.and_eq_true, beq_iff_eq] at hE
    exact is_return (of_decide_eq_true hR) (of_decide_eq_true hE.1.1) h
  | areturn =>
    simp only [okE, okA, ilen, Bool.and_eq_true, beq_iff_eq] at hE
    simp only [retok] at hR
    split at hR
    · rename_i C hC
      exact is_areturn hC (of_decide_eq_true hE.1.1) h
    · cases hR
  | _ => exact False.elim h
theorem wp_sound {rt : FieldType} {stops : List Nat} {tbl : List Ent} (hT : tbl.all (okE g.1.cls g.2.1) = true) (hR : tbl.all (retok g rt) = true) : ∀ (n pc : Nat) (ls st : List Value) (σ : St), wp (fun pc ls st σ => AtA l G (d + 1) g pc ls st σ post) (DoesQ l G d) post rt stops tbl n pc ls st σ → AtA l G (d + 1) g pc ls st σ post := by
  intro n
  induction n with
  | zero => exact fun pc ls st σ h => h
  | succ n ih =>
    intro pc ls st σ h
    have h' : stepP (DoesQ l G d) post rt tbl (fun pc ls st σ => cond (stops.contains pc) (AtA l G (d + 1) g pc ls st σ post) (wp (fun pc ls st σ => AtA l G (d + 1) g pc ls st σ post) (DoesQ l G d) post rt stops tbl n pc ls st σ)) pc ls st σ := h
    unfold stepP at h'
    split at h'
    · rename_i pc' ins nx a b ts v wi hf
      have h1 := List.find?_some hf
      have h2 := List.mem_of_find?_eq_some hf
      have h3 : pc' = pc := by simpa using h1
      subst h3
      refine inst_sound (fun pc ls st σ hg => ?_) (List.all_eq_true.mp hT _ h2) (List.all_eq_true.mp hR _ h2) h'
      cases hc : stops.contains pc with
      | true => simp only [hc, cond_true] at hg; exact hg
      | false => simp only [hc, cond_false] at hg; exact ih pc ls st σ hg
    · exact h'.elim
/-- the locals at a method's entry -/
def entryL (av : List Value) (nL : Nat) : List Value := (av.flatMap fun v => if v.category = 2 then [v, .null] else [v]) ++ List.replicate (nL - (av.flatMap fun v => if v.category = 2 then [v, .null] else [v]).length) .null
theorem ent_len (av : List Value) : (lg_sl (av.map (vmp G))).length = (av.flatMap fun v => if v.category = 2 then [v, Value.null] else [v]).length := by
  induction av with
  | nil => rfl
  | cons v av ih =>
    simp only [lg_sl, List.map_cons, List.flatMap_cons, List.length_append, vmp_cat] at ih ⊢
    rw [ih]
    split <;> rfl
theorem ent_at (av : List Value) : ∀ (i : Nat) (v : Value), (av.flatMap fun v => if v.category = 2 then [v, Value.null] else [v])[i]? = some v → v ≠ .null → (lg_sl (av.map (vmp G)))[i]? = some (.val (vmp G v)) := by
  induction av with
  | nil => intro i v h; simp at h
  | cons w av ih =>
    intro i v h hn
    simp only [lg_sl, List.map_cons, List.flatMap_cons, vmp_cat] at ih h ⊢
    by_cases hc : w.category = 2
    · simp only [hc, if_true] at h ⊢
      match i, h with
      | 0, h => simp at h; subst h; rfl
      | 1, h => simp at h; exact absurd h.symm hn
      | i + 2, h => exact ih i v h hn
    · simp only [hc, if_false] at h ⊢
      match i, h with
      | 0, h => simp at h; subst h; rfl
      | i + 1, h => exact ih i v h hn
theorem does_of {k : Nat} {av : List Value} (hk : sigs[k]? = some g) (hlen : (av.flatMap fun v => if v.category = 2 then [v, Value.null] else [v]).length ≤ g.2.2.1) (h : AtA l G d g 0 (entryL av g.2.2.1) [] σ post) : DoesQ l G d k av σ post := by
  intro g' hg'
  rw [hk] at hg'
  cases hg'
  refine Met.ofW (cc := g.2.1) (maxL := g.2.2.1) (ret := g.2.2.2) (sg_ok hk).2.1 rfl ?_
  intro p e s m args below meth c s₁ B hml hv
  obtain ⟨rfl, hP, hK, hd, hs⟩ := hv
  have hts := atoms_spec (ws := Cond.code g.1 g.2.1 g.2.2.1 g.2.2.2 :: gtbl) B.pre
  have hown : s.vm.findClass g.1.cls = some m.cls := findClass_of_methodNamed B.named
  have he := lv_entry (av.map (vmp G)) (n := g.2.2.1) (by rw [ent_len]; exact hlen)
  rw [lg_entry_eq]
  refine h p e s m _ below meth c s.heap [] _ ⟨B.exec, B.bytes, hml, hown, fun w hw => hts w (List.mem_cons_of_mem _ hw), B.returns, B.notSynchronized, hK, hd, hs⟩ hP va_S.rf ⟨he.1, he.2.1, ?_, fun i v hi hv => ?_⟩
  · unfold entryL
    rw [List.length_append, List.length_replicate]
    omega
  · unfold entryL at hi
    rw [List.getElem?_toArray]
    by_cases hl : i < (av.flatMap fun v => if v.category = 2 then [v, Value.null] else [v]).length
    · rw [List.getElem?_append_left hl] at hi
      rw [List.getElem?_append_left (by rw [ent_len]; exact hl)]
      exact ent_at av i v hi hv
    · rw [List.getElem?_append_right (Nat.not_lt.mp hl)] at hi
      exact absurd (List.eq_of_mem_replicate (List.mem_of_getElem? hi)) hv
/-- a method, by a walk of n instructions from its entry -/
theorem does_wp (n : Nat) {rt : FieldType} {stops : List Nat} {tbl : List Ent} {k : Nat} {av : List Value} (hk : sigs[k]? = some g) (hT : tbl.all (okE g.1.cls g.2.1) = true) (hR : tbl.all (retok g rt) = true) (hlen : (av.flatMap fun v => if v.category = 2 then [v, Value.null] else [v]).length ≤ g.2.2.1) (h : wp (fun pc ls st σ => AtA l G (d + 1) g pc ls st σ post) (DoesQ l G d) post rt stops tbl n 0 (entryL av g.2.2.1) [] σ) : DoesQ l G (d + 1) k av σ post :=
  does_of hk hlen (wp_sound hT hR n 0 _ _ σ h)
end IS5
end
section
/-! classical if, answers of booleans, weakening; and what the ends of the methods are -/
noncomputable def iC {α : Type} (P : Prop) (a b : α) : α := @ite α P (Classical.propDecidable P) a b
theorem iC_t {α : Type} {P : Prop} {a b : α} (h : P) : iC P a b = a := by unfold iC; rw [if_pos h]
theorem iC_f {α : Type} {P : Prop} {a b : α} (h : ¬ P) : iC P a b = b := by unfold iC; rw [if_neg h]
def iP (P A B : Prop) : Prop := (P → A) ∧ (¬ P → B)
theorem iP_t {P A B : Prop} (h : P) : iP P A B = A := propext ⟨fun z => z.1 h, fun z => ⟨fun _ => z, fun n => absurd h n⟩⟩
theorem iP_f {P A B : Prop} (h : ¬ P) : iP P A B = B := propext ⟨fun z => z.2 h, fun z => ⟨fun n => absurd n h, fun _ => z⟩⟩
noncomputable def bI (P : Prop) : Int32 := iC P 1 0
theorem bI_1 {P : Prop} (h : P) : bI P = 1 := iC_t h
theorem bI_0 {P : Prop} (h : ¬ P) : bI P = 0 := iC_f h
theorem bI_T : bI True = 1 := bI_1 trivial
theorem bI_F : bI False = 0 := bI_0 id
theorem bI_n {P : Prop} (h : bI P = 0) : ¬ P := fun z => by rw [bI_1 z] at h; exact absurd h (by decide)
theorem bI_p {P : Prop} (h : ¬ bI P = 0) : P := Classical.byContradiction fun z => h (bI_0 z)
theorem bI_nar {P : Prop} : narrow .boolean (.int (bI P)) = .int (bI P) := by
  by_cases h : P
  · rw [bI_1 h]; rfl
  · rw [bI_0 h]; rfl
theorem lfI {a b : Int32} {s : St} {Q : Int32 → St → Prop} (e : a = b) (h : Q a s) : Q b s := e ▸ h
theorem lfV {a b : St} {Q : St → Prop} (e : a = b) (h : Q a) : Q b := e ▸ h
theorem lfF {a : Int32 × St} {x : Int32} {t : St} {Q : Int32 → St → Prop} (e : a = (x, t)) (h : Q a.1 a.2) : Q x t := by rw [e] at h; exact h
theorem does_mono {l : Launch} {G : Geo} {d k : Nat} {av : List Value} {σ : St} {p1 p2 : Option Value → St → Prop} (h : DoesQ l G d k av σ p1) (hm : ∀ r σ', p1 r σ' → p2 r σ') : DoesQ l G d k av σ p2 := by
  intro g hg p e ha hc hk s m args below hf happ hP hK
  obtain ⟨n, o, h1, h2, h3, ⟨⟨⟨r, σ', e1, e2, e3⟩, hF⟩, L⟩⟩ := h g hg p e ha hc hk s m args below hf happ hP hK
  exact ⟨n, o, h1, h2, h3, ⟨⟨⟨r, σ', e1, hm r σ' e2, e3⟩, hF⟩, L⟩⟩
theorem doesI_mono {l : Launch} {G : Geo} {d k : Nat} {av : List Value} {σ : St} {p1 p2 : Int32 → St → Prop} (h : DoesI l G d k av σ p1) (hm : ∀ r σ', p1 r σ' → p2 r σ') : DoesI l G d k av σ p2 :=
  does_mono h fun r σ' hp => by
    unfold pI at hp ⊢
    split at hp
    · exact hm _ _ hp
    · exact hp.elim
theorem doesV_mono {l : Launch} {G : Geo} {d k : Nat} {av : List Value} {σ : St} {p1 p2 : St → Prop} (h : DoesV l G d k av σ p1) (hm : ∀ σ', p1 σ' → p2 σ') : DoesV l G d k av σ p2 :=
  does_mono h fun r σ' hp => by
    unfold pV at hp ⊢
    split at hp
    · exact hm _ hp
    · exact hp.elim
theorem doesR_mono {l : Launch} {G : Geo} {d k : Nat} {av : List Value} {σ : St} {p1 p2 : Nat → St → Prop} (h : DoesR l G d k av σ p1) (hm : ∀ r σ', p1 r σ' → p2 r σ') : DoesR l G d k av σ p2 :=
  does_mono h fun r σ' hp => by
    unfold pR at hp ⊢
    split at hp
    · exact hm _ _ hp
    · exact hp.elim
/-- the first list knows no more than the second -/
def wk : List Value → List Value → Prop
  | [], _ => True
  | .null :: a, _ :: b => wk a b
  | x :: a, y :: b => x = y ∧ wk a b
  | _ :: _, [] => False
theorem wk_at : ∀ {a b : List Value}, wk a b → a.length ≤ b.length ∧ ∀ (i : Nat) (v : Value), a[i]? = some v → v ≠ .null → b[i]? = some v
  | [], _, _ => ⟨Nat.zero_le _, fun i v h => by simp at h⟩
  | x :: a, [], h => by cases x <;> exact False.elim h
  | x :: a, y :: b, h => by
    have key : wk a b ∧ (x ≠ .null → x = y) := by
      cases x <;> first | exact ⟨h, fun z => absurd rfl z⟩ | exact ⟨h.2, fun _ => h.1⟩
    obtain ⟨h1, h2⟩ := wk_at key.1
    refine ⟨Nat.succ_le_succ h1, fun i v hi hv => ?_⟩
    match i, hi with
    | 0, hi =>
      simp at hi
      subst hi
      simp [key.2 hv]
    | i + 1, hi => exact h2 i v hi hv
theorem at_weak {l : Launch} {G : Geo} {d pc : Nat} {g : Sig} {a b st : List Value} {σ : St} {post : Option Value → St → Prop} (hw : wk a b) (h : AtA l G d g pc a st σ post) : AtA l G d g pc b st σ post := by
  obtain ⟨h1, h2⟩ := wk_at hw
  intro p e s m args below meth c H locs lsA F hP hS hL
  exact h p e s m args below meth c H locs lsA F hP hS ⟨hL.1, hL.2.1, Nat.le_trans h1 hL.2.2.1, fun i v hi hv => hL.2.2.2 i v (h2 i v hi hv) hv⟩
theorem at_weak2 {l : Launch} {G : Geo} {d pc : Nat} {g : Sig} {a b st : List Value} {σ : St} {post : Option Value → St → Prop} (h : AtA l G d g pc a st σ post) (hw : wk a b) : AtA l G d g pc b st σ post := at_weak hw h

theorem rk_X0_copyFrom : tX0_copyFrom.all (retok sX0_copyFrom .int) = true := by decide +kernel
theorem rk_X0_beginAnew : tX0_beginAnew.all (retok sX0_beginAnew .int) = true := by decide +kernel
theorem rk_X0_size : tX0_size.all (retok sX0_size .int) = true := by decide +kernel
theorem rk_X0_allVoices : tX0_allVoices.all (retok sX0_allVoices .int) = true := by decide +kernel
theorem rk_X0_has : tX0_has.all (retok sX0_has .boolean) = true := by decide +kernel
theorem rk_X0_isAway : tX0_isAway.all (retok sX0_isAway .boolean) = true := by decide +kernel
theorem rk_X0_isHoarse : tX0_isHoarse.all (retok sX0_isHoarse .boolean) = true := by decide +kernel
theorem rk_X0_lateOf : tX0_lateOf.all (retok sX0_lateOf .int) = true := by decide +kernel
theorem rk_X0_setAway : tX0_setAway.all (retok sX0_setAway .int) = true := by decide +kernel
theorem rk_X0_setHoarse : tX0_setHoarse.all (retok sX0_setHoarse .int) = true := by decide +kernel
theorem rk_X0_setLate : tX0_setLate.all (retok sX0_setLate .int) = true := by decide +kernel
theorem rk_X0_voiceOf : tX0_voiceOf.all (retok sX0_voiceOf .int) = true := by decide +kernel
theorem rk_X0_isSaid : tX0_isSaid.all (retok sX0_isSaid .boolean) = true := by decide +kernel
theorem rk_X1_prepare : tX1_prepare.all (retok sX1_prepare .int) = true := by decide +kernel
theorem rk_X1_findChoices : tX1_findChoices.all (retok sX1_findChoices .int) = true := by decide +kernel
theorem rk_X1_findReached : tX1_findReached.all (retok sX1_findReached .int) = true := by decide +kernel
theorem rk_X1_stepFrom : tX1_stepFrom.all (retok sX1_stepFrom .int) = true := by decide +kernel
theorem rk_X1_choicesAt : tX1_choicesAt.all (retok sX1_choicesAt .int) = true := by decide +kernel
theorem rk_X1_isReached : tX1_isReached.all (retok sX1_isReached .boolean) = true := by decide +kernel
theorem rk_X1_findWays : tX1_findWays.all (retok sX1_findWays .int) = true := by decide +kernel
theorem rk_X1_sumOfWays : tX1_sumOfWays.all (retok sX1_sumOfWays .int) = true := by decide +kernel
theorem rk_X1_waysBehind : tX1_waysBehind.all (retok sX1_waysBehind .int) = true := by decide +kernel
theorem rk_X1_total : tX1_total.all (retok sX1_total .int) = true := by decide +kernel
theorem rk_X1_wordsInAny : tX1_wordsInAny.all (retok sX1_wordsInAny .int) = true := by decide +kernel
theorem rk_X1_wordsThatEndWell : tX1_wordsThatEndWell.all (retok sX1_wordsThatEndWell .int) = true := by decide +kernel
theorem rk_X1_wordOfFirst : tX1_wordOfFirst.all (retok sX1_wordOfFirst .int) = true := by decide +kernel
theorem rk_X1_leastThatEndsWell : tX1_leastThatEndsWell.all (retok sX1_leastThatEndsWell .int) = true := by decide +kernel
theorem rk_X2_wordSaidBy : tX2_wordSaidBy.all (retok sX2_wordSaidBy .int) = true := by decide +kernel
theorem rk_X2_isSaidBy : tX2_isSaidBy.all (retok sX2_isSaidBy .boolean) = true := by decide +kernel
theorem rk_X2_countTwins : tX2_countTwins.all (retok sX2_countTwins .int) = true := by decide +kernel
theorem rk_X2_firstTwins : tX2_firstTwins.all (retok sX2_firstTwins .int) = true := by decide +kernel
theorem rk_X2_twinOf : tX2_twinOf.all (retok sX2_twinOf .int) = true := by decide +kernel
theorem rk_X2_sumOfClassSizes : tX2_sumOfClassSizes.all (retok sX2_sumOfClassSizes .int) = true := by decide +kernel
theorem rk_X2_countClasses : tX2_countClasses.all (retok sX2_countClasses .int) = true := by decide +kernel
theorem rk_X2_isOneClass : tX2_isOneClass.all (retok sX2_isOneClass .boolean) = true := by decide +kernel
theorem rk_X2_voicesThatDiffer : tX2_voicesThatDiffer.all (retok sX2_voicesThatDiffer .int) = true := by decide +kernel
theorem rk_X2_greatestBearing : tX2_greatestBearing.all (retok sX2_greatestBearing .int) = true := by decide +kernel
theorem rk_X2_isClash : tX2_isClash.all (retok sX2_isClash .boolean) = true := by decide +kernel
theorem rk_X2_greatestWithoutClash : tX2_greatestWithoutClash.all (retok sX2_greatestWithoutClash .int) = true := by decide +kernel
theorem rk_X3_linesRead : tX3_linesRead.all (retok sX3_linesRead .int) = true := by decide +kernel
theorem rk_X3_readToFault : tX3_readToFault.all (retok sX3_readToFault .int) = true := by decide +kernel
theorem rk_X3_advance : tX3_advance.all (retok sX3_advance .int) = true := by decide +kernel
theorem rk_X3_tokenIs : tX3_tokenIs.all (retok sX3_tokenIs .boolean) = true := by decide +kernel
theorem rk_X3_takeNumber : tX3_takeNumber.all (retok sX3_takeNumber .int) = true := by decide +kernel
theorem rk_X3_doLine : tX3_doLine.all (retok sX3_doLine .boolean) = true := by decide +kernel
theorem rk_X3_doOrder : tX3_doOrder.all (retok sX3_doOrder .boolean) = true := by decide +kernel
theorem rk_X3_doWord : tX3_doWord.all (retok sX3_doWord .boolean) = true := by decide +kernel
theorem rk_X3_doNot : tX3_doNot.all (retok sX3_doNot .boolean) = true := by decide +kernel
theorem rk_X3_doFree : tX3_doFree.all (retok sX3_doFree .boolean) = true := by decide +kernel
theorem rk_X3_doAway : tX3_doAway.all (retok sX3_doAway .boolean) = true := by decide +kernel
theorem rk_X3_doHoarse : tX3_doHoarse.all (retok sX3_doHoarse .boolean) = true := by decide +kernel
theorem rk_X3_doLate : tX3_doLate.all (retok sX3_doLate .boolean) = true := by decide +kernel
theorem rk_X4_length : tX4_length.all (retok sX4_length .int) = true := by decide +kernel
theorem rk_X4_hasRoom : tX4_hasRoom.all (retok sX4_hasRoom .boolean) = true := by decide +kernel
theorem rk_X4_append : tX4_append.all (retok sX4_append .int) = true := by decide +kernel
theorem rk_X4_makeEmpty : tX4_makeEmpty.all (retok sX4_makeEmpty .int) = true := by decide +kernel
theorem rk_X4_at : tX4_at.all (retok sX4_at .int) = true := by decide +kernel
theorem rk_X4_endOfRow : tX4_endOfRow.all (retok sX4_endOfRow .int) = true := by decide +kernel
theorem rk_X5_prepare : tX5_prepare.all (retok sX5_prepare .int) = true := by decide +kernel
theorem rk_X5_countLetters : tX5_countLetters.all (retok sX5_countLetters .int) = true := by decide +kernel
theorem rk_X5_countLetter : tX5_countLetter.all (retok sX5_countLetter .int) = true := by decide +kernel
theorem rk_X5_leastBest : tX5_leastBest.all (retok sX5_leastBest .int) = true := by decide +kernel
theorem rk_X5_fewestWith : tX5_fewestWith.all (retok sX5_fewestWith .int) = true := by decide +kernel
theorem rk_X5_spoiltBy : tX5_spoiltBy.all (retok sX5_spoiltBy .int) = true := by decide +kernel
theorem rk_X5_fewestSpoilt : tX5_fewestSpoilt.all (retok sX5_fewestSpoilt .int) = true := by decide +kernel
theorem rk_X5_voiceAt : tX5_voiceAt.all (retok sX5_voiceAt .int) = true := by decide +kernel
theorem rk_X6_copyFrom : tX6_copyFrom.all (retok sX6_copyFrom .int) = true := by decide +kernel
theorem rk_X6_makeEmpty : tX6_makeEmpty.all (retok sX6_makeEmpty .int) = true := by decide +kernel
theorem rk_X6_letterTotal : tX6_letterTotal.all (retok sX6_letterTotal .int) = true := by decide +kernel
theorem rk_X6_wordTotal : tX6_wordTotal.all (retok sX6_wordTotal .int) = true := by decide +kernel
theorem rk_X6_saidTotal : tX6_saidTotal.all (retok sX6_saidTotal .int) = true := by decide +kernel
theorem rk_X6_lastWord : tX6_lastWord.all (retok sX6_lastWord .int) = true := by decide +kernel
theorem rk_X6_hasRoom : tX6_hasRoom.all (retok sX6_hasRoom .boolean) = true := by decide +kernel
theorem rk_X6_append : tX6_append.all (retok sX6_append .int) = true := by decide +kernel
theorem rk_X6_sayMore : tX6_sayMore.all (retok sX6_sayMore .int) = true := by decide +kernel
theorem rk_X6_letterAt : tX6_letterAt.all (retok sX6_letterAt .int) = true := by decide +kernel
theorem rk_X6_heardAt : tX6_heardAt.all (retok sX6_heardAt .int) = true := by decide +kernel
theorem rk_X6_lettersHeard : tX6_lettersHeard.all (retok sX6_lettersHeard .int) = true := by decide +kernel
theorem rk_X6_lettersSaidBy : tX6_lettersSaidBy.all (retok sX6_lettersSaidBy .int) = true := by decide +kernel
theorem rk_X6_countLateRows : tX6_countLateRows.all (retok sX6_countLateRows .int) = true := by decide +kernel
theorem rk_X6_firstLateRow : tX6_firstLateRow.all (retok sX6_firstLateRow .int) = true := by decide +kernel
theorem rk_X6_leastLate : tX6_leastLate.all (retok sX6_leastLate .int) = true := by decide +kernel
theorem rk_X6_isHeardLate : tX6_isHeardLate.all (retok sX6_isHeardLate .boolean) = true := by decide +kernel
theorem rk_X7_length : tX7_length.all (retok sX7_length .int) = true := by decide +kernel
theorem rk_X7_isFull : tX7_isFull.all (retok sX7_isFull .boolean) = true := by decide +kernel
theorem rk_X7_makeEmpty : tX7_makeEmpty.all (retok sX7_makeEmpty .int) = true := by decide +kernel
theorem rk_X7_append : tX7_append.all (retok sX7_append .int) = true := by decide +kernel
theorem rk_X7_at : tX7_at.all (retok sX7_at .int) = true := by decide +kernel
theorem rk_X7_isFitting : tX7_isFitting.all (retok sX7_isFitting .boolean) = true := by decide +kernel
theorem rk_X8_copyFrom : tX8_copyFrom.all (retok sX8_copyFrom .int) = true := by decide +kernel
theorem rk_X9_copyFrom : tX9_copyFrom.all (retok sX9_copyFrom .int) = true := by decide +kernel
theorem rk_X9_size : tX9_size.all (retok sX9_size .int) = true := by decide +kernel
theorem rk_X9_isFull : tX9_isFull.all (retok sX9_isFull .boolean) = true := by decide +kernel
theorem rk_X9_has : tX9_has.all (retok sX9_has .boolean) = true := by decide +kernel
theorem rk_X9_lengthOf : tX9_lengthOf.all (retok sX9_lengthOf .int) = true := by decide +kernel
theorem rk_X9_sortOf : tX9_sortOf.all (retok sX9_sortOf .int) = true := by decide +kernel
theorem rk_X9_letterOf : tX9_letterOf.all (retok sX9_letterOf .int) = true := by decide +kernel
theorem rk_X9_followBits : tX9_followBits.all (retok sX9_followBits .int) = true := by decide +kernel
theorem rk_X9_mayFollow : tX9_mayFollow.all (retok sX9_mayFollow .boolean) = true := by decide +kernel
theorem rk_X9_forbid : tX9_forbid.all (retok sX9_forbid .int) = true := by decide +kernel
theorem rk_X9_makeFree : tX9_makeFree.all (retok sX9_makeFree .int) = true := by decide +kernel
theorem rk_X9_isTold : tX9_isTold.all (retok sX9_isTold .boolean) = true := by decide +kernel
theorem rk_X9_isSpelt : tX9_isSpelt.all (retok sX9_isSpelt .boolean) = true := by decide +kernel
theorem rk_X9_append : tX9_append.all (retok sX9_append .int) = true := by decide +kernel
theorem rk_X10_write : tX10_write.all (retok sX10_write .int) = true := by decide +kernel
theorem rk_X10_erase : tX10_erase.all (retok sX10_erase .int) = true := by decide +kernel
theorem rk_X10_fault : tX10_fault.all (retok sX10_fault .int) = true := by decide +kernel
theorem rk_X10_order : tX10_order.all (retok sX10_order .int) = true := by decide +kernel
theorem rk_X10_word : tX10_word.all (retok sX10_word .int) = true := by decide +kernel
theorem rk_X10_voice : tX10_voice.all (retok sX10_voice .int) = true := by decide +kernel
theorem rk_X10_preach : tX10_preach.all (retok sX10_preach .int) = true := by decide +kernel
theorem rk_X10_amen : tX10_amen.all (retok sX10_amen .int) = true := by decide +kernel
theorem rk_X10_say : tX10_say.all (retok sX10_say .int) = true := by decide +kernel
theorem rk_X10_heard : tX10_heard.all (retok sX10_heard .int) = true := by decide +kernel
theorem rk_X10_tally : tX10_tally.all (retok sX10_tally .int) = true := by decide +kernel
theorem rk_X10_sound : tX10_sound.all (retok sX10_sound .int) = true := by decide +kernel
theorem rk_X10_listen : tX10_listen.all (retok sX10_listen .int) = true := by decide +kernel
theorem rk_X10_hush : tX10_hush.all (retok sX10_hush .int) = true := by decide +kernel
theorem rk_X10_fits : tX10_fits.all (retok sX10_fits .int) = true := by decide +kernel
theorem rk_X10_readings : tX10_readings.all (retok sX10_readings .int) = true := by decide +kernel
theorem rk_X10_came : tX10_came.all (retok sX10_came .int) = true := by decide +kernel
theorem rk_X10_alone : tX10_alone.all (retok sX10_alone .int) = true := by decide +kernel
theorem rk_X10_twins : tX10_twins.all (retok sX10_twins .int) = true := by decide +kernel
theorem rk_X10_learnt : tX10_learnt.all (retok sX10_learnt .int) = true := by decide +kernel
theorem rk_X10_seats : tX10_seats.all (retok sX10_seats .int) = true := by decide +kernel
theorem rk_X10_bears : tX10_bears.all (retok sX10_bears .int) = true := by decide +kernel
theorem rk_X10_keep : tX10_keep.all (retok sX10_keep .int) = true := by decide +kernel
theorem rk_X10_back : tX10_back.all (retok sX10_back .int) = true := by decide +kernel
theorem rk_X10_count : tX10_count.all (retok sX10_count .int) = true := by decide +kernel
theorem rk_X10_shelf : tX10_shelf.all (retok sX10_shelf .int) = true := by decide +kernel
theorem rk_X10_lowestTerm : tX10_lowestTerm.all (retok sX10_lowestTerm .int) = true := by decide +kernel
theorem rk_X11_in : tX11_in.all (retok sX11_in .boolean) = true := by decide +kernel
theorem rk_X11_has : tX11_has.all (retok sX11_has .boolean) = true := by decide +kernel
theorem rk_X11_isWord : tX11_isWord.all (retok sX11_isWord .boolean) = true := by decide +kernel
theorem rk_X11_isVoice : tX11_isVoice.all (retok sX11_isVoice .boolean) = true := by decide +kernel
theorem rk_X11_write : tX11_write.all (retok sX11_write .int) = true := by decide +kernel
theorem rk_X11_erase : tX11_erase.all (retok sX11_erase .int) = true := by decide +kernel
theorem rk_X11_nextToken : tX11_nextToken.all (retok sX11_nextToken .int) = true := by decide +kernel
theorem rk_X11_fails : tX11_fails.all (retok sX11_fails .boolean) = true := by decide +kernel
theorem rk_X11_isNumber : tX11_isNumber.all (retok sX11_isNumber .boolean) = true := by decide +kernel
theorem rk_X11_isVoiceRead : tX11_isVoiceRead.all (retok sX11_isVoiceRead .boolean) = true := by decide +kernel
theorem rk_X11_isOrder : tX11_isOrder.all (retok sX11_isOrder .boolean) = true := by decide +kernel
theorem rk_X11_isTold : tX11_isTold.all (retok sX11_isTold .boolean) = true := by decide +kernel
theorem rk_X11_isWordLine : tX11_isWordLine.all (retok sX11_isWordLine .boolean) = true := by decide +kernel
theorem rk_X11_isLine : tX11_isLine.all (retok sX11_isLine .boolean) = true := by decide +kernel
theorem rk_X11_isRead : tX11_isRead.all (retok sX11_isRead .boolean) = true := by decide +kernel
theorem rk_X11_fault : tX11_fault.all (retok sX11_fault .int) = true := by decide +kernel
theorem rk_X11_addWord : tX11_addWord.all (retok sX11_addWord .int) = true := by decide +kernel
theorem rk_X11_doLine : tX11_doLine.all (retok sX11_doLine .int) = true := by decide +kernel
theorem rk_X11_order : tX11_order.all (retok sX11_order .int) = true := by decide +kernel
theorem rk_X11_word : tX11_word.all (retok sX11_word .int) = true := by decide +kernel
theorem rk_X11_lettersOf : tX11_lettersOf.all (retok sX11_lettersOf .int) = true := by decide +kernel
theorem rk_X11_letterAt : tX11_letterAt.all (retok sX11_letterAt .int) = true := by decide +kernel
theorem rk_X11_isSaid : tX11_isSaid.all (retok sX11_isSaid .boolean) = true := by decide +kernel
theorem rk_X11_voice : tX11_voice.all (retok sX11_voice .int) = true := by decide +kernel
theorem rk_X11_mayFollow : tX11_mayFollow.all (retok sX11_mayFollow .boolean) = true := by decide +kernel
theorem rk_X11_preach : tX11_preach.all (retok sX11_preach .int) = true := by decide +kernel
theorem rk_X11_amen : tX11_amen.all (retok sX11_amen .int) = true := by decide +kernel
theorem rk_X11_say : tX11_say.all (retok sX11_say .int) = true := by decide +kernel
theorem rk_X11_heardAt : tX11_heardAt.all (retok sX11_heardAt .int) = true := by decide +kernel
theorem rk_X11_heard : tX11_heard.all (retok sX11_heard .int) = true := by decide +kernel
theorem rk_X11_tally : tX11_tally.all (retok sX11_tally .int) = true := by decide +kernel
theorem rk_X11_sound : tX11_sound.all (retok sX11_sound .int) = true := by decide +kernel
theorem rk_X11_listen : tX11_listen.all (retok sX11_listen .int) = true := by decide +kernel
theorem rk_X11_hush : tX11_hush.all (retok sX11_hush .int) = true := by decide +kernel
theorem rk_X11_doesFit : tX11_doesFit.all (retok sX11_doesFit .boolean) = true := by decide +kernel
theorem rk_X11_fits : tX11_fits.all (retok sX11_fits .int) = true := by decide +kernel
theorem rk_X11_waysAt : tX11_waysAt.all (retok sX11_waysAt .int) = true := by decide +kernel
theorem rk_X11_layWays : tX11_layWays.all (retok sX11_layWays .int) = true := by decide +kernel
theorem rk_X11_readingMany : tX11_readingMany.all (retok sX11_readingMany .int) = true := by decide +kernel
theorem rk_X11_comeIn : tX11_comeIn.all (retok sX11_comeIn .int) = true := by decide +kernel
theorem rk_X11_firstReading : tX11_firstReading.all (retok sX11_firstReading .int) = true := by decide +kernel
theorem rk_X11_readings : tX11_readings.all (retok sX11_readings .int) = true := by decide +kernel
theorem rk_X11_came : tX11_came.all (retok sX11_came .int) = true := by decide +kernel
theorem rk_X11_wordBy : tX11_wordBy.all (retok sX11_wordBy .int) = true := by decide +kernel
theorem rk_X11_alone : tX11_alone.all (retok sX11_alone .int) = true := by decide +kernel
theorem rk_X11_twins : tX11_twins.all (retok sX11_twins .int) = true := by decide +kernel
theorem rk_X11_isClassed : tX11_isClassed.all (retok sX11_isClassed .boolean) = true := by decide +kernel
theorem rk_X11_divisor : tX11_divisor.all (retok sX11_divisor .int) = true := by decide +kernel
theorem rk_X11_learnt : tX11_learnt.all (retok sX11_learnt .int) = true := by decide +kernel
theorem rk_X11_laySeats : tX11_laySeats.all (retok sX11_laySeats .boolean) = true := by decide +kernel
theorem rk_X11_spoilt : tX11_spoilt.all (retok sX11_spoilt .int) = true := by decide +kernel
theorem rk_X11_seats : tX11_seats.all (retok sX11_seats .int) = true := by decide +kernel
theorem rk_X11_areApart : tX11_areApart.all (retok sX11_areApart .boolean) = true := by decide +kernel
theorem rk_X11_bits : tX11_bits.all (retok sX11_bits .int) = true := by decide +kernel
theorem rk_X11_bears : tX11_bears.all (retok sX11_bears .int) = true := by decide +kernel
theorem rk_X11_keep : tX11_keep.all (retok sX11_keep .int) = true := by decide +kernel
theorem rk_X11_back : tX11_back.all (retok sX11_back .int) = true := by decide +kernel
theorem rk_X11_count : tX11_count.all (retok sX11_count .int) = true := by decide +kernel
theorem rk_J6_bitCount_0f7a4 : tJ6_bitCount_0f7a4.all (retok sJ6_bitCount_0f7a4 .int) = true := by decide +kernel
theorem rk_J0_length_8abf5 : tJ0_length_8abf5.all (retok sJ0_length_8abf5 .int) = true := by decide +kernel
theorem rk_J0_charAt_5068e : tJ0_charAt_5068e.all (retok sJ0_charAt_5068e .char) = true := by decide +kernel
theorem rk_J0_coder_7d493 : tJ0_coder_7d493.all (retok sJ0_coder_7d493 .byte) = true := by decide +kernel
theorem rk_J0_isLatin1_aae02 : tJ0_isLatin1_aae02.all (retok sJ0_isLatin1_aae02 .boolean) = true := by decide +kernel
theorem rk_J0_checkIndex_df160 : tJ0_checkIndex_df160.all (retok sJ0_checkIndex_df160 .int) = true := by decide +kernel
theorem rk_J1_charAt_3b067 : tJ1_charAt_3b067.all (retok sJ1_charAt_3b067 .char) = true := by decide +kernel
theorem rk_J3_checkIndex_8e157 : tJ3_checkIndex_8e157.all (retok sJ3_checkIndex_8e157 .int) = true := by decide +kernel
end
section
noncomputable def g_X0_copyFrom (s : St) (o : Nat) (p : Nat) : St := (sput (sput (sput (scpy s (p + 1) (Int32.toNatClampNeg 0) (o + 1) (Int32.toNatClampNeg 0) (Int32.toNatClampNeg (nI (tlen (o + 1))))) o 1 ((scpy s (p + 1) (Int32.toNatClampNeg 0) (o + 1) (Int32.toNatClampNeg 0) (Int32.toNatClampNeg (nI (tlen (o + 1))))).1 p 1)) o 2 ((sput (scpy s (p + 1) (Int32.toNatClampNeg 0) (o + 1) (Int32.toNatClampNeg 0) (Int32.toNatClampNeg (nI (tlen (o + 1))))) o 1 ((scpy s (p + 1) (Int32.toNatClampNeg 0) (o + 1) (Int32.toNatClampNeg 0) (Int32.toNatClampNeg (nI (tlen (o + 1))))).1 p 1)).1 p 2)) o 3 ((sput (sput (scpy s (p + 1) (Int32.toNatClampNeg 0) (o + 1) (Int32.toNatClampNeg 0) (Int32.toNatClampNeg (nI (tlen (o + 1))))) o 1 ((scpy s (p + 1) (Int32.toNatClampNeg 0) (o + 1) (Int32.toNatClampNeg 0) (Int32.toNatClampNeg (nI (tlen (o + 1))))).1 p 1)) o 2 ((sput (scpy s (p + 1) (Int32.toNatClampNeg 0) (o + 1) (Int32.toNatClampNeg 0) (Int32.toNatClampNeg (nI (tlen (o + 1))))) o 1 ((scpy s (p + 1) (Int32.toNatClampNeg 0) (o + 1) (Int32.toNatClampNeg 0) (Int32.toNatClampNeg (nI (tlen (o + 1))))).1 p 1)).1 p 2)).1 p 3))
def ok_X0_copyFrom (s : St) (o : Nat) (p : Nat) : Prop := ((0 < alen (p + 1) ∧ 0 < alen (o + 1) ∧ ¬ (0 : Int32) < 0 ∧ ¬ (0 : Int32) < 0 ∧ ¬ ((nI (tlen (o + 1))) : Int32) < 0 ∧ Int32.toNatClampNeg 0 + Int32.toNatClampNeg (nI (tlen (o + 1))) ≤ alen (p + 1) ∧ Int32.toNatClampNeg 0 + Int32.toNatClampNeg (nI (tlen (o + 1))) ≤ alen (o + 1)))
theorem p_X0_copyFrom {l : Launch} {G : Geo} {d : Nat} (o : Nat) (p : Nat) (ho : (o = 8 ∧ p = 15) ∨ (o = 15 ∧ p = 8)) (s : St) {Q : St → Prop} (hok : ok_X0_copyFrom s o p) (h : Q (g_X0_copyFrom s o p)) : DoesV l G (d + 1) 0 [.ref o, .ref p] s Q := by
  unfold ok_X0_copyFrom at hok
  have key : ((isArr (o + 1) = true) ∧ (((0 < alen (p + 1) ∧ 0 < alen (o + 1) ∧ ¬ (0 : Int32) < 0 ∧ ¬ (0 : Int32) < 0 ∧ ¬ ((nI (tlen (o + 1))) : Int32) < 0 ∧ Int32.toNatClampNeg 0 + Int32.toNatClampNeg (nI (tlen (o + 1))) ≤ alen (p + 1) ∧ Int32.toNatClampNeg 0 + Int32.toNatClampNeg (nI (tlen (o + 1))) ≤ alen (o + 1))) ∧ Q (sput (sput (sput (scpy s (p + 1) (Int32.toNatClampNeg 0) (o + 1) (Int32.toNatClampNeg 0) (Int32.toNatClampNeg (nI (tlen (o + 1))))) o 1 ((scpy s (p + 1) (Int32.toNatClampNeg 0) (o + 1) (Int32.toNatClampNeg 0) (Int32.toNatClampNeg (nI (tlen (o + 1))))).1 p 1)) o 2 ((sput (scpy s (p + 1) (Int32.toNatClampNeg 0) (o + 1) (Int32.toNatClampNeg 0) (Int32.toNatClampNeg (nI (tlen (o + 1))))) o 1 ((scpy s (p + 1) (Int32.toNatClampNeg 0) (o + 1) (Int32.toNatClampNeg 0) (Int32.toNatClampNeg (nI (tlen (o + 1))))).1 p 1)).1 p 2)) o 3 ((sput (sput (scpy s (p + 1) (Int32.toNatClampNeg 0) (o + 1) (Int32.toNatClampNeg 0) (Int32.toNatClampNeg (nI (tlen (o + 1))))) o 1 ((scpy s (p + 1) (Int32.toNatClampNeg 0) (o + 1) (Int32.toNatClampNeg 0) (Int32.toNatClampNeg (nI (tlen (o + 1))))).1 p 1)) o 2 ((sput (scpy s (p + 1) (Int32.toNatClampNeg 0) (o + 1) (Int32.toNatClampNeg 0) (Int32.toNatClampNeg (nI (tlen (o + 1))))) o 1 ((scpy s (p + 1) (Int32.toNatClampNeg 0) (o + 1) (Int32.toNatClampNeg 0) (Int32.toNatClampNeg (nI (tlen (o + 1))))).1 p 1)).1 p 2)).1 p 3)))) := ⟨(by rcases ho with ⟨rfl, rfl⟩ | ⟨rfl, rfl⟩ <;> rfl), ⟨hok, (lfV (by rw [g_X0_copyFrom]) h)⟩⟩
  rcases ho with ⟨rfl, rfl⟩ | ⟨rfl, rfl⟩
  all_goals exact does_wp 24 (g := sX0_copyFrom) (rt := .int) (stops := []) (tbl := tX0_copyFrom) rfl oX0_copyFrom rk_X0_copyFrom (Nat.le_of_ble_eq_true rfl) key
noncomputable def v_X0_size (s : St) (o : Nat) : Int32 := (s.1 o 1)
theorem p_X0_size {l : Launch} {G : Geo} {d : Nat} (o : Nat) (ho : o = 8 ∨ o = 15) (s : St) {Q : Int32 → St → Prop} (h : Q (v_X0_size s o) s) : DoesI l G (d + 1) 2 [.ref o] s Q := by
  have key : Q (s.1 o 1) s := (lfI (by rw [v_X0_size]) h)
  rcases ho with rfl | rfl
  all_goals exact does_wp 4 (g := sX0_size) (rt := .int) (stops := []) (tbl := tX0_size) rfl oX0_size rk_X0_size (Nat.le_of_ble_eq_true rfl) key
noncomputable def v_X0_allVoices (s : St) (o : Nat) : Int32 := ((1 <<< ((s.1 o 1) &&& 31)) - 1)
theorem p_X0_allVoices {l : Launch} {G : Geo} {d : Nat} (o : Nat) (ho : o = 8 ∨ o = 15) (s : St) {Q : Int32 → St → Prop} (h : Q (v_X0_allVoices s o) s) : DoesI l G (d + 1) 3 [.ref o] s Q := by
  have key : Q ((1 <<< ((s.1 o 1) &&& 31)) - 1) s := (lfI (by rw [v_X0_allVoices]) h)
  rcases ho with rfl | rfl
  all_goals exact does_wp 8 (g := sX0_allVoices) (rt := .int) (stops := []) (tbl := tX0_allVoices) rfl oX0_allVoices rk_X0_allVoices (Nat.le_of_ble_eq_true rfl) key
noncomputable def b_X0_has (s : St) (o : Nat) (x1 : Int32) : Prop := (iP (x1 < 0) False (iP (x1 < (s.1 o 1)) True False))
theorem p_X0_has {l : Launch} {G : Geo} {d : Nat} (o : Nat) (x1 : Int32) (ho : o = 8 ∨ o = 15) (s : St) {Q : Int32 → St → Prop} (h : Q (bI (b_X0_has s o x1)) s) : DoesI l G (d + 1) 4 [.ref o, .int x1] s Q := by
  have key : ((x1 < 0 → (narrow .boolean (.int 0) = .int 0 ∧ Q 0 s)) ∧ (¬ x1 < 0 → ((x1 < (s.1 o 1) → (narrow .boolean (.int 1) = .int 1 ∧ Q 1 s)) ∧ (¬ x1 < (s.1 o 1) → (narrow .boolean (.int 0) = .int 0 ∧ Q 0 s))))) := ⟨fun z1 => ⟨rfl, (lfI (by rw [b_X0_has, iP_t z1, bI_F]) h)⟩, fun z1 => ⟨fun z2 => ⟨rfl, (lfI (by rw [b_X0_has, iP_f z1, iP_t z2, bI_T]) h)⟩, fun z2 => ⟨rfl, (lfI (by rw [b_X0_has, iP_f z1, iP_f z2, bI_F]) h)⟩⟩⟩
  rcases ho with rfl | rfl
  all_goals exact does_wp 10 (g := sX0_has) (rt := .boolean) (stops := []) (tbl := tX0_has) rfl oX0_has rk_X0_has (Nat.le_of_ble_eq_true rfl) key
noncomputable def b_X0_isAway (s : St) (o : Nat) (x1 : Int32) : Prop := (iP (x1 < 0) False (iP (x1 < (s.1 o 1)) (iP ((((s.1 o 2) >>> (x1 &&& 31)) &&& 1) = 0) False True) False))
theorem p_X0_isAway {l : Launch} {G : Geo} {d : Nat} (o : Nat) (x1 : Int32) (ho : o = 8 ∨ o = 15) (s : St) {Q : Int32 → St → Prop} (h : Q (bI (b_X0_isAway s o x1)) s) : DoesI l G (d + 1) 5 [.ref o, .int x1] s Q := by
  have key : ((x1 < 0 → (narrow .boolean (.int 0) = .int 0 ∧ Q 0 s)) ∧ (¬ x1 < 0 → ((x1 < (s.1 o 1) → (((((s.1 o 2) >>> (x1 &&& 31)) &&& 1) = 0 → (narrow .boolean (.int 0) = .int 0 ∧ Q 0 s)) ∧ (¬ (((s.1 o 2) >>> (x1 &&& 31)) &&& 1) = 0 → (narrow .boolean (.int 1) = .int 1 ∧ Q 1 s)))) ∧ (¬ x1 < (s.1 o 1) → (narrow .boolean (.int 0) = .int 0 ∧ Q 0 s))))) := ⟨fun z1 => ⟨rfl, (lfI (by rw [b_X0_isAway, iP_t z1, bI_F]) h)⟩, fun z1 => ⟨fun z2 => ⟨fun z3 => ⟨rfl, (lfI (by rw [b_X0_isAway, iP_f z1, iP_t z2, iP_t z3, bI_F]) h)⟩, fun z3 => ⟨rfl, (lfI (by rw [b_X0_isAway, iP_f z1, iP_t z2, iP_f z3, bI_T]) h)⟩⟩, fun z2 => ⟨rfl, (lfI (by rw [b_X0_isAway, iP_f z1, iP_f z2, bI_F]) h)⟩⟩⟩
  rcases ho with rfl | rfl
  all_goals exact does_wp 17 (g := sX0_isAway) (rt := .boolean) (stops := []) (tbl := tX0_isAway) rfl oX0_isAway rk_X0_isAway (Nat.le_of_ble_eq_true rfl) key
noncomputable def b_X0_isHoarse (s : St) (o : Nat) (x1 : Int32) : Prop := (iP (x1 < 0) False (iP (x1 < (s.1 o 1)) (iP ((((s.1 o 3) >>> (x1 &&& 31)) &&& 1) = 0) False True) False))
theorem p_X0_isHoarse {l : Launch} {G : Geo} {d : Nat} (o : Nat) (x1 : Int32) (ho : o = 8 ∨ o = 15) (s : St) {Q : Int32 → St → Prop} (h : Q (bI (b_X0_isHoarse s o x1)) s) : DoesI l G (d + 1) 6 [.ref o, .int x1] s Q := by
  have key : ((x1 < 0 → (narrow .boolean (.int 0) = .int 0 ∧ Q 0 s)) ∧ (¬ x1 < 0 → ((x1 < (s.1 o 1) → (((((s.1 o 3) >>> (x1 &&& 31)) &&& 1) = 0 → (narrow .boolean (.int 0) = .int 0 ∧ Q 0 s)) ∧ (¬ (((s.1 o 3) >>> (x1 &&& 31)) &&& 1) = 0 → (narrow .boolean (.int 1) = .int 1 ∧ Q 1 s)))) ∧ (¬ x1 < (s.1 o 1) → (narrow .boolean (.int 0) = .int 0 ∧ Q 0 s))))) := ⟨fun z1 => ⟨rfl, (lfI (by rw [b_X0_isHoarse, iP_t z1, bI_F]) h)⟩, fun z1 => ⟨fun z2 => ⟨fun z3 => ⟨rfl, (lfI (by rw [b_X0_isHoarse, iP_f z1, iP_t z2, iP_t z3, bI_F]) h)⟩, fun z3 => ⟨rfl, (lfI (by rw [b_X0_isHoarse, iP_f z1, iP_t z2, iP_f z3, bI_T]) h)⟩⟩, fun z2 => ⟨rfl, (lfI (by rw [b_X0_isHoarse, iP_f z1, iP_f z2, bI_F]) h)⟩⟩⟩
  rcases ho with rfl | rfl
  all_goals exact does_wp 17 (g := sX0_isHoarse) (rt := .boolean) (stops := []) (tbl := tX0_isHoarse) rfl oX0_isHoarse rk_X0_isHoarse (Nat.le_of_ble_eq_true rfl) key
noncomputable def v_X0_lateOf (s : St) (o : Nat) (x1 : Int32) : Int32 := (iC (x1 < 0) 0 (iC (x1 < (s.1 o 1)) (s.1 (o + 1) (Int32.toNatClampNeg x1)) 0))
def ok_X0_lateOf (s : St) (o : Nat) (x1 : Int32) : Prop := (¬ x1 < 0 → (x1 < (s.1 o 1) → (vp_in x1 (alen (o + 1)))))
theorem p_X0_lateOf {l : Launch} {G : Geo} {d : Nat} (o : Nat) (x1 : Int32) (ho : o = 8 ∨ o = 15) (s : St) {Q : Int32 → St → Prop} (hok : ok_X0_lateOf s o x1) (h : Q (v_X0_lateOf s o x1) s) : DoesI l G (d + 1) 7 [.ref o, .int x1] s Q := by
  unfold ok_X0_lateOf at hok
  have key : ((x1 < 0 → Q 0 s) ∧ (¬ x1 < 0 → ((x1 < (s.1 o 1) → ((vp_in x1 (alen (o + 1))) ∧ Q (s.1 (o + 1) (Int32.toNatClampNeg x1)) s)) ∧ (¬ x1 < (s.1 o 1) → Q 0 s)))) := ⟨fun z1 => (lfI (by rw [v_X0_lateOf, iC_t z1]) h), fun z1 => ⟨fun z2 => ⟨((hok z1) z2), (lfI (by rw [v_X0_lateOf, iC_f z1, iC_t z2]) h)⟩, fun z2 => (lfI (by rw [v_X0_lateOf, iC_f z1, iC_f z2]) h)⟩⟩
  rcases ho with rfl | rfl
  all_goals exact does_wp 13 (g := sX0_lateOf) (rt := .int) (stops := []) (tbl := tX0_lateOf) rfl oX0_lateOf rk_X0_lateOf (Nat.le_of_ble_eq_true rfl) key
noncomputable def g_X0_setAway (s : St) (o : Nat) (x1 : Int32) (x2 : Int32) : St := (iC (x2 = 0) (sput s o 2 ((s.1 o 2) &&& ((1 <<< (x1 &&& 31)) ^^^ (-1)))) (sput s o 2 ((s.1 o 2) ||| (1 <<< (x1 &&& 31)))))
theorem p_X0_setAway {l : Launch} {G : Geo} {d : Nat} (o : Nat) (x1 : Int32) (x2 : Int32) (ho : o = 8 ∨ o = 15) (s : St) {Q : St → Prop} (h : Q (g_X0_setAway s o x1 x2)) : DoesV l G (d + 1) 8 [.ref o, .int x1, .int x2] s Q := by
  have key : ((x2 = 0 → Q (sput s o 2 ((s.1 o 2) &&& ((1 <<< (x1 &&& 31)) ^^^ (-1))))) ∧ (¬ x2 = 0 → Q (sput s o 2 ((s.1 o 2) ||| (1 <<< (x1 &&& 31)))))) := ⟨fun z1 => (lfV (by rw [g_X0_setAway, iC_t z1]) h), fun z1 => (lfV (by rw [g_X0_setAway, iC_f z1]) h)⟩
  rcases ho with rfl | rfl
  all_goals exact does_wp 14 (g := sX0_setAway) (rt := .int) (stops := []) (tbl := tX0_setAway) rfl oX0_setAway rk_X0_setAway (Nat.le_of_ble_eq_true rfl) key
noncomputable def g_X0_setHoarse (s : St) (o : Nat) (x1 : Int32) (x2 : Int32) : St := (iC (x2 = 0) (sput s o 3 ((s.1 o 3) &&& ((1 <<< (x1 &&& 31)) ^^^ (-1)))) (sput s o 3 ((s.1 o 3) ||| (1 <<< (x1 &&& 31)))))
theorem p_X0_setHoarse {l : Launch} {G : Geo} {d : Nat} (o : Nat) (x1 : Int32) (x2 : Int32) (ho : o = 8 ∨ o = 15) (s : St) {Q : St → Prop} (h : Q (g_X0_setHoarse s o x1 x2)) : DoesV l G (d + 1) 9 [.ref o, .int x1, .int x2] s Q := by
  have key : ((x2 = 0 → Q (sput s o 3 ((s.1 o 3) &&& ((1 <<< (x1 &&& 31)) ^^^ (-1))))) ∧ (¬ x2 = 0 → Q (sput s o 3 ((s.1 o 3) ||| (1 <<< (x1 &&& 31)))))) := ⟨fun z1 => (lfV (by rw [g_X0_setHoarse, iC_t z1]) h), fun z1 => (lfV (by rw [g_X0_setHoarse, iC_f z1]) h)⟩
  rcases ho with rfl | rfl
  all_goals exact does_wp 14 (g := sX0_setHoarse) (rt := .int) (stops := []) (tbl := tX0_setHoarse) rfl oX0_setHoarse rk_X0_setHoarse (Nat.le_of_ble_eq_true rfl) key
noncomputable def v_X0_voiceOf (s : St) (o : Nat) (x1 : Int32) : Int32 := (iC ((s.1 o 1) < 1) 0 (x1 - x1 / (s.1 o 1) * (s.1 o 1)))
def ok_X0_voiceOf (s : St) (o : Nat) (x1 : Int32) : Prop := (¬ (s.1 o 1) < 1 → (¬ (s.1 o 1) = 0))
theorem p_X0_voiceOf {l : Launch} {G : Geo} {d : Nat} (o : Nat) (x1 : Int32) (ho : o = 8 ∨ o = 15) (s : St) {Q : Int32 → St → Prop} (hok : ok_X0_voiceOf s o x1) (h : Q (v_X0_voiceOf s o x1) s) : DoesI l G (d + 1) 11 [.ref o, .int x1] s Q := by
  unfold ok_X0_voiceOf at hok
  have key : (((s.1 o 1) < 1 → Q 0 s) ∧ (¬ (s.1 o 1) < 1 → ((¬ (s.1 o 1) = 0) ∧ Q (x1 - x1 / (s.1 o 1) * (s.1 o 1)) s))) := ⟨fun z1 => (lfI (by rw [v_X0_voiceOf, iC_t z1]) h), fun z1 => ⟨(hok z1), (lfI (by rw [v_X0_voiceOf, iC_f z1]) h)⟩⟩
  rcases ho with rfl | rfl
  all_goals exact does_wp 10 (g := sX0_voiceOf) (rt := .int) (stops := []) (tbl := tX0_voiceOf) rfl oX0_voiceOf rk_X0_voiceOf (Nat.le_of_ble_eq_true rfl) key
noncomputable def b_X1_isReached (s : St) (x1 : Int32) (x2 : Int32) (x3 : Int32) : Prop := (iP ((((s.1 (30 + Int32.toNatClampNeg x1) (Int32.toNatClampNeg x2)) >>> (x3 &&& 31)) &&& 1) = 0) False True)
def ok_X1_isReached (s : St) (x1 : Int32) (x2 : Int32) (x3 : Int32) : Prop := ((vp_in x1 7) ∧ (vp_in x2 (alen (30 + Int32.toNatClampNeg x1))))
theorem p_X1_isReached {l : Launch} {G : Geo} {d : Nat} (x1 : Int32) (x2 : Int32) (x3 : Int32)  (s : St) {Q : Int32 → St → Prop} (hok : ok_X1_isReached s x1 x2 x3) (h : Q (bI (b_X1_isReached s x1 x2 x3)) s) : DoesI l G (d + 1) 18 [.ref 26, .int x1, .int x2, .int x3] s Q := by
  unfold ok_X1_isReached at hok
  have key : ((vp_in x1 7) ∧ ((vp_in x2 (alen (30 + Int32.toNatClampNeg x1))) ∧ (((((s.1 (30 + Int32.toNatClampNeg x1) (Int32.toNatClampNeg x2)) >>> (x3 &&& 31)) &&& 1) = 0 → (narrow .boolean (.int 0) = .int 0 ∧ Q 0 s)) ∧ (¬ (((s.1 (30 + Int32.toNatClampNeg x1) (Int32.toNatClampNeg x2)) >>> (x3 &&& 31)) &&& 1) = 0 → (narrow .boolean (.int 1) = .int 1 ∧ Q 1 s))))) := ⟨hok.1, ⟨hok.2, ⟨fun z1 => ⟨rfl, (lfI (by rw [b_X1_isReached, iP_t z1, bI_F]) h)⟩, fun z1 => ⟨rfl, (lfI (by rw [b_X1_isReached, iP_f z1, bI_T]) h)⟩⟩⟩⟩
  all_goals exact does_wp 15 (g := sX1_isReached) (rt := .boolean) (stops := []) (tbl := tX1_isReached) rfl oX1_isReached rk_X1_isReached (Nat.le_of_ble_eq_true rfl) key
noncomputable def v_X1_total (s : St)  : Int32 := (iC ((s.1 26 6) = 0) 0 (s.1 (38 + Int32.toNatClampNeg 0) (Int32.toNatClampNeg 3)))
def ok_X1_total (s : St)  : Prop := (¬ (s.1 26 6) = 0 → ((vp_in 0 7) ∧ (vp_in 3 (alen (38 + Int32.toNatClampNeg 0)))))
theorem p_X1_total {l : Launch} {G : Geo} {d : Nat}   (s : St) {Q : Int32 → St → Prop} (hok : ok_X1_total s ) (h : Q (v_X1_total s) s) : DoesI l G (d + 1) 22 [.ref 26] s Q := by
  unfold ok_X1_total at hok
  have key : (((s.1 26 6) = 0 → Q 0 s) ∧ (¬ (s.1 26 6) = 0 → ((vp_in 0 7) ∧ ((vp_in 3 (alen (38 + Int32.toNatClampNeg 0))) ∧ Q (s.1 (38 + Int32.toNatClampNeg 0) (Int32.toNatClampNeg 3)) s)))) := ⟨fun z1 => (lfI (by rw [v_X1_total, iC_t z1]) h), fun z1 => ⟨(hok z1).1, ⟨(hok z1).2, (lfI (by rw [v_X1_total, iC_f z1]) h)⟩⟩⟩
  all_goals exact does_wp 11 (g := sX1_total) (rt := .int) (stops := []) (tbl := tX1_total) rfl oX1_total rk_X1_total (Nat.le_of_ble_eq_true rfl) key
noncomputable def v_X3_linesRead (s : St)  : Int32 := (s.1 17 4)
theorem p_X3_linesRead {l : Launch} {G : Geo} {d : Nat}   (s : St) {Q : Int32 → St → Prop} (h : Q (v_X3_linesRead s) s) : DoesI l G (d + 1) 39 [.ref 17] s Q := by
  have key : Q (s.1 17 4) s := (lfI (by rw [v_X3_linesRead]) h)
  all_goals exact does_wp 4 (g := sX3_linesRead) (rt := .int) (stops := []) (tbl := tX3_linesRead) rfl oX3_linesRead rk_X3_linesRead (Nat.le_of_ble_eq_true rfl) key
noncomputable def v_X4_length (s : St)  : Int32 := (s.1 1 1)
theorem p_X4_length {l : Launch} {G : Geo} {d : Nat}   (s : St) {Q : Int32 → St → Prop} (h : Q (v_X4_length s) s) : DoesI l G (d + 1) 52 [.ref 1] s Q := by
  have key : Q (s.1 1 1) s := (lfI (by rw [v_X4_length]) h)
  all_goals exact does_wp 4 (g := sX4_length) (rt := .int) (stops := []) (tbl := tX4_length) rfl oX4_length rk_X4_length (Nat.le_of_ble_eq_true rfl) key
noncomputable def b_X4_hasRoom (s : St) (x1 : Int32) : Prop := (iP ((200 - (s.1 1 1)) < x1) False True)
theorem p_X4_hasRoom {l : Launch} {G : Geo} {d : Nat} (x1 : Int32)  (s : St) {Q : Int32 → St → Prop} (h : Q (bI (b_X4_hasRoom s x1)) s) : DoesI l G (d + 1) 53 [.ref 1, .int x1] s Q := by
  have key : (((200 - (s.1 1 1)) < x1 → (narrow .boolean (.int 0) = .int 0 ∧ Q 0 s)) ∧ (¬ (200 - (s.1 1 1)) < x1 → (narrow .boolean (.int 1) = .int 1 ∧ Q 1 s))) := ⟨fun z1 => ⟨rfl, (lfI (by rw [b_X4_hasRoom, iP_t z1, bI_F]) h)⟩, fun z1 => ⟨rfl, (lfI (by rw [b_X4_hasRoom, iP_f z1, bI_T]) h)⟩⟩
  all_goals exact does_wp 10 (g := sX4_hasRoom) (rt := .boolean) (stops := []) (tbl := tX4_hasRoom) rfl oX4_hasRoom rk_X4_hasRoom (Nat.le_of_ble_eq_true rfl) key
noncomputable def f_X4_makeEmpty (s : St)  : Int32 × St := ((s.1 1 1), (sput s 1 1 0))
theorem p_X4_makeEmpty {l : Launch} {G : Geo} {d : Nat}   (s : St) {Q : Int32 → St → Prop} (h : Q (f_X4_makeEmpty s).1 (f_X4_makeEmpty s).2) : DoesI l G (d + 1) 55 [.ref 1] s Q := by
  have key : Q (s.1 1 1) (sput s 1 1 0) := (lfF (by rw [f_X4_makeEmpty]) h)
  all_goals exact does_wp 9 (g := sX4_makeEmpty) (rt := .int) (stops := []) (tbl := tX4_makeEmpty) rfl oX4_makeEmpty rk_X4_makeEmpty (Nat.le_of_ble_eq_true rfl) key
noncomputable def v_X4_at (s : St) (x1 : Int32) : Int32 := (iC (x1 < 0) (-1) (iC (x1 < (s.1 1 1)) (s.1 2 (Int32.toNatClampNeg x1)) (-1)))
def ok_X4_at (s : St) (x1 : Int32) : Prop := (¬ x1 < 0 → (x1 < (s.1 1 1) → (vp_in x1 (alen 2))))
theorem p_X4_at {l : Launch} {G : Geo} {d : Nat} (x1 : Int32)  (s : St) {Q : Int32 → St → Prop} (hok : ok_X4_at s x1) (h : Q (v_X4_at s x1) s) : DoesI l G (d + 1) 56 [.ref 1, .int x1] s Q := by
  unfold ok_X4_at at hok
  have key : ((x1 < 0 → Q (-1) s) ∧ (¬ x1 < 0 → ((x1 < (s.1 1 1) → ((vp_in x1 (alen 2)) ∧ Q (s.1 2 (Int32.toNatClampNeg x1)) s)) ∧ (¬ x1 < (s.1 1 1) → Q (-1) s)))) := ⟨fun z1 => (lfI (by rw [v_X4_at, iC_t z1]) h), fun z1 => ⟨fun z2 => ⟨((hok z1) z2), (lfI (by rw [v_X4_at, iC_f z1, iC_t z2]) h)⟩, fun z2 => (lfI (by rw [v_X4_at, iC_f z1, iC_f z2]) h)⟩⟩
  all_goals exact does_wp 12 (g := sX4_at) (rt := .int) (stops := []) (tbl := tX4_at) rfl oX4_at rk_X4_at (Nat.le_of_ble_eq_true rfl) key
noncomputable def v_X5_fewestSpoilt (s : St)  : Int32 := (s.1 50 (Int32.toNatClampNeg 0))
def ok_X5_fewestSpoilt (s : St)  : Prop := (vp_in 0 (alen 50))
theorem p_X5_fewestSpoilt {l : Launch} {G : Geo} {d : Nat}   (s : St) {Q : Int32 → St → Prop} (hok : ok_X5_fewestSpoilt s ) (h : Q (v_X5_fewestSpoilt s) s) : DoesI l G (d + 1) 64 [.ref 47] s Q := by
  unfold ok_X5_fewestSpoilt at hok
  have key : ((vp_in 0 (alen 50)) ∧ Q (s.1 50 (Int32.toNatClampNeg 0)) s) := ⟨hok, (lfI (by rw [v_X5_fewestSpoilt]) h)⟩
  all_goals exact does_wp 6 (g := sX5_fewestSpoilt) (rt := .int) (stops := []) (tbl := tX5_fewestSpoilt) rfl oX5_fewestSpoilt rk_X5_fewestSpoilt (Nat.le_of_ble_eq_true rfl) key
noncomputable def g_X6_copyFrom (s : St) (o : Nat) (p : Nat) : St := (sput (sput (sput (sput (scpy s (p + 1) (Int32.toNatClampNeg 0) (o + 1) (Int32.toNatClampNeg 0) (Int32.toNatClampNeg (nI (tlen (o + 1))))) o 1 ((scpy s (p + 1) (Int32.toNatClampNeg 0) (o + 1) (Int32.toNatClampNeg 0) (Int32.toNatClampNeg (nI (tlen (o + 1))))).1 p 1)) o 2 ((sput (scpy s (p + 1) (Int32.toNatClampNeg 0) (o + 1) (Int32.toNatClampNeg 0) (Int32.toNatClampNeg (nI (tlen (o + 1))))) o 1 ((scpy s (p + 1) (Int32.toNatClampNeg 0) (o + 1) (Int32.toNatClampNeg 0) (Int32.toNatClampNeg (nI (tlen (o + 1))))).1 p 1)).1 p 2)) o 3 ((sput (sput (scpy s (p + 1) (Int32.toNatClampNeg 0) (o + 1) (Int32.toNatClampNeg 0) (Int32.toNatClampNeg (nI (tlen (o + 1))))) o 1 ((scpy s (p + 1) (Int32.toNatClampNeg 0) (o + 1) (Int32.toNatClampNeg 0) (Int32.toNatClampNeg (nI (tlen (o + 1))))).1 p 1)) o 2 ((sput (scpy s (p + 1) (Int32.toNatClampNeg 0) (o + 1) (Int32.toNatClampNeg 0) (Int32.toNatClampNeg (nI (tlen (o + 1))))) o 1 ((scpy s (p + 1) (Int32.toNatClampNeg 0) (o + 1) (Int32.toNatClampNeg 0) (Int32.toNatClampNeg (nI (tlen (o + 1))))).1 p 1)).1 p 2)).1 p 3)) o 4 ((sput (sput (sput (scpy s (p + 1) (Int32.toNatClampNeg 0) (o + 1) (Int32.toNatClampNeg 0) (Int32.toNatClampNeg (nI (tlen (o + 1))))) o 1 ((scpy s (p + 1) (Int32.toNatClampNeg 0) (o + 1) (Int32.toNatClampNeg 0) (Int32.toNatClampNeg (nI (tlen (o + 1))))).1 p 1)) o 2 ((sput (scpy s (p + 1) (Int32.toNatClampNeg 0) (o + 1) (Int32.toNatClampNeg 0) (Int32.toNatClampNeg (nI (tlen (o + 1))))) o 1 ((scpy s (p + 1) (Int32.toNatClampNeg 0) (o + 1) (Int32.toNatClampNeg 0) (Int32.toNatClampNeg (nI (tlen (o + 1))))).1 p 1)).1 p 2)) o 3 ((sput (sput (scpy s (p + 1) (Int32.toNatClampNeg 0) (o + 1) (Int32.toNatClampNeg 0) (Int32.toNatClampNeg (nI (tlen (o + 1))))) o 1 ((scpy s (p + 1) (Int32.toNatClampNeg 0) (o + 1) (Int32.toNatClampNeg 0) (Int32.toNatClampNeg (nI (tlen (o + 1))))).1 p 1)) o 2 ((sput (scpy s (p + 1) (Int32.toNatClampNeg 0) (o + 1) (Int32.toNatClampNeg 0) (Int32.toNatClampNeg (nI (tlen (o + 1))))) o 1 ((scpy s (p + 1) (Int32.toNatClampNeg 0) (o + 1) (Int32.toNatClampNeg 0) (Int32.toNatClampNeg (nI (tlen (o + 1))))).1 p 1)).1 p 2)).1 p 3)).1 p 4))
def ok_X6_copyFrom (s : St) (o : Nat) (p : Nat) : Prop := ((0 < alen (p + 1) ∧ 0 < alen (o + 1) ∧ ¬ (0 : Int32) < 0 ∧ ¬ (0 : Int32) < 0 ∧ ¬ ((nI (tlen (o + 1))) : Int32) < 0 ∧ Int32.toNatClampNeg 0 + Int32.toNatClampNeg (nI (tlen (o + 1))) ≤ alen (p + 1) ∧ Int32.toNatClampNeg 0 + Int32.toNatClampNeg (nI (tlen (o + 1))) ≤ alen (o + 1)))
theorem p_X6_copyFrom {l : Launch} {G : Geo} {d : Nat} (o : Nat) (p : Nat) (ho : (o = 20 ∧ p = 18) ∨ (o = 22 ∧ p = 18) ∨ (o = 18 ∧ p = 20) ∨ (o = 18 ∧ p = 22)) (s : St) {Q : St → Prop} (hok : ok_X6_copyFrom s o p) (h : Q (g_X6_copyFrom s o p)) : DoesV l G (d + 1) 66 [.ref o, .ref p] s Q := by
  unfold ok_X6_copyFrom at hok
  have key : ((isArr (o + 1) = true) ∧ (((0 < alen (p + 1) ∧ 0 < alen (o + 1) ∧ ¬ (0 : Int32) < 0 ∧ ¬ (0 : Int32) < 0 ∧ ¬ ((nI (tlen (o + 1))) : Int32) < 0 ∧ Int32.toNatClampNeg 0 + Int32.toNatClampNeg (nI (tlen (o + 1))) ≤ alen (p + 1) ∧ Int32.toNatClampNeg 0 + Int32.toNatClampNeg (nI (tlen (o + 1))) ≤ alen (o + 1))) ∧ Q (sput (sput (sput (sput (scpy s (p + 1) (Int32.toNatClampNeg 0) (o + 1) (Int32.toNatClampNeg 0) (Int32.toNatClampNeg (nI (tlen (o + 1))))) o 1 ((scpy s (p + 1) (Int32.toNatClampNeg 0) (o + 1) (Int32.toNatClampNeg 0) (Int32.toNatClampNeg (nI (tlen (o + 1))))).1 p 1)) o 2 ((sput (scpy s (p + 1) (Int32.toNatClampNeg 0) (o + 1) (Int32.toNatClampNeg 0) (Int32.toNatClampNeg (nI (tlen (o + 1))))) o 1 ((scpy s (p + 1) (Int32.toNatClampNeg 0) (o + 1) (Int32.toNatClampNeg 0) (Int32.toNatClampNeg (nI (tlen (o + 1))))).1 p 1)).1 p 2)) o 3 ((sput (sput (scpy s (p + 1) (Int32.toNatClampNeg 0) (o + 1) (Int32.toNatClampNeg 0) (Int32.toNatClampNeg (nI (tlen (o + 1))))) o 1 ((scpy s (p + 1) (Int32.toNatClampNeg 0) (o + 1) (Int32.toNatClampNeg 0) (Int32.toNatClampNeg (nI (tlen (o + 1))))).1 p 1)) o 2 ((sput (scpy s (p + 1) (Int32.toNatClampNeg 0) (o + 1) (Int32.toNatClampNeg 0) (Int32.toNatClampNeg (nI (tlen (o + 1))))) o 1 ((scpy s (p + 1) (Int32.toNatClampNeg 0) (o + 1) (Int32.toNatClampNeg 0) (Int32.toNatClampNeg (nI (tlen (o + 1))))).1 p 1)).1 p 2)).1 p 3)) o 4 ((sput (sput (sput (scpy s (p + 1) (Int32.toNatClampNeg 0) (o + 1) (Int32.toNatClampNeg 0) (Int32.toNatClampNeg (nI (tlen (o + 1))))) o 1 ((scpy s (p + 1) (Int32.toNatClampNeg 0) (o + 1) (Int32.toNatClampNeg 0) (Int32.toNatClampNeg (nI (tlen (o + 1))))).1 p 1)) o 2 ((sput (scpy s (p + 1) (Int32.toNatClampNeg 0) (o + 1) (Int32.toNatClampNeg 0) (Int32.toNatClampNeg (nI (tlen (o + 1))))) o 1 ((scpy s (p + 1) (Int32.toNatClampNeg 0) (o + 1) (Int32.toNatClampNeg 0) (Int32.toNatClampNeg (nI (tlen (o + 1))))).1 p 1)).1 p 2)) o 3 ((sput (sput (scpy s (p + 1) (Int32.toNatClampNeg 0) (o + 1) (Int32.toNatClampNeg 0) (Int32.toNatClampNeg (nI (tlen (o + 1))))) o 1 ((scpy s (p + 1) (Int32.toNatClampNeg 0) (o + 1) (Int32.toNatClampNeg 0) (Int32.toNatClampNeg (nI (tlen (o + 1))))).1 p 1)) o 2 ((sput (scpy s (p + 1) (Int32.toNatClampNeg 0) (o + 1) (Int32.toNatClampNeg 0) (Int32.toNatClampNeg (nI (tlen (o + 1))))) o 1 ((scpy s (p + 1) (Int32.toNatClampNeg 0) (o + 1) (Int32.toNatClampNeg 0) (Int32.toNatClampNeg (nI (tlen (o + 1))))).1 p 1)).1 p 2)).1 p 3)).1 p 4)))) := ⟨(by rcases ho with ⟨rfl, rfl⟩ | ⟨rfl, rfl⟩ | ⟨rfl, rfl⟩ | ⟨rfl, rfl⟩ <;> rfl), ⟨hok, (lfV (by rw [g_X6_copyFrom]) h)⟩⟩
  rcases ho with ⟨rfl, rfl⟩ | ⟨rfl, rfl⟩ | ⟨rfl, rfl⟩ | ⟨rfl, rfl⟩
  all_goals exact does_wp 28 (g := sX6_copyFrom) (rt := .int) (stops := []) (tbl := tX6_copyFrom) rfl oX6_copyFrom rk_X6_copyFrom (Nat.le_of_ble_eq_true rfl) key
noncomputable def g_X6_makeEmpty (s : St) (o : Nat) : St := (sput (sput (sput (sput s o 1 0) o 2 0) o 3 (-1)) o 4 0)
theorem p_X6_makeEmpty {l : Launch} {G : Geo} {d : Nat} (o : Nat) (ho : o = 18 ∨ o = 20 ∨ o = 22) (s : St) {Q : St → Prop} (h : Q (g_X6_makeEmpty s o)) : DoesV l G (d + 1) 67 [.ref o] s Q := by
  have key : Q (sput (sput (sput (sput s o 1 0) o 2 0) o 3 (-1)) o 4 0) := (lfV (by rw [g_X6_makeEmpty]) h)
  rcases ho with rfl | rfl | rfl
  all_goals exact does_wp 14 (g := sX6_makeEmpty) (rt := .int) (stops := []) (tbl := tX6_makeEmpty) rfl oX6_makeEmpty rk_X6_makeEmpty (Nat.le_of_ble_eq_true rfl) key
noncomputable def v_X6_letterTotal (s : St) (o : Nat) : Int32 := (s.1 o 1)
theorem p_X6_letterTotal {l : Launch} {G : Geo} {d : Nat} (o : Nat) (ho : o = 18 ∨ o = 20 ∨ o = 22) (s : St) {Q : Int32 → St → Prop} (h : Q (v_X6_letterTotal s o) s) : DoesI l G (d + 1) 68 [.ref o] s Q := by
  have key : Q (s.1 o 1) s := (lfI (by rw [v_X6_letterTotal]) h)
  rcases ho with rfl | rfl | rfl
  all_goals exact does_wp 4 (g := sX6_letterTotal) (rt := .int) (stops := []) (tbl := tX6_letterTotal) rfl oX6_letterTotal rk_X6_letterTotal (Nat.le_of_ble_eq_true rfl) key
noncomputable def v_X6_wordTotal (s : St) (o : Nat) : Int32 := (s.1 o 2)
theorem p_X6_wordTotal {l : Launch} {G : Geo} {d : Nat} (o : Nat) (ho : o = 18 ∨ o = 20 ∨ o = 22) (s : St) {Q : Int32 → St → Prop} (h : Q (v_X6_wordTotal s o) s) : DoesI l G (d + 1) 69 [.ref o] s Q := by
  have key : Q (s.1 o 2) s := (lfI (by rw [v_X6_wordTotal]) h)
  rcases ho with rfl | rfl | rfl
  all_goals exact does_wp 4 (g := sX6_wordTotal) (rt := .int) (stops := []) (tbl := tX6_wordTotal) rfl oX6_wordTotal rk_X6_wordTotal (Nat.le_of_ble_eq_true rfl) key
noncomputable def v_X6_saidTotal (s : St) (o : Nat) : Int32 := (s.1 o 4)
theorem p_X6_saidTotal {l : Launch} {G : Geo} {d : Nat} (o : Nat) (ho : o = 18 ∨ o = 20 ∨ o = 22) (s : St) {Q : Int32 → St → Prop} (h : Q (v_X6_saidTotal s o) s) : DoesI l G (d + 1) 70 [.ref o] s Q := by
  have key : Q (s.1 o 4) s := (lfI (by rw [v_X6_saidTotal]) h)
  rcases ho with rfl | rfl | rfl
  all_goals exact does_wp 4 (g := sX6_saidTotal) (rt := .int) (stops := []) (tbl := tX6_saidTotal) rfl oX6_saidTotal rk_X6_saidTotal (Nat.le_of_ble_eq_true rfl) key
noncomputable def v_X6_lastWord (s : St) (o : Nat) : Int32 := (s.1 o 3)
theorem p_X6_lastWord {l : Launch} {G : Geo} {d : Nat} (o : Nat) (ho : o = 18 ∨ o = 20 ∨ o = 22) (s : St) {Q : Int32 → St → Prop} (h : Q (v_X6_lastWord s o) s) : DoesI l G (d + 1) 71 [.ref o] s Q := by
  have key : Q (s.1 o 3) s := (lfI (by rw [v_X6_lastWord]) h)
  rcases ho with rfl | rfl | rfl
  all_goals exact does_wp 4 (g := sX6_lastWord) (rt := .int) (stops := []) (tbl := tX6_lastWord) rfl oX6_lastWord rk_X6_lastWord (Nat.le_of_ble_eq_true rfl) key
noncomputable def b_X6_hasRoom (s : St) (o : Nat) (x1 : Int32) : Prop := (iP ((s.1 o 2) < 6) (iP ((60 - (s.1 o 1)) < x1) False True) False)
theorem p_X6_hasRoom {l : Launch} {G : Geo} {d : Nat} (o : Nat) (x1 : Int32) (ho : o = 18 ∨ o = 20 ∨ o = 22) (s : St) {Q : Int32 → St → Prop} (h : Q (bI (b_X6_hasRoom s o x1)) s) : DoesI l G (d + 1) 72 [.ref o, .int x1] s Q := by
  have key : (((s.1 o 2) < 6 → (((60 - (s.1 o 1)) < x1 → (narrow .boolean (.int 0) = .int 0 ∧ Q 0 s)) ∧ (¬ (60 - (s.1 o 1)) < x1 → (narrow .boolean (.int 1) = .int 1 ∧ Q 1 s)))) ∧ (¬ (s.1 o 2) < 6 → (narrow .boolean (.int 0) = .int 0 ∧ Q 0 s))) := ⟨fun z1 => ⟨fun z2 => ⟨rfl, (lfI (by rw [b_X6_hasRoom, iP_t z1, iP_t z2, bI_F]) h)⟩, fun z2 => ⟨rfl, (lfI (by rw [b_X6_hasRoom, iP_t z1, iP_f z2, bI_T]) h)⟩⟩, fun z1 => ⟨rfl, (lfI (by rw [b_X6_hasRoom, iP_f z1, bI_F]) h)⟩⟩
  rcases ho with rfl | rfl | rfl
  all_goals exact does_wp 14 (g := sX6_hasRoom) (rt := .boolean) (stops := []) (tbl := tX6_hasRoom) rfl oX6_hasRoom rk_X6_hasRoom (Nat.le_of_ble_eq_true rfl) key
end
section
noncomputable def g_X6_sayMore (s : St) (o : Nat) (x1 : Int32) : St := (sput s o 4 ((s.1 o 4) + (if ((s.1 o 1) - (s.1 o 4)) < x1 then ((s.1 o 1) - (s.1 o 4)) else x1)))
theorem p_X6_sayMore {l : Launch} {G : Geo} {d : Nat} (o : Nat) (x1 : Int32) (ho : o = 18 ∨ o = 20 ∨ o = 22) (s : St) {Q : St → Prop} (h : Q (g_X6_sayMore s o x1)) : DoesV l G (d + 1) 74 [.ref o, .int x1] s Q := by
  have key : Q (sput s o 4 ((s.1 o 4) + (if ((s.1 o 1) - (s.1 o 4)) < x1 then ((s.1 o 1) - (s.1 o 4)) else x1))) := (lfV (by rw [g_X6_sayMore]) h)
  rcases ho with rfl | rfl | rfl
  all_goals exact does_wp 14 (g := sX6_sayMore) (rt := .int) (stops := []) (tbl := tX6_sayMore) rfl oX6_sayMore rk_X6_sayMore (Nat.le_of_ble_eq_true rfl) key
noncomputable def v_X6_letterAt (s : St) (o : Nat) (x1 : Int32) : Int32 := (iC (x1 < 0) 0 (iC (x1 < (s.1 o 1)) (s.1 (o + 1) (Int32.toNatClampNeg x1)) 0))
def ok_X6_letterAt (s : St) (o : Nat) (x1 : Int32) : Prop := (¬ x1 < 0 → (x1 < (s.1 o 1) → (vp_in x1 (alen (o + 1)))))
theorem p_X6_letterAt {l : Launch} {G : Geo} {d : Nat} (o : Nat) (x1 : Int32) (ho : o = 18 ∨ o = 20 ∨ o = 22) (s : St) {Q : Int32 → St → Prop} (hok : ok_X6_letterAt s o x1) (h : Q (v_X6_letterAt s o x1) s) : DoesI l G (d + 1) 75 [.ref o, .int x1] s Q := by
  unfold ok_X6_letterAt at hok
  have key : ((x1 < 0 → Q 0 s) ∧ (¬ x1 < 0 → ((x1 < (s.1 o 1) → ((vp_in x1 (alen (o + 1))) ∧ Q (s.1 (o + 1) (Int32.toNatClampNeg x1)) s)) ∧ (¬ x1 < (s.1 o 1) → Q 0 s)))) := ⟨fun z1 => (lfI (by rw [v_X6_letterAt, iC_t z1]) h), fun z1 => ⟨fun z2 => ⟨((hok z1) z2), (lfI (by rw [v_X6_letterAt, iC_f z1, iC_t z2]) h)⟩, fun z2 => (lfI (by rw [v_X6_letterAt, iC_f z1, iC_f z2]) h)⟩⟩
  rcases ho with rfl | rfl | rfl
  all_goals exact does_wp 12 (g := sX6_letterAt) (rt := .int) (stops := []) (tbl := tX6_letterAt) rfl oX6_letterAt rk_X6_letterAt (Nat.le_of_ble_eq_true rfl) key
noncomputable def v_X7_length (s : St)  : Int32 := (s.1 24 1)
theorem p_X7_length {l : Launch} {G : Geo} {d : Nat}   (s : St) {Q : Int32 → St → Prop} (h : Q (v_X7_length s) s) : DoesI l G (d + 1) 83 [.ref 24] s Q := by
  have key : Q (s.1 24 1) s := (lfI (by rw [v_X7_length]) h)
  all_goals exact does_wp 4 (g := sX7_length) (rt := .int) (stops := []) (tbl := tX7_length) rfl oX7_length rk_X7_length (Nat.le_of_ble_eq_true rfl) key
noncomputable def b_X7_isFull (s : St)  : Prop := (iP ((s.1 24 1) < 60) False True)
theorem p_X7_isFull {l : Launch} {G : Geo} {d : Nat}   (s : St) {Q : Int32 → St → Prop} (h : Q (bI (b_X7_isFull s)) s) : DoesI l G (d + 1) 84 [.ref 24] s Q := by
  have key : (((s.1 24 1) < 60 → (narrow .boolean (.int 0) = .int 0 ∧ Q 0 s)) ∧ (¬ (s.1 24 1) < 60 → (narrow .boolean (.int 1) = .int 1 ∧ Q 1 s))) := ⟨fun z1 => ⟨rfl, (lfI (by rw [b_X7_isFull, iP_t z1, bI_F]) h)⟩, fun z1 => ⟨rfl, (lfI (by rw [b_X7_isFull, iP_f z1, bI_T]) h)⟩⟩
  all_goals exact does_wp 8 (g := sX7_isFull) (rt := .boolean) (stops := []) (tbl := tX7_isFull) rfl oX7_isFull rk_X7_isFull (Nat.le_of_ble_eq_true rfl) key
noncomputable def f_X7_makeEmpty (s : St)  : Int32 × St := ((s.1 24 1), (sput s 24 1 0))
theorem p_X7_makeEmpty {l : Launch} {G : Geo} {d : Nat}   (s : St) {Q : Int32 → St → Prop} (h : Q (f_X7_makeEmpty s).1 (f_X7_makeEmpty s).2) : DoesI l G (d + 1) 85 [.ref 24] s Q := by
  have key : Q (s.1 24 1) (sput s 24 1 0) := (lfF (by rw [f_X7_makeEmpty]) h)
  all_goals exact does_wp 9 (g := sX7_makeEmpty) (rt := .int) (stops := []) (tbl := tX7_makeEmpty) rfl oX7_makeEmpty rk_X7_makeEmpty (Nat.le_of_ble_eq_true rfl) key
noncomputable def v_X7_at (s : St) (x1 : Int32) : Int32 := (iC (x1 < 0) (-1) (iC (x1 < (s.1 24 1)) (s.1 25 (Int32.toNatClampNeg x1)) (-1)))
def ok_X7_at (s : St) (x1 : Int32) : Prop := (¬ x1 < 0 → (x1 < (s.1 24 1) → (vp_in x1 (alen 25))))
theorem p_X7_at {l : Launch} {G : Geo} {d : Nat} (x1 : Int32)  (s : St) {Q : Int32 → St → Prop} (hok : ok_X7_at s x1) (h : Q (v_X7_at s x1) s) : DoesI l G (d + 1) 87 [.ref 24, .int x1] s Q := by
  unfold ok_X7_at at hok
  have key : ((x1 < 0 → Q (-1) s) ∧ (¬ x1 < 0 → ((x1 < (s.1 24 1) → ((vp_in x1 (alen 25)) ∧ Q (s.1 25 (Int32.toNatClampNeg x1)) s)) ∧ (¬ x1 < (s.1 24 1) → Q (-1) s)))) := ⟨fun z1 => (lfI (by rw [v_X7_at, iC_t z1]) h), fun z1 => ⟨fun z2 => ⟨((hok z1) z2), (lfI (by rw [v_X7_at, iC_f z1, iC_t z2]) h)⟩, fun z2 => (lfI (by rw [v_X7_at, iC_f z1, iC_f z2]) h)⟩⟩
  all_goals exact does_wp 12 (g := sX7_at) (rt := .int) (stops := []) (tbl := tX7_at) rfl oX7_at rk_X7_at (Nat.le_of_ble_eq_true rfl) key
noncomputable def g_X9_copyFrom (s : St) (o : Nat) (p : Nat) : St := (sput (sput (scpy (scpy (scpy s (p + 1) (Int32.toNatClampNeg 0) (o + 1) (Int32.toNatClampNeg 0) (Int32.toNatClampNeg (nI (tlen (o + 1))))) (p + 2) (Int32.toNatClampNeg 0) (o + 2) (Int32.toNatClampNeg 0) (Int32.toNatClampNeg (nI (tlen (o + 2))))) (p + 3) (Int32.toNatClampNeg 0) (o + 3) (Int32.toNatClampNeg 0) (Int32.toNatClampNeg (nI (tlen (o + 3))))) o 3 ((scpy (scpy (scpy s (p + 1) (Int32.toNatClampNeg 0) (o + 1) (Int32.toNatClampNeg 0) (Int32.toNatClampNeg (nI (tlen (o + 1))))) (p + 2) (Int32.toNatClampNeg 0) (o + 2) (Int32.toNatClampNeg 0) (Int32.toNatClampNeg (nI (tlen (o + 2))))) (p + 3) (Int32.toNatClampNeg 0) (o + 3) (Int32.toNatClampNeg 0) (Int32.toNatClampNeg (nI (tlen (o + 3))))).1 p 3)) o 4 ((sput (scpy (scpy (scpy s (p + 1) (Int32.toNatClampNeg 0) (o + 1) (Int32.toNatClampNeg 0) (Int32.toNatClampNeg (nI (tlen (o + 1))))) (p + 2) (Int32.toNatClampNeg 0) (o + 2) (Int32.toNatClampNeg 0) (Int32.toNatClampNeg (nI (tlen (o + 2))))) (p + 3) (Int32.toNatClampNeg 0) (o + 3) (Int32.toNatClampNeg 0) (Int32.toNatClampNeg (nI (tlen (o + 3))))) o 3 ((scpy (scpy (scpy s (p + 1) (Int32.toNatClampNeg 0) (o + 1) (Int32.toNatClampNeg 0) (Int32.toNatClampNeg (nI (tlen (o + 1))))) (p + 2) (Int32.toNatClampNeg 0) (o + 2) (Int32.toNatClampNeg 0) (Int32.toNatClampNeg (nI (tlen (o + 2))))) (p + 3) (Int32.toNatClampNeg 0) (o + 3) (Int32.toNatClampNeg 0) (Int32.toNatClampNeg (nI (tlen (o + 3))))).1 p 3)).1 p 4))
def ok_X9_copyFrom (s : St) (o : Nat) (p : Nat) : Prop := (((0 < alen (p + 1) ∧ 0 < alen (o + 1) ∧ ¬ (0 : Int32) < 0 ∧ ¬ (0 : Int32) < 0 ∧ ¬ ((nI (tlen (o + 1))) : Int32) < 0 ∧ Int32.toNatClampNeg 0 + Int32.toNatClampNeg (nI (tlen (o + 1))) ≤ alen (p + 1) ∧ Int32.toNatClampNeg 0 + Int32.toNatClampNeg (nI (tlen (o + 1))) ≤ alen (o + 1))) ∧ (((0 < alen (p + 2) ∧ 0 < alen (o + 2) ∧ ¬ (0 : Int32) < 0 ∧ ¬ (0 : Int32) < 0 ∧ ¬ ((nI (tlen (o + 2))) : Int32) < 0 ∧ Int32.toNatClampNeg 0 + Int32.toNatClampNeg (nI (tlen (o + 2))) ≤ alen (p + 2) ∧ Int32.toNatClampNeg 0 + Int32.toNatClampNeg (nI (tlen (o + 2))) ≤ alen (o + 2))) ∧ ((0 < alen (p + 3) ∧ 0 < alen (o + 3) ∧ ¬ (0 : Int32) < 0 ∧ ¬ (0 : Int32) < 0 ∧ ¬ ((nI (tlen (o + 3))) : Int32) < 0 ∧ Int32.toNatClampNeg 0 + Int32.toNatClampNeg (nI (tlen (o + 3))) ≤ alen (p + 3) ∧ Int32.toNatClampNeg 0 + Int32.toNatClampNeg (nI (tlen (o + 3))) ≤ alen (o + 3)))))
theorem p_X9_copyFrom {l : Launch} {G : Geo} {d : Nat} (o : Nat) (p : Nat) (ho : (o = 4 ∧ p = 11) ∨ (o = 11 ∧ p = 4)) (s : St) {Q : St → Prop} (hok : ok_X9_copyFrom s o p) (h : Q (g_X9_copyFrom s o p)) : DoesV l G (d + 1) 90 [.ref o, .ref p] s Q := by
  unfold ok_X9_copyFrom at hok
  have key : ((isArr (o + 1) = true) ∧ (((0 < alen (p + 1) ∧ 0 < alen (o + 1) ∧ ¬ (0 : Int32) < 0 ∧ ¬ (0 : Int32) < 0 ∧ ¬ ((nI (tlen (o + 1))) : Int32) < 0 ∧ Int32.toNatClampNeg 0 + Int32.toNatClampNeg (nI (tlen (o + 1))) ≤ alen (p + 1) ∧ Int32.toNatClampNeg 0 + Int32.toNatClampNeg (nI (tlen (o + 1))) ≤ alen (o + 1))) ∧ ((isArr (o + 2) = true) ∧ (((0 < alen (p + 2) ∧ 0 < alen (o + 2) ∧ ¬ (0 : Int32) < 0 ∧ ¬ (0 : Int32) < 0 ∧ ¬ ((nI (tlen (o + 2))) : Int32) < 0 ∧ Int32.toNatClampNeg 0 + Int32.toNatClampNeg (nI (tlen (o + 2))) ≤ alen (p + 2) ∧ Int32.toNatClampNeg 0 + Int32.toNatClampNeg (nI (tlen (o + 2))) ≤ alen (o + 2))) ∧ ((isArr (o + 3) = true) ∧ (((0 < alen (p + 3) ∧ 0 < alen (o + 3) ∧ ¬ (0 : Int32) < 0 ∧ ¬ (0 : Int32) < 0 ∧ ¬ ((nI (tlen (o + 3))) : Int32) < 0 ∧ Int32.toNatClampNeg 0 + Int32.toNatClampNeg (nI (tlen (o + 3))) ≤ alen (p + 3) ∧ Int32.toNatClampNeg 0 + Int32.toNatClampNeg (nI (tlen (o + 3))) ≤ alen (o + 3))) ∧ Q (sput (sput (scpy (scpy (scpy s (p + 1) (Int32.toNatClampNeg 0) (o + 1) (Int32.toNatClampNeg 0) (Int32.toNatClampNeg (nI (tlen (o + 1))))) (p + 2) (Int32.toNatClampNeg 0) (o + 2) (Int32.toNatClampNeg 0) (Int32.toNatClampNeg (nI (tlen (o + 2))))) (p + 3) (Int32.toNatClampNeg 0) (o + 3) (Int32.toNatClampNeg 0) (Int32.toNatClampNeg (nI (tlen (o + 3))))) o 3 ((scpy (scpy (scpy s (p + 1) (Int32.toNatClampNeg 0) (o + 1) (Int32.toNatClampNeg 0) (Int32.toNatClampNeg (nI (tlen (o + 1))))) (p + 2) (Int32.toNatClampNeg 0) (o + 2) (Int32.toNatClampNeg 0) (Int32.toNatClampNeg (nI (tlen (o + 2))))) (p + 3) (Int32.toNatClampNeg 0) (o + 3) (Int32.toNatClampNeg 0) (Int32.toNatClampNeg (nI (tlen (o + 3))))).1 p 3)) o 4 ((sput (scpy (scpy (scpy s (p + 1) (Int32.toNatClampNeg 0) (o + 1) (Int32.toNatClampNeg 0) (Int32.toNatClampNeg (nI (tlen (o + 1))))) (p + 2) (Int32.toNatClampNeg 0) (o + 2) (Int32.toNatClampNeg 0) (Int32.toNatClampNeg (nI (tlen (o + 2))))) (p + 3) (Int32.toNatClampNeg 0) (o + 3) (Int32.toNatClampNeg 0) (Int32.toNatClampNeg (nI (tlen (o + 3))))) o 3 ((scpy (scpy (scpy s (p + 1) (Int32.toNatClampNeg 0) (o + 1) (Int32.toNatClampNeg 0) (Int32.toNatClampNeg (nI (tlen (o + 1))))) (p + 2) (Int32.toNatClampNeg 0) (o + 2) (Int32.toNatClampNeg 0) (Int32.toNatClampNeg (nI (tlen (o + 2))))) (p + 3) (Int32.toNatClampNeg 0) (o + 3) (Int32.toNatClampNeg 0) (Int32.toNatClampNeg (nI (tlen (o + 3))))).1 p 3)).1 p 4)))))))) := ⟨(by rcases ho with ⟨rfl, rfl⟩ | ⟨rfl, rfl⟩ <;> rfl), ⟨hok.1, ⟨(by rcases ho with ⟨rfl, rfl⟩ | ⟨rfl, rfl⟩ <;> rfl), ⟨hok.2.1, ⟨(by rcases ho with ⟨rfl, rfl⟩ | ⟨rfl, rfl⟩ <;> rfl), ⟨hok.2.2, (lfV (by rw [g_X9_copyFrom]) h)⟩⟩⟩⟩⟩⟩
  rcases ho with ⟨rfl, rfl⟩ | ⟨rfl, rfl⟩
  all_goals exact does_wp 40 (g := sX9_copyFrom) (rt := .int) (stops := []) (tbl := tX9_copyFrom) rfl oX9_copyFrom rk_X9_copyFrom (Nat.le_of_ble_eq_true rfl) key
noncomputable def v_X9_size (s : St) (o : Nat) : Int32 := (s.1 o 3)
theorem p_X9_size {l : Launch} {G : Geo} {d : Nat} (o : Nat) (ho : o = 4 ∨ o = 11) (s : St) {Q : Int32 → St → Prop} (h : Q (v_X9_size s o) s) : DoesI l G (d + 1) 91 [.ref o] s Q := by
  have key : Q (s.1 o 3) s := (lfI (by rw [v_X9_size]) h)
  rcases ho with rfl | rfl
  all_goals exact does_wp 4 (g := sX9_size) (rt := .int) (stops := []) (tbl := tX9_size) rfl oX9_size rk_X9_size (Nat.le_of_ble_eq_true rfl) key
noncomputable def b_X9_isFull (s : St) (o : Nat) : Prop := (iP ((s.1 o 3) < 12) False True)
theorem p_X9_isFull {l : Launch} {G : Geo} {d : Nat} (o : Nat) (ho : o = 4 ∨ o = 11) (s : St) {Q : Int32 → St → Prop} (h : Q (bI (b_X9_isFull s o)) s) : DoesI l G (d + 1) 92 [.ref o] s Q := by
  have key : (((s.1 o 3) < 12 → (narrow .boolean (.int 0) = .int 0 ∧ Q 0 s)) ∧ (¬ (s.1 o 3) < 12 → (narrow .boolean (.int 1) = .int 1 ∧ Q 1 s))) := ⟨fun z1 => ⟨rfl, (lfI (by rw [b_X9_isFull, iP_t z1, bI_F]) h)⟩, fun z1 => ⟨rfl, (lfI (by rw [b_X9_isFull, iP_f z1, bI_T]) h)⟩⟩
  rcases ho with rfl | rfl
  all_goals exact does_wp 8 (g := sX9_isFull) (rt := .boolean) (stops := []) (tbl := tX9_isFull) rfl oX9_isFull rk_X9_isFull (Nat.le_of_ble_eq_true rfl) key
noncomputable def b_X9_has (s : St) (o : Nat) (x1 : Int32) : Prop := (iP (x1 < 0) False (iP (x1 < (s.1 o 3)) True False))
theorem p_X9_has {l : Launch} {G : Geo} {d : Nat} (o : Nat) (x1 : Int32) (ho : o = 4 ∨ o = 11) (s : St) {Q : Int32 → St → Prop} (h : Q (bI (b_X9_has s o x1)) s) : DoesI l G (d + 1) 93 [.ref o, .int x1] s Q := by
  have key : ((x1 < 0 → (narrow .boolean (.int 0) = .int 0 ∧ Q 0 s)) ∧ (¬ x1 < 0 → ((x1 < (s.1 o 3) → (narrow .boolean (.int 1) = .int 1 ∧ Q 1 s)) ∧ (¬ x1 < (s.1 o 3) → (narrow .boolean (.int 0) = .int 0 ∧ Q 0 s))))) := ⟨fun z1 => ⟨rfl, (lfI (by rw [b_X9_has, iP_t z1, bI_F]) h)⟩, fun z1 => ⟨fun z2 => ⟨rfl, (lfI (by rw [b_X9_has, iP_f z1, iP_t z2, bI_T]) h)⟩, fun z2 => ⟨rfl, (lfI (by rw [b_X9_has, iP_f z1, iP_f z2, bI_F]) h)⟩⟩⟩
  rcases ho with rfl | rfl
  all_goals exact does_wp 10 (g := sX9_has) (rt := .boolean) (stops := []) (tbl := tX9_has) rfl oX9_has rk_X9_has (Nat.le_of_ble_eq_true rfl) key
noncomputable def v_X9_lengthOf (s : St) (o : Nat) (x1 : Int32) : Int32 := (iC (x1 < 0) 0 (iC (x1 < (s.1 o 3)) (s.1 (o + 2) (Int32.toNatClampNeg x1)) 0))
def ok_X9_lengthOf (s : St) (o : Nat) (x1 : Int32) : Prop := (¬ x1 < 0 → (x1 < (s.1 o 3) → (vp_in x1 (alen (o + 2)))))
theorem p_X9_lengthOf {l : Launch} {G : Geo} {d : Nat} (o : Nat) (x1 : Int32) (ho : o = 4 ∨ o = 11) (s : St) {Q : Int32 → St → Prop} (hok : ok_X9_lengthOf s o x1) (h : Q (v_X9_lengthOf s o x1) s) : DoesI l G (d + 1) 94 [.ref o, .int x1] s Q := by
  unfold ok_X9_lengthOf at hok
  have key : ((x1 < 0 → Q 0 s) ∧ (¬ x1 < 0 → ((x1 < (s.1 o 3) → ((vp_in x1 (alen (o + 2))) ∧ Q (s.1 (o + 2) (Int32.toNatClampNeg x1)) s)) ∧ (¬ x1 < (s.1 o 3) → Q 0 s)))) := ⟨fun z1 => (lfI (by rw [v_X9_lengthOf, iC_t z1]) h), fun z1 => ⟨fun z2 => ⟨((hok z1) z2), (lfI (by rw [v_X9_lengthOf, iC_f z1, iC_t z2]) h)⟩, fun z2 => (lfI (by rw [v_X9_lengthOf, iC_f z1, iC_f z2]) h)⟩⟩
  rcases ho with rfl | rfl
  all_goals exact does_wp 12 (g := sX9_lengthOf) (rt := .int) (stops := []) (tbl := tX9_lengthOf) rfl oX9_lengthOf rk_X9_lengthOf (Nat.le_of_ble_eq_true rfl) key
noncomputable def v_X9_sortOf (s : St) (o : Nat) (x1 : Int32) : Int32 := (iC (x1 < 0) 0 (iC (x1 < (s.1 o 3)) (s.1 (o + 3) (Int32.toNatClampNeg x1)) 0))
def ok_X9_sortOf (s : St) (o : Nat) (x1 : Int32) : Prop := (¬ x1 < 0 → (x1 < (s.1 o 3) → (vp_in x1 (alen (o + 3)))))
theorem p_X9_sortOf {l : Launch} {G : Geo} {d : Nat} (o : Nat) (x1 : Int32) (ho : o = 4 ∨ o = 11) (s : St) {Q : Int32 → St → Prop} (hok : ok_X9_sortOf s o x1) (h : Q (v_X9_sortOf s o x1) s) : DoesI l G (d + 1) 95 [.ref o, .int x1] s Q := by
  unfold ok_X9_sortOf at hok
  have key : ((x1 < 0 → Q 0 s) ∧ (¬ x1 < 0 → ((x1 < (s.1 o 3) → ((vp_in x1 (alen (o + 3))) ∧ Q (s.1 (o + 3) (Int32.toNatClampNeg x1)) s)) ∧ (¬ x1 < (s.1 o 3) → Q 0 s)))) := ⟨fun z1 => (lfI (by rw [v_X9_sortOf, iC_t z1]) h), fun z1 => ⟨fun z2 => ⟨((hok z1) z2), (lfI (by rw [v_X9_sortOf, iC_f z1, iC_t z2]) h)⟩, fun z2 => (lfI (by rw [v_X9_sortOf, iC_f z1, iC_f z2]) h)⟩⟩
  rcases ho with rfl | rfl
  all_goals exact does_wp 12 (g := sX9_sortOf) (rt := .int) (stops := []) (tbl := tX9_sortOf) rfl oX9_sortOf rk_X9_sortOf (Nat.le_of_ble_eq_true rfl) key
noncomputable def v_X9_letterOf (s : St) (o : Nat) (x1 : Int32) (x2 : Int32) : Int32 := (iC (x1 < 0) (-1) (iC (x1 < (s.1 o 3)) (iC (x2 < 0) (-1) (iC (x2 < (s.1 (o + 2) (Int32.toNatClampNeg x1))) (s.1 (o + 1) (Int32.toNatClampNeg ((x1 * 10) + x2))) (-1))) (-1)))
def ok_X9_letterOf (s : St) (o : Nat) (x1 : Int32) (x2 : Int32) : Prop := (¬ x1 < 0 → (x1 < (s.1 o 3) → (¬ x2 < 0 → ((vp_in x1 (alen (o + 2))) ∧ (x2 < (s.1 (o + 2) (Int32.toNatClampNeg x1)) → (vp_in ((x1 * 10) + x2) (alen (o + 1))))))))
theorem p_X9_letterOf {l : Launch} {G : Geo} {d : Nat} (o : Nat) (x1 : Int32) (x2 : Int32) (ho : o = 4 ∨ o = 11) (s : St) {Q : Int32 → St → Prop} (hok : ok_X9_letterOf s o x1 x2) (h : Q (v_X9_letterOf s o x1 x2) s) : DoesI l G (d + 1) 96 [.ref o, .int x1, .int x2] s Q := by
  unfold ok_X9_letterOf at hok
  have key : ((x1 < 0 → Q (-1) s) ∧ (¬ x1 < 0 → ((x1 < (s.1 o 3) → ((x2 < 0 → Q (-1) s) ∧ (¬ x2 < 0 → ((vp_in x1 (alen (o + 2))) ∧ ((x2 < (s.1 (o + 2) (Int32.toNatClampNeg x1)) → ((vp_in ((x1 * 10) + x2) (alen (o + 1))) ∧ Q (s.1 (o + 1) (Int32.toNatClampNeg ((x1 * 10) + x2))) s)) ∧ (¬ x2 < (s.1 (o + 2) (Int32.toNatClampNeg x1)) → Q (-1) s)))))) ∧ (¬ x1 < (s.1 o 3) → Q (-1) s)))) := ⟨fun z1 => (lfI (by rw [v_X9_letterOf, iC_t z1]) h), fun z1 => ⟨fun z2 => ⟨fun z3 => (lfI (by rw [v_X9_letterOf, iC_f z1, iC_t z2, iC_t z3]) h), fun z3 => ⟨(((hok z1) z2) z3).1, ⟨fun z4 => ⟨((((hok z1) z2) z3).2 z4), (lfI (by rw [v_X9_letterOf, iC_f z1, iC_t z2, iC_f z3, iC_t z4]) h)⟩, fun z4 => (lfI (by rw [v_X9_letterOf, iC_f z1, iC_t z2, iC_f z3, iC_f z4]) h)⟩⟩⟩, fun z2 => (lfI (by rw [v_X9_letterOf, iC_f z1, iC_f z2]) h)⟩⟩
  rcases ho with rfl | rfl
  all_goals exact does_wp 24 (g := sX9_letterOf) (rt := .int) (stops := []) (tbl := tX9_letterOf) rfl oX9_letterOf rk_X9_letterOf (Nat.le_of_ble_eq_true rfl) key
noncomputable def v_X9_followBits (s : St) (o : Nat) : Int32 := (s.1 o 4)
theorem p_X9_followBits {l : Launch} {G : Geo} {d : Nat} (o : Nat) (ho : o = 4 ∨ o = 11) (s : St) {Q : Int32 → St → Prop} (h : Q (v_X9_followBits s o) s) : DoesI l G (d + 1) 97 [.ref o] s Q := by
  have key : Q (s.1 o 4) s := (lfI (by rw [v_X9_followBits]) h)
  rcases ho with rfl | rfl
  all_goals exact does_wp 4 (g := sX9_followBits) (rt := .int) (stops := []) (tbl := tX9_followBits) rfl oX9_followBits rk_X9_followBits (Nat.le_of_ble_eq_true rfl) key
noncomputable def b_X9_mayFollow (s : St) (o : Nat) (x1 : Int32) (x2 : Int32) : Prop := (iP ((((s.1 o 4) >>> (((3 * x1) + x2) &&& 31)) &&& 1) = 0) False True)
theorem p_X9_mayFollow {l : Launch} {G : Geo} {d : Nat} (o : Nat) (x1 : Int32) (x2 : Int32) (ho : o = 4 ∨ o = 11) (s : St) {Q : Int32 → St → Prop} (h : Q (bI (b_X9_mayFollow s o x1 x2)) s) : DoesI l G (d + 1) 98 [.ref o, .int x1, .int x2] s Q := by
  have key : (((((s.1 o 4) >>> (((3 * x1) + x2) &&& 31)) &&& 1) = 0 → (narrow .boolean (.int 0) = .int 0 ∧ Q 0 s)) ∧ (¬ (((s.1 o 4) >>> (((3 * x1) + x2) &&& 31)) &&& 1) = 0 → (narrow .boolean (.int 1) = .int 1 ∧ Q 1 s))) := ⟨fun z1 => ⟨rfl, (lfI (by rw [b_X9_mayFollow, iP_t z1, bI_F]) h)⟩, fun z1 => ⟨rfl, (lfI (by rw [b_X9_mayFollow, iP_f z1, bI_T]) h)⟩⟩
  rcases ho with rfl | rfl
  all_goals exact does_wp 15 (g := sX9_mayFollow) (rt := .boolean) (stops := []) (tbl := tX9_mayFollow) rfl oX9_mayFollow rk_X9_mayFollow (Nat.le_of_ble_eq_true rfl) key
noncomputable def g_X9_forbid (s : St) (o : Nat) (x1 : Int32) (x2 : Int32) : St := (sput s o 4 ((s.1 o 4) &&& ((1 <<< (((3 * x1) + x2) &&& 31)) ^^^ (-1))))
theorem p_X9_forbid {l : Launch} {G : Geo} {d : Nat} (o : Nat) (x1 : Int32) (x2 : Int32) (ho : o = 4 ∨ o = 11) (s : St) {Q : St → Prop} (h : Q (g_X9_forbid s o x1 x2)) : DoesV l G (d + 1) 99 [.ref o, .int x1, .int x2] s Q := by
  have key : Q (sput s o 4 ((s.1 o 4) &&& ((1 <<< (((3 * x1) + x2) &&& 31)) ^^^ (-1)))) := (lfV (by rw [g_X9_forbid]) h)
  rcases ho with rfl | rfl
  all_goals exact does_wp 16 (g := sX9_forbid) (rt := .int) (stops := []) (tbl := tX9_forbid) rfl oX9_forbid rk_X9_forbid (Nat.le_of_ble_eq_true rfl) key
noncomputable def g_X9_makeFree (s : St) (o : Nat) : St := (sput (sput s o 3 0) o 4 511)
theorem p_X9_makeFree {l : Launch} {G : Geo} {d : Nat} (o : Nat) (ho : o = 4 ∨ o = 11) (s : St) {Q : St → Prop} (h : Q (g_X9_makeFree s o)) : DoesV l G (d + 1) 100 [.ref o] s Q := by
  have key : Q (sput (sput s o 3 0) o 4 511) := (lfV (by rw [g_X9_makeFree]) h)
  rcases ho with rfl | rfl
  all_goals exact does_wp 8 (g := sX9_makeFree) (rt := .int) (stops := []) (tbl := tX9_makeFree) rfl oX9_makeFree rk_X9_makeFree (Nat.le_of_ble_eq_true rfl) key
noncomputable def b_X11_in (s : St) (x1 : Int32) (x2 : Int32) (x3 : Int32) : Prop := (iP (x1 < x2) False (iP (x3 < x1) False True))
theorem p_X11_in {l : Launch} {G : Geo} {d : Nat} (x1 : Int32) (x2 : Int32) (x3 : Int32)  (s : St) {Q : Int32 → St → Prop} (h : Q (bI (b_X11_in s x1 x2 x3)) s) : DoesI l G (d + 1) 131 [.int x1, .int x2, .int x3] s Q := by
  have key : ((x1 < x2 → (narrow .boolean (.int 0) = .int 0 ∧ Q 0 s)) ∧ (¬ x1 < x2 → ((x3 < x1 → (narrow .boolean (.int 0) = .int 0 ∧ Q 0 s)) ∧ (¬ x3 < x1 → (narrow .boolean (.int 1) = .int 1 ∧ Q 1 s))))) := ⟨fun z1 => ⟨rfl, (lfI (by rw [b_X11_in, iP_t z1, bI_F]) h)⟩, fun z1 => ⟨fun z2 => ⟨rfl, (lfI (by rw [b_X11_in, iP_f z1, iP_t z2, bI_F]) h)⟩, fun z2 => ⟨rfl, (lfI (by rw [b_X11_in, iP_f z1, iP_f z2, bI_T]) h)⟩⟩⟩
  all_goals exact does_wp 10 (g := sX11_in) (rt := .boolean) (stops := []) (tbl := tX11_in) rfl oX11_in rk_X11_in (Nat.le_of_ble_eq_true rfl) key
noncomputable def b_X11_has (s : St) (x1 : Int32) (x2 : Int32) : Prop := (iP (((x1 >>> (x2 &&& 31)) &&& 1) = 1) True False)
theorem p_X11_has {l : Launch} {G : Geo} {d : Nat} (x1 : Int32) (x2 : Int32)  (s : St) {Q : Int32 → St → Prop} (h : Q (bI (b_X11_has s x1 x2)) s) : DoesI l G (d + 1) 132 [.int x1, .int x2] s Q := by
  have key : ((((x1 >>> (x2 &&& 31)) &&& 1) = 1 → (narrow .boolean (.int 1) = .int 1 ∧ Q 1 s)) ∧ (¬ ((x1 >>> (x2 &&& 31)) &&& 1) = 1 → (narrow .boolean (.int 0) = .int 0 ∧ Q 0 s))) := ⟨fun z1 => ⟨rfl, (lfI (by rw [b_X11_has, iP_t z1, bI_T]) h)⟩, fun z1 => ⟨rfl, (lfI (by rw [b_X11_has, iP_f z1, bI_F]) h)⟩⟩
  all_goals exact does_wp 11 (g := sX11_has) (rt := .boolean) (stops := []) (tbl := tX11_has) rfl oX11_has rk_X11_has (Nat.le_of_ble_eq_true rfl) key
noncomputable def f_X11_erase (s : St)  : Int32 × St := ((s.1 51 9), (sput s 51 9 0))
theorem p_X11_erase {l : Launch} {G : Geo} {d : Nat}   (s : St) {Q : Int32 → St → Prop} (h : Q (f_X11_erase s).1 (f_X11_erase s).2) : DoesI l G (d + 1) 136 [.ref 51] s Q := by
  have key : Q (s.1 51 9) (sput s 51 9 0) := (lfF (by rw [f_X11_erase]) h)
  all_goals exact does_wp 9 (g := sX11_erase) (rt := .int) (stops := []) (tbl := tX11_erase) rfl oX11_erase rk_X11_erase (Nat.le_of_ble_eq_true rfl) key
noncomputable def f_X11_fails (s : St)  : Int32 × St := (0, (sput s 51 16 (s.1 51 12)))
theorem p_X11_fails {l : Launch} {G : Geo} {d : Nat}   (s : St) {Q : Int32 → St → Prop} (h : Q (f_X11_fails s).1 (f_X11_fails s).2) : DoesI l G (d + 1) 138 [.ref 51] s Q := by
  have key : (narrow .boolean (.int 0) = .int 0 ∧ Q 0 (sput s 51 16 (s.1 51 12))) := ⟨rfl, (lfF (by rw [f_X11_fails]) h)⟩
  all_goals exact does_wp 7 (g := sX11_fails) (rt := .boolean) (stops := []) (tbl := tX11_fails) rfl oX11_fails rk_X11_fails (Nat.le_of_ble_eq_true rfl) key
noncomputable def f_X11_amen (s : St)  : Int32 × St := ((s.1 51 23), (sput (sput s 51 23 0) 51 25 0))
theorem p_X11_amen {l : Launch} {G : Geo} {d : Nat}   (s : St) {Q : Int32 → St → Prop} (h : Q (f_X11_amen s).1 (f_X11_amen s).2) : DoesI l G (d + 1) 157 [.ref 51] s Q := by
  have key : Q (s.1 51 23) (sput (sput s 51 23 0) 51 25 0) := (lfF (by rw [f_X11_amen]) h)
  all_goals exact does_wp 12 (g := sX11_amen) (rt := .int) (stops := []) (tbl := tX11_amen) rfl oX11_amen rk_X11_amen (Nat.le_of_ble_eq_true rfl) key
noncomputable def f_X11_hush (s : St)  : Int32 × St := ((s.1 51 26), (sput s 51 26 0))
theorem p_X11_hush {l : Launch} {G : Geo} {d : Nat}   (s : St) {Q : Int32 → St → Prop} (h : Q (f_X11_hush s).1 (f_X11_hush s).2) : DoesI l G (d + 1) 164 [.ref 51] s Q := by
  have key : Q (s.1 51 26) (sput s 51 26 0) := (lfF (by rw [f_X11_hush]) h)
  all_goals exact does_wp 9 (g := sX11_hush) (rt := .int) (stops := []) (tbl := tX11_hush) rfl oX11_hush rk_X11_hush (Nat.le_of_ble_eq_true rfl) key
noncomputable def v_X11_waysAt (s : St) (x1 : Int32) (x2 : Int32) (x3 : Int32) : Int32 := ((((x1 * 61) + x2) * 12) + x3)
theorem p_X11_waysAt {l : Launch} {G : Geo} {d : Nat} (x1 : Int32) (x2 : Int32) (x3 : Int32)  (s : St) {Q : Int32 → St → Prop} (h : Q (v_X11_waysAt s x1 x2 x3) s) : DoesI l G (d + 1) 167 [.ref 51, .int x1, .int x2, .int x3] s Q := by
  have key : Q ((((x1 * 61) + x2) * 12) + x3) s := (lfI (by rw [v_X11_waysAt]) h)
  all_goals exact does_wp 11 (g := sX11_waysAt) (rt := .int) (stops := []) (tbl := tX11_waysAt) rfl oX11_waysAt rk_X11_waysAt (Nat.le_of_ble_eq_true rfl) key
noncomputable def g_X0_setLate (s : St) (o : Nat) (x1 : Int32) (x2 : Int32) : St := (iC (b_X0_has s o x1) (sput s (o + 1) (Int32.toNatClampNeg x1) x2) s)
def ok_X0_setLate (s : St) (o : Nat) (x1 : Int32) (x2 : Int32) : Prop := ((b_X0_has s o x1) → (vp_in x1 (alen (o + 1))))
theorem p_X0_setLate {l : Launch} {G : Geo} {d : Nat} (o : Nat) (x1 : Int32) (x2 : Int32) (ho : o = 8 ∨ o = 15) (s : St) {Q : St → Prop} (hok : ok_X0_setLate s o x1 x2) (h : Q (g_X0_setLate s o x1 x2)) : DoesV l G (d + 2) 10 [.ref o, .int x1, .int x2] s Q := by
  unfold ok_X0_setLate at hok
  have key : DoesI l G (d + 1) 4 [.ref o, .int x1] s (fun r1 s1 => ((r1 = 0 → Q s1) ∧ (¬ r1 = 0 → ((vp_in x1 (alen (o + 1))) ∧ Q (sput s1 (o + 1) (Int32.toNatClampNeg x1) x2))))) := (p_X0_has o x1 (by omega) s ⟨fun z1 => (lfV (by rw [g_X0_setLate, iC_f (bI_n z1)]) h), fun z1 => ⟨(hok (bI_p z1)), (lfV (by rw [g_X0_setLate, iC_t (bI_p z1)]) h)⟩⟩)
  rcases ho with rfl | rfl
  all_goals exact does_wp 11 (g := sX0_setLate) (rt := .int) (stops := []) (tbl := tX0_setLate) rfl oX0_setLate rk_X0_setLate (Nat.le_of_ble_eq_true rfl) key
end
section
noncomputable def b_X0_isSaid (s : St) (o : Nat) (x1 : Int32) : Prop := (iP ((s.1 o 1) < 1) False (iP (b_X0_isAway s o (x1 - x1 / (s.1 o 1) * (s.1 o 1))) False (iP (((x1 / (s.1 o 1)) - (v_X0_lateOf s o (x1 - x1 / (s.1 o 1) * (s.1 o 1)))) < 0) False (iP (b_X0_isHoarse s o (x1 - x1 / (s.1 o 1) * (s.1 o 1))) (iP ((((x1 / (s.1 o 1)) - (v_X0_lateOf s o (x1 - x1 / (s.1 o 1) * (s.1 o 1)))) - ((x1 / (s.1 o 1)) - (v_X0_lateOf s o (x1 - x1 / (s.1 o 1) * (s.1 o 1)))) / 2 * 2) = 0) True False) True))))
def ok_X0_isSaid (s : St) (o : Nat) (x1 : Int32) : Prop := (¬ (s.1 o 1) < 1 → ((¬ (s.1 o 1) = 0) ∧ ((¬ (s.1 o 1) = 0) ∧ ok_X0_lateOf s o (x1 - x1 / (s.1 o 1) * (s.1 o 1)))))
theorem p_X0_isSaid {l : Launch} {G : Geo} {d : Nat} (o : Nat) (x1 : Int32) (ho : o = 8 ∨ o = 15) (s : St) {Q : Int32 → St → Prop} (hok : ok_X0_isSaid s o x1) (h : Q (bI (b_X0_isSaid s o x1)) s) : DoesI l G (d + 2) 12 [.ref o, .int x1] s Q := by
  unfold ok_X0_isSaid at hok
  have key : (((s.1 o 1) < 1 → (narrow .boolean (.int 0) = .int 0 ∧ Q 0 s)) ∧ (¬ (s.1 o 1) < 1 → ((¬ (s.1 o 1) = 0) ∧ ((¬ (s.1 o 1) = 0) ∧ DoesI l G (d + 1) 7 [.ref o, .int (x1 - x1 / (s.1 o 1) * (s.1 o 1))] s (fun r1 s1 => DoesI l G (d + 1) 5 [.ref o, .int (x1 - x1 / (s.1 o 1) * (s.1 o 1))] s1 (fun r2 s2 => ((r2 = 0 → ((((x1 / (s.1 o 1)) - r1) < 0 → (narrow .boolean (.int 0) = .int 0 ∧ Q 0 s2)) ∧ (¬ ((x1 / (s.1 o 1)) - r1) < 0 → DoesI l G (d + 1) 6 [.ref o, .int (x1 - x1 / (s.1 o 1) * (s.1 o 1))] s2 (fun r3 s3 => ((r3 = 0 → (narrow .boolean (.int 1) = .int 1 ∧ Q 1 s3)) ∧ (¬ r3 = 0 → ((¬ (2 : Int32) = 0) ∧ (((((x1 / (s.1 o 1)) - r1) - ((x1 / (s.1 o 1)) - r1) / 2 * 2) = 0 → (narrow .boolean (.int 1) = .int 1 ∧ Q 1 s3)) ∧ (¬ (((x1 / (s.1 o 1)) - r1) - ((x1 / (s.1 o 1)) - r1) / 2 * 2) = 0 → (narrow .boolean (.int 0) = .int 0 ∧ Q 0 s3)))))))))) ∧ (¬ r2 = 0 → (narrow .boolean (.int 0) = .int 0 ∧ Q 0 s2))))))))) := ⟨fun z1 => ⟨rfl, (lfI (by rw [b_X0_isSaid, iP_t z1, bI_F]) h)⟩, fun z1 => ⟨(hok z1).1, ⟨(hok z1).2.1, (p_X0_lateOf o (x1 - x1 / (s.1 o 1) * (s.1 o 1)) (by omega) s (hok z1).2.2 (p_X0_isAway o (x1 - x1 / (s.1 o 1) * (s.1 o 1)) (by omega) s ⟨fun z2 => ⟨fun z3 => ⟨rfl, (lfI (by rw [b_X0_isSaid, iP_f z1, iP_f (bI_n z2), iP_t z3, bI_F]) h)⟩, fun z3 => (p_X0_isHoarse o (x1 - x1 / (s.1 o 1) * (s.1 o 1)) (by omega) s ⟨fun z4 => ⟨rfl, (lfI (by rw [b_X0_isSaid, iP_f z1, iP_f (bI_n z2), iP_f z3, iP_f (bI_n z4), bI_T]) h)⟩, fun z4 => ⟨(by decide), ⟨fun z5 => ⟨rfl, (lfI (by rw [b_X0_isSaid, iP_f z1, iP_f (bI_n z2), iP_f z3, iP_t (bI_p z4), iP_t z5, bI_T]) h)⟩, fun z5 => ⟨rfl, (lfI (by rw [b_X0_isSaid, iP_f z1, iP_f (bI_n z2), iP_f z3, iP_t (bI_p z4), iP_f z5, bI_F]) h)⟩⟩⟩⟩)⟩, fun z2 => ⟨rfl, (lfI (by rw [b_X0_isSaid, iP_f z1, iP_t (bI_p z2), bI_F]) h)⟩⟩))⟩⟩⟩
  rcases ho with rfl | rfl
  all_goals exact does_wp 36 (g := sX0_isSaid) (rt := .boolean) (stops := []) (tbl := tX0_isSaid) rfl oX0_isSaid rk_X0_isSaid (Nat.le_of_ble_eq_true rfl) key
noncomputable def v_X1_waysBehind (s : St) (x1 : Int32) (x2 : Int32) (x3 : Int32) : Int32 := (iC (x1 < 6) (iC ((s.1 26 6) < (x2 + (v_X9_lengthOf s 4 x3))) 0 (s.1 (38 + Int32.toNatClampNeg (x1 + 1)) (Int32.toNatClampNeg ((4 * (x2 + (v_X9_lengthOf s 4 x3))) + (v_X9_sortOf s 4 x3))))) 0)
def ok_X1_waysBehind (s : St) (x1 : Int32) (x2 : Int32) (x3 : Int32) : Prop := (ok_X9_lengthOf s 4 x3 ∧ (x1 < 6 → (¬ (s.1 26 6) < (x2 + (v_X9_lengthOf s 4 x3)) → ((vp_in (x1 + 1) 7) ∧ (ok_X9_sortOf s 4 x3 ∧ (vp_in ((4 * (x2 + (v_X9_lengthOf s 4 x3))) + (v_X9_sortOf s 4 x3)) (alen (38 + Int32.toNatClampNeg (x1 + 1)))))))))
theorem p_X1_waysBehind {l : Launch} {G : Geo} {d : Nat} (x1 : Int32) (x2 : Int32) (x3 : Int32)  (s : St) {Q : Int32 → St → Prop} (hok : ok_X1_waysBehind s x1 x2 x3) (h : Q (v_X1_waysBehind s x1 x2 x3) s) : DoesI l G (d + 2) 21 [.ref 26, .int x1, .int x2, .int x3] s Q := by
  unfold ok_X1_waysBehind at hok
  have key : DoesI l G (d + 1) 94 [.ref 4, .int x3] s (fun r1 s1 => ((x1 < 6 → (((s1.1 26 6) < (x2 + r1) → Q 0 s1) ∧ (¬ (s1.1 26 6) < (x2 + r1) → ((vp_in (x1 + 1) 7) ∧ DoesI l G (d + 1) 95 [.ref 4, .int x3] s1 (fun r2 s2 => ((vp_in ((4 * (x2 + r1)) + r2) (alen (38 + Int32.toNatClampNeg (x1 + 1)))) ∧ Q (s2.1 (38 + Int32.toNatClampNeg (x1 + 1)) (Int32.toNatClampNeg ((4 * (x2 + r1)) + r2))) s2)))))) ∧ (¬ x1 < 6 → Q 0 s1))) := (p_X9_lengthOf 4 x3 (by decide) s hok.1 ⟨fun z1 => ⟨fun z2 => (lfI (by rw [v_X1_waysBehind, iC_t z1, iC_t z2]) h), fun z2 => ⟨((hok.2 z1) z2).1, (p_X9_sortOf 4 x3 (by decide) s ((hok.2 z1) z2).2.1 ⟨((hok.2 z1) z2).2.2, (lfI (by rw [v_X1_waysBehind, iC_t z1, iC_f z2]) h)⟩)⟩⟩, fun z1 => (lfI (by rw [v_X1_waysBehind, iC_f z1]) h)⟩)
  all_goals exact does_wp 31 (g := sX1_waysBehind) (rt := .int) (stops := []) (tbl := tX1_waysBehind) rfl oX1_waysBehind rk_X1_waysBehind (Nat.le_of_ble_eq_true rfl) key
noncomputable def g_X5_countLetter (s : St) (x1 : Int32) : St := (iC ((v_X0_size s 8) < 1) s (iC (((x1 / (v_X0_size (sput s 48 (Int32.toNatClampNeg (v_X0_voiceOf s 8 x1)) ((s.1 48 (Int32.toNatClampNeg (v_X0_voiceOf s 8 x1))) + 1)) 8)) - (x1 / (v_X0_size (sput s 48 (Int32.toNatClampNeg (v_X0_voiceOf s 8 x1)) ((s.1 48 (Int32.toNatClampNeg (v_X0_voiceOf s 8 x1))) + 1)) 8)) / 2 * 2) = 1) (sput (sput s 48 (Int32.toNatClampNeg (v_X0_voiceOf s 8 x1)) ((s.1 48 (Int32.toNatClampNeg (v_X0_voiceOf s 8 x1))) + 1)) 49 (Int32.toNatClampNeg (v_X0_voiceOf s 8 x1)) (((sput s 48 (Int32.toNatClampNeg (v_X0_voiceOf s 8 x1)) ((s.1 48 (Int32.toNatClampNeg (v_X0_voiceOf s 8 x1))) + 1)).1 49 (Int32.toNatClampNeg (v_X0_voiceOf s 8 x1))) + 1)) (sput s 48 (Int32.toNatClampNeg (v_X0_voiceOf s 8 x1)) ((s.1 48 (Int32.toNatClampNeg (v_X0_voiceOf s 8 x1))) + 1))))
def ok_X5_countLetter (s : St) (x1 : Int32) : Prop := (¬ (v_X0_size s 8) < 1 → (ok_X0_voiceOf s 8 x1 ∧ ((vp_in (v_X0_voiceOf s 8 x1) (alen 48)) ∧ ((vp_in (v_X0_voiceOf s 8 x1) (alen 48)) ∧ ((¬ (v_X0_size (sput s 48 (Int32.toNatClampNeg (v_X0_voiceOf s 8 x1)) ((s.1 48 (Int32.toNatClampNeg (v_X0_voiceOf s 8 x1))) + 1)) 8) = 0) ∧ (((x1 / (v_X0_size (sput s 48 (Int32.toNatClampNeg (v_X0_voiceOf s 8 x1)) ((s.1 48 (Int32.toNatClampNeg (v_X0_voiceOf s 8 x1))) + 1)) 8)) - (x1 / (v_X0_size (sput s 48 (Int32.toNatClampNeg (v_X0_voiceOf s 8 x1)) ((s.1 48 (Int32.toNatClampNeg (v_X0_voiceOf s 8 x1))) + 1)) 8)) / 2 * 2) = 1 → ((vp_in (v_X0_voiceOf s 8 x1) (alen 49)) ∧ (vp_in (v_X0_voiceOf s 8 x1) (alen 49)))))))))
theorem p_X5_countLetter {l : Launch} {G : Geo} {d : Nat} (x1 : Int32)  (s : St) {Q : St → Prop} (hok : ok_X5_countLetter s x1) (h : Q (g_X5_countLetter s x1)) : DoesV l G (d + 2) 60 [.ref 47, .int x1] s Q := by
  unfold ok_X5_countLetter at hok
  have key : DoesI l G (d + 1) 2 [.ref 8] s (fun r1 s1 => ((r1 < 1 → Q s1) ∧ (¬ r1 < 1 → DoesI l G (d + 1) 11 [.ref 8, .int x1] s1 (fun r2 s2 => ((vp_in r2 (alen 48)) ∧ ((vp_in r2 (alen 48)) ∧ DoesI l G (d + 1) 2 [.ref 8] (sput s2 48 (Int32.toNatClampNeg r2) ((s2.1 48 (Int32.toNatClampNeg r2)) + 1)) (fun r3 s3 => ((¬ r3 = 0) ∧ ((¬ (2 : Int32) = 0) ∧ ((((x1 / r3) - (x1 / r3) / 2 * 2) = 1 → ((vp_in r2 (alen 49)) ∧ ((vp_in r2 (alen 49)) ∧ Q (sput s3 49 (Int32.toNatClampNeg r2) ((s3.1 49 (Int32.toNatClampNeg r2)) + 1))))) ∧ (¬ ((x1 / r3) - (x1 / r3) / 2 * 2) = 1 → Q s3))))))))))) := (p_X0_size 8 (by decide) s ⟨fun z1 => (lfV (by rw [g_X5_countLetter, iC_t z1]) h), fun z1 => (p_X0_voiceOf 8 x1 (by decide) s (hok z1).1 ⟨(hok z1).2.1, ⟨(hok z1).2.2.1, (p_X0_size 8 (by decide) (sput s 48 (Int32.toNatClampNeg (v_X0_voiceOf s 8 x1)) ((s.1 48 (Int32.toNatClampNeg (v_X0_voiceOf s 8 x1))) + 1)) ⟨(hok z1).2.2.2.1, ⟨(by decide), ⟨fun z2 => ⟨((hok z1).2.2.2.2 z2).1, ⟨((hok z1).2.2.2.2 z2).2, (lfV (by rw [g_X5_countLetter, iC_f z1, iC_t z2]) h)⟩⟩, fun z2 => (lfV (by rw [g_X5_countLetter, iC_f z1, iC_f z2]) h)⟩⟩⟩)⟩⟩)⟩)
  all_goals exact does_wp 37 (g := sX5_countLetter) (rt := .int) (stops := []) (tbl := tX5_countLetter) rfl oX5_countLetter rk_X5_countLetter (Nat.le_of_ble_eq_true rfl) key
noncomputable def v_X5_spoiltBy (s : St) (x1 : Int32) (x2 : Int32) : Int32 := (iC (b_X0_isAway s 8 x1) (s.1 48 (Int32.toNatClampNeg x2)) (iC (b_X0_isHoarse s 8 x1) (s.1 49 (Int32.toNatClampNeg x2)) 0))
def ok_X5_spoiltBy (s : St) (x1 : Int32) (x2 : Int32) : Prop := ((¬ (b_X0_isAway s 8 x1) → ((b_X0_isHoarse s 8 x1) → (vp_in x2 (alen 49)))) ∧ ((b_X0_isAway s 8 x1) → (vp_in x2 (alen 48))))
theorem p_X5_spoiltBy {l : Launch} {G : Geo} {d : Nat} (x1 : Int32) (x2 : Int32)  (s : St) {Q : Int32 → St → Prop} (hok : ok_X5_spoiltBy s x1 x2) (h : Q (v_X5_spoiltBy s x1 x2) s) : DoesI l G (d + 2) 63 [.ref 47, .int x1, .int x2] s Q := by
  unfold ok_X5_spoiltBy at hok
  have key : DoesI l G (d + 1) 5 [.ref 8, .int x1] s (fun r1 s1 => ((r1 = 0 → DoesI l G (d + 1) 6 [.ref 8, .int x1] s1 (fun r2 s2 => ((r2 = 0 → Q 0 s2) ∧ (¬ r2 = 0 → ((vp_in x2 (alen 49)) ∧ Q (s2.1 49 (Int32.toNatClampNeg x2)) s2))))) ∧ (¬ r1 = 0 → ((vp_in x2 (alen 48)) ∧ Q (s1.1 48 (Int32.toNatClampNeg x2)) s1)))) := (p_X0_isAway 8 x1 (by decide) s ⟨fun z1 => (p_X0_isHoarse 8 x1 (by decide) s ⟨fun z2 => (lfI (by rw [v_X5_spoiltBy, iC_f (bI_n z1), iC_f (bI_n z2)]) h), fun z2 => ⟨((hok.1 (bI_n z1)) (bI_p z2)), (lfI (by rw [v_X5_spoiltBy, iC_f (bI_n z1), iC_t (bI_p z2)]) h)⟩⟩), fun z1 => ⟨(hok.2 (bI_p z1)), (lfI (by rw [v_X5_spoiltBy, iC_t (bI_p z1)]) h)⟩⟩)
  all_goals exact does_wp 17 (g := sX5_spoiltBy) (rt := .int) (stops := []) (tbl := tX5_spoiltBy) rfl oX5_spoiltBy rk_X5_spoiltBy (Nat.le_of_ble_eq_true rfl) key
noncomputable def g_X7_append (s : St) (x1 : Int32) : St := (iC (b_X7_isFull s) s (sput (sput s 25 (Int32.toNatClampNeg (s.1 24 1)) x1) 24 1 (((sput s 25 (Int32.toNatClampNeg (s.1 24 1)) x1).1 24 1) + 1)))
def ok_X7_append (s : St) (x1 : Int32) : Prop := (¬ (b_X7_isFull s) → (vp_in (s.1 24 1) (alen 25)))
theorem p_X7_append {l : Launch} {G : Geo} {d : Nat} (x1 : Int32)  (s : St) {Q : St → Prop} (hok : ok_X7_append s x1) (h : Q (g_X7_append s x1)) : DoesV l G (d + 2) 86 [.ref 24, .int x1] s Q := by
  unfold ok_X7_append at hok
  have key : DoesI l G (d + 1) 84 [.ref 24] s (fun r1 s1 => ((r1 = 0 → ((vp_in (s1.1 24 1) (alen 25)) ∧ Q (sput (sput s1 25 (Int32.toNatClampNeg (s1.1 24 1)) x1) 24 1 (((sput s1 25 (Int32.toNatClampNeg (s1.1 24 1)) x1).1 24 1) + 1)))) ∧ (¬ r1 = 0 → Q s1))) := (p_X7_isFull  s ⟨fun z1 => ⟨(hok (bI_n z1)), (lfV (by rw [g_X7_append, iC_f (bI_n z1)]) h)⟩, fun z1 => (lfV (by rw [g_X7_append, iC_t (bI_p z1)]) h)⟩)
  all_goals exact does_wp 17 (g := sX7_append) (rt := .int) (stops := []) (tbl := tX7_append) rfl oX7_append rk_X7_append (Nat.le_of_ble_eq_true rfl) key
noncomputable def g_X8_copyFrom (s : St) (o : Nat) (p : Nat) : St := (g_X0_copyFrom (g_X9_copyFrom s (o + 1) (p + 1)) (o + 5) (p + 5))
def ok_X8_copyFrom (s : St) (o : Nat) (p : Nat) : Prop := (ok_X9_copyFrom s (o + 1) (p + 1) ∧ ok_X0_copyFrom (g_X9_copyFrom s (o + 1) (p + 1)) (o + 5) (p + 5))
theorem p_X8_copyFrom {l : Launch} {G : Geo} {d : Nat} (o : Nat) (p : Nat) (ho : (o = 3 ∧ p = 10) ∨ (o = 10 ∧ p = 3)) (s : St) {Q : St → Prop} (hok : ok_X8_copyFrom s o p) (h : Q (g_X8_copyFrom s o p)) : DoesV l G (d + 2) 89 [.ref o, .ref p] s Q := by
  unfold ok_X8_copyFrom at hok
  have key : DoesV l G (d + 1) 90 [.ref (o + 1), .ref (p + 1)] s (fun s1 => DoesV l G (d + 1) 0 [.ref (o + 5), .ref (p + 5)] s1 (fun s2 => Q s2)) := (p_X9_copyFrom (o + 1) (p + 1) (by omega) s hok.1 (p_X0_copyFrom (o + 5) (p + 5) (by omega) (g_X9_copyFrom s (o + 1) (p + 1)) hok.2 (lfV (by rw [g_X8_copyFrom]) h)))
  rcases ho with ⟨rfl, rfl⟩ | ⟨rfl, rfl⟩
  all_goals exact does_wp 12 (g := sX8_copyFrom) (rt := .int) (stops := []) (tbl := tX8_copyFrom) rfl oX8_copyFrom rk_X8_copyFrom (Nat.le_of_ble_eq_true rfl) key
noncomputable def f_X10_erase (s : St)  : Int32 × St := ((f_X4_makeEmpty s).1, (f_X4_makeEmpty s).2)
theorem p_X10_erase {l : Launch} {G : Geo} {d : Nat}   (s : St) {Q : Int32 → St → Prop} (h : Q (f_X10_erase s).1 (f_X10_erase s).2) : DoesI l G (d + 2) 105 [.ref 0] s Q := by
  have key : DoesI l G (d + 1) 55 [.ref 1] s (fun r1 s1 => Q r1 s1) := (p_X4_makeEmpty  s (lfF (by rw [f_X10_erase]) h))
  all_goals exact does_wp 5 (g := sX10_erase) (rt := .int) (stops := []) (tbl := tX10_erase) rfl oX10_erase rk_X10_erase (Nat.le_of_ble_eq_true rfl) key
noncomputable def v_X10_word (s : St) (x1 : Int32) (x2 : Int32) : Int32 := (iC (b_X9_has s 4 x1) (iC (x2 = 0) (v_X9_lengthOf s 4 x1) (iC (x2 = 1) (v_X9_sortOf s 4 x1) (iC (x2 < 10) (-3) (iC (x2 < 20) (v_X9_letterOf s 4 x1 (x2 - 10)) (-3))))) (-2))
def ok_X10_word (s : St) (x1 : Int32) (x2 : Int32) : Prop := ((b_X9_has s 4 x1) → ((x2 = 0 → ok_X9_lengthOf s 4 x1) ∧ (¬ x2 = 0 → ((x2 = 1 → ok_X9_sortOf s 4 x1) ∧ (¬ x2 = 1 → (¬ x2 < 10 → (x2 < 20 → ok_X9_letterOf s 4 x1 (x2 - 10))))))))
theorem p_X10_word {l : Launch} {G : Geo} {d : Nat} (x1 : Int32) (x2 : Int32)  (s : St) {Q : Int32 → St → Prop} (hok : ok_X10_word s x1 x2) (h : Q (v_X10_word s x1 x2) s) : DoesI l G (d + 2) 108 [.ref 0, .int x1, .int x2] s Q := by
  unfold ok_X10_word at hok
  have key : DoesI l G (d + 1) 93 [.ref 4, .int x1] s (fun r1 s1 => ((r1 = 0 → Q (-2) s1) ∧ (¬ r1 = 0 → ((x2 = 0 → DoesI l G (d + 1) 94 [.ref 4, .int x1] s1 (fun r2 s2 => Q r2 s2)) ∧ (¬ x2 = 0 → ((x2 = 1 → DoesI l G (d + 1) 95 [.ref 4, .int x1] s1 (fun r3 s3 => Q r3 s3)) ∧ (¬ x2 = 1 → ((x2 < 10 → Q (-3) s1) ∧ (¬ x2 < 10 → ((x2 < 20 → DoesI l G (d + 1) 96 [.ref 4, .int x1, .int (x2 - 10)] s1 (fun r4 s4 => Q r4 s4)) ∧ (¬ x2 < 20 → Q (-3) s1))))))))))) := (p_X9_has 4 x1 (by decide) s ⟨fun z1 => (lfI (by rw [v_X10_word, iC_f (bI_n z1)]) h), fun z1 => ⟨fun z2 => (p_X9_lengthOf 4 x1 (by decide) s ((hok (bI_p z1)).1 z2) (lfI (by rw [v_X10_word, iC_t (bI_p z1), iC_t z2]) h)), fun z2 => ⟨fun z3 => (p_X9_sortOf 4 x1 (by decide) s (((hok (bI_p z1)).2 z2).1 z3) (lfI (by rw [v_X10_word, iC_t (bI_p z1), iC_f z2, iC_t z3]) h)), fun z3 => ⟨fun z4 => (lfI (by rw [v_X10_word, iC_t (bI_p z1), iC_f z2, iC_f z3, iC_t z4]) h), fun z4 => ⟨fun z5 => (p_X9_letterOf 4 x1 (x2 - 10) (by decide) s (((((hok (bI_p z1)).2 z2).2 z3) z4) z5) (lfI (by rw [v_X10_word, iC_t (bI_p z1), iC_f z2, iC_f z3, iC_f z4, iC_t z5]) h)), fun z5 => (lfI (by rw [v_X10_word, iC_t (bI_p z1), iC_f z2, iC_f z3, iC_f z4, iC_f z5]) h)⟩⟩⟩⟩⟩)
  all_goals exact does_wp 27 (g := sX10_word) (rt := .int) (stops := []) (tbl := tX10_word) rfl oX10_word rk_X10_word (Nat.le_of_ble_eq_true rfl) key
noncomputable def f_X10_amen (s : St)  : Int32 × St := ((v_X6_wordTotal s 18), (g_X6_makeEmpty s 18))
theorem p_X10_amen {l : Launch} {G : Geo} {d : Nat}   (s : St) {Q : Int32 → St → Prop} (h : Q (f_X10_amen s).1 (f_X10_amen s).2) : DoesI l G (d + 2) 111 [.ref 0] s Q := by
  have key : DoesI l G (d + 1) 69 [.ref 18] s (fun r1 s1 => DoesV l G (d + 1) 67 [.ref 18] s1 (fun s2 => Q r1 s2)) := (p_X6_wordTotal 18 (by decide) s (p_X6_makeEmpty 18 (by decide) s (lfF (by rw [f_X10_amen]) h)))
  all_goals exact does_wp 10 (g := sX10_amen) (rt := .int) (stops := []) (tbl := tX10_amen) rfl oX10_amen rk_X10_amen (Nat.le_of_ble_eq_true rfl) key
noncomputable def f_X10_say (s : St) (x1 : Int32) : Int32 × St := (iC (x1 < 1) ((-3), s) (iC (60 < x1) ((-3), s) ((v_X6_saidTotal (g_X6_sayMore s 18 x1) 18), (g_X6_sayMore s 18 x1))))
theorem p_X10_say {l : Launch} {G : Geo} {d : Nat} (x1 : Int32)  (s : St) {Q : Int32 → St → Prop} (h : Q (f_X10_say s x1).1 (f_X10_say s x1).2) : DoesI l G (d + 2) 112 [.ref 0, .int x1] s Q := by
  have key : ((x1 < 1 → Q (-3) s) ∧ (¬ x1 < 1 → ((60 < x1 → Q (-3) s) ∧ (¬ 60 < x1 → DoesV l G (d + 1) 74 [.ref 18, .int x1] s (fun s1 => DoesI l G (d + 1) 70 [.ref 18] s1 (fun r2 s2 => Q r2 s2)))))) := ⟨fun z1 => (lfF (by rw [f_X10_say, iC_t z1]) h), fun z1 => ⟨fun z2 => (lfF (by rw [f_X10_say, iC_f z1, iC_t z2]) h), fun z2 => (p_X6_sayMore 18 x1 (by decide) s (p_X6_saidTotal 18 (by decide) (g_X6_sayMore s 18 x1) (lfF (by rw [f_X10_say, iC_f z1, iC_f z2]) h)))⟩⟩
  all_goals exact does_wp 15 (g := sX10_say) (rt := .int) (stops := []) (tbl := tX10_say) rfl oX10_say rk_X10_say (Nat.le_of_ble_eq_true rfl) key
noncomputable def f_X10_hush (s : St)  : Int32 × St := ((f_X7_makeEmpty s).1, (f_X7_makeEmpty s).2)
theorem p_X10_hush {l : Launch} {G : Geo} {d : Nat}   (s : St) {Q : Int32 → St → Prop} (h : Q (f_X10_hush s).1 (f_X10_hush s).2) : DoesI l G (d + 2) 117 [.ref 0] s Q := by
  have key : DoesI l G (d + 1) 85 [.ref 24] s (fun r1 s1 => Q r1 s1) := (p_X7_makeEmpty  s (lfF (by rw [f_X10_hush]) h))
  all_goals exact does_wp 5 (g := sX10_hush) (rt := .int) (stops := []) (tbl := tX10_hush) rfl oX10_hush rk_X10_hush (Nat.le_of_ble_eq_true rfl) key
noncomputable def v_X10_count (s : St) (x1 : Int32) : Int32 := (iC (x1 = 0) (v_X0_size s 8) (iC (x1 = 1) (v_X9_size s 4) (iC (x1 = 2) (v_X6_wordTotal s 18) (iC (x1 = 3) (v_X6_letterTotal s 18) (iC (x1 = 4) (v_X6_saidTotal s 18) (iC (x1 = 5) (v_X7_length s) (iC (x1 = 6) (v_X4_length s) (iC (x1 = 7) (v_X9_followBits s 4) (-3)))))))))
theorem p_X10_count {l : Launch} {G : Geo} {d : Nat} (x1 : Int32)  (s : St) {Q : Int32 → St → Prop} (h : Q (v_X10_count s x1) s) : DoesI l G (d + 2) 128 [.ref 0, .int x1] s Q := by
  have key : ((x1 = 0 → DoesI l G (d + 1) 2 [.ref 8] s (fun r8 s8 => Q r8 s8)) ∧ (¬ x1 = 0 → ((x1 = 1 → DoesI l G (d + 1) 91 [.ref 4] s (fun r7 s7 => Q r7 s7)) ∧ (¬ x1 = 1 → ((x1 = 2 → DoesI l G (d + 1) 69 [.ref 18] s (fun r6 s6 => Q r6 s6)) ∧ (¬ x1 = 2 → ((x1 = 3 → DoesI l G (d + 1) 68 [.ref 18] s (fun r5 s5 => Q r5 s5)) ∧ (¬ x1 = 3 → ((x1 = 4 → DoesI l G (d + 1) 70 [.ref 18] s (fun r4 s4 => Q r4 s4)) ∧ (¬ x1 = 4 → ((x1 = 5 → DoesI l G (d + 1) 83 [.ref 24] s (fun r3 s3 => Q r3 s3)) ∧ (¬ x1 = 5 → ((x1 = 6 → DoesI l G (d + 1) 52 [.ref 1] s (fun r2 s2 => Q r2 s2)) ∧ (¬ x1 = 6 → ((x1 = 7 → DoesI l G (d + 1) 97 [.ref 4] s (fun r1 s1 => Q r1 s1)) ∧ (¬ x1 = 7 → Q (-3) s)))))))))))))))) := ⟨fun z1 => (p_X0_size 8 (by decide) s (lfI (by rw [v_X10_count, iC_t z1]) h)), fun z1 => ⟨fun z2 => (p_X9_size 4 (by decide) s (lfI (by rw [v_X10_count, iC_f z1, iC_t z2]) h)), fun z2 => ⟨fun z3 => (p_X6_wordTotal 18 (by decide) s (lfI (by rw [v_X10_count, iC_f z1, iC_f z2, iC_t z3]) h)), fun z3 => ⟨fun z4 => (p_X6_letterTotal 18 (by decide) s (lfI (by rw [v_X10_count, iC_f z1, iC_f z2, iC_f z3, iC_t z4]) h)), fun z4 => ⟨fun z5 => (p_X6_saidTotal 18 (by decide) s (lfI (by rw [v_X10_count, iC_f z1, iC_f z2, iC_f z3, iC_f z4, iC_t z5]) h)), fun z5 => ⟨fun z6 => (p_X7_length  s (lfI (by rw [v_X10_count, iC_f z1, iC_f z2, iC_f z3, iC_f z4, iC_f z5, iC_t z6]) h)), fun z6 => ⟨fun z7 => (p_X4_length  s (lfI (by rw [v_X10_count, iC_f z1, iC_f z2, iC_f z3, iC_f z4, iC_f z5, iC_f z6, iC_t z7]) h)), fun z7 => ⟨fun z8 => (p_X9_followBits 4 (by decide) s (lfI (by rw [v_X10_count, iC_f z1, iC_f z2, iC_f z3, iC_f z4, iC_f z5, iC_f z6, iC_f z7, iC_t z8]) h)), fun z8 => (lfI (by rw [v_X10_count, iC_f z1, iC_f z2, iC_f z3, iC_f z4, iC_f z5, iC_f z6, iC_f z7, iC_f z8]) h)⟩⟩⟩⟩⟩⟩⟩⟩
  all_goals exact does_wp 8 (g := sX10_count) (rt := .int) (stops := []) (tbl := tX10_count) rfl oX10_count rk_X10_count (Nat.le_of_ble_eq_true rfl) key
noncomputable def b_X11_isWord (s : St) (x1 : Int32) : Prop := (b_X11_in s x1 0 ((s.1 51 4) - 1))
theorem p_X11_isWord {l : Launch} {G : Geo} {d : Nat} (x1 : Int32)  (s : St) {Q : Int32 → St → Prop} (h : Q (bI (b_X11_isWord s x1)) s) : DoesI l G (d + 2) 133 [.ref 51, .int x1] s Q := by
  have key : DoesI l G (d + 1) 131 [.int x1, .int 0, .int ((s.1 51 4) - 1)] s (fun r1 s1 => (narrow .boolean (.int r1) = .int r1 ∧ Q r1 s1)) := (p_X11_in x1 0 ((s.1 51 4) - 1) s ⟨bI_nar, (lfI (by rw [b_X11_isWord]) h)⟩)
  all_goals exact does_wp 9 (g := sX11_isWord) (rt := .boolean) (stops := []) (tbl := tX11_isWord) rfl oX11_isWord rk_X11_isWord (Nat.le_of_ble_eq_true rfl) key
noncomputable def b_X11_isVoice (s : St) (x1 : Int32) : Prop := (b_X11_in s x1 0 ((s.1 51 0) - 1))
theorem p_X11_isVoice {l : Launch} {G : Geo} {d : Nat} (x1 : Int32)  (s : St) {Q : Int32 → St → Prop} (h : Q (bI (b_X11_isVoice s x1)) s) : DoesI l G (d + 2) 134 [.ref 51, .int x1] s Q := by
  have key : DoesI l G (d + 1) 131 [.int x1, .int 0, .int ((s.1 51 0) - 1)] s (fun r1 s1 => (narrow .boolean (.int r1) = .int r1 ∧ Q r1 s1)) := (p_X11_in x1 0 ((s.1 51 0) - 1) s ⟨bI_nar, (lfI (by rw [b_X11_isVoice]) h)⟩)
  all_goals exact does_wp 9 (g := sX11_isVoice) (rt := .boolean) (stops := []) (tbl := tX11_isVoice) rfl oX11_isVoice rk_X11_isVoice (Nat.le_of_ble_eq_true rfl) key
noncomputable def b_X11_isSaid (s : St) (x1 : Int32) : Prop := (iP (b_X11_has s (s.1 51 1) (x1 - x1 / (s.1 51 0) * (s.1 51 0))) False (iP (((x1 / (s.1 51 0)) - (s.1 52 (Int32.toNatClampNeg (x1 - x1 / (s.1 51 0) * (s.1 51 0))))) < 0) False (iP (b_X11_has s (s.1 51 2) (x1 - x1 / (s.1 51 0) * (s.1 51 0))) (iP ((((x1 / (s.1 51 0)) - (s.1 52 (Int32.toNatClampNeg (x1 - x1 / (s.1 51 0) * (s.1 51 0))))) - ((x1 / (s.1 51 0)) - (s.1 52 (Int32.toNatClampNeg (x1 - x1 / (s.1 51 0) * (s.1 51 0))))) / 2 * 2) = 0) True False) True)))
def ok_X11_isSaid (s : St) (x1 : Int32) : Prop := ((¬ (s.1 51 0) = 0) ∧ ((¬ (s.1 51 0) = 0) ∧ (vp_in (x1 - x1 / (s.1 51 0) * (s.1 51 0)) (alen 52))))
theorem p_X11_isSaid {l : Launch} {G : Geo} {d : Nat} (x1 : Int32)  (s : St) {Q : Int32 → St → Prop} (hok : ok_X11_isSaid s x1) (h : Q (bI (b_X11_isSaid s x1)) s) : DoesI l G (d + 2) 153 [.ref 51, .int x1] s Q := by
  unfold ok_X11_isSaid at hok
  have key : ((¬ (s.1 51 0) = 0) ∧ ((¬ (s.1 51 0) = 0) ∧ ((vp_in (x1 - x1 / (s.1 51 0) * (s.1 51 0)) (alen 52)) ∧ DoesI l G (d + 1) 132 [.int (s.1 51 1), .int (x1 - x1 / (s.1 51 0) * (s.1 51 0))] s (fun r1 s1 => ((r1 = 0 → ((((x1 / (s.1 51 0)) - (s.1 52 (Int32.toNatClampNeg (x1 - x1 / (s.1 51 0) * (s.1 51 0))))) < 0 → (narrow .boolean (.int 0) = .int 0 ∧ Q 0 s1)) ∧ (¬ ((x1 / (s.1 51 0)) - (s.1 52 (Int32.toNatClampNeg (x1 - x1 / (s.1 51 0) * (s.1 51 0))))) < 0 → DoesI l G (d + 1) 132 [.int (s1.1 51 2), .int (x1 - x1 / (s.1 51 0) * (s.1 51 0))] s1 (fun r2 s2 => ((r2 = 0 → (narrow .boolean (.int 1) = .int 1 ∧ Q 1 s2)) ∧ (¬ r2 = 0 → ((¬ (2 : Int32) = 0) ∧ (((((x1 / (s.1 51 0)) - (s.1 52 (Int32.toNatClampNeg (x1 - x1 / (s.1 51 0) * (s.1 51 0))))) - ((x1 / (s.1 51 0)) - (s.1 52 (Int32.toNatClampNeg (x1 - x1 / (s.1 51 0) * (s.1 51 0))))) / 2 * 2) = 0 → (narrow .boolean (.int 1) = .int 1 ∧ Q 1 s2)) ∧ (¬ (((x1 / (s.1 51 0)) - (s.1 52 (Int32.toNatClampNeg (x1 - x1 / (s.1 51 0) * (s.1 51 0))))) - ((x1 / (s.1 51 0)) - (s.1 52 (Int32.toNatClampNeg (x1 - x1 / (s.1 51 0) * (s.1 51 0))))) / 2 * 2) = 0 → (narrow .boolean (.int 0) = .int 0 ∧ Q 0 s2)))))))))) ∧ (¬ r1 = 0 → (narrow .boolean (.int 0) = .int 0 ∧ Q 0 s1))))))) := ⟨hok.1, ⟨hok.2.1, ⟨hok.2.2, (p_X11_has (s.1 51 1) (x1 - x1 / (s.1 51 0) * (s.1 51 0)) s ⟨fun z1 => ⟨fun z2 => ⟨rfl, (lfI (by rw [b_X11_isSaid, iP_f (bI_n z1), iP_t z2, bI_F]) h)⟩, fun z2 => (p_X11_has (s.1 51 2) (x1 - x1 / (s.1 51 0) * (s.1 51 0)) s ⟨fun z3 => ⟨rfl, (lfI (by rw [b_X11_isSaid, iP_f (bI_n z1), iP_f z2, iP_f (bI_n z3), bI_T]) h)⟩, fun z3 => ⟨(by decide), ⟨fun z4 => ⟨rfl, (lfI (by rw [b_X11_isSaid, iP_f (bI_n z1), iP_f z2, iP_t (bI_p z3), iP_t z4, bI_T]) h)⟩, fun z4 => ⟨rfl, (lfI (by rw [b_X11_isSaid, iP_f (bI_n z1), iP_f z2, iP_t (bI_p z3), iP_f z4, bI_F]) h)⟩⟩⟩⟩)⟩, fun z1 => ⟨rfl, (lfI (by rw [b_X11_isSaid, iP_t (bI_p z1), bI_F]) h)⟩⟩)⟩⟩⟩
  all_goals exact does_wp 35 (g := sX11_isSaid) (rt := .boolean) (stops := []) (tbl := tX11_isSaid) rfl oX11_isSaid rk_X11_isSaid (Nat.le_of_ble_eq_true rfl) key
noncomputable def b_X11_mayFollow (s : St) (x1 : Int32) (x2 : Int32) : Prop := (b_X11_has s (s.1 51 8) ((3 * (s.1 53 (Int32.toNatClampNeg x1))) + (s.1 53 (Int32.toNatClampNeg x2))))
def ok_X11_mayFollow (s : St) (x1 : Int32) (x2 : Int32) : Prop := ((vp_in x1 (alen 53)) ∧ (vp_in x2 (alen 53)))
theorem p_X11_mayFollow {l : Launch} {G : Geo} {d : Nat} (x1 : Int32) (x2 : Int32)  (s : St) {Q : Int32 → St → Prop} (hok : ok_X11_mayFollow s x1 x2) (h : Q (bI (b_X11_mayFollow s x1 x2)) s) : DoesI l G (d + 2) 155 [.ref 51, .int x1, .int x2] s Q := by
  unfold ok_X11_mayFollow at hok
  have key : ((vp_in x1 (alen 53)) ∧ ((vp_in x2 (alen 53)) ∧ DoesI l G (d + 1) 132 [.int (s.1 51 8), .int ((3 * (s.1 53 (Int32.toNatClampNeg x1))) + (s.1 53 (Int32.toNatClampNeg x2)))] s (fun r1 s1 => (narrow .boolean (.int r1) = .int r1 ∧ Q r1 s1)))) := ⟨hok.1, ⟨hok.2, (p_X11_has (s.1 51 8) ((3 * (s.1 53 (Int32.toNatClampNeg x1))) + (s.1 53 (Int32.toNatClampNeg x2))) s ⟨bI_nar, (lfI (by rw [b_X11_mayFollow]) h)⟩)⟩⟩
  all_goals exact does_wp 16 (g := sX11_mayFollow) (rt := .boolean) (stops := []) (tbl := tX11_mayFollow) rfl oX11_mayFollow rk_X11_mayFollow (Nat.le_of_ble_eq_true rfl) key
noncomputable def f_X11_sound (s : St) (x1 : Int32) : Int32 × St := (iC (b_X11_in s x1 0 26) (iC ((s.1 51 26) = 60) ((-5), s) (((sput (sput s 61 (Int32.toNatClampNeg (s.1 51 26)) x1) 51 26 (((sput s 61 (Int32.toNatClampNeg (s.1 51 26)) x1).1 51 26) + 1)).1 51 26), (sput (sput s 61 (Int32.toNatClampNeg (s.1 51 26)) x1) 51 26 (((sput s 61 (Int32.toNatClampNeg (s.1 51 26)) x1).1 51 26) + 1)))) ((-3), s))
def ok_X11_sound (s : St) (x1 : Int32) : Prop := ((b_X11_in s x1 0 26) → (¬ (s.1 51 26) = 60 → (vp_in (s.1 51 26) (alen 61))))
theorem p_X11_sound {l : Launch} {G : Geo} {d : Nat} (x1 : Int32)  (s : St) {Q : Int32 → St → Prop} (hok : ok_X11_sound s x1) (h : Q (f_X11_sound s x1).1 (f_X11_sound s x1).2) : DoesI l G (d + 2) 162 [.ref 51, .int x1] s Q := by
  unfold ok_X11_sound at hok
  have key : DoesI l G (d + 1) 131 [.int x1, .int 0, .int 26] s (fun r1 s1 => ((r1 = 0 → Q (-3) s1) ∧ (¬ r1 = 0 → (((s1.1 51 26) = 60 → Q (-5) s1) ∧ (¬ (s1.1 51 26) = 60 → ((vp_in (s1.1 51 26) (alen 61)) ∧ Q ((sput (sput s1 61 (Int32.toNatClampNeg (s1.1 51 26)) x1) 51 26 (((sput s1 61 (Int32.toNatClampNeg (s1.1 51 26)) x1).1 51 26) + 1)).1 51 26) (sput (sput s1 61 (Int32.toNatClampNeg (s1.1 51 26)) x1) 51 26 (((sput s1 61 (Int32.toNatClampNeg (s1.1 51 26)) x1).1 51 26) + 1)))))))) := (p_X11_in x1 0 26 s ⟨fun z1 => (lfF (by rw [f_X11_sound, iC_f (bI_n z1)]) h), fun z1 => ⟨fun z2 => (lfF (by rw [f_X11_sound, iC_t (bI_p z1), iC_t z2]) h), fun z2 => ⟨((hok (bI_p z1)) z2), (lfF (by rw [f_X11_sound, iC_t (bI_p z1), iC_f z2]) h)⟩⟩⟩)
  all_goals exact does_wp 25 (g := sX11_sound) (rt := .int) (stops := []) (tbl := tX11_sound) rfl oX11_sound rk_X11_sound (Nat.le_of_ble_eq_true rfl) key
noncomputable def v_X6_heardAt (s : St) (o : Nat) (x1 : Int32) : Int32 := (iC (b_X0_isSaid s 8 x1) (v_X6_letterAt s o x1) 0)
def ok_X6_heardAt (s : St) (o : Nat) (x1 : Int32) : Prop := (ok_X0_isSaid s 8 x1 ∧ ((b_X0_isSaid s 8 x1) → ok_X6_letterAt s o x1))
theorem p_X6_heardAt {l : Launch} {G : Geo} {d : Nat} (o : Nat) (x1 : Int32) (ho : o = 18 ∨ o = 20 ∨ o = 22) (s : St) {Q : Int32 → St → Prop} (hok : ok_X6_heardAt s o x1) (h : Q (v_X6_heardAt s o x1) s) : DoesI l G (d + 3) 76 [.ref o, .int x1, .ref 8] s Q := by
  unfold ok_X6_heardAt at hok
  have key : DoesI l G (d + 2) 12 [.ref 8, .int x1] s (fun r1 s1 => ((r1 = 0 → Q 0 s1) ∧ (¬ r1 = 0 → DoesI l G (d + 2) 75 [.ref o, .int x1] s1 (fun r2 s2 => Q r2 s2)))) := (p_X0_isSaid 8 x1 (by decide) s hok.1 ⟨fun z1 => (lfI (by rw [v_X6_heardAt, iC_f (bI_n z1)]) h), fun z1 => (p_X6_letterAt o x1 (by omega) s (hok.2 (bI_p z1)) (lfI (by rw [v_X6_heardAt, iC_t (bI_p z1)]) h))⟩)
  rcases ho with rfl | rfl | rfl
  all_goals exact does_wp 10 (g := sX6_heardAt) (rt := .int) (stops := []) (tbl := tX6_heardAt) rfl oX6_heardAt rk_X6_heardAt (Nat.le_of_ble_eq_true rfl) key
noncomputable def f_X10_sound (s : St) (x1 : Int32) : Int32 × St := (iC (x1 < 0) ((-3), s) (iC (26 < x1) ((-3), s) (iC (b_X7_isFull s) ((-5), s) ((v_X7_length (g_X7_append s x1)), (g_X7_append s x1)))))
def ok_X10_sound (s : St) (x1 : Int32) : Prop := (¬ x1 < 0 → (¬ 26 < x1 → (¬ (b_X7_isFull s) → ok_X7_append s x1)))
theorem p_X10_sound {l : Launch} {G : Geo} {d : Nat} (x1 : Int32)  (s : St) {Q : Int32 → St → Prop} (hok : ok_X10_sound s x1) (h : Q (f_X10_sound s x1).1 (f_X10_sound s x1).2) : DoesI l G (d + 3) 115 [.ref 0, .int x1] s Q := by
  unfold ok_X10_sound at hok
  have key : ((x1 < 0 → Q (-3) s) ∧ (¬ x1 < 0 → ((26 < x1 → Q (-3) s) ∧ (¬ 26 < x1 → DoesI l G (d + 2) 84 [.ref 24] s (fun r1 s1 => ((r1 = 0 → DoesV l G (d + 2) 86 [.ref 24, .int x1] s1 (fun s2 => DoesI l G (d + 2) 83 [.ref 24] s2 (fun r3 s3 => Q r3 s3))) ∧ (¬ r1 = 0 → Q (-5) s1))))))) := ⟨fun z1 => (lfF (by rw [f_X10_sound, iC_t z1]) h), fun z1 => ⟨fun z2 => (lfF (by rw [f_X10_sound, iC_f z1, iC_t z2]) h), fun z2 => (p_X7_isFull  s ⟨fun z3 => (p_X7_append x1 s (((hok z1) z2) (bI_n z3)) (p_X7_length  (g_X7_append s x1) (lfF (by rw [f_X10_sound, iC_f z1, iC_f z2, iC_f (bI_n z3)]) h))), fun z3 => (lfF (by rw [f_X10_sound, iC_f z1, iC_f z2, iC_t (bI_p z3)]) h)⟩)⟩⟩
  all_goals exact does_wp 18 (g := sX10_sound) (rt := .int) (stops := []) (tbl := tX10_sound) rfl oX10_sound rk_X10_sound (Nat.le_of_ble_eq_true rfl) key
noncomputable def v_X11_word (s : St) (x1 : Int32) (x2 : Int32) : Int32 := (iC (b_X11_isWord s x1) (iC (x2 = 0) (iC (x2 = 0) (s.1 54 (Int32.toNatClampNeg x1)) (s.1 53 (Int32.toNatClampNeg x1))) (iC (x2 = 1) (iC (x2 = 0) (s.1 54 (Int32.toNatClampNeg x1)) (s.1 53 (Int32.toNatClampNeg x1))) (iC (b_X11_in s x2 10 19) (iC ((x2 - 10) < (s.1 54 (Int32.toNatClampNeg x1))) (s.1 55 (Int32.toNatClampNeg (((10 * x1) + x2) - 10))) (-1)) (-3)))) (-2))
def ok_X11_word (s : St) (x1 : Int32) (x2 : Int32) : Prop := ((b_X11_isWord s x1) → ((x2 = 0 → ((x2 = 0 → (vp_in x1 (alen 54))) ∧ (¬ x2 = 0 → (vp_in x1 (alen 53))))) ∧ (¬ x2 = 0 → ((x2 = 1 → ((x2 = 0 → (vp_in x1 (alen 54))) ∧ (¬ x2 = 0 → (vp_in x1 (alen 53))))) ∧ (¬ x2 = 1 → ((b_X11_in s x2 10 19) → ((vp_in x1 (alen 54)) ∧ ((x2 - 10) < (s.1 54 (Int32.toNatClampNeg x1)) → (vp_in (((10 * x1) + x2) - 10) (alen 55))))))))))
theorem p_X11_word {l : Launch} {G : Geo} {d : Nat} (x1 : Int32) (x2 : Int32)  (s : St) {Q : Int32 → St → Prop} (hok : ok_X11_word s x1 x2) (h : Q (v_X11_word s x1 x2) s) : DoesI l G (d + 3) 150 [.ref 51, .int x1, .int x2] s Q := by
  unfold ok_X11_word at hok
  have key : DoesI l G (d + 2) 133 [.ref 51, .int x1] s (fun r1 s1 => ((r1 = 0 → Q (-2) s1) ∧ (¬ r1 = 0 → ((x2 = 0 → ((x2 = 0 → ((vp_in x1 (alen 54)) ∧ Q (s1.1 54 (Int32.toNatClampNeg x1)) s1)) ∧ (¬ x2 = 0 → ((vp_in x1 (alen 53)) ∧ Q (s1.1 53 (Int32.toNatClampNeg x1)) s1)))) ∧ (¬ x2 = 0 → ((x2 = 1 → ((x2 = 0 → ((vp_in x1 (alen 54)) ∧ Q (s1.1 54 (Int32.toNatClampNeg x1)) s1)) ∧ (¬ x2 = 0 → ((vp_in x1 (alen 53)) ∧ Q (s1.1 53 (Int32.toNatClampNeg x1)) s1)))) ∧ (¬ x2 = 1 → DoesI l G (d + 2) 131 [.int x2, .int 10, .int 19] s1 (fun r2 s2 => ((r2 = 0 → Q (-3) s2) ∧ (¬ r2 = 0 → ((vp_in x1 (alen 54)) ∧ (((x2 - 10) < (s2.1 54 (Int32.toNatClampNeg x1)) → ((vp_in (((10 * x1) + x2) - 10) (alen 55)) ∧ Q (s2.1 55 (Int32.toNatClampNeg (((10 * x1) + x2) - 10))) s2)) ∧ (¬ (x2 - 10) < (s2.1 54 (Int32.toNatClampNeg x1)) → Q (-1) s2))))))))))))) := (p_X11_isWord x1 s ⟨fun z1 => (lfI (by rw [v_X11_word, iC_f (bI_n z1)]) h), fun z1 => ⟨fun z2 => ⟨fun z3 => ⟨(((hok (bI_p z1)).1 z2).1 z3), (lfI (by rw [v_X11_word, iC_t (bI_p z1), iC_t z2, iC_t z3]) h)⟩, fun z3 => ⟨(((hok (bI_p z1)).1 z2).2 z3), (lfI (by rw [v_X11_word, iC_t (bI_p z1), iC_t z2, iC_f z3]) h)⟩⟩, fun z2 => ⟨fun z4 => ⟨fun z5 => ⟨((((hok (bI_p z1)).2 z2).1 z4).1 z5), (lfI (by rw [v_X11_word, iC_t (bI_p z1), iC_f z2, iC_t z4, iC_t z5]) h)⟩, fun z5 => ⟨((((hok (bI_p z1)).2 z2).1 z4).2 z5), (lfI (by rw [v_X11_word, iC_t (bI_p z1), iC_f z2, iC_t z4, iC_f z5]) h)⟩⟩, fun z4 => (p_X11_in x2 10 19 s ⟨fun z6 => (lfI (by rw [v_X11_word, iC_t (bI_p z1), iC_f z2, iC_f z4, iC_f (bI_n z6)]) h), fun z6 => ⟨((((hok (bI_p z1)).2 z2).2 z4) (bI_p z6)).1, ⟨fun z7 => ⟨(((((hok (bI_p z1)).2 z2).2 z4) (bI_p z6)).2 z7), (lfI (by rw [v_X11_word, iC_t (bI_p z1), iC_f z2, iC_f z4, iC_t (bI_p z6), iC_t z7]) h)⟩, fun z7 => (lfI (by rw [v_X11_word, iC_t (bI_p z1), iC_f z2, iC_f z4, iC_t (bI_p z6), iC_f z7]) h)⟩⟩⟩)⟩⟩⟩)
  all_goals exact does_wp 35 (g := sX11_word) (rt := .int) (stops := []) (tbl := tX11_word) rfl oX11_word rk_X11_word (Nat.le_of_ble_eq_true rfl) key
noncomputable def v_X10_heard (s : St) (x1 : Int32) : Int32 := (iC (x1 < 0) (-3) (iC (x1 < (v_X6_saidTotal s 18)) (v_X6_heardAt s 18 x1) (-1)))
def ok_X10_heard (s : St) (x1 : Int32) : Prop := (¬ x1 < 0 → (x1 < (v_X6_saidTotal s 18) → ok_X6_heardAt s 18 x1))
theorem p_X10_heard {l : Launch} {G : Geo} {d : Nat} (x1 : Int32)  (s : St) {Q : Int32 → St → Prop} (hok : ok_X10_heard s x1) (h : Q (v_X10_heard s x1) s) : DoesI l G (d + 4) 113 [.ref 0, .int x1] s Q := by
  unfold ok_X10_heard at hok
  have key : ((x1 < 0 → Q (-3) s) ∧ (¬ x1 < 0 → DoesI l G (d + 3) 70 [.ref 18] s (fun r1 s1 => ((x1 < r1 → DoesI l G (d + 3) 76 [.ref 18, .int x1, .ref 8] s1 (fun r2 s2 => Q r2 s2)) ∧ (¬ x1 < r1 → Q (-1) s1))))) := ⟨fun z1 => (lfI (by rw [v_X10_heard, iC_t z1]) h), fun z1 => (p_X6_saidTotal 18 (by decide) s ⟨fun z2 => (p_X6_heardAt 18 x1 (by decide) s ((hok z1) z2) (lfI (by rw [v_X10_heard, iC_f z1, iC_t z2]) h)), fun z2 => (lfI (by rw [v_X10_heard, iC_f z1, iC_f z2]) h)⟩)⟩
  all_goals exact does_wp 16 (g := sX10_heard) (rt := .int) (stops := []) (tbl := tX10_heard) rfl oX10_heard rk_X10_heard (Nat.le_of_ble_eq_true rfl) key
end
section
noncomputable def v_J6_bitCount_0f7a4 (s : St) (x1 : Int32) : Int32 := ((((((((x1 - ((x1.toUInt32 >>> (Int32.toUInt32 1 &&& Int32.toUInt32 31)).toInt32 &&& 1431655765)) &&& 858993459) + (((x1 - ((x1.toUInt32 >>> (Int32.toUInt32 1 &&& Int32.toUInt32 31)).toInt32 &&& 1431655765)).toUInt32 >>> (Int32.toUInt32 2 &&& Int32.toUInt32 31)).toInt32 &&& 858993459)) + ((((x1 - ((x1.toUInt32 >>> (Int32.toUInt32 1 &&& Int32.toUInt32 31)).toInt32 &&& 1431655765)) &&& 858993459) + (((x1 - ((x1.toUInt32 >>> (Int32.toUInt32 1 &&& Int32.toUInt32 31)).toInt32 &&& 1431655765)).toUInt32 >>> (Int32.toUInt32 2 &&& Int32.toUInt32 31)).toInt32 &&& 858993459)).toUInt32 >>> (Int32.toUInt32 4 &&& Int32.toUInt32 31)).toInt32) &&& 252645135) + ((((((x1 - ((x1.toUInt32 >>> (Int32.toUInt32 1 &&& Int32.toUInt32 31)).toInt32 &&& 1431655765)) &&& 858993459) + (((x1 - ((x1.toUInt32 >>> (Int32.toUInt32 1 &&& Int32.toUInt32 31)).toInt32 &&& 1431655765)).toUInt32 >>> (Int32.toUInt32 2 &&& Int32.toUInt32 31)).toInt32 &&& 858993459)) + ((((x1 - ((x1.toUInt32 >>> (Int32.toUInt32 1 &&& Int32.toUInt32 31)).toInt32 &&& 1431655765)) &&& 858993459) + (((x1 - ((x1.toUInt32 >>> (Int32.toUInt32 1 &&& Int32.toUInt32 31)).toInt32 &&& 1431655765)).toUInt32 >>> (Int32.toUInt32 2 &&& Int32.toUInt32 31)).toInt32 &&& 858993459)).toUInt32 >>> (Int32.toUInt32 4 &&& Int32.toUInt32 31)).toInt32) &&& 252645135).toUInt32 >>> (Int32.toUInt32 8 &&& Int32.toUInt32 31)).toInt32) + (((((((x1 - ((x1.toUInt32 >>> (Int32.toUInt32 1 &&& Int32.toUInt32 31)).toInt32 &&& 1431655765)) &&& 858993459) + (((x1 - ((x1.toUInt32 >>> (Int32.toUInt32 1 &&& Int32.toUInt32 31)).toInt32 &&& 1431655765)).toUInt32 >>> (Int32.toUInt32 2 &&& Int32.toUInt32 31)).toInt32 &&& 858993459)) + ((((x1 - ((x1.toUInt32 >>> (Int32.toUInt32 1 &&& Int32.toUInt32 31)).toInt32 &&& 1431655765)) &&& 858993459) + (((x1 - ((x1.toUInt32 >>> (Int32.toUInt32 1 &&& Int32.toUInt32 31)).toInt32 &&& 1431655765)).toUInt32 >>> (Int32.toUInt32 2 &&& Int32.toUInt32 31)).toInt32 &&& 858993459)).toUInt32 >>> (Int32.toUInt32 4 &&& Int32.toUInt32 31)).toInt32) &&& 252645135) + ((((((x1 - ((x1.toUInt32 >>> (Int32.toUInt32 1 &&& Int32.toUInt32 31)).toInt32 &&& 1431655765)) &&& 858993459) + (((x1 - ((x1.toUInt32 >>> (Int32.toUInt32 1 &&& Int32.toUInt32 31)).toInt32 &&& 1431655765)).toUInt32 >>> (Int32.toUInt32 2 &&& Int32.toUInt32 31)).toInt32 &&& 858993459)) + ((((x1 - ((x1.toUInt32 >>> (Int32.toUInt32 1 &&& Int32.toUInt32 31)).toInt32 &&& 1431655765)) &&& 858993459) + (((x1 - ((x1.toUInt32 >>> (Int32.toUInt32 1 &&& Int32.toUInt32 31)).toInt32 &&& 1431655765)).toUInt32 >>> (Int32.toUInt32 2 &&& Int32.toUInt32 31)).toInt32 &&& 858993459)).toUInt32 >>> (Int32.toUInt32 4 &&& Int32.toUInt32 31)).toInt32) &&& 252645135).toUInt32 >>> (Int32.toUInt32 8 &&& Int32.toUInt32 31)).toInt32).toUInt32 >>> (Int32.toUInt32 16 &&& Int32.toUInt32 31)).toInt32) &&& 63)
theorem p_J6_bitCount_0f7a4 {l : Launch} {G : Geo} {d : Nat} (x1 : Int32)  (s : St) {Q : Int32 → St → Prop} (h : Q (v_J6_bitCount_0f7a4 s x1) s) : DoesI l G (d + 1) 189 [.int x1] s Q := by
  have key : Q ((((((((x1 - ((x1.toUInt32 >>> (Int32.toUInt32 1 &&& Int32.toUInt32 31)).toInt32 &&& 1431655765)) &&& 858993459) + (((x1 - ((x1.toUInt32 >>> (Int32.toUInt32 1 &&& Int32.toUInt32 31)).toInt32 &&& 1431655765)).toUInt32 >>> (Int32.toUInt32 2 &&& Int32.toUInt32 31)).toInt32 &&& 858993459)) + ((((x1 - ((x1.toUInt32 >>> (Int32.toUInt32 1 &&& Int32.toUInt32 31)).toInt32 &&& 1431655765)) &&& 858993459) + (((x1 - ((x1.toUInt32 >>> (Int32.toUInt32 1 &&& Int32.toUInt32 31)).toInt32 &&& 1431655765)).toUInt32 >>> (Int32.toUInt32 2 &&& Int32.toUInt32 31)).toInt32 &&& 858993459)).toUInt32 >>> (Int32.toUInt32 4 &&& Int32.toUInt32 31)).toInt32) &&& 252645135) + ((((((x1 - ((x1.toUInt32 >>> (Int32.toUInt32 1 &&& Int32.toUInt32 31)).toInt32 &&& 1431655765)) &&& 858993459) + (((x1 - ((x1.toUInt32 >>> (Int32.toUInt32 1 &&& Int32.toUInt32 31)).toInt32 &&& 1431655765)).toUInt32 >>> (Int32.toUInt32 2 &&& Int32.toUInt32 31)).toInt32 &&& 858993459)) + ((((x1 - ((x1.toUInt32 >>> (Int32.toUInt32 1 &&& Int32.toUInt32 31)).toInt32 &&& 1431655765)) &&& 858993459) + (((x1 - ((x1.toUInt32 >>> (Int32.toUInt32 1 &&& Int32.toUInt32 31)).toInt32 &&& 1431655765)).toUInt32 >>> (Int32.toUInt32 2 &&& Int32.toUInt32 31)).toInt32 &&& 858993459)).toUInt32 >>> (Int32.toUInt32 4 &&& Int32.toUInt32 31)).toInt32) &&& 252645135).toUInt32 >>> (Int32.toUInt32 8 &&& Int32.toUInt32 31)).toInt32) + (((((((x1 - ((x1.toUInt32 >>> (Int32.toUInt32 1 &&& Int32.toUInt32 31)).toInt32 &&& 1431655765)) &&& 858993459) + (((x1 - ((x1.toUInt32 >>> (Int32.toUInt32 1 &&& Int32.toUInt32 31)).toInt32 &&& 1431655765)).toUInt32 >>> (Int32.toUInt32 2 &&& Int32.toUInt32 31)).toInt32 &&& 858993459)) + ((((x1 - ((x1.toUInt32 >>> (Int32.toUInt32 1 &&& Int32.toUInt32 31)).toInt32 &&& 1431655765)) &&& 858993459) + (((x1 - ((x1.toUInt32 >>> (Int32.toUInt32 1 &&& Int32.toUInt32 31)).toInt32 &&& 1431655765)).toUInt32 >>> (Int32.toUInt32 2 &&& Int32.toUInt32 31)).toInt32 &&& 858993459)).toUInt32 >>> (Int32.toUInt32 4 &&& Int32.toUInt32 31)).toInt32) &&& 252645135) + ((((((x1 - ((x1.toUInt32 >>> (Int32.toUInt32 1 &&& Int32.toUInt32 31)).toInt32 &&& 1431655765)) &&& 858993459) + (((x1 - ((x1.toUInt32 >>> (Int32.toUInt32 1 &&& Int32.toUInt32 31)).toInt32 &&& 1431655765)).toUInt32 >>> (Int32.toUInt32 2 &&& Int32.toUInt32 31)).toInt32 &&& 858993459)) + ((((x1 - ((x1.toUInt32 >>> (Int32.toUInt32 1 &&& Int32.toUInt32 31)).toInt32 &&& 1431655765)) &&& 858993459) + (((x1 - ((x1.toUInt32 >>> (Int32.toUInt32 1 &&& Int32.toUInt32 31)).toInt32 &&& 1431655765)).toUInt32 >>> (Int32.toUInt32 2 &&& Int32.toUInt32 31)).toInt32 &&& 858993459)).toUInt32 >>> (Int32.toUInt32 4 &&& Int32.toUInt32 31)).toInt32) &&& 252645135).toUInt32 >>> (Int32.toUInt32 8 &&& Int32.toUInt32 31)).toInt32).toUInt32 >>> (Int32.toUInt32 16 &&& Int32.toUInt32 31)).toInt32) &&& 63) s := (lfI (by rw [v_J6_bitCount_0f7a4]) h)
  all_goals exact does_wp 43 (g := sJ6_bitCount_0f7a4) (rt := .int) (stops := []) (tbl := tJ6_bitCount_0f7a4) rfl oJ6_bitCount_0f7a4 rk_J6_bitCount_0f7a4 (Nat.le_of_ble_eq_true rfl) key
set_option maxRecDepth 100000 in
theorem r_X0_beginAnew {l : Launch} {G : Geo} {d : Nat} (o : Nat) (x1 : Int32) (ho : o = 8 ∨ o = 15) (s : St) {Q : St → Prop} (h : AtA l G (d + 1) sX0_beginAnew 25 [.ref o, .int x1, .int 0] [] (sput (sput (sput s o 1 (if 1 < (if 5 < x1 then 5 else x1) then (if 5 < x1 then 5 else x1) else 1)) o 2 0) o 3 0) (pV Q)) : DoesV l G (d + 1) 1 [.ref o, .int x1] s Q := by
  have key : AtA l G (d + 1) sX0_beginAnew 25 [.ref o, .int x1, .int 0] [] (sput (sput (sput s o 1 (if 1 < (if 5 < x1 then 5 else x1) then (if 5 < x1 then 5 else x1) else 1)) o 2 0) o 3 0) (pV Q) := h
  rcases ho with rfl | rfl
  all_goals exact does_wp 17 (g := sX0_beginAnew) (rt := .int) (stops := [25]) (tbl := tX0_beginAnew) rfl oX0_beginAnew rk_X0_beginAnew (Nat.le_of_ble_eq_true rfl) key
set_option maxRecDepth 100000 in
theorem r_X0_beginAnew_25 {l : Launch} {G : Geo} {d : Nat} (o : Nat) (v1 : Int32) (v2 : Int32) (ho : o = 8 ∨ o = 15) (s : St) {Q : St → Prop} (h : ((v2 < 5 → ((vp_in v2 (alen (o + 1))) ∧ AtA l G (d + 1) sX0_beginAnew 25 [.ref o, .int v1, .int (v2 + 1)] [] (sput s (o + 1) (Int32.toNatClampNeg v2) 0) (pV Q))) ∧ (¬ v2 < 5 → Q s))) : AtA l G (d + 1) sX0_beginAnew 25 [.ref o, .int v1, .int v2] [] s (pV Q) := by
  have key : ((v2 < 5 → ((vp_in v2 (alen (o + 1))) ∧ AtA l G (d + 1) sX0_beginAnew 25 [.ref o, .int v1, .int (v2 + 1)] [] (sput s (o + 1) (Int32.toNatClampNeg v2) 0) (pV Q))) ∧ (¬ v2 < 5 → Q s)) := h
  rcases ho with rfl | rfl
  all_goals exact wp_sound (rt := .int) (stops := [25]) (tbl := tX0_beginAnew) oX0_beginAnew rk_X0_beginAnew 12 25 _ _ _ key
set_option maxRecDepth 100000 in
theorem r_X4_append {l : Launch} {G : Geo} {d : Nat} (x1 : Int64) (x2 : Int32)  (s : St) {Q : St → Prop} (h : AtA l G (d + 1) sX4_append 3 [.ref 1, .long x1, .null, .int x2, .int 0] [] s (pV Q)) : DoesV l G (d + 1) 54 [.ref 1, .long x1, .int x2] s Q := by
  have key : AtA l G (d + 1) sX4_append 3 [.ref 1, .long x1, .null, .int x2, .int 0] [] s (pV Q) := h
  all_goals exact does_wp 4 (g := sX4_append) (rt := .int) (stops := [3]) (tbl := tX4_append) rfl oX4_append rk_X4_append (Nat.le_of_ble_eq_true rfl) key
set_option maxRecDepth 100000 in
theorem r_X4_append_3 {l : Launch} {G : Geo} {d : Nat} (v3 : Int32) (v4 : Int32) (w1 : Int64)  (s : St) {Q : St → Prop} (h : ((v4 < v3 → (((s.1 1 1) < 200 → ((vp_in (s.1 1 1) (alen 2)) ∧ AtA l G (d + 1) sX4_append 3 [.ref 1, .long w1, .null, .int v3, .int (v4 + 1)] [] (sput (sput s 2 (Int32.toNatClampNeg (s.1 1 1)) (Int64.toInt32 ((w1 >>> (Int32.toInt64 (8 * v4) &&& 63)) &&& 255))) 1 1 (((sput s 2 (Int32.toNatClampNeg (s.1 1 1)) (Int64.toInt32 ((w1 >>> (Int32.toInt64 (8 * v4) &&& 63)) &&& 255))).1 1 1) + 1)) (pV Q))) ∧ (¬ (s.1 1 1) < 200 → Q s))) ∧ (¬ v4 < v3 → Q s))) : AtA l G (d + 1) sX4_append 3 [.ref 1, .long w1, .null, .int v3, .int v4] [] s (pV Q) := by
  have key : ((v4 < v3 → (((s.1 1 1) < 200 → ((vp_in (s.1 1 1) (alen 2)) ∧ AtA l G (d + 1) sX4_append 3 [.ref 1, .long w1, .null, .int v3, .int (v4 + 1)] [] (sput (sput s 2 (Int32.toNatClampNeg (s.1 1 1)) (Int64.toInt32 ((w1 >>> (Int32.toInt64 (8 * v4) &&& 63)) &&& 255))) 1 1 (((sput s 2 (Int32.toNatClampNeg (s.1 1 1)) (Int64.toInt32 ((w1 >>> (Int32.toInt64 (8 * v4) &&& 63)) &&& 255))).1 1 1) + 1)) (pV Q))) ∧ (¬ (s.1 1 1) < 200 → Q s))) ∧ (¬ v4 < v3 → Q s)) := h
  all_goals exact wp_sound (rt := .int) (stops := [3]) (tbl := tX4_append) oX4_append rk_X4_append 30 3 _ _ _ key
set_option maxRecDepth 100000 in
theorem r_X4_endOfRow {l : Launch} {G : Geo} {d : Nat} (x1 : Int32) (x2 : Int32) (x3 : Int32)  (s : St) {Q : Int32 → St → Prop} (h : AtA l G (d + 1) sX4_endOfRow 7 [.ref 1, .int x1, .int x2, .int x3, .int (if x1 < 0 then 0 else x1)] [] s (pI Q)) : DoesI l G (d + 1) 57 [.ref 1, .int x1, .int x2, .int x3] s Q := by
  have key : AtA l G (d + 1) sX4_endOfRow 7 [.ref 1, .int x1, .int x2, .int x3, .int (if x1 < 0 then 0 else x1)] [] s (pI Q) := h
  all_goals exact does_wp 6 (g := sX4_endOfRow) (rt := .int) (stops := [7]) (tbl := tX4_endOfRow) rfl oX4_endOfRow rk_X4_endOfRow (Nat.le_of_ble_eq_true rfl) key
set_option maxRecDepth 100000 in
theorem r_X4_endOfRow_7 {l : Launch} {G : Geo} {d : Nat} (v1 : Int32) (v2 : Int32) (v3 : Int32) (v4 : Int32)  (s : St) {Q : Int32 → St → Prop} (h : ((v4 < (s.1 1 1) → ((vp_in v4 (alen 2)) ∧ (((s.1 2 (Int32.toNatClampNeg v4)) < v2 → Q v4 s) ∧ (¬ (s.1 2 (Int32.toNatClampNeg v4)) < v2 → ((vp_in v4 (alen 2)) ∧ ((v3 < (s.1 2 (Int32.toNatClampNeg v4)) → Q v4 s) ∧ (¬ v3 < (s.1 2 (Int32.toNatClampNeg v4)) → AtA l G (d + 1) sX4_endOfRow 7 [.ref 1, .int v1, .int v2, .int v3, .int (v4 + 1)] [] s (pI Q)))))))) ∧ (¬ v4 < (s.1 1 1) → Q v4 s))) : AtA l G (d + 1) sX4_endOfRow 7 [.ref 1, .int v1, .int v2, .int v3, .int v4] [] s (pI Q) := by
  have key : ((v4 < (s.1 1 1) → ((vp_in v4 (alen 2)) ∧ (((s.1 2 (Int32.toNatClampNeg v4)) < v2 → Q v4 s) ∧ (¬ (s.1 2 (Int32.toNatClampNeg v4)) < v2 → ((vp_in v4 (alen 2)) ∧ ((v3 < (s.1 2 (Int32.toNatClampNeg v4)) → Q v4 s) ∧ (¬ v3 < (s.1 2 (Int32.toNatClampNeg v4)) → AtA l G (d + 1) sX4_endOfRow 7 [.ref 1, .int v1, .int v2, .int v3, .int (v4 + 1)] [] s (pI Q)))))))) ∧ (¬ v4 < (s.1 1 1) → Q v4 s)) := h
  all_goals exact wp_sound (rt := .int) (stops := [7]) (tbl := tX4_endOfRow) oX4_endOfRow rk_X4_endOfRow 20 7 _ _ _ key
set_option maxRecDepth 100000 in
theorem r_X10_lowestTerm {l : Launch} {G : Geo} {d : Nat} (x1 : Int32) (x2 : Int32)  (s : St) {Q : Int32 → St → Prop} (h : AtA l G (d + 1) sX10_lowestTerm 6 [.int x1, .int x2, .int (if x2 < x1 then x2 else x1)] [] s (pI Q)) : DoesI l G (d + 1) 130 [.int x1, .int x2] s Q := by
  have key : AtA l G (d + 1) sX10_lowestTerm 6 [.int x1, .int x2, .int (if x2 < x1 then x2 else x1)] [] s (pI Q) := h
  all_goals exact does_wp 6 (g := sX10_lowestTerm) (rt := .int) (stops := [6]) (tbl := tX10_lowestTerm) rfl oX10_lowestTerm rk_X10_lowestTerm (Nat.le_of_ble_eq_true rfl) key
set_option maxRecDepth 100000 in
theorem r_X10_lowestTerm_6 {l : Launch} {G : Geo} {d : Nat} (v0 : Int32) (v1 : Int32) (v2 : Int32)  (s : St) {Q : Int32 → St → Prop} (h : ((1 < v2 → ((¬ v2 = 0) ∧ (((v0 - v0 / v2 * v2) = 0 → ((¬ v2 = 0) ∧ (((v1 - v1 / v2 * v2) = 0 → ((¬ v2 = 0) ∧ Q (v0 / v2) s)) ∧ (¬ (v1 - v1 / v2 * v2) = 0 → AtA l G (d + 1) sX10_lowestTerm 6 [.int v0, .int v1, .int (v2 + (-1))] [] s (pI Q))))) ∧ (¬ (v0 - v0 / v2 * v2) = 0 → AtA l G (d + 1) sX10_lowestTerm 6 [.int v0, .int v1, .int (v2 + (-1))] [] s (pI Q))))) ∧ (¬ 1 < v2 → Q v0 s))) : AtA l G (d + 1) sX10_lowestTerm 6 [.int v0, .int v1, .int v2] [] s (pI Q) := by
  have key : ((1 < v2 → ((¬ v2 = 0) ∧ (((v0 - v0 / v2 * v2) = 0 → ((¬ v2 = 0) ∧ (((v1 - v1 / v2 * v2) = 0 → ((¬ v2 = 0) ∧ Q (v0 / v2) s)) ∧ (¬ (v1 - v1 / v2 * v2) = 0 → AtA l G (d + 1) sX10_lowestTerm 6 [.int v0, .int v1, .int (v2 + (-1))] [] s (pI Q))))) ∧ (¬ (v0 - v0 / v2 * v2) = 0 → AtA l G (d + 1) sX10_lowestTerm 6 [.int v0, .int v1, .int (v2 + (-1))] [] s (pI Q))))) ∧ (¬ 1 < v2 → Q v0 s)) := h
  all_goals exact wp_sound (rt := .int) (stops := [6]) (tbl := tX10_lowestTerm) oX10_lowestTerm rk_X10_lowestTerm 16 6 _ _ _ key
set_option maxRecDepth 100000 in
theorem r_X1_choicesAt {l : Launch} {G : Geo} {d : Nat} (x1 : Int32) (x2 : Int32)  (s : St) {Q : Int32 → St → Prop} (h : ((vp_in x1 7) ∧ ((vp_in x2 (alen (30 + Int32.toNatClampNeg x1))) ∧ (((s.1 (30 + Int32.toNatClampNeg x1) (Int32.toNatClampNeg x2)) = 0 → Q 0 s) ∧ (¬ (s.1 (30 + Int32.toNatClampNeg x1) (Int32.toNatClampNeg x2)) = 0 → AtA l G (d + 2) sX1_choicesAt 18 [.ref 26, .int x1, .int x2, .int 0, .int 0] [] s (pI Q)))))) : DoesI l G (d + 2) 17 [.ref 26, .int x1, .int x2] s Q := by
  have key : ((vp_in x1 7) ∧ ((vp_in x2 (alen (30 + Int32.toNatClampNeg x1))) ∧ (((s.1 (30 + Int32.toNatClampNeg x1) (Int32.toNatClampNeg x2)) = 0 → Q 0 s) ∧ (¬ (s.1 (30 + Int32.toNatClampNeg x1) (Int32.toNatClampNeg x2)) = 0 → AtA l G (d + 2) sX1_choicesAt 18 [.ref 26, .int x1, .int x2, .int 0, .int 0] [] s (pI Q))))) := h
  all_goals exact does_wp 13 (g := sX1_choicesAt) (rt := .int) (stops := [18]) (tbl := tX1_choicesAt) rfl oX1_choicesAt rk_X1_choicesAt (Nat.le_of_ble_eq_true rfl) key
set_option maxRecDepth 100000 in
theorem r_X1_choicesAt_18 {l : Launch} {G : Geo} {d : Nat} (v1 : Int32) (v2 : Int32) (v3 : Int32) (v4 : Int32)  (s : St) {Q : Int32 → St → Prop} (h : ((v4 < 4 → (ok_X1_isReached s v1 v2 v4 ∧ ((¬ (b_X1_isReached s v1 v2 v4) → AtA l G (d + 2) sX1_choicesAt 18 [.ref 26, .int v1, .int v2, .int v3, .int (v4 + 1)] [] s (pI Q)) ∧ ((b_X1_isReached s v1 v2 v4) → ((vp_in v4 (alen 28)) ∧ AtA l G (d + 2) sX1_choicesAt 18 [.ref 26, .int v1, .int v2, .int (v3 ||| (s.1 28 (Int32.toNatClampNeg v4))), .int (v4 + 1)] [] s (pI Q)))))) ∧ (¬ v4 < 4 → ((vp_in v2 (alen 27)) ∧ Q (v3 &&& (s.1 27 (Int32.toNatClampNeg v2))) s)))) : AtA l G (d + 2) sX1_choicesAt 18 [.ref 26, .int v1, .int v2, .int v3, .int v4] [] s (pI Q) := by
  have key : ((v4 < 4 → DoesI l G (d + 1) 18 [.ref 26, .int v1, .int v2, .int v4] s (fun r1 s1 => ((r1 = 0 → AtA l G (d + 2) sX1_choicesAt 18 [.ref 26, .int v1, .int v2, .int v3, .int (v4 + 1)] [] s1 (pI Q)) ∧ (¬ r1 = 0 → ((vp_in v4 (alen 28)) ∧ AtA l G (d + 2) sX1_choicesAt 18 [.ref 26, .int v1, .int v2, .int (v3 ||| (s1.1 28 (Int32.toNatClampNeg v4))), .int (v4 + 1)] [] s1 (pI Q)))))) ∧ (¬ v4 < 4 → ((vp_in v2 (alen 27)) ∧ Q (v3 &&& (s.1 27 (Int32.toNatClampNeg v2))) s))) := ⟨fun z1 => (p_X1_isReached v1 v2 v4 s (h.1 z1).1 ⟨fun z2 => ((h.1 z1).2.1 (bI_n z2)), fun z2 => ⟨((h.1 z1).2.2 (bI_p z2)).1, ((h.1 z1).2.2 (bI_p z2)).2⟩⟩), fun z1 => ⟨(h.2 z1).1, (h.2 z1).2⟩⟩
  all_goals exact wp_sound (rt := .int) (stops := [18]) (tbl := tX1_choicesAt) oX1_choicesAt rk_X1_choicesAt 20 18 _ _ _ key
set_option maxRecDepth 100000 in
theorem r_X2_isSaidBy {l : Launch} {G : Geo} {d : Nat} (x1 : Int32) (x2 : Int32) (x3 : Int32)  (s : St) {Q : Int32 → St → Prop} (h : AtA l G (d + 2) sX2_isSaidBy 6 [.ref 45, .int x1, .int x2, .int x3, .int 0, .int 0] [] s (pI Q)) : DoesI l G (d + 2) 28 [.ref 45, .int x1, .int x2, .int x3] s Q := by
  have key : AtA l G (d + 2) sX2_isSaidBy 6 [.ref 45, .int x1, .int x2, .int x3, .int 0, .int 0] [] s (pI Q) := h
  all_goals exact does_wp 6 (g := sX2_isSaidBy) (rt := .boolean) (stops := [6]) (tbl := tX2_isSaidBy) rfl oX2_isSaidBy rk_X2_isSaidBy (Nat.le_of_ble_eq_true rfl) key
set_option maxRecDepth 100000 in
theorem r_X2_isSaidBy_6 {l : Launch} {G : Geo} {d : Nat} (v1 : Int32) (v2 : Int32) (v3 : Int32) (v4 : Int32) (v5 : Int32)  (s : St) {Q : Int32 → St → Prop} (h : (ok_X9_lengthOf s 4 v1 ∧ ((v5 < (v_X9_lengthOf s 4 v1) → (ok_X0_voiceOf s 8 v5 ∧ ((((v2 >>> ((v_X0_voiceOf s 8 v5) &&& 31)) &&& 1) = 0 → AtA l G (d + 2) sX2_isSaidBy 6 [.ref 45, .int v1, .int v2, .int v3, .int v4, .int (v5 + 1)] [] s (pI Q)) ∧ (¬ ((v2 >>> ((v_X0_voiceOf s 8 v5) &&& 31)) &&& 1) = 0 → (ok_X9_letterOf s 4 v1 v5 ∧ (ok_X9_letterOf s 4 v3 v4 ∧ (((v_X9_letterOf s 4 v1 v5) = (v_X9_letterOf s 4 v3 v4) → AtA l G (d + 2) sX2_isSaidBy 6 [.ref 45, .int v1, .int v2, .int v3, .int (v4 + 1), .int (v5 + 1)] [] s (pI Q)) ∧ (¬ (v_X9_letterOf s 4 v1 v5) = (v_X9_letterOf s 4 v3 v4) → Q 0 s)))))))) ∧ (¬ v5 < (v_X9_lengthOf s 4 v1) → (ok_X9_lengthOf s 4 v3 ∧ ((v4 = (v_X9_lengthOf s 4 v3) → Q 1 s) ∧ (¬ v4 = (v_X9_lengthOf s 4 v3) → Q 0 s))))))) : AtA l G (d + 2) sX2_isSaidBy 6 [.ref 45, .int v1, .int v2, .int v3, .int v4, .int v5] [] s (pI Q) := by
  have key : DoesI l G (d + 1) 94 [.ref 4, .int v1] s (fun r1 s1 => ((v5 < r1 → DoesI l G (d + 1) 11 [.ref 8, .int v5] s1 (fun r2 s2 => ((((v2 >>> (r2 &&& 31)) &&& 1) = 0 → AtA l G (d + 2) sX2_isSaidBy 6 [.ref 45, .int v1, .int v2, .int v3, .int v4, .int (v5 + 1)] [] s2 (pI Q)) ∧ (¬ ((v2 >>> (r2 &&& 31)) &&& 1) = 0 → DoesI l G (d + 1) 96 [.ref 4, .int v1, .int v5] s2 (fun r3 s3 => DoesI l G (d + 1) 96 [.ref 4, .int v3, .int v4] s3 (fun r4 s4 => ((r3 = r4 → AtA l G (d + 2) sX2_isSaidBy 6 [.ref 45, .int v1, .int v2, .int v3, .int (v4 + 1), .int (v5 + 1)] [] s4 (pI Q)) ∧ (¬ r3 = r4 → (narrow .boolean (.int 0) = .int 0 ∧ Q 0 s4))))))))) ∧ (¬ v5 < r1 → DoesI l G (d + 1) 94 [.ref 4, .int v3] s1 (fun r5 s5 => ((v4 = r5 → (narrow .boolean (.int 1) = .int 1 ∧ Q 1 s5)) ∧ (¬ v4 = r5 → (narrow .boolean (.int 0) = .int 0 ∧ Q 0 s5))))))) := (p_X9_lengthOf 4 v1 (by decide) s h.1 ⟨fun z1 => (p_X0_voiceOf 8 v5 (by decide) s (h.2.1 z1).1 ⟨fun z2 => ((h.2.1 z1).2.1 z2), fun z2 => (p_X9_letterOf 4 v1 v5 (by decide) s ((h.2.1 z1).2.2 z2).1 (p_X9_letterOf 4 v3 v4 (by decide) s ((h.2.1 z1).2.2 z2).2.1 ⟨fun z3 => (((h.2.1 z1).2.2 z2).2.2.1 z3), fun z3 => ⟨rfl, (((h.2.1 z1).2.2 z2).2.2.2 z3)⟩⟩))⟩), fun z1 => (p_X9_lengthOf 4 v3 (by decide) s (h.2.2 z1).1 ⟨fun z4 => ⟨rfl, ((h.2.2 z1).2.1 z4)⟩, fun z4 => ⟨rfl, ((h.2.2 z1).2.2 z4)⟩⟩)⟩)
  all_goals exact wp_sound (rt := .boolean) (stops := [6]) (tbl := tX2_isSaidBy) oX2_isSaidBy rk_X2_isSaidBy 31 6 _ _ _ key
set_option maxRecDepth 100000 in
theorem r_X2_voicesThatDiffer {l : Launch} {G : Geo} {d : Nat} (x1 : Int32) (x2 : Int32)  (s : St) {Q : Int32 → St → Prop} (h : AtA l G (d + 2) sX2_voicesThatDiffer 5 [.ref 45, .int x1, .int x2, .int 0, .int 0] [] s (pI Q)) : DoesI l G (d + 2) 35 [.ref 45, .int x1, .int x2] s Q := by
  have key : AtA l G (d + 2) sX2_voicesThatDiffer 5 [.ref 45, .int x1, .int x2, .int 0, .int 0] [] s (pI Q) := h
  all_goals exact does_wp 6 (g := sX2_voicesThatDiffer) (rt := .int) (stops := [5]) (tbl := tX2_voicesThatDiffer) rfl oX2_voicesThatDiffer rk_X2_voicesThatDiffer (Nat.le_of_ble_eq_true rfl) key
set_option maxRecDepth 100000 in
theorem r_X2_voicesThatDiffer_5 {l : Launch} {G : Geo} {d : Nat} (v1 : Int32) (v2 : Int32) (v3 : Int32) (v4 : Int32)  (s : St) {Q : Int32 → St → Prop} (h : (ok_X9_lengthOf s 4 v1 ∧ ((v4 < (v_X9_lengthOf s 4 v1) → (ok_X9_letterOf s 4 v1 v4 ∧ (ok_X9_letterOf s 4 v2 v4 ∧ (((v_X9_letterOf s 4 v1 v4) = (v_X9_letterOf s 4 v2 v4) → AtA l G (d + 2) sX2_voicesThatDiffer 5 [.ref 45, .int v1, .int v2, .int v3, .int (v4 + 1)] [] s (pI Q)) ∧ (¬ (v_X9_letterOf s 4 v1 v4) = (v_X9_letterOf s 4 v2 v4) → (ok_X0_voiceOf s 8 v4 ∧ AtA l G (d + 2) sX2_voicesThatDiffer 5 [.ref 45, .int v1, .int v2, .int (v3 ||| (1 <<< ((v_X0_voiceOf s 8 v4) &&& 31))), .int (v4 + 1)] [] s (pI Q))))))) ∧ (¬ v4 < (v_X9_lengthOf s 4 v1) → Q v3 s)))) : AtA l G (d + 2) sX2_voicesThatDiffer 5 [.ref 45, .int v1, .int v2, .int v3, .int v4] [] s (pI Q) := by
  have key : DoesI l G (d + 1) 94 [.ref 4, .int v1] s (fun r1 s1 => ((v4 < r1 → DoesI l G (d + 1) 96 [.ref 4, .int v1, .int v4] s1 (fun r2 s2 => DoesI l G (d + 1) 96 [.ref 4, .int v2, .int v4] s2 (fun r3 s3 => ((r2 = r3 → AtA l G (d + 2) sX2_voicesThatDiffer 5 [.ref 45, .int v1, .int v2, .int v3, .int (v4 + 1)] [] s3 (pI Q)) ∧ (¬ r2 = r3 → DoesI l G (d + 1) 11 [.ref 8, .int v4] s3 (fun r4 s4 => AtA l G (d + 2) sX2_voicesThatDiffer 5 [.ref 45, .int v1, .int v2, .int (v3 ||| (1 <<< (r4 &&& 31))), .int (v4 + 1)] [] s4 (pI Q))))))) ∧ (¬ v4 < r1 → Q v3 s1))) := (p_X9_lengthOf 4 v1 (by decide) s h.1 ⟨fun z1 => (p_X9_letterOf 4 v1 v4 (by decide) s (h.2.1 z1).1 (p_X9_letterOf 4 v2 v4 (by decide) s (h.2.1 z1).2.1 ⟨fun z2 => ((h.2.1 z1).2.2.1 z2), fun z2 => (p_X0_voiceOf 8 v4 (by decide) s ((h.2.1 z1).2.2.2 z2).1 ((h.2.1 z1).2.2.2 z2).2)⟩)), fun z1 => (h.2.2 z1)⟩)
  all_goals exact wp_sound (rt := .int) (stops := [5]) (tbl := tX2_voicesThatDiffer) oX2_voicesThatDiffer rk_X2_voicesThatDiffer 30 5 _ _ _ key
set_option maxRecDepth 100000 in
theorem r_X6_append {l : Launch} {G : Geo} {d : Nat} (o : Nat) (x1 : Int32) (ho : o = 18 ∨ o = 20 ∨ o = 22) (s : St) {Q : St → Prop} (h : (ok_X9_lengthOf s 4 x1 ∧ ((¬ (b_X6_hasRoom s o (v_X9_lengthOf s 4 x1)) → Q s) ∧ ((b_X6_hasRoom s o (v_X9_lengthOf s 4 x1)) → AtA l G (d + 2) sX6_append 18 [.ref o, .int x1, .ref 4, .int (v_X9_lengthOf s 4 x1), .int 0] [] s (pV Q))))) : DoesV l G (d + 2) 73 [.ref o, .int x1, .ref 4] s Q := by
  have key : DoesI l G (d + 1) 94 [.ref 4, .int x1] s (fun r1 s1 => DoesI l G (d + 1) 72 [.ref o, .int r1] s1 (fun r2 s2 => ((r2 = 0 → Q s2) ∧ (¬ r2 = 0 → AtA l G (d + 2) sX6_append 18 [.ref o, .int x1, .ref 4, .int r1, .int 0] [] s2 (pV Q))))) := (p_X9_lengthOf 4 x1 (by decide) s h.1 (p_X6_hasRoom o (v_X9_lengthOf s 4 x1) (by omega) s ⟨fun z1 => (h.2.1 (bI_n z1)), fun z1 => (h.2.2 (bI_p z1))⟩))
  rcases ho with rfl | rfl | rfl
  all_goals exact does_wp 12 (g := sX6_append) (rt := .int) (stops := [18]) (tbl := tX6_append) rfl oX6_append rk_X6_append (Nat.le_of_ble_eq_true rfl) key
set_option maxRecDepth 100000 in
theorem r_X6_append_18 {l : Launch} {G : Geo} {d : Nat} (o : Nat) (v1 : Int32) (v3 : Int32) (v4 : Int32) (ho : o = 18 ∨ o = 20 ∨ o = 22) (s : St) {Q : St → Prop} (h : ((v4 < v3 → (ok_X9_letterOf s 4 v1 v4 ∧ ((vp_in ((s.1 o 1) + v4) (alen (o + 1))) ∧ AtA l G (d + 2) sX6_append 18 [.ref o, .int v1, .ref 4, .int v3, .int (v4 + 1)] [] (sput s (o + 1) (Int32.toNatClampNeg ((s.1 o 1) + v4)) (v_X9_letterOf s 4 v1 v4)) (pV Q)))) ∧ (¬ v4 < v3 → Q (sput (sput (sput s o 1 ((s.1 o 1) + v3)) o 2 (((sput s o 1 ((s.1 o 1) + v3)).1 o 2) + 1)) o 3 v1)))) : AtA l G (d + 2) sX6_append 18 [.ref o, .int v1, .ref 4, .int v3, .int v4] [] s (pV Q) := by
  have key : ((v4 < v3 → DoesI l G (d + 1) 96 [.ref 4, .int v1, .int v4] s (fun r1 s1 => ((vp_in ((s.1 o 1) + v4) (alen (o + 1))) ∧ AtA l G (d + 2) sX6_append 18 [.ref o, .int v1, .ref 4, .int v3, .int (v4 + 1)] [] (sput s1 (o + 1) (Int32.toNatClampNeg ((s.1 o 1) + v4)) r1) (pV Q)))) ∧ (¬ v4 < v3 → Q (sput (sput (sput s o 1 ((s.1 o 1) + v3)) o 2 (((sput s o 1 ((s.1 o 1) + v3)).1 o 2) + 1)) o 3 v1))) := ⟨fun z1 => (p_X9_letterOf 4 v1 v4 (by decide) s (h.1 z1).1 ⟨(h.1 z1).2.1, (h.1 z1).2.2⟩), fun z1 => (h.2 z1)⟩
  rcases ho with rfl | rfl | rfl
  all_goals exact wp_sound (rt := .int) (stops := [18]) (tbl := tX6_append) oX6_append rk_X6_append 20 18 _ _ _ key
set_option maxRecDepth 100000 in
theorem r_X6_isHeardLate {l : Launch} {G : Geo} {d : Nat} (o : Nat) (x2 : Int32) (x3 : Int32) (x4 : Int32) (ho : o = 18 ∨ o = 20 ∨ o = 22) (s : St) {Q : Int32 → St → Prop} (h : AtA l G (d + 2) sX6_isHeardLate 6 [.ref o, .ref 24, .int x2, .int x3, .int x4, .int 0, .int x3, .null] [] s (pI Q)) : DoesI l G (d + 2) 82 [.ref o, .ref 24, .int x2, .int x3, .int x4] s Q := by
  have key : AtA l G (d + 2) sX6_isHeardLate 6 [.ref o, .ref 24, .int x2, .int x3, .int x4, .int 0, .int x3, .null] [] s (pI Q) := h
  rcases ho with rfl | rfl | rfl
  all_goals exact does_wp 6 (g := sX6_isHeardLate) (rt := .boolean) (stops := [6]) (tbl := tX6_isHeardLate) rfl oX6_isHeardLate rk_X6_isHeardLate (Nat.le_of_ble_eq_true rfl) key
set_option maxRecDepth 100000 in
theorem r_X6_isHeardLate_6 {l : Launch} {G : Geo} {d : Nat} (o : Nat) (v2 : Int32) (v3 : Int32) (v4 : Int32) (v5 : Int32) (v6 : Int32) (ho : o = 18 ∨ o = 20 ∨ o = 22) (s : St) {Q : Int32 → St → Prop} (h : ((v6 < (s.1 o 1) → ((v5 < (s.1 o 1) → ((v5 < v4 → (ok_X7_at s v6 ∧ (((v_X7_at s v6) = 0 → AtA l G (d + 2) sX6_isHeardLate 6 [.ref o, .ref 24, .int v2, .int v3, .int v4, .int (v5 + 1), .int (v6 + v2), .null] [] s (pI Q)) ∧ (¬ (v_X7_at s v6) = 0 → Q 0 s)))) ∧ (¬ v5 < v4 → (ok_X6_letterAt s o v6 ∧ (ok_X7_at s v6 ∧ (((v_X7_at s v6) = (v_X6_letterAt s o v6) → AtA l G (d + 2) sX6_isHeardLate 6 [.ref o, .ref 24, .int v2, .int v3, .int v4, .int (v5 + 1), .int (v6 + v2), .null] [] s (pI Q)) ∧ (¬ (v_X7_at s v6) = (v_X6_letterAt s o v6) → Q 0 s))))))) ∧ (¬ v5 < (s.1 o 1) → Q 1 s))) ∧ (¬ v6 < (s.1 o 1) → Q 1 s))) : AtA l G (d + 2) sX6_isHeardLate 6 [.ref o, .ref 24, .int v2, .int v3, .int v4, .int v5, .int v6, .null] [] s (pI Q) := by
  have key : ((v6 < (s.1 o 1) → ((v5 < (s.1 o 1) → ((v5 < v4 → DoesI l G (d + 1) 87 [.ref 24, .int v6] s (fun r1 s1 => ((r1 = 0 → AtA l G (d + 2) sX6_isHeardLate 6 [.ref o, .ref 24, .int v2, .int v3, .int v4, .int (v5 + 1), .int (v6 + v2), .int 0] [] s1 (pI Q)) ∧ (¬ r1 = 0 → (narrow .boolean (.int 0) = .int 0 ∧ Q 0 s1))))) ∧ (¬ v5 < v4 → DoesI l G (d + 1) 75 [.ref o, .int v6] s (fun r2 s2 => DoesI l G (d + 1) 87 [.ref 24, .int v6] s2 (fun r3 s3 => ((r3 = r2 → AtA l G (d + 2) sX6_isHeardLate 6 [.ref o, .ref 24, .int v2, .int v3, .int v4, .int (v5 + 1), .int (v6 + v2), .int r2] [] s3 (pI Q)) ∧ (¬ r3 = r2 → (narrow .boolean (.int 0) = .int 0 ∧ Q 0 s3)))))))) ∧ (¬ v5 < (s.1 o 1) → (narrow .boolean (.int 1) = .int 1 ∧ Q 1 s)))) ∧ (¬ v6 < (s.1 o 1) → (narrow .boolean (.int 1) = .int 1 ∧ Q 1 s))) := ⟨fun z1 => ⟨fun z2 => ⟨fun z3 => (p_X7_at v6 s (((h.1 z1).1 z2).1 z3).1 ⟨fun z4 => (at_weak2 ((((h.1 z1).1 z2).1 z3).2.1 z4) (by simp [wk])), fun z4 => ⟨rfl, ((((h.1 z1).1 z2).1 z3).2.2 z4)⟩⟩), fun z3 => (p_X6_letterAt o v6 (by omega) s (((h.1 z1).1 z2).2 z3).1 (p_X7_at v6 s (((h.1 z1).1 z2).2 z3).2.1 ⟨fun z5 => (at_weak2 ((((h.1 z1).1 z2).2 z3).2.2.1 z5) (by simp [wk])), fun z5 => ⟨rfl, ((((h.1 z1).1 z2).2 z3).2.2.2 z5)⟩⟩))⟩, fun z2 => ⟨rfl, ((h.1 z1).2 z2)⟩⟩, fun z1 => ⟨rfl, (h.2 z1)⟩⟩
  rcases ho with rfl | rfl | rfl
  all_goals exact wp_sound (rt := .boolean) (stops := [6]) (tbl := tX6_isHeardLate) oX6_isHeardLate rk_X6_isHeardLate 28 6 _ _ _ key
set_option maxRecDepth 100000 in
theorem r_X7_isFitting {l : Launch} {G : Geo} {d : Nat} (x2 : Int32) (x3 : Int32)  (s : St) {Q : Int32 → St → Prop} (h : (ok_X9_lengthOf s 4 x2 ∧ ((((s.1 24 1) - x3) < (v_X9_lengthOf s 4 x2) → Q 0 s) ∧ (¬ ((s.1 24 1) - x3) < (v_X9_lengthOf s 4 x2) → AtA l G (d + 2) sX7_isFitting 23 [.ref 24, .ref 4, .int x2, .int x3, .int (v_X9_lengthOf s 4 x2), .int 0, .null] [] s (pI Q))))) : DoesI l G (d + 2) 88 [.ref 24, .ref 4, .int x2, .int x3] s Q := by
  have key : DoesI l G (d + 1) 94 [.ref 4, .int x2] s (fun r1 s1 => ((((s1.1 24 1) - x3) < r1 → (narrow .boolean (.int 0) = .int 0 ∧ Q 0 s1)) ∧ (¬ ((s1.1 24 1) - x3) < r1 → AtA l G (d + 2) sX7_isFitting 23 [.ref 24, .ref 4, .int x2, .int x3, .int r1, .int 0, .null] [] s1 (pI Q)))) := (p_X9_lengthOf 4 x2 (by decide) s h.1 ⟨fun z1 => ⟨rfl, (h.2.1 z1)⟩, fun z1 => (h.2.2 z1)⟩)
  all_goals exact does_wp 14 (g := sX7_isFitting) (rt := .boolean) (stops := [23]) (tbl := tX7_isFitting) rfl oX7_isFitting rk_X7_isFitting (Nat.le_of_ble_eq_true rfl) key
set_option maxRecDepth 100000 in
theorem r_X7_isFitting_23 {l : Launch} {G : Geo} {d : Nat} (v2 : Int32) (v3 : Int32) (v4 : Int32) (v5 : Int32)  (s : St) {Q : Int32 → St → Prop} (h : ((v5 < v4 → (ok_X7_at s (v3 + v5) ∧ (((v_X7_at s (v3 + v5)) = 0 → AtA l G (d + 2) sX7_isFitting 23 [.ref 24, .ref 4, .int v2, .int v3, .int v4, .int (v5 + 1), .null] [] s (pI Q)) ∧ (¬ (v_X7_at s (v3 + v5)) = 0 → (ok_X9_letterOf s 4 v2 v5 ∧ (((v_X7_at s (v3 + v5)) = (v_X9_letterOf s 4 v2 v5) → AtA l G (d + 2) sX7_isFitting 23 [.ref 24, .ref 4, .int v2, .int v3, .int v4, .int (v5 + 1), .null] [] s (pI Q)) ∧ (¬ (v_X7_at s (v3 + v5)) = (v_X9_letterOf s 4 v2 v5) → Q 0 s))))))) ∧ (¬ v5 < v4 → Q 1 s))) : AtA l G (d + 2) sX7_isFitting 23 [.ref 24, .ref 4, .int v2, .int v3, .int v4, .int v5, .null] [] s (pI Q) := by
  have key : ((v5 < v4 → DoesI l G (d + 1) 87 [.ref 24, .int (v3 + v5)] s (fun r1 s1 => ((r1 = 0 → AtA l G (d + 2) sX7_isFitting 23 [.ref 24, .ref 4, .int v2, .int v3, .int v4, .int (v5 + 1), .int r1] [] s1 (pI Q)) ∧ (¬ r1 = 0 → DoesI l G (d + 1) 96 [.ref 4, .int v2, .int v5] s1 (fun r2 s2 => ((r1 = r2 → AtA l G (d + 2) sX7_isFitting 23 [.ref 24, .ref 4, .int v2, .int v3, .int v4, .int (v5 + 1), .int r1] [] s2 (pI Q)) ∧ (¬ r1 = r2 → (narrow .boolean (.int 0) = .int 0 ∧ Q 0 s2)))))))) ∧ (¬ v5 < v4 → (narrow .boolean (.int 1) = .int 1 ∧ Q 1 s))) := ⟨fun z1 => (p_X7_at (v3 + v5) s (h.1 z1).1 ⟨fun z2 => (at_weak2 ((h.1 z1).2.1 z2) (by simp [wk])), fun z2 => (p_X9_letterOf 4 v2 v5 (by decide) s ((h.1 z1).2.2 z2).1 ⟨fun z3 => (at_weak2 (((h.1 z1).2.2 z2).2.1 z3) (by simp [wk])), fun z3 => ⟨rfl, (((h.1 z1).2.2 z2).2.2 z3)⟩⟩)⟩), fun z1 => ⟨rfl, (h.2 z1)⟩⟩
  all_goals exact wp_sound (rt := .boolean) (stops := [23]) (tbl := tX7_isFitting) oX7_isFitting rk_X7_isFitting 21 23 _ _ _ key
set_option maxRecDepth 100000 in
theorem r_X9_isSpelt {l : Launch} {G : Geo} {d : Nat} (o : Nat) (x1 : Int32) (x3 : Int32) (x4 : Int32) (ho : o = 4 ∨ o = 11) (s : St) {Q : Int32 → St → Prop} (h : (ok_X9_lengthOf s o x1 ∧ (((v_X9_lengthOf s o x1) = (x4 - x3) → AtA l G (d + 2) sX9_isSpelt 17 [.ref o, .int x1, .ref 1, .int x3, .int x4, .int 0] [] s (pI Q)) ∧ (¬ (v_X9_lengthOf s o x1) = (x4 - x3) → Q 0 s)))) : DoesI l G (d + 2) 102 [.ref o, .int x1, .ref 1, .int x3, .int x4] s Q := by
  have key : DoesI l G (d + 1) 94 [.ref o, .int x1] s (fun r1 s1 => ((r1 = (x4 - x3) → AtA l G (d + 2) sX9_isSpelt 17 [.ref o, .int x1, .ref 1, .int x3, .int x4, .int 0] [] s1 (pI Q)) ∧ (¬ r1 = (x4 - x3) → (narrow .boolean (.int 0) = .int 0 ∧ Q 0 s1)))) := (p_X9_lengthOf o x1 (by omega) s h.1 ⟨fun z1 => (h.2.1 z1), fun z1 => ⟨rfl, (h.2.2 z1)⟩⟩)
  rcases ho with rfl | rfl
  all_goals exact does_wp 11 (g := sX9_isSpelt) (rt := .boolean) (stops := [17]) (tbl := tX9_isSpelt) rfl oX9_isSpelt rk_X9_isSpelt (Nat.le_of_ble_eq_true rfl) key
set_option maxRecDepth 100000 in
theorem r_X9_isSpelt_17 {l : Launch} {G : Geo} {d : Nat} (o : Nat) (v1 : Int32) (v3 : Int32) (v4 : Int32) (v5 : Int32) (ho : o = 4 ∨ o = 11) (s : St) {Q : Int32 → St → Prop} (h : ((v5 < (v4 - v3) → (ok_X9_letterOf s o v1 v5 ∧ (ok_X4_at s (v3 + v5) ∧ (((v_X9_letterOf s o v1 v5) = (((v_X4_at s (v3 + v5)) - 97) + 1) → AtA l G (d + 2) sX9_isSpelt 17 [.ref o, .int v1, .ref 1, .int v3, .int v4, .int (v5 + 1)] [] s (pI Q)) ∧ (¬ (v_X9_letterOf s o v1 v5) = (((v_X4_at s (v3 + v5)) - 97) + 1) → Q 0 s))))) ∧ (¬ v5 < (v4 - v3) → Q 1 s))) : AtA l G (d + 2) sX9_isSpelt 17 [.ref o, .int v1, .ref 1, .int v3, .int v4, .int v5] [] s (pI Q) := by
  have key : ((v5 < (v4 - v3) → DoesI l G (d + 1) 96 [.ref o, .int v1, .int v5] s (fun r1 s1 => DoesI l G (d + 1) 56 [.ref 1, .int (v3 + v5)] s1 (fun r2 s2 => ((r1 = ((r2 - 97) + 1) → AtA l G (d + 2) sX9_isSpelt 17 [.ref o, .int v1, .ref 1, .int v3, .int v4, .int (v5 + 1)] [] s2 (pI Q)) ∧ (¬ r1 = ((r2 - 97) + 1) → (narrow .boolean (.int 0) = .int 0 ∧ Q 0 s2)))))) ∧ (¬ v5 < (v4 - v3) → (narrow .boolean (.int 1) = .int 1 ∧ Q 1 s))) := ⟨fun z1 => (p_X9_letterOf o v1 v5 (by omega) s (h.1 z1).1 (p_X4_at (v3 + v5) s (h.1 z1).2.1 ⟨fun z2 => ((h.1 z1).2.2.1 z2), fun z2 => ⟨rfl, ((h.1 z1).2.2.2 z2)⟩⟩)), fun z1 => ⟨rfl, (h.2 z1)⟩⟩
  rcases ho with rfl | rfl
  all_goals exact wp_sound (rt := .boolean) (stops := [17]) (tbl := tX9_isSpelt) oX9_isSpelt rk_X9_isSpelt 23 17 _ _ _ key
set_option maxRecDepth 100000 in
theorem r_X9_append {l : Launch} {G : Geo} {d : Nat} (o : Nat) (x1 : Int32) (x3 : Int32) (x4 : Int32) (ho : o = 4 ∨ o = 11) (s : St) {Q : St → Prop} (h : (((s.1 o 3) < 12 → (((x4 - x3) < 1 → Q s) ∧ (¬ (x4 - x3) < 1 → ((10 < (x4 - x3) → Q s) ∧ (¬ 10 < (x4 - x3) → AtA l G (d + 2) sX9_append 32 [.ref o, .int x1, .ref 1, .int x3, .int x4, .int (x4 - x3), .int 0] [] s (pV Q)))))) ∧ (¬ (s.1 o 3) < 12 → Q s))) : DoesV l G (d + 2) 103 [.ref o, .int x1, .ref 1, .int x3, .int x4] s Q := by
  have key : (((s.1 o 3) < 12 → (((x4 - x3) < 1 → Q s) ∧ (¬ (x4 - x3) < 1 → ((10 < (x4 - x3) → Q s) ∧ (¬ 10 < (x4 - x3) → AtA l G (d + 2) sX9_append 32 [.ref o, .int x1, .ref 1, .int x3, .int x4, .int (x4 - x3), .int 0] [] s (pV Q)))))) ∧ (¬ (s.1 o 3) < 12 → Q s)) := h
  rcases ho with rfl | rfl
  all_goals exact does_wp 18 (g := sX9_append) (rt := .int) (stops := [32]) (tbl := tX9_append) rfl oX9_append rk_X9_append (Nat.le_of_ble_eq_true rfl) key
set_option maxRecDepth 100000 in
theorem r_X9_append_32 {l : Launch} {G : Geo} {d : Nat} (o : Nat) (v1 : Int32) (v3 : Int32) (v4 : Int32) (v5 : Int32) (v6 : Int32) (ho : o = 4 ∨ o = 11) (s : St) {Q : St → Prop} (h : ((v6 < v5 → (ok_X4_at s (v3 + v6) ∧ ((vp_in (((s.1 o 3) * 10) + v6) (alen (o + 1))) ∧ AtA l G (d + 2) sX9_append 32 [.ref o, .int v1, .ref 1, .int v3, .int v4, .int v5, .int (v6 + 1)] [] (sput s (o + 1) (Int32.toNatClampNeg (((s.1 o 3) * 10) + v6)) (((v_X4_at s (v3 + v6)) - 97) + 1)) (pV Q)))) ∧ (¬ v6 < v5 → ((vp_in (s.1 o 3) (alen (o + 2))) ∧ ((vp_in ((sput s (o + 2) (Int32.toNatClampNeg (s.1 o 3)) v5).1 o 3) (alen (o + 3))) ∧ Q (sput (sput (sput s (o + 2) (Int32.toNatClampNeg (s.1 o 3)) v5) (o + 3) (Int32.toNatClampNeg ((sput s (o + 2) (Int32.toNatClampNeg (s.1 o 3)) v5).1 o 3)) v1) o 3 (((sput (sput s (o + 2) (Int32.toNatClampNeg (s.1 o 3)) v5) (o + 3) (Int32.toNatClampNeg ((sput s (o + 2) (Int32.toNatClampNeg (s.1 o 3)) v5).1 o 3)) v1).1 o 3) + 1))))))) : AtA l G (d + 2) sX9_append 32 [.ref o, .int v1, .ref 1, .int v3, .int v4, .int v5, .int v6] [] s (pV Q) := by
  have key : ((v6 < v5 → DoesI l G (d + 1) 56 [.ref 1, .int (v3 + v6)] s (fun r1 s1 => ((vp_in (((s.1 o 3) * 10) + v6) (alen (o + 1))) ∧ AtA l G (d + 2) sX9_append 32 [.ref o, .int v1, .ref 1, .int v3, .int v4, .int v5, .int (v6 + 1)] [] (sput s1 (o + 1) (Int32.toNatClampNeg (((s.1 o 3) * 10) + v6)) ((r1 - 97) + 1)) (pV Q)))) ∧ (¬ v6 < v5 → ((vp_in (s.1 o 3) (alen (o + 2))) ∧ ((vp_in ((sput s (o + 2) (Int32.toNatClampNeg (s.1 o 3)) v5).1 o 3) (alen (o + 3))) ∧ Q (sput (sput (sput s (o + 2) (Int32.toNatClampNeg (s.1 o 3)) v5) (o + 3) (Int32.toNatClampNeg ((sput s (o + 2) (Int32.toNatClampNeg (s.1 o 3)) v5).1 o 3)) v1) o 3 (((sput (sput s (o + 2) (Int32.toNatClampNeg (s.1 o 3)) v5) (o + 3) (Int32.toNatClampNeg ((sput s (o + 2) (Int32.toNatClampNeg (s.1 o 3)) v5).1 o 3)) v1).1 o 3) + 1)))))) := ⟨fun z1 => (p_X4_at (v3 + v6) s (h.1 z1).1 ⟨(h.1 z1).2.1, (h.1 z1).2.2⟩), fun z1 => ⟨(h.2 z1).1, ⟨(h.2 z1).2.1, (h.2 z1).2.2⟩⟩⟩
  rcases ho with rfl | rfl
  all_goals exact wp_sound (rt := .int) (stops := [32]) (tbl := tX9_append) oX9_append rk_X9_append 25 32 _ _ _ key
set_option maxRecDepth 100000 in
theorem r_X6_lettersHeard {l : Launch} {G : Geo} {d : Nat} (o : Nat) (ho : o = 18 ∨ o = 20 ∨ o = 22) (s : St) {Q : Int32 → St → Prop} (h : AtA l G (d + 3) sX6_lettersHeard 4 [.ref o, .ref 8, .int 0, .int 0] [] s (pI Q)) : DoesI l G (d + 3) 77 [.ref o, .ref 8] s Q := by
  have key : AtA l G (d + 3) sX6_lettersHeard 4 [.ref o, .ref 8, .int 0, .int 0] [] s (pI Q) := h
  rcases ho with rfl | rfl | rfl
  all_goals exact does_wp 6 (g := sX6_lettersHeard) (rt := .int) (stops := [4]) (tbl := tX6_lettersHeard) rfl oX6_lettersHeard rk_X6_lettersHeard (Nat.le_of_ble_eq_true rfl) key
set_option maxRecDepth 100000 in
theorem r_X6_lettersHeard_4 {l : Launch} {G : Geo} {d : Nat} (o : Nat) (v2 : Int32) (v3 : Int32) (ho : o = 18 ∨ o = 20 ∨ o = 22) (s : St) {Q : Int32 → St → Prop} (h : ((v3 < (s.1 o 4) → (ok_X0_isSaid s 8 v3 ∧ ((¬ (b_X0_isSaid s 8 v3) → AtA l G (d + 3) sX6_lettersHeard 4 [.ref o, .ref 8, .int v2, .int (v3 + 1)] [] s (pI Q)) ∧ ((b_X0_isSaid s 8 v3) → AtA l G (d + 3) sX6_lettersHeard 4 [.ref o, .ref 8, .int (v2 + 1), .int (v3 + 1)] [] s (pI Q))))) ∧ (¬ v3 < (s.1 o 4) → Q v2 s))) : AtA l G (d + 3) sX6_lettersHeard 4 [.ref o, .ref 8, .int v2, .int v3] [] s (pI Q) := by
  have key : ((v3 < (s.1 o 4) → DoesI l G (d + 2) 12 [.ref 8, .int v3] s (fun r1 s1 => ((r1 = 0 → AtA l G (d + 3) sX6_lettersHeard 4 [.ref o, .ref 8, .int v2, .int (v3 + 1)] [] s1 (pI Q)) ∧ (¬ r1 = 0 → AtA l G (d + 3) sX6_lettersHeard 4 [.ref o, .ref 8, .int (v2 + 1), .int (v3 + 1)] [] s1 (pI Q))))) ∧ (¬ v3 < (s.1 o 4) → Q v2 s)) := ⟨fun z1 => (p_X0_isSaid 8 v3 (by decide) s (h.1 z1).1 ⟨fun z2 => ((h.1 z1).2.1 (bI_n z2)), fun z2 => ((h.1 z1).2.2 (bI_p z2))⟩), fun z1 => (h.2 z1)⟩
  rcases ho with rfl | rfl | rfl
  all_goals exact wp_sound (rt := .int) (stops := [4]) (tbl := tX6_lettersHeard) oX6_lettersHeard rk_X6_lettersHeard 13 4 _ _ _ key
set_option maxRecDepth 100000 in
theorem r_X6_lettersSaidBy {l : Launch} {G : Geo} {d : Nat} (o : Nat) (x1 : Int32) (ho : o = 18 ∨ o = 20 ∨ o = 22) (s : St) {Q : Int32 → St → Prop} (h : AtA l G (d + 3) sX6_lettersSaidBy 5 [.ref o, .int x1, .ref 8, .int 0, .int 0] [] s (pI Q)) : DoesI l G (d + 3) 78 [.ref o, .int x1, .ref 8] s Q := by
  have key : AtA l G (d + 3) sX6_lettersSaidBy 5 [.ref o, .int x1, .ref 8, .int 0, .int 0] [] s (pI Q) := h
  rcases ho with rfl | rfl | rfl
  all_goals exact does_wp 6 (g := sX6_lettersSaidBy) (rt := .int) (stops := [5]) (tbl := tX6_lettersSaidBy) rfl oX6_lettersSaidBy rk_X6_lettersSaidBy (Nat.le_of_ble_eq_true rfl) key
set_option maxRecDepth 100000 in
theorem r_X6_lettersSaidBy_5 {l : Launch} {G : Geo} {d : Nat} (o : Nat) (v1 : Int32) (v3 : Int32) (v4 : Int32) (ho : o = 18 ∨ o = 20 ∨ o = 22) (s : St) {Q : Int32 → St → Prop} (h : ((v4 < (s.1 o 4) → (ok_X0_voiceOf s 8 v4 ∧ (((v_X0_voiceOf s 8 v4) = v1 → (ok_X0_isSaid s 8 v4 ∧ ((¬ (b_X0_isSaid s 8 v4) → AtA l G (d + 3) sX6_lettersSaidBy 5 [.ref o, .int v1, .ref 8, .int v3, .int (v4 + 1)] [] s (pI Q)) ∧ ((b_X0_isSaid s 8 v4) → AtA l G (d + 3) sX6_lettersSaidBy 5 [.ref o, .int v1, .ref 8, .int (v3 + 1), .int (v4 + 1)] [] s (pI Q))))) ∧ (¬ (v_X0_voiceOf s 8 v4) = v1 → AtA l G (d + 3) sX6_lettersSaidBy 5 [.ref o, .int v1, .ref 8, .int v3, .int (v4 + 1)] [] s (pI Q))))) ∧ (¬ v4 < (s.1 o 4) → Q v3 s))) : AtA l G (d + 3) sX6_lettersSaidBy 5 [.ref o, .int v1, .ref 8, .int v3, .int v4] [] s (pI Q) := by
  have key : ((v4 < (s.1 o 4) → DoesI l G (d + 2) 11 [.ref 8, .int v4] s (fun r1 s1 => ((r1 = v1 → DoesI l G (d + 2) 12 [.ref 8, .int v4] s1 (fun r2 s2 => ((r2 = 0 → AtA l G (d + 3) sX6_lettersSaidBy 5 [.ref o, .int v1, .ref 8, .int v3, .int (v4 + 1)] [] s2 (pI Q)) ∧ (¬ r2 = 0 → AtA l G (d + 3) sX6_lettersSaidBy 5 [.ref o, .int v1, .ref 8, .int (v3 + 1), .int (v4 + 1)] [] s2 (pI Q))))) ∧ (¬ r1 = v1 → AtA l G (d + 3) sX6_lettersSaidBy 5 [.ref o, .int v1, .ref 8, .int v3, .int (v4 + 1)] [] s1 (pI Q))))) ∧ (¬ v4 < (s.1 o 4) → Q v3 s)) := ⟨fun z1 => (p_X0_voiceOf 8 v4 (by decide) s (h.1 z1).1 ⟨fun z2 => (p_X0_isSaid 8 v4 (by decide) s ((h.1 z1).2.1 z2).1 ⟨fun z3 => (((h.1 z1).2.1 z2).2.1 (bI_n z3)), fun z3 => (((h.1 z1).2.1 z2).2.2 (bI_p z3))⟩), fun z2 => ((h.1 z1).2.2 z2)⟩), fun z1 => (h.2 z1)⟩
  rcases ho with rfl | rfl | rfl
  all_goals exact wp_sound (rt := .int) (stops := [5]) (tbl := tX6_lettersSaidBy) oX6_lettersSaidBy rk_X6_lettersSaidBy 18 5 _ _ _ key
set_option maxRecDepth 100000 in
theorem r_X5_countLetters {l : Launch} {G : Geo} {d : Nat}   (s : St) {Q : St → Prop} (h : AtA l G (d + 3) sX5_countLetters 2 [.ref 47, .int 0, .null] [] s (pV Q)) : DoesV l G (d + 3) 59 [.ref 47] s Q := by
  have key : AtA l G (d + 3) sX5_countLetters 2 [.ref 47, .int 0, .null] [] s (pV Q) := h
  all_goals exact does_wp 4 (g := sX5_countLetters) (rt := .int) (stops := [2, 29, 42]) (tbl := tX5_countLetters) rfl oX5_countLetters rk_X5_countLetters (Nat.le_of_ble_eq_true rfl) key
set_option maxRecDepth 100000 in
theorem r_X5_countLetters_2 {l : Launch} {G : Geo} {d : Nat} (v1 : Int32)  (s : St) {Q : St → Prop} (h : ((v1 < 5 → ((vp_in v1 (alen 48)) ∧ ((vp_in v1 (alen 49)) ∧ AtA l G (d + 3) sX5_countLetters 2 [.ref 47, .int (v1 + 1), .null] [] (sput (sput s 48 (Int32.toNatClampNeg v1) 0) 49 (Int32.toNatClampNeg v1) 0) (pV Q)))) ∧ (¬ v1 < 5 → AtA l G (d + 3) sX5_countLetters 29 [.ref 47, .int 0, .null] [] s (pV Q)))) : AtA l G (d + 3) sX5_countLetters 2 [.ref 47, .int v1, .null] [] s (pV Q) := by
  have key : ((v1 < 5 → ((vp_in v1 (alen 48)) ∧ ((vp_in v1 (alen 49)) ∧ AtA l G (d + 3) sX5_countLetters 2 [.ref 47, .int (v1 + 1), .null] [] (sput (sput s 48 (Int32.toNatClampNeg v1) 0) 49 (Int32.toNatClampNeg v1) 0) (pV Q)))) ∧ (¬ v1 < 5 → AtA l G (d + 3) sX5_countLetters 29 [.ref 47, .int 0, .null] [] s (pV Q))) := h
  all_goals exact wp_sound (rt := .int) (stops := [2, 29, 42]) (tbl := tX5_countLetters) oX5_countLetters rk_X5_countLetters 17 2 _ _ _ key
set_option maxRecDepth 100000 in
theorem r_X5_countLetters_29 {l : Launch} {G : Geo} {d : Nat} (v1 : Int32)  (s : St) {Q : St → Prop} (h : ((v1 < (v_X9_size s 4) → AtA l G (d + 3) sX5_countLetters 42 [.ref 47, .int v1, .int 0] [] s (pV Q)) ∧ (¬ v1 < (v_X9_size s 4) → Q s))) : AtA l G (d + 3) sX5_countLetters 29 [.ref 47, .int v1, .null] [] s (pV Q) := by
  have key : DoesI l G (d + 2) 91 [.ref 4] s (fun r1 s1 => ((v1 < r1 → AtA l G (d + 3) sX5_countLetters 42 [.ref 47, .int v1, .int 0] [] s1 (pV Q)) ∧ (¬ v1 < r1 → Q s1))) := (p_X9_size 4 (by decide) s ⟨fun z1 => (h.1 z1), fun z1 => (h.2 z1)⟩)
  all_goals exact wp_sound (rt := .int) (stops := [2, 29, 42]) (tbl := tX5_countLetters) oX5_countLetters rk_X5_countLetters 9 29 _ _ _ key
set_option maxRecDepth 100000 in
theorem r_X5_countLetters_42 {l : Launch} {G : Geo} {d : Nat} (v1 : Int32) (v2 : Int32)  (s : St) {Q : St → Prop} (h : (ok_X9_lengthOf s 4 v1 ∧ ((v2 < (v_X9_lengthOf s 4 v1) → (ok_X5_countLetter s v2 ∧ AtA l G (d + 3) sX5_countLetters 42 [.ref 47, .int v1, .int (v2 + 1)] [] (g_X5_countLetter s v2) (pV Q))) ∧ (¬ v2 < (v_X9_lengthOf s 4 v1) → AtA l G (d + 3) sX5_countLetters 29 [.ref 47, .int (v1 + 1), .null] [] s (pV Q))))) : AtA l G (d + 3) sX5_countLetters 42 [.ref 47, .int v1, .int v2] [] s (pV Q) := by
  have key : DoesI l G (d + 2) 94 [.ref 4, .int v1] s (fun r1 s1 => ((v2 < r1 → DoesV l G (d + 2) 60 [.ref 47, .int v2] s1 (fun s2 => AtA l G (d + 3) sX5_countLetters 42 [.ref 47, .int v1, .int (v2 + 1)] [] s2 (pV Q))) ∧ (¬ v2 < r1 → AtA l G (d + 3) sX5_countLetters 29 [.ref 47, .int (v1 + 1), .int v2] [] s1 (pV Q)))) := (p_X9_lengthOf 4 v1 (by decide) s h.1 ⟨fun z1 => (p_X5_countLetter v2 s (h.2.1 z1).1 (h.2.1 z1).2), fun z1 => (at_weak2 (h.2.2 z1) (by simp [wk]))⟩)
  all_goals exact wp_sound (rt := .int) (stops := [2, 29, 42]) (tbl := tX5_countLetters) oX5_countLetters rk_X5_countLetters 13 42 _ _ _ key
end
section
set_option maxRecDepth 100000 in
theorem r_X11_isTold {l : Launch} {G : Geo} {d : Nat} (x1 : Int32)  (s : St) {Q : Int32 → St → Prop} (h : AtA l G (d + 1) sX11_isTold 4 [.ref 51, .int x1, .int 0, .int 0, .null, .null] [] s (pI Q)) : DoesI l G (d + 1) 142 [.ref 51, .int x1] s Q := by
  have key : AtA l G (d + 1) sX11_isTold 4 [.ref 51, .int x1, .int 0, .int 0, .null, .null] [] s (pI Q) := h
  all_goals exact does_wp 6 (g := sX11_isTold) (rt := .boolean) (stops := [4, 32]) (tbl := tX11_isTold) rfl oX11_isTold rk_X11_isTold (Nat.le_of_ble_eq_true rfl) key
set_option maxRecDepth 100000 in
theorem r_X11_isTold_4 {l : Launch} {G : Geo} {d : Nat} (v1 : Int32) (v2 : Int32) (v3 : Int32)  (s : St) {Q : Int32 → St → Prop} (h : ((v3 < (s.1 51 19) → ((vp_in v3 (alen 57)) ∧ (((s.1 57 (Int32.toNatClampNeg v3)) = v1 → AtA l G (d + 1) sX11_isTold 32 [.ref 51, .int v1, .int v2, .int v3, .int 1, .int 0] [] s (pI Q)) ∧ (¬ (s.1 57 (Int32.toNatClampNeg v3)) = v1 → AtA l G (d + 1) sX11_isTold 32 [.ref 51, .int v1, .int v2, .int v3, .int 0, .int 0] [] s (pI Q))))) ∧ (¬ v3 < (s.1 51 19) → (narrow .boolean (.int v2) = .int v2 ∧ Q v2 s)))) : AtA l G (d + 1) sX11_isTold 4 [.ref 51, .int v1, .int v2, .int v3, .null, .null] [] s (pI Q) := by
  have key : ((v3 < (s.1 51 19) → ((vp_in v3 (alen 57)) ∧ (((s.1 57 (Int32.toNatClampNeg v3)) = v1 → AtA l G (d + 1) sX11_isTold 32 [.ref 51, .int v1, .int v2, .int v3, .int 1, .int 0] [] s (pI Q)) ∧ (¬ (s.1 57 (Int32.toNatClampNeg v3)) = v1 → AtA l G (d + 1) sX11_isTold 32 [.ref 51, .int v1, .int v2, .int v3, .int 0, .int 0] [] s (pI Q))))) ∧ (¬ v3 < (s.1 51 19) → (narrow .boolean (.int v2) = .int v2 ∧ Q v2 s))) := h
  all_goals exact wp_sound (rt := .boolean) (stops := [4, 32]) (tbl := tX11_isTold) oX11_isTold rk_X11_isTold 17 4 _ _ _ key
set_option maxRecDepth 100000 in
theorem r_X11_isTold_32 {l : Launch} {G : Geo} {d : Nat} (v1 : Int32) (v2 : Int32) (v3 : Int32) (v4 : Int32) (v5 : Int32)  (s : St) {Q : Int32 → St → Prop} (h : ((v5 < v1 → ((v4 = 0 → ((v2 = 0 → ((v4 = 0 → AtA l G (d + 1) sX11_isTold 4 [.ref 51, .int v1, .int 0, .int (v3 + 1), .null, .null] [] s (pI Q)) ∧ (¬ v4 = 0 → AtA l G (d + 1) sX11_isTold 4 [.ref 51, .int v1, .int 1, .int (v3 + 1), .null, .null] [] s (pI Q)))) ∧ (¬ v2 = 0 → AtA l G (d + 1) sX11_isTold 4 [.ref 51, .int v1, .int 1, .int (v3 + 1), .null, .null] [] s (pI Q)))) ∧ (¬ v4 = 0 → ((vp_in ((10 * v3) + v5) (alen 58)) ∧ ((vp_in ((s.1 51 12) + v5) (alen 56)) ∧ (((s.1 58 (Int32.toNatClampNeg ((10 * v3) + v5))) = ((s.1 56 (Int32.toNatClampNeg ((s.1 51 12) + v5))) - 96) → AtA l G (d + 1) sX11_isTold 32 [.ref 51, .int v1, .int v2, .int v3, .int 1, .int (v5 + 1)] [] s (pI Q)) ∧ (¬ (s.1 58 (Int32.toNatClampNeg ((10 * v3) + v5))) = ((s.1 56 (Int32.toNatClampNeg ((s.1 51 12) + v5))) - 96) → AtA l G (d + 1) sX11_isTold 32 [.ref 51, .int v1, .int v2, .int v3, .int 0, .int (v5 + 1)] [] s (pI Q)))))))) ∧ (¬ v5 < v1 → ((v2 = 0 → ((v4 = 0 → AtA l G (d + 1) sX11_isTold 4 [.ref 51, .int v1, .int 0, .int (v3 + 1), .null, .null] [] s (pI Q)) ∧ (¬ v4 = 0 → AtA l G (d + 1) sX11_isTold 4 [.ref 51, .int v1, .int 1, .int (v3 + 1), .null, .null] [] s (pI Q)))) ∧ (¬ v2 = 0 → AtA l G (d + 1) sX11_isTold 4 [.ref 51, .int v1, .int 1, .int (v3 + 1), .null, .null] [] s (pI Q)))))) : AtA l G (d + 1) sX11_isTold 32 [.ref 51, .int v1, .int v2, .int v3, .int v4, .int v5] [] s (pI Q) := by
  have key : ((v5 < v1 → ((v4 = 0 → ((v2 = 0 → ((v4 = 0 → AtA l G (d + 1) sX11_isTold 4 [.ref 51, .int v1, .int 0, .int (v3 + 1), .int v4, .int v5] [] s (pI Q)) ∧ (¬ v4 = 0 → AtA l G (d + 1) sX11_isTold 4 [.ref 51, .int v1, .int 1, .int (v3 + 1), .int v4, .int v5] [] s (pI Q)))) ∧ (¬ v2 = 0 → AtA l G (d + 1) sX11_isTold 4 [.ref 51, .int v1, .int 1, .int (v3 + 1), .int v4, .int v5] [] s (pI Q)))) ∧ (¬ v4 = 0 → ((vp_in ((10 * v3) + v5) (alen 58)) ∧ ((vp_in ((s.1 51 12) + v5) (alen 56)) ∧ (((s.1 58 (Int32.toNatClampNeg ((10 * v3) + v5))) = ((s.1 56 (Int32.toNatClampNeg ((s.1 51 12) + v5))) - 96) → AtA l G (d + 1) sX11_isTold 32 [.ref 51, .int v1, .int v2, .int v3, .int 1, .int (v5 + 1)] [] s (pI Q)) ∧ (¬ (s.1 58 (Int32.toNatClampNeg ((10 * v3) + v5))) = ((s.1 56 (Int32.toNatClampNeg ((s.1 51 12) + v5))) - 96) → AtA l G (d + 1) sX11_isTold 32 [.ref 51, .int v1, .int v2, .int v3, .int 0, .int (v5 + 1)] [] s (pI Q)))))))) ∧ (¬ v5 < v1 → ((v2 = 0 → ((v4 = 0 → AtA l G (d + 1) sX11_isTold 4 [.ref 51, .int v1, .int 0, .int (v3 + 1), .int v4, .int v5] [] s (pI Q)) ∧ (¬ v4 = 0 → AtA l G (d + 1) sX11_isTold 4 [.ref 51, .int v1, .int 1, .int (v3 + 1), .int v4, .int v5] [] s (pI Q)))) ∧ (¬ v2 = 0 → AtA l G (d + 1) sX11_isTold 4 [.ref 51, .int v1, .int 1, .int (v3 + 1), .int v4, .int v5] [] s (pI Q))))) := ⟨fun z1 => ⟨fun z2 => ⟨fun z3 => ⟨fun z4 => (at_weak2 ((((h.1 z1).1 z2).1 z3).1 z4) (by simp [wk])), fun z4 => (at_weak2 ((((h.1 z1).1 z2).1 z3).2 z4) (by simp [wk]))⟩, fun z3 => (at_weak2 (((h.1 z1).1 z2).2 z3) (by simp [wk]))⟩, fun z2 => ⟨((h.1 z1).2 z2).1, ⟨((h.1 z1).2 z2).2.1, ⟨fun z5 => (((h.1 z1).2 z2).2.2.1 z5), fun z5 => (((h.1 z1).2 z2).2.2.2 z5)⟩⟩⟩⟩, fun z1 => ⟨fun z6 => ⟨fun z7 => (at_weak2 (((h.2 z1).1 z6).1 z7) (by simp [wk])), fun z7 => (at_weak2 (((h.2 z1).1 z6).2 z7) (by simp [wk]))⟩, fun z6 => (at_weak2 ((h.2 z1).2 z6) (by simp [wk]))⟩⟩
  all_goals exact wp_sound (rt := .boolean) (stops := [4, 32]) (tbl := tX11_isTold) oX11_isTold rk_X11_isTold 30 32 _ _ _ key
set_option maxRecDepth 100000 in
theorem r_X11_lettersOf {l : Launch} {G : Geo} {d : Nat}   (s : St) {Q : Int32 → St → Prop} (h : AtA l G (d + 1) sX11_lettersOf 4 [.ref 51, .int 0, .int 0] [] s (pI Q)) : DoesI l G (d + 1) 151 [.ref 51] s Q := by
  have key : AtA l G (d + 1) sX11_lettersOf 4 [.ref 51, .int 0, .int 0] [] s (pI Q) := h
  all_goals exact does_wp 6 (g := sX11_lettersOf) (rt := .int) (stops := [4]) (tbl := tX11_lettersOf) rfl oX11_lettersOf rk_X11_lettersOf (Nat.le_of_ble_eq_true rfl) key
set_option maxRecDepth 100000 in
theorem r_X11_lettersOf_4 {l : Launch} {G : Geo} {d : Nat} (v1 : Int32) (v2 : Int32)  (s : St) {Q : Int32 → St → Prop} (h : ((v2 < (s.1 51 23) → ((vp_in v2 (alen 60)) ∧ ((vp_in (s.1 60 (Int32.toNatClampNeg v2)) (alen 54)) ∧ AtA l G (d + 1) sX11_lettersOf 4 [.ref 51, .int (v1 + (s.1 54 (Int32.toNatClampNeg (s.1 60 (Int32.toNatClampNeg v2))))), .int (v2 + 1)] [] s (pI Q)))) ∧ (¬ v2 < (s.1 51 23) → Q v1 s))) : AtA l G (d + 1) sX11_lettersOf 4 [.ref 51, .int v1, .int v2] [] s (pI Q) := by
  have key : ((v2 < (s.1 51 23) → ((vp_in v2 (alen 60)) ∧ ((vp_in (s.1 60 (Int32.toNatClampNeg v2)) (alen 54)) ∧ AtA l G (d + 1) sX11_lettersOf 4 [.ref 51, .int (v1 + (s.1 54 (Int32.toNatClampNeg (s.1 60 (Int32.toNatClampNeg v2))))), .int (v2 + 1)] [] s (pI Q)))) ∧ (¬ v2 < (s.1 51 23) → Q v1 s)) := h
  all_goals exact wp_sound (rt := .int) (stops := [4]) (tbl := tX11_lettersOf) oX11_lettersOf rk_X11_lettersOf 18 4 _ _ _ key
set_option maxRecDepth 100000 in
theorem r_X11_letterAt {l : Launch} {G : Geo} {d : Nat} (x1 : Int32)  (s : St) {Q : Int32 → St → Prop} (h : AtA l G (d + 1) sX11_letterAt 4 [.ref 51, .int x1, .int x1, .int 0, .null] [] s (pI Q)) : DoesI l G (d + 1) 152 [.ref 51, .int x1] s Q := by
  have key : AtA l G (d + 1) sX11_letterAt 4 [.ref 51, .int x1, .int x1, .int 0, .null] [] s (pI Q) := h
  all_goals exact does_wp 6 (g := sX11_letterAt) (rt := .int) (stops := [4]) (tbl := tX11_letterAt) rfl oX11_letterAt rk_X11_letterAt (Nat.le_of_ble_eq_true rfl) key
set_option maxRecDepth 100000 in
theorem r_X11_letterAt_4 {l : Launch} {G : Geo} {d : Nat} (v1 : Int32) (v2 : Int32) (v3 : Int32)  (s : St) {Q : Int32 → St → Prop} (h : ((v3 < (s.1 51 23) → ((vp_in v3 (alen 60)) ∧ ((vp_in (s.1 60 (Int32.toNatClampNeg v3)) (alen 54)) ∧ ((v2 < (s.1 54 (Int32.toNatClampNeg (s.1 60 (Int32.toNatClampNeg v3)))) → ((vp_in ((10 * (s.1 60 (Int32.toNatClampNeg v3))) + v2) (alen 55)) ∧ Q (s.1 55 (Int32.toNatClampNeg ((10 * (s.1 60 (Int32.toNatClampNeg v3))) + v2))) s)) ∧ (¬ v2 < (s.1 54 (Int32.toNatClampNeg (s.1 60 (Int32.toNatClampNeg v3)))) → ((vp_in (s.1 60 (Int32.toNatClampNeg v3)) (alen 54)) ∧ AtA l G (d + 1) sX11_letterAt 4 [.ref 51, .int v1, .int (v2 - (s.1 54 (Int32.toNatClampNeg (s.1 60 (Int32.toNatClampNeg v3))))), .int (v3 + 1), .null] [] s (pI Q))))))) ∧ (¬ v3 < (s.1 51 23) → Q 0 s))) : AtA l G (d + 1) sX11_letterAt 4 [.ref 51, .int v1, .int v2, .int v3, .null] [] s (pI Q) := by
  have key : ((v3 < (s.1 51 23) → ((vp_in v3 (alen 60)) ∧ ((vp_in (s.1 60 (Int32.toNatClampNeg v3)) (alen 54)) ∧ ((v2 < (s.1 54 (Int32.toNatClampNeg (s.1 60 (Int32.toNatClampNeg v3)))) → ((vp_in ((10 * (s.1 60 (Int32.toNatClampNeg v3))) + v2) (alen 55)) ∧ Q (s.1 55 (Int32.toNatClampNeg ((10 * (s.1 60 (Int32.toNatClampNeg v3))) + v2))) s)) ∧ (¬ v2 < (s.1 54 (Int32.toNatClampNeg (s.1 60 (Int32.toNatClampNeg v3)))) → ((vp_in (s.1 60 (Int32.toNatClampNeg v3)) (alen 54)) ∧ AtA l G (d + 1) sX11_letterAt 4 [.ref 51, .int v1, .int (v2 - (s.1 54 (Int32.toNatClampNeg (s.1 60 (Int32.toNatClampNeg v3))))), .int (v3 + 1), .int (s.1 60 (Int32.toNatClampNeg v3))] [] s (pI Q))))))) ∧ (¬ v3 < (s.1 51 23) → Q 0 s)) := ⟨fun z1 => ⟨(h.1 z1).1, ⟨(h.1 z1).2.1, ⟨fun z2 => ⟨((h.1 z1).2.2.1 z2).1, ((h.1 z1).2.2.1 z2).2⟩, fun z2 => ⟨((h.1 z1).2.2.2 z2).1, (at_weak2 ((h.1 z1).2.2.2 z2).2 (by simp [wk]))⟩⟩⟩⟩, fun z1 => (h.2 z1)⟩
  all_goals exact wp_sound (rt := .int) (stops := [4]) (tbl := tX11_letterAt) oX11_letterAt rk_X11_letterAt 26 4 _ _ _ key
set_option maxRecDepth 100000 in
theorem r_X11_doesFit {l : Launch} {G : Geo} {d : Nat} (x1 : Int32) (x2 : Int32)  (s : St) {Q : Int32 → St → Prop} (h : ((vp_in x1 (alen 54)) ∧ (((s.1 51 26) < (x2 + (s.1 54 (Int32.toNatClampNeg x1))) → AtA l G (d + 1) sX11_doesFit 24 [.ref 51, .int x1, .int x2, .int 0, .int 0] [] s (pI Q)) ∧ (¬ (s.1 51 26) < (x2 + (s.1 54 (Int32.toNatClampNeg x1))) → AtA l G (d + 1) sX11_doesFit 24 [.ref 51, .int x1, .int x2, .int 1, .int 0] [] s (pI Q))))) : DoesI l G (d + 1) 165 [.ref 51, .int x1, .int x2] s Q := by
  have key : ((vp_in x1 (alen 54)) ∧ (((s.1 51 26) < (x2 + (s.1 54 (Int32.toNatClampNeg x1))) → AtA l G (d + 1) sX11_doesFit 24 [.ref 51, .int x1, .int x2, .int 0, .int 0] [] s (pI Q)) ∧ (¬ (s.1 51 26) < (x2 + (s.1 54 (Int32.toNatClampNeg x1))) → AtA l G (d + 1) sX11_doesFit 24 [.ref 51, .int x1, .int x2, .int 1, .int 0] [] s (pI Q)))) := h
  all_goals exact does_wp 16 (g := sX11_doesFit) (rt := .boolean) (stops := [24]) (tbl := tX11_doesFit) rfl oX11_doesFit rk_X11_doesFit (Nat.le_of_ble_eq_true rfl) key
set_option maxRecDepth 100000 in
theorem r_X11_doesFit_24 {l : Launch} {G : Geo} {d : Nat} (v1 : Int32) (v2 : Int32) (v3 : Int32) (v4 : Int32)  (s : St) {Q : Int32 → St → Prop} (h : ((vp_in v1 (alen 54)) ∧ ((v4 < (s.1 54 (Int32.toNatClampNeg v1)) → ((v3 = 0 → (narrow .boolean (.int v3) = .int v3 ∧ Q v3 s)) ∧ (¬ v3 = 0 → ((vp_in (v2 + v4) (alen 61)) ∧ (((s.1 61 (Int32.toNatClampNeg (v2 + v4))) = 0 → AtA l G (d + 1) sX11_doesFit 24 [.ref 51, .int v1, .int v2, .int 1, .int (v4 + 1)] [] s (pI Q)) ∧ (¬ (s.1 61 (Int32.toNatClampNeg (v2 + v4))) = 0 → ((vp_in (v2 + v4) (alen 61)) ∧ ((vp_in ((10 * v1) + v4) (alen 55)) ∧ (((s.1 61 (Int32.toNatClampNeg (v2 + v4))) = (s.1 55 (Int32.toNatClampNeg ((10 * v1) + v4))) → AtA l G (d + 1) sX11_doesFit 24 [.ref 51, .int v1, .int v2, .int 1, .int (v4 + 1)] [] s (pI Q)) ∧ (¬ (s.1 61 (Int32.toNatClampNeg (v2 + v4))) = (s.1 55 (Int32.toNatClampNeg ((10 * v1) + v4))) → AtA l G (d + 1) sX11_doesFit 24 [.ref 51, .int v1, .int v2, .int 0, .int (v4 + 1)] [] s (pI Q))))))))))) ∧ (¬ v4 < (s.1 54 (Int32.toNatClampNeg v1)) → (narrow .boolean (.int v3) = .int v3 ∧ Q v3 s))))) : AtA l G (d + 1) sX11_doesFit 24 [.ref 51, .int v1, .int v2, .int v3, .int v4] [] s (pI Q) := by
  have key : ((vp_in v1 (alen 54)) ∧ ((v4 < (s.1 54 (Int32.toNatClampNeg v1)) → ((v3 = 0 → (narrow .boolean (.int v3) = .int v3 ∧ Q v3 s)) ∧ (¬ v3 = 0 → ((vp_in (v2 + v4) (alen 61)) ∧ (((s.1 61 (Int32.toNatClampNeg (v2 + v4))) = 0 → AtA l G (d + 1) sX11_doesFit 24 [.ref 51, .int v1, .int v2, .int 1, .int (v4 + 1)] [] s (pI Q)) ∧ (¬ (s.1 61 (Int32.toNatClampNeg (v2 + v4))) = 0 → ((vp_in (v2 + v4) (alen 61)) ∧ ((vp_in ((10 * v1) + v4) (alen 55)) ∧ (((s.1 61 (Int32.toNatClampNeg (v2 + v4))) = (s.1 55 (Int32.toNatClampNeg ((10 * v1) + v4))) → AtA l G (d + 1) sX11_doesFit 24 [.ref 51, .int v1, .int v2, .int 1, .int (v4 + 1)] [] s (pI Q)) ∧ (¬ (s.1 61 (Int32.toNatClampNeg (v2 + v4))) = (s.1 55 (Int32.toNatClampNeg ((10 * v1) + v4))) → AtA l G (d + 1) sX11_doesFit 24 [.ref 51, .int v1, .int v2, .int 0, .int (v4 + 1)] [] s (pI Q))))))))))) ∧ (¬ v4 < (s.1 54 (Int32.toNatClampNeg v1)) → (narrow .boolean (.int v3) = .int v3 ∧ Q v3 s)))) := h
  all_goals exact wp_sound (rt := .boolean) (stops := [24]) (tbl := tX11_doesFit) oX11_doesFit rk_X11_doesFit 37 24 _ _ _ key
set_option maxRecDepth 100000 in
theorem r_X11_isClassed {l : Launch} {G : Geo} {d : Nat} (x1 : Int32) (x2 : Int32) (x3 : Int32)  (s : St) {Q : Int32 → St → Prop} (h : ((vp_in x1 (alen 54)) ∧ ((vp_in x2 (alen 54)) ∧ (((s.1 54 (Int32.toNatClampNeg x1)) = (s.1 54 (Int32.toNatClampNeg x2)) → AtA l G (d + 1) sX11_isClassed 25 [.ref 51, .int x1, .int x2, .int x3, .int 1, .int x3] [] s (pI Q)) ∧ (¬ (s.1 54 (Int32.toNatClampNeg x1)) = (s.1 54 (Int32.toNatClampNeg x2)) → AtA l G (d + 1) sX11_isClassed 25 [.ref 51, .int x1, .int x2, .int x3, .int 0, .int x3] [] s (pI Q)))))) : DoesI l G (d + 1) 177 [.ref 51, .int x1, .int x2, .int x3] s Q := by
  have key : ((vp_in x1 (alen 54)) ∧ ((vp_in x2 (alen 54)) ∧ (((s.1 54 (Int32.toNatClampNeg x1)) = (s.1 54 (Int32.toNatClampNeg x2)) → AtA l G (d + 1) sX11_isClassed 25 [.ref 51, .int x1, .int x2, .int x3, .int 1, .int x3] [] s (pI Q)) ∧ (¬ (s.1 54 (Int32.toNatClampNeg x1)) = (s.1 54 (Int32.toNatClampNeg x2)) → AtA l G (d + 1) sX11_isClassed 25 [.ref 51, .int x1, .int x2, .int x3, .int 0, .int x3] [] s (pI Q))))) := h
  all_goals exact does_wp 16 (g := sX11_isClassed) (rt := .boolean) (stops := [25]) (tbl := tX11_isClassed) rfl oX11_isClassed rk_X11_isClassed (Nat.le_of_ble_eq_true rfl) key
set_option maxRecDepth 100000 in
theorem r_X11_isClassed_25 {l : Launch} {G : Geo} {d : Nat} (v1 : Int32) (v2 : Int32) (v3 : Int32) (v4 : Int32) (v5 : Int32)  (s : St) {Q : Int32 → St → Prop} (h : ((vp_in v1 (alen 54)) ∧ ((v5 < (s.1 54 (Int32.toNatClampNeg v1)) → ((v4 = 0 → (narrow .boolean (.int v4) = .int v4 ∧ Q v4 s)) ∧ (¬ v4 = 0 → ((vp_in ((10 * v1) + v5) (alen 55)) ∧ ((vp_in ((10 * v2) + v5) (alen 55)) ∧ (((s.1 55 (Int32.toNatClampNeg ((10 * v1) + v5))) = (s.1 55 (Int32.toNatClampNeg ((10 * v2) + v5))) → AtA l G (d + 1) sX11_isClassed 25 [.ref 51, .int v1, .int v2, .int v3, .int 1, .int (v5 + (s.1 51 0))] [] s (pI Q)) ∧ (¬ (s.1 55 (Int32.toNatClampNeg ((10 * v1) + v5))) = (s.1 55 (Int32.toNatClampNeg ((10 * v2) + v5))) → AtA l G (d + 1) sX11_isClassed 25 [.ref 51, .int v1, .int v2, .int v3, .int 0, .int (v5 + (s.1 51 0))] [] s (pI Q)))))))) ∧ (¬ v5 < (s.1 54 (Int32.toNatClampNeg v1)) → (narrow .boolean (.int v4) = .int v4 ∧ Q v4 s))))) : AtA l G (d + 1) sX11_isClassed 25 [.ref 51, .int v1, .int v2, .int v3, .int v4, .int v5] [] s (pI Q) := by
  have key : ((vp_in v1 (alen 54)) ∧ ((v5 < (s.1 54 (Int32.toNatClampNeg v1)) → ((v4 = 0 → (narrow .boolean (.int v4) = .int v4 ∧ Q v4 s)) ∧ (¬ v4 = 0 → ((vp_in ((10 * v1) + v5) (alen 55)) ∧ ((vp_in ((10 * v2) + v5) (alen 55)) ∧ (((s.1 55 (Int32.toNatClampNeg ((10 * v1) + v5))) = (s.1 55 (Int32.toNatClampNeg ((10 * v2) + v5))) → AtA l G (d + 1) sX11_isClassed 25 [.ref 51, .int v1, .int v2, .int v3, .int 1, .int (v5 + (s.1 51 0))] [] s (pI Q)) ∧ (¬ (s.1 55 (Int32.toNatClampNeg ((10 * v1) + v5))) = (s.1 55 (Int32.toNatClampNeg ((10 * v2) + v5))) → AtA l G (d + 1) sX11_isClassed 25 [.ref 51, .int v1, .int v2, .int v3, .int 0, .int (v5 + (s.1 51 0))] [] s (pI Q)))))))) ∧ (¬ v5 < (s.1 54 (Int32.toNatClampNeg v1)) → (narrow .boolean (.int v4) = .int v4 ∧ Q v4 s)))) := h
  all_goals exact wp_sound (rt := .boolean) (stops := [25]) (tbl := tX11_isClassed) oX11_isClassed rk_X11_isClassed 36 25 _ _ _ key
set_option maxRecDepth 100000 in
theorem r_X11_divisor {l : Launch} {G : Geo} {d : Nat} (x1 : Int32) (x2 : Int32)  (s : St) {Q : Int32 → St → Prop} (h : AtA l G (d + 1) sX11_divisor 4 [.int x1, .int x2, .int x1, .int x2, .null] [] s (pI Q)) : DoesI l G (d + 1) 178 [.int x1, .int x2] s Q := by
  have key : AtA l G (d + 1) sX11_divisor 4 [.int x1, .int x2, .int x1, .int x2, .null] [] s (pI Q) := h
  all_goals exact does_wp 6 (g := sX11_divisor) (rt := .int) (stops := [4]) (tbl := tX11_divisor) rfl oX11_divisor rk_X11_divisor (Nat.le_of_ble_eq_true rfl) key
set_option maxRecDepth 100000 in
theorem r_X11_divisor_4 {l : Launch} {G : Geo} {d : Nat} (v0 : Int32) (v1 : Int32) (v2 : Int32) (v3 : Int32)  (s : St) {Q : Int32 → St → Prop} (h : ((v3 = 0 → Q v2 s) ∧ (¬ v3 = 0 → ((¬ v3 = 0) ∧ AtA l G (d + 1) sX11_divisor 4 [.int v0, .int v1, .int v3, .int (v2 - v2 / v3 * v3), .null] [] s (pI Q))))) : AtA l G (d + 1) sX11_divisor 4 [.int v0, .int v1, .int v2, .int v3, .null] [] s (pI Q) := by
  have key : ((v3 = 0 → Q v2 s) ∧ (¬ v3 = 0 → ((¬ v3 = 0) ∧ AtA l G (d + 1) sX11_divisor 4 [.int v0, .int v1, .int v3, .int (v2 - v2 / v3 * v3), .int (v2 - v2 / v3 * v3)] [] s (pI Q)))) := ⟨fun z1 => (h.1 z1), fun z1 => ⟨(h.2 z1).1, (at_weak2 (h.2 z1).2 (by simp [wk]))⟩⟩
  all_goals exact wp_sound (rt := .int) (stops := [4]) (tbl := tX11_divisor) oX11_divisor rk_X11_divisor 13 4 _ _ _ key
set_option maxRecDepth 100000 in
theorem r_X11_laySeats {l : Launch} {G : Geo} {d : Nat} (x1 : Int32)  (s : St) {Q : Int32 → St → Prop} (h : AtA l G (d + 1) sX11_laySeats 12 [.ref 51, .int x1, .int x1, .int 0, .int ((s.1 51 0) - 1)] [] s (pI Q)) : DoesI l G (d + 1) 180 [.ref 51, .int x1] s Q := by
  have key : AtA l G (d + 1) sX11_laySeats 12 [.ref 51, .int x1, .int x1, .int 0, .int ((s.1 51 0) - 1)] [] s (pI Q) := h
  all_goals exact does_wp 11 (g := sX11_laySeats) (rt := .boolean) (stops := [12]) (tbl := tX11_laySeats) rfl oX11_laySeats rk_X11_laySeats (Nat.le_of_ble_eq_true rfl) key
set_option maxRecDepth 100000 in
theorem r_X11_laySeats_12 {l : Launch} {G : Geo} {d : Nat} (v1 : Int32) (v2 : Int32) (v3 : Int32) (v4 : Int32)  (s : St) {Q : Int32 → St → Prop} (h : ((v4 < 0 → ((v3 = ((1 <<< ((s.1 51 0) &&& 31)) - 1) → Q 1 s) ∧ (¬ v3 = ((1 <<< ((s.1 51 0) &&& 31)) - 1) → Q 0 s))) ∧ (¬ v4 < 0 → ((¬ (s.1 51 0) = 0) ∧ ((vp_in v4 (alen 66)) ∧ ((¬ ((sput s 66 (Int32.toNatClampNeg v4) (v2 - v2 / (s.1 51 0) * (s.1 51 0))).1 51 0) = 0) ∧ ((vp_in v4 (alen 66)) ∧ AtA l G (d + 1) sX11_laySeats 12 [.ref 51, .int v1, .int (v2 / ((sput s 66 (Int32.toNatClampNeg v4) (v2 - v2 / (s.1 51 0) * (s.1 51 0))).1 51 0)), .int (v3 ||| (1 <<< (((sput s 66 (Int32.toNatClampNeg v4) (v2 - v2 / (s.1 51 0) * (s.1 51 0))).1 66 (Int32.toNatClampNeg v4)) &&& 31))), .int (v4 + (-1))] [] (sput s 66 (Int32.toNatClampNeg v4) (v2 - v2 / (s.1 51 0) * (s.1 51 0))) (pI Q)))))))) : AtA l G (d + 1) sX11_laySeats 12 [.ref 51, .int v1, .int v2, .int v3, .int v4] [] s (pI Q) := by
  have key : ((v4 < 0 → ((v3 = ((1 <<< ((s.1 51 0) &&& 31)) - 1) → (narrow .boolean (.int 1) = .int 1 ∧ Q 1 s)) ∧ (¬ v3 = ((1 <<< ((s.1 51 0) &&& 31)) - 1) → (narrow .boolean (.int 0) = .int 0 ∧ Q 0 s)))) ∧ (¬ v4 < 0 → ((¬ (s.1 51 0) = 0) ∧ ((vp_in v4 (alen 66)) ∧ ((¬ ((sput s 66 (Int32.toNatClampNeg v4) (v2 - v2 / (s.1 51 0) * (s.1 51 0))).1 51 0) = 0) ∧ ((vp_in v4 (alen 66)) ∧ AtA l G (d + 1) sX11_laySeats 12 [.ref 51, .int v1, .int (v2 / ((sput s 66 (Int32.toNatClampNeg v4) (v2 - v2 / (s.1 51 0) * (s.1 51 0))).1 51 0)), .int (v3 ||| (1 <<< (((sput s 66 (Int32.toNatClampNeg v4) (v2 - v2 / (s.1 51 0) * (s.1 51 0))).1 66 (Int32.toNatClampNeg v4)) &&& 31))), .int (v4 + (-1))] [] (sput s 66 (Int32.toNatClampNeg v4) (v2 - v2 / (s.1 51 0) * (s.1 51 0))) (pI Q))))))) := ⟨fun z1 => ⟨fun z2 => ⟨rfl, ((h.1 z1).1 z2)⟩, fun z2 => ⟨rfl, ((h.1 z1).2 z2)⟩⟩, fun z1 => ⟨(h.2 z1).1, ⟨(h.2 z1).2.1, ⟨(h.2 z1).2.2.1, ⟨(h.2 z1).2.2.2.1, (h.2 z1).2.2.2.2⟩⟩⟩⟩⟩
  all_goals exact wp_sound (rt := .boolean) (stops := [12]) (tbl := tX11_laySeats) oX11_laySeats rk_X11_laySeats 28 12 _ _ _ key
set_option maxRecDepth 100000 in
theorem r_X11_areApart {l : Launch} {G : Geo} {d : Nat} (x1 : Int32) (x2 : Int32)  (s : St) {Q : Int32 → St → Prop} (h : ((vp_in x1 (alen 54)) ∧ ((vp_in x2 (alen 54)) ∧ (((s.1 54 (Int32.toNatClampNeg x1)) = (s.1 54 (Int32.toNatClampNeg x2)) → AtA l G (d + 1) sX11_areApart 22 [.ref 51, .int x1, .int x2, .int 1, .int 0, .null, .null] [] s (pI Q)) ∧ (¬ (s.1 54 (Int32.toNatClampNeg x1)) = (s.1 54 (Int32.toNatClampNeg x2)) → Q 1 s))))) : DoesI l G (d + 1) 183 [.ref 51, .int x1, .int x2] s Q := by
  have key : ((vp_in x1 (alen 54)) ∧ ((vp_in x2 (alen 54)) ∧ (((s.1 54 (Int32.toNatClampNeg x1)) = (s.1 54 (Int32.toNatClampNeg x2)) → AtA l G (d + 1) sX11_areApart 22 [.ref 51, .int x1, .int x2, .int 1, .int 0, .null, .null] [] s (pI Q)) ∧ (¬ (s.1 54 (Int32.toNatClampNeg x1)) = (s.1 54 (Int32.toNatClampNeg x2)) → (narrow .boolean (.int 1) = .int 1 ∧ Q 1 s))))) := ⟨h.1, ⟨h.2.1, ⟨fun z1 => (h.2.2.1 z1), fun z1 => ⟨rfl, (h.2.2.2 z1)⟩⟩⟩⟩
  all_goals exact does_wp 15 (g := sX11_areApart) (rt := .boolean) (stops := [22, 37]) (tbl := tX11_areApart) rfl oX11_areApart rk_X11_areApart (Nat.le_of_ble_eq_true rfl) key
set_option maxRecDepth 100000 in
theorem r_X11_areApart_22 {l : Launch} {G : Geo} {d : Nat} (v1 : Int32) (v2 : Int32) (v3 : Int32) (v4 : Int32)  (s : St) {Q : Int32 → St → Prop} (h : ((v4 < (s.1 51 0) → AtA l G (d + 1) sX11_areApart 37 [.ref 51, .int v1, .int v2, .int v3, .int v4, .int 0, .int 0] [] s (pI Q)) ∧ (¬ v4 < (s.1 51 0) → (narrow .boolean (.int v3) = .int v3 ∧ Q v3 s)))) : AtA l G (d + 1) sX11_areApart 22 [.ref 51, .int v1, .int v2, .int v3, .int v4, .null, .null] [] s (pI Q) := by
  have key : ((v4 < (s.1 51 0) → AtA l G (d + 1) sX11_areApart 37 [.ref 51, .int v1, .int v2, .int v3, .int v4, .int 0, .int 0] [] s (pI Q)) ∧ (¬ v4 < (s.1 51 0) → (narrow .boolean (.int v3) = .int v3 ∧ Q v3 s))) := h
  all_goals exact wp_sound (rt := .boolean) (stops := [22, 37]) (tbl := tX11_areApart) oX11_areApart rk_X11_areApart 10 22 _ _ _ key
set_option maxRecDepth 100000 in
theorem r_X11_areApart_37 {l : Launch} {G : Geo} {d : Nat} (v1 : Int32) (v2 : Int32) (v3 : Int32) (v4 : Int32) (v5 : Int32) (v6 : Int32)  (s : St) {Q : Int32 → St → Prop} (h : ((vp_in v1 (alen 54)) ∧ ((v6 < (s.1 54 (Int32.toNatClampNeg v1)) → ((v5 = 0 → ((¬ (s.1 51 0) = 0) ∧ (((v6 - v6 / (s.1 51 0) * (s.1 51 0)) = v4 → AtA l G (d + 1) sX11_areApart 37 [.ref 51, .int v1, .int v2, .int v3, .int v4, .int 0, .int (v6 + 1)] [] s (pI Q)) ∧ (¬ (v6 - v6 / (s.1 51 0) * (s.1 51 0)) = v4 → ((vp_in ((10 * v1) + v6) (alen 55)) ∧ ((vp_in ((10 * v2) + v6) (alen 55)) ∧ (((s.1 55 (Int32.toNatClampNeg ((10 * v1) + v6))) = (s.1 55 (Int32.toNatClampNeg ((10 * v2) + v6))) → AtA l G (d + 1) sX11_areApart 37 [.ref 51, .int v1, .int v2, .int v3, .int v4, .int 0, .int (v6 + 1)] [] s (pI Q)) ∧ (¬ (s.1 55 (Int32.toNatClampNeg ((10 * v1) + v6))) = (s.1 55 (Int32.toNatClampNeg ((10 * v2) + v6))) → AtA l G (d + 1) sX11_areApart 37 [.ref 51, .int v1, .int v2, .int v3, .int v4, .int 1, .int (v6 + 1)] [] s (pI Q))))))))) ∧ (¬ v5 = 0 → AtA l G (d + 1) sX11_areApart 37 [.ref 51, .int v1, .int v2, .int v3, .int v4, .int 1, .int (v6 + 1)] [] s (pI Q)))) ∧ (¬ v6 < (s.1 54 (Int32.toNatClampNeg v1)) → ((v3 = 0 → AtA l G (d + 1) sX11_areApart 22 [.ref 51, .int v1, .int v2, .int 0, .int (v4 + 1), .null, .null] [] s (pI Q)) ∧ (¬ v3 = 0 → ((v5 = 0 → AtA l G (d + 1) sX11_areApart 22 [.ref 51, .int v1, .int v2, .int 0, .int (v4 + 1), .null, .null] [] s (pI Q)) ∧ (¬ v5 = 0 → AtA l G (d + 1) sX11_areApart 22 [.ref 51, .int v1, .int v2, .int 1, .int (v4 + 1), .null, .null] [] s (pI Q))))))))) : AtA l G (d + 1) sX11_areApart 37 [.ref 51, .int v1, .int v2, .int v3, .int v4, .int v5, .int v6] [] s (pI Q) := by
  have key : ((vp_in v1 (alen 54)) ∧ ((v6 < (s.1 54 (Int32.toNatClampNeg v1)) → ((v5 = 0 → ((¬ (s.1 51 0) = 0) ∧ (((v6 - v6 / (s.1 51 0) * (s.1 51 0)) = v4 → AtA l G (d + 1) sX11_areApart 37 [.ref 51, .int v1, .int v2, .int v3, .int v4, .int 0, .int (v6 + 1)] [] s (pI Q)) ∧ (¬ (v6 - v6 / (s.1 51 0) * (s.1 51 0)) = v4 → ((vp_in ((10 * v1) + v6) (alen 55)) ∧ ((vp_in ((10 * v2) + v6) (alen 55)) ∧ (((s.1 55 (Int32.toNatClampNeg ((10 * v1) + v6))) = (s.1 55 (Int32.toNatClampNeg ((10 * v2) + v6))) → AtA l G (d + 1) sX11_areApart 37 [.ref 51, .int v1, .int v2, .int v3, .int v4, .int 0, .int (v6 + 1)] [] s (pI Q)) ∧ (¬ (s.1 55 (Int32.toNatClampNeg ((10 * v1) + v6))) = (s.1 55 (Int32.toNatClampNeg ((10 * v2) + v6))) → AtA l G (d + 1) sX11_areApart 37 [.ref 51, .int v1, .int v2, .int v3, .int v4, .int 1, .int (v6 + 1)] [] s (pI Q))))))))) ∧ (¬ v5 = 0 → AtA l G (d + 1) sX11_areApart 37 [.ref 51, .int v1, .int v2, .int v3, .int v4, .int 1, .int (v6 + 1)] [] s (pI Q)))) ∧ (¬ v6 < (s.1 54 (Int32.toNatClampNeg v1)) → ((v3 = 0 → AtA l G (d + 1) sX11_areApart 22 [.ref 51, .int v1, .int v2, .int 0, .int (v4 + 1), .int v5, .int v6] [] s (pI Q)) ∧ (¬ v3 = 0 → ((v5 = 0 → AtA l G (d + 1) sX11_areApart 22 [.ref 51, .int v1, .int v2, .int 0, .int (v4 + 1), .int v5, .int v6] [] s (pI Q)) ∧ (¬ v5 = 0 → AtA l G (d + 1) sX11_areApart 22 [.ref 51, .int v1, .int v2, .int 1, .int (v4 + 1), .int v5, .int v6] [] s (pI Q)))))))) := ⟨h.1, ⟨fun z1 => ⟨fun z2 => ⟨((h.2.1 z1).1 z2).1, ⟨fun z3 => (((h.2.1 z1).1 z2).2.1 z3), fun z3 => ⟨(((h.2.1 z1).1 z2).2.2 z3).1, ⟨(((h.2.1 z1).1 z2).2.2 z3).2.1, ⟨fun z4 => ((((h.2.1 z1).1 z2).2.2 z3).2.2.1 z4), fun z4 => ((((h.2.1 z1).1 z2).2.2 z3).2.2.2 z4)⟩⟩⟩⟩⟩, fun z2 => ((h.2.1 z1).2 z2)⟩, fun z1 => ⟨fun z5 => (at_weak2 ((h.2.2 z1).1 z5) (by simp [wk])), fun z5 => ⟨fun z6 => (at_weak2 (((h.2.2 z1).2 z5).1 z6) (by simp [wk])), fun z6 => (at_weak2 (((h.2.2 z1).2 z5).2 z6) (by simp [wk]))⟩⟩⟩⟩
  all_goals exact wp_sound (rt := .boolean) (stops := [22, 37]) (tbl := tX11_areApart) oX11_areApart rk_X11_areApart 38 37 _ _ _ key
set_option maxRecDepth 100000 in
theorem r_X11_bits {l : Launch} {G : Geo} {d : Nat} (x1 : Int32)  (s : St) {Q : Int32 → St → Prop} (h : AtA l G (d + 1) sX11_bits 4 [.int x1, .int 0, .int 0] [] s (pI Q)) : DoesI l G (d + 1) 184 [.int x1] s Q := by
  have key : AtA l G (d + 1) sX11_bits 4 [.int x1, .int 0, .int 0] [] s (pI Q) := h
  all_goals exact does_wp 6 (g := sX11_bits) (rt := .int) (stops := [4]) (tbl := tX11_bits) rfl oX11_bits rk_X11_bits (Nat.le_of_ble_eq_true rfl) key
set_option maxRecDepth 100000 in
theorem r_X11_bits_4 {l : Launch} {G : Geo} {d : Nat} (v0 : Int32) (v1 : Int32) (v2 : Int32)  (s : St) {Q : Int32 → St → Prop} (h : ((v2 < 12 → AtA l G (d + 1) sX11_bits 4 [.int v0, .int (v1 + ((v0 >>> (v2 &&& 31)) &&& 1)), .int (v2 + 1)] [] s (pI Q)) ∧ (¬ v2 < 12 → Q v1 s))) : AtA l G (d + 1) sX11_bits 4 [.int v0, .int v1, .int v2] [] s (pI Q) := by
  have key : ((v2 < 12 → AtA l G (d + 1) sX11_bits 4 [.int v0, .int (v1 + ((v0 >>> (v2 &&& 31)) &&& 1)), .int (v2 + 1)] [] s (pI Q)) ∧ (¬ v2 < 12 → Q v1 s)) := h
  all_goals exact wp_sound (rt := .int) (stops := [4]) (tbl := tX11_bits) oX11_bits rk_X11_bits 15 4 _ _ _ key
set_option maxRecDepth 100000 in
theorem r_X11_write {l : Launch} {G : Geo} {d : Nat} (x1 : Int64) (x2 : Int32)  (s : St) {Q : Int32 → St → Prop} (h : ((¬ (b_X11_in s x2 1 8) → Q (-3) s) ∧ ((b_X11_in s x2 1 8) → ((200 < ((s.1 51 9) + x2) → Q (-5) s) ∧ (¬ 200 < ((s.1 51 9) + x2) → AtA l G (d + 2) sX11_write 31 [.ref 51, .long x1, .null, .int x2, .int 0] [] s (pI Q)))))) : DoesI l G (d + 2) 135 [.ref 51, .long x1, .int x2] s Q := by
  have key : DoesI l G (d + 1) 131 [.int x2, .int 1, .int 8] s (fun r1 s1 => ((r1 = 0 → Q (-3) s1) ∧ (¬ r1 = 0 → ((200 < ((s1.1 51 9) + x2) → Q (-5) s1) ∧ (¬ 200 < ((s1.1 51 9) + x2) → AtA l G (d + 2) sX11_write 31 [.ref 51, .long x1, .null, .int x2, .int 0] [] s1 (pI Q)))))) := (p_X11_in x2 1 8 s ⟨fun z1 => (h.1 (bI_n z1)), fun z1 => ⟨fun z2 => ((h.2 (bI_p z1)).1 z2), fun z2 => ((h.2 (bI_p z1)).2 z2)⟩⟩)
  all_goals exact does_wp 15 (g := sX11_write) (rt := .int) (stops := [31]) (tbl := tX11_write) rfl oX11_write rk_X11_write (Nat.le_of_ble_eq_true rfl) key
set_option maxRecDepth 100000 in
theorem r_X11_write_31 {l : Launch} {G : Geo} {d : Nat} (v3 : Int32) (v4 : Int32) (w1 : Int64)  (s : St) {Q : Int32 → St → Prop} (h : ((v4 < v3 → ((vp_in ((s.1 51 9) + v4) (alen 56)) ∧ AtA l G (d + 2) sX11_write 31 [.ref 51, .long w1, .null, .int v3, .int (v4 + 1)] [] (sput s 56 (Int32.toNatClampNeg ((s.1 51 9) + v4)) (Int64.toInt32 ((w1 >>> (Int32.toInt64 (8 * v4) &&& 63)) &&& 255))) (pI Q))) ∧ (¬ v4 < v3 → Q ((sput s 51 9 ((s.1 51 9) + v3)).1 51 9) (sput s 51 9 ((s.1 51 9) + v3))))) : AtA l G (d + 2) sX11_write 31 [.ref 51, .long w1, .null, .int v3, .int v4] [] s (pI Q) := by
  have key : ((v4 < v3 → ((vp_in ((s.1 51 9) + v4) (alen 56)) ∧ AtA l G (d + 2) sX11_write 31 [.ref 51, .long w1, .null, .int v3, .int (v4 + 1)] [] (sput s 56 (Int32.toNatClampNeg ((s.1 51 9) + v4)) (Int64.toInt32 ((w1 >>> (Int32.toInt64 (8 * v4) &&& 63)) &&& 255))) (pI Q))) ∧ (¬ v4 < v3 → Q ((sput s 51 9 ((s.1 51 9) + v3)).1 51 9) (sput s 51 9 ((s.1 51 9) + v3)))) := h
  all_goals exact wp_sound (rt := .int) (stops := [31]) (tbl := tX11_write) oX11_write rk_X11_write 22 31 _ _ _ key
set_option maxRecDepth 100000 in
theorem r_X11_nextToken {l : Launch} {G : Geo} {d : Nat}   (s : St) {Q : St → Prop} (h : (((s.1 51 11) < (s.1 51 9) → ((vp_in (s.1 51 11) (alen 56)) ∧ (((s.1 56 (Int32.toNatClampNeg (s.1 51 11))) = 32 → AtA l G (d + 2) sX11_nextToken 0 [.ref 51] [] (sput s 51 11 ((s.1 51 11) + 1)) (pV Q)) ∧ (¬ (s.1 56 (Int32.toNatClampNeg (s.1 51 11))) = 32 → ((((sput (sput (sput s 51 12 (s.1 51 11)) 51 14 0) 51 15 0).1 51 11) = ((sput (sput (sput s 51 12 (s.1 51 11)) 51 14 0) 51 15 0).1 51 9) → Q ((sput (sput (sput s 51 12 (s.1 51 11)) 51 14 0) 51 15 0).1, (-2))) ∧ (¬ ((sput (sput (sput s 51 12 (s.1 51 11)) 51 14 0) 51 15 0).1 51 11) = ((sput (sput (sput s 51 12 (s.1 51 11)) 51 14 0) 51 15 0).1 51 9) → ((vp_in ((sput (sput (sput s 51 12 (s.1 51 11)) 51 14 0) 51 15 0).1 51 11) (alen 56)) ∧ ((¬ (b_X11_in (sput (sput (sput s 51 12 (s.1 51 11)) 51 14 0) 51 15 0) ((sput (sput (sput s 51 12 (s.1 51 11)) 51 14 0) 51 15 0).1 56 (Int32.toNatClampNeg ((sput (sput (sput s 51 12 (s.1 51 11)) 51 14 0) 51 15 0).1 51 11))) 97 122) → ((vp_in ((sput (sput (sput s 51 12 (s.1 51 11)) 51 14 0) 51 15 0).1 51 11) (alen 56)) ∧ ((¬ (b_X11_in (sput (sput (sput s 51 12 (s.1 51 11)) 51 14 0) 51 15 0) ((sput (sput (sput s 51 12 (s.1 51 11)) 51 14 0) 51 15 0).1 56 (Int32.toNatClampNeg ((sput (sput (sput s 51 12 (s.1 51 11)) 51 14 0) 51 15 0).1 51 11))) 48 57) → ((vp_in ((sput (sput (sput s 51 12 (s.1 51 11)) 51 14 0) 51 15 0).1 51 11) (alen 56)) ∧ ((((sput (sput (sput s 51 12 (s.1 51 11)) 51 14 0) 51 15 0).1 56 (Int32.toNatClampNeg ((sput (sput (sput s 51 12 (s.1 51 11)) 51 14 0) 51 15 0).1 51 11))) = 59 → Q (sput ((sput (sput (sput s 51 12 (s.1 51 11)) 51 14 0) 51 15 0).1, (-3)) 51 11 ((((sput (sput (sput s 51 12 (s.1 51 11)) 51 14 0) 51 15 0).1, (-3)).1 51 11) + 1))) ∧ (¬ ((sput (sput (sput s 51 12 (s.1 51 11)) 51 14 0) 51 15 0).1 56 (Int32.toNatClampNeg ((sput (sput (sput s 51 12 (s.1 51 11)) 51 14 0) 51 15 0).1 51 11))) = 59 → Q (sput ((sput (sput (sput s 51 12 (s.1 51 11)) 51 14 0) 51 15 0).1, (-4)) 51 11 ((((sput (sput (sput s 51 12 (s.1 51 11)) 51 14 0) 51 15 0).1, (-4)).1 51 11) + 1)))))) ∧ ((b_X11_in (sput (sput (sput s 51 12 (s.1 51 11)) 51 14 0) 51 15 0) ((sput (sput (sput s 51 12 (s.1 51 11)) 51 14 0) 51 15 0).1 56 (Int32.toNatClampNeg ((sput (sput (sput s 51 12 (s.1 51 11)) 51 14 0) 51 15 0).1 51 11))) 48 57) → AtA l G (d + 2) sX11_nextToken 219 [.ref 51] [] (sput (sput (sput s 51 12 (s.1 51 11)) 51 14 0) 51 15 0) (pV Q))))) ∧ ((b_X11_in (sput (sput (sput s 51 12 (s.1 51 11)) 51 14 0) 51 15 0) ((sput (sput (sput s 51 12 (s.1 51 11)) 51 14 0) 51 15 0).1 56 (Int32.toNatClampNeg ((sput (sput (sput s 51 12 (s.1 51 11)) 51 14 0) 51 15 0).1 51 11))) 97 122) → AtA l G (d + 2) sX11_nextToken 101 [.ref 51] [] ((sput (sput (sput s 51 12 (s.1 51 11)) 51 14 0) 51 15 0).1, 0) (pV Q)))))))))) ∧ (¬ (s.1 51 11) < (s.1 51 9) → ((((sput (sput (sput s 51 12 (s.1 51 11)) 51 14 0) 51 15 0).1 51 11) = ((sput (sput (sput s 51 12 (s.1 51 11)) 51 14 0) 51 15 0).1 51 9) → Q ((sput (sput (sput s 51 12 (s.1 51 11)) 51 14 0) 51 15 0).1, (-2))) ∧ (¬ ((sput (sput (sput s 51 12 (s.1 51 11)) 51 14 0) 51 15 0).1 51 11) = ((sput (sput (sput s 51 12 (s.1 51 11)) 51 14 0) 51 15 0).1 51 9) → ((vp_in ((sput (sput (sput s 51 12 (s.1 51 11)) 51 14 0) 51 15 0).1 51 11) (alen 56)) ∧ ((¬ (b_X11_in (sput (sput (sput s 51 12 (s.1 51 11)) 51 14 0) 51 15 0) ((sput (sput (sput s 51 12 (s.1 51 11)) 51 14 0) 51 15 0).1 56 (Int32.toNatClampNeg ((sput (sput (sput s 51 12 (s.1 51 11)) 51 14 0) 51 15 0).1 51 11))) 97 122) → ((vp_in ((sput (sput (sput s 51 12 (s.1 51 11)) 51 14 0) 51 15 0).1 51 11) (alen 56)) ∧ ((¬ (b_X11_in (sput (sput (sput s 51 12 (s.1 51 11)) 51 14 0) 51 15 0) ((sput (sput (sput s 51 12 (s.1 51 11)) 51 14 0) 51 15 0).1 56 (Int32.toNatClampNeg ((sput (sput (sput s 51 12 (s.1 51 11)) 51 14 0) 51 15 0).1 51 11))) 48 57) → ((vp_in ((sput (sput (sput s 51 12 (s.1 51 11)) 51 14 0) 51 15 0).1 51 11) (alen 56)) ∧ ((((sput (sput (sput s 51 12 (s.1 51 11)) 51 14 0) 51 15 0).1 56 (Int32.toNatClampNeg ((sput (sput (sput s 51 12 (s.1 51 11)) 51 14 0) 51 15 0).1 51 11))) = 59 → Q (sput ((sput (sput (sput s 51 12 (s.1 51 11)) 51 14 0) 51 15 0).1, (-3)) 51 11 ((((sput (sput (sput s 51 12 (s.1 51 11)) 51 14 0) 51 15 0).1, (-3)).1 51 11) + 1))) ∧ (¬ ((sput (sput (sput s 51 12 (s.1 51 11)) 51 14 0) 51 15 0).1 56 (Int32.toNatClampNeg ((sput (sput (sput s 51 12 (s.1 51 11)) 51 14 0) 51 15 0).1 51 11))) = 59 → Q (sput ((sput (sput (sput s 51 12 (s.1 51 11)) 51 14 0) 51 15 0).1, (-4)) 51 11 ((((sput (sput (sput s 51 12 (s.1 51 11)) 51 14 0) 51 15 0).1, (-4)).1 51 11) + 1)))))) ∧ ((b_X11_in (sput (sput (sput s 51 12 (s.1 51 11)) 51 14 0) 51 15 0) ((sput (sput (sput s 51 12 (s.1 51 11)) 51 14 0) 51 15 0).1 56 (Int32.toNatClampNeg ((sput (sput (sput s 51 12 (s.1 51 11)) 51 14 0) 51 15 0).1 51 11))) 48 57) → AtA l G (d + 2) sX11_nextToken 219 [.ref 51] [] (sput (sput (sput s 51 12 (s.1 51 11)) 51 14 0) 51 15 0) (pV Q))))) ∧ ((b_X11_in (sput (sput (sput s 51 12 (s.1 51 11)) 51 14 0) 51 15 0) ((sput (sput (sput s 51 12 (s.1 51 11)) 51 14 0) 51 15 0).1 56 (Int32.toNatClampNeg ((sput (sput (sput s 51 12 (s.1 51 11)) 51 14 0) 51 15 0).1 51 11))) 97 122) → AtA l G (d + 2) sX11_nextToken 101 [.ref 51] [] ((sput (sput (sput s 51 12 (s.1 51 11)) 51 14 0) 51 15 0).1, 0) (pV Q))))))))) : DoesV l G (d + 2) 137 [.ref 51] s Q := by
  have key : (((s.1 51 11) < (s.1 51 9) → ((vp_in (s.1 51 11) (alen 56)) ∧ (((s.1 56 (Int32.toNatClampNeg (s.1 51 11))) = 32 → AtA l G (d + 2) sX11_nextToken 0 [.ref 51] [] (sput s 51 11 ((s.1 51 11) + 1)) (pV Q)) ∧ (¬ (s.1 56 (Int32.toNatClampNeg (s.1 51 11))) = 32 → ((((sput (sput (sput s 51 12 (s.1 51 11)) 51 14 0) 51 15 0).1 51 11) = ((sput (sput (sput s 51 12 (s.1 51 11)) 51 14 0) 51 15 0).1 51 9) → Q ((sput (sput (sput s 51 12 (s.1 51 11)) 51 14 0) 51 15 0).1, (-2))) ∧ (¬ ((sput (sput (sput s 51 12 (s.1 51 11)) 51 14 0) 51 15 0).1 51 11) = ((sput (sput (sput s 51 12 (s.1 51 11)) 51 14 0) 51 15 0).1 51 9) → ((vp_in ((sput (sput (sput s 51 12 (s.1 51 11)) 51 14 0) 51 15 0).1 51 11) (alen 56)) ∧ DoesI l G (d + 1) 131 [.int ((sput (sput (sput s 51 12 (s.1 51 11)) 51 14 0) 51 15 0).1 56 (Int32.toNatClampNeg ((sput (sput (sput s 51 12 (s.1 51 11)) 51 14 0) 51 15 0).1 51 11))), .int 97, .int 122] (sput (sput (sput s 51 12 (s.1 51 11)) 51 14 0) 51 15 0) (fun r1 s1 => ((r1 = 0 → ((vp_in (s1.1 51 11) (alen 56)) ∧ DoesI l G (d + 1) 131 [.int (s1.1 56 (Int32.toNatClampNeg (s1.1 51 11))), .int 48, .int 57] s1 (fun r2 s2 => ((r2 = 0 → ((vp_in (s2.1 51 11) (alen 56)) ∧ (((s2.1 56 (Int32.toNatClampNeg (s2.1 51 11))) = 59 → Q (sput (s2.1, (-3)) 51 11 (((s2.1, (-3)).1 51 11) + 1))) ∧ (¬ (s2.1 56 (Int32.toNatClampNeg (s2.1 51 11))) = 59 → Q (sput (s2.1, (-4)) 51 11 (((s2.1, (-4)).1 51 11) + 1)))))) ∧ (¬ r2 = 0 → AtA l G (d + 2) sX11_nextToken 219 [.ref 51] [] s2 (pV Q)))))) ∧ (¬ r1 = 0 → AtA l G (d + 2) sX11_nextToken 101 [.ref 51] [] (s1.1, 0) (pV Q))))))))))) ∧ (¬ (s.1 51 11) < (s.1 51 9) → ((((sput (sput (sput s 51 12 (s.1 51 11)) 51 14 0) 51 15 0).1 51 11) = ((sput (sput (sput s 51 12 (s.1 51 11)) 51 14 0) 51 15 0).1 51 9) → Q ((sput (sput (sput s 51 12 (s.1 51 11)) 51 14 0) 51 15 0).1, (-2))) ∧ (¬ ((sput (sput (sput s 51 12 (s.1 51 11)) 51 14 0) 51 15 0).1 51 11) = ((sput (sput (sput s 51 12 (s.1 51 11)) 51 14 0) 51 15 0).1 51 9) → ((vp_in ((sput (sput (sput s 51 12 (s.1 51 11)) 51 14 0) 51 15 0).1 51 11) (alen 56)) ∧ DoesI l G (d + 1) 131 [.int ((sput (sput (sput s 51 12 (s.1 51 11)) 51 14 0) 51 15 0).1 56 (Int32.toNatClampNeg ((sput (sput (sput s 51 12 (s.1 51 11)) 51 14 0) 51 15 0).1 51 11))), .int 97, .int 122] (sput (sput (sput s 51 12 (s.1 51 11)) 51 14 0) 51 15 0) (fun r3 s3 => ((r3 = 0 → ((vp_in (s3.1 51 11) (alen 56)) ∧ DoesI l G (d + 1) 131 [.int (s3.1 56 (Int32.toNatClampNeg (s3.1 51 11))), .int 48, .int 57] s3 (fun r4 s4 => ((r4 = 0 → ((vp_in (s4.1 51 11) (alen 56)) ∧ (((s4.1 56 (Int32.toNatClampNeg (s4.1 51 11))) = 59 → Q (sput (s4.1, (-3)) 51 11 (((s4.1, (-3)).1 51 11) + 1))) ∧ (¬ (s4.1 56 (Int32.toNatClampNeg (s4.1 51 11))) = 59 → Q (sput (s4.1, (-4)) 51 11 (((s4.1, (-4)).1 51 11) + 1)))))) ∧ (¬ r4 = 0 → AtA l G (d + 2) sX11_nextToken 219 [.ref 51] [] s4 (pV Q)))))) ∧ (¬ r3 = 0 → AtA l G (d + 2) sX11_nextToken 101 [.ref 51] [] (s3.1, 0) (pV Q))))))))) := ⟨fun z1 => ⟨(h.1 z1).1, ⟨fun z2 => ((h.1 z1).2.1 z2), fun z2 => ⟨fun z3 => (((h.1 z1).2.2 z2).1 z3), fun z3 => ⟨(((h.1 z1).2.2 z2).2 z3).1, (p_X11_in ((sput (sput (sput s 51 12 (s.1 51 11)) 51 14 0) 51 15 0).1 56 (Int32.toNatClampNeg ((sput (sput (sput s 51 12 (s.1 51 11)) 51 14 0) 51 15 0).1 51 11))) 97 122 (sput (sput (sput s 51 12 (s.1 51 11)) 51 14 0) 51 15 0) ⟨fun z4 => ⟨((((h.1 z1).2.2 z2).2 z3).2.1 (bI_n z4)).1, (p_X11_in ((sput (sput (sput s 51 12 (s.1 51 11)) 51 14 0) 51 15 0).1 56 (Int32.toNatClampNeg ((sput (sput (sput s 51 12 (s.1 51 11)) 51 14 0) 51 15 0).1 51 11))) 48 57 (sput (sput (sput s 51 12 (s.1 51 11)) 51 14 0) 51 15 0) ⟨fun z5 => ⟨(((((h.1 z1).2.2 z2).2 z3).2.1 (bI_n z4)).2.1 (bI_n z5)).1, ⟨fun z6 => ((((((h.1 z1).2.2 z2).2 z3).2.1 (bI_n z4)).2.1 (bI_n z5)).2.1 z6), fun z6 => ((((((h.1 z1).2.2 z2).2 z3).2.1 (bI_n z4)).2.1 (bI_n z5)).2.2 z6)⟩⟩, fun z5 => (((((h.1 z1).2.2 z2).2 z3).2.1 (bI_n z4)).2.2 (bI_p z5))⟩)⟩, fun z4 => ((((h.1 z1).2.2 z2).2 z3).2.2 (bI_p z4))⟩)⟩⟩⟩⟩, fun z1 => ⟨fun z7 => ((h.2 z1).1 z7), fun z7 => ⟨((h.2 z1).2 z7).1, (p_X11_in ((sput (sput (sput s 51 12 (s.1 51 11)) 51 14 0) 51 15 0).1 56 (Int32.toNatClampNeg ((sput (sput (sput s 51 12 (s.1 51 11)) 51 14 0) 51 15 0).1 51 11))) 97 122 (sput (sput (sput s 51 12 (s.1 51 11)) 51 14 0) 51 15 0) ⟨fun z8 => ⟨(((h.2 z1).2 z7).2.1 (bI_n z8)).1, (p_X11_in ((sput (sput (sput s 51 12 (s.1 51 11)) 51 14 0) 51 15 0).1 56 (Int32.toNatClampNeg ((sput (sput (sput s 51 12 (s.1 51 11)) 51 14 0) 51 15 0).1 51 11))) 48 57 (sput (sput (sput s 51 12 (s.1 51 11)) 51 14 0) 51 15 0) ⟨fun z9 => ⟨((((h.2 z1).2 z7).2.1 (bI_n z8)).2.1 (bI_n z9)).1, ⟨fun z10 => (((((h.2 z1).2 z7).2.1 (bI_n z8)).2.1 (bI_n z9)).2.1 z10), fun z10 => (((((h.2 z1).2 z7).2.1 (bI_n z8)).2.1 (bI_n z9)).2.2 z10)⟩⟩, fun z9 => ((((h.2 z1).2 z7).2.1 (bI_n z8)).2.2 (bI_p z9))⟩)⟩, fun z8 => (((h.2 z1).2 z7).2.2 (bI_p z8))⟩)⟩⟩⟩
  all_goals exact does_wp 64 (g := sX11_nextToken) (rt := .int) (stops := [0, 101, 219]) (tbl := tX11_nextToken) rfl oX11_nextToken rk_X11_nextToken (Nat.le_of_ble_eq_true rfl) key
set_option maxRecDepth 100000 in
theorem r_X11_nextToken_101 {l : Launch} {G : Geo} {d : Nat}   (s : St) {Q : St → Prop} (h : (((s.1 51 11) < (s.1 51 9) → ((vp_in (s.1 51 11) (alen 56)) ∧ ((¬ (b_X11_in s (s.1 56 (Int32.toNatClampNeg (s.1 51 11))) 97 122) → ((9 < ((s.1 51 11) - (s.1 51 12)) → Q (s.1, 0)) ∧ (¬ 9 < ((s.1 51 11) - (s.1 51 12)) → Q (s.1, s.2)))) ∧ ((b_X11_in s (s.1 56 (Int32.toNatClampNeg (s.1 51 11))) 97 122) → ((vp_in (s.1 51 11) (alen 56)) ∧ AtA l G (d + 2) sX11_nextToken 101 [.ref 51] [] (sput (s.1, (((27 * s.2) + (Int32.toInt64 (s.1 56 (Int32.toNatClampNeg (s.1 51 11))))) - 96)) 51 11 (((s.1, (((27 * s.2) + (Int32.toInt64 (s.1 56 (Int32.toNatClampNeg (s.1 51 11))))) - 96)).1 51 11) + 1)) (pV Q)))))) ∧ (¬ (s.1 51 11) < (s.1 51 9) → ((9 < ((s.1 51 11) - (s.1 51 12)) → Q (s.1, 0)) ∧ (¬ 9 < ((s.1 51 11) - (s.1 51 12)) → Q (s.1, s.2)))))) : AtA l G (d + 2) sX11_nextToken 101 [.ref 51] [] s (pV Q) := by
  have key : (((s.1 51 11) < (s.1 51 9) → ((vp_in (s.1 51 11) (alen 56)) ∧ DoesI l G (d + 1) 131 [.int (s.1 56 (Int32.toNatClampNeg (s.1 51 11))), .int 97, .int 122] s (fun r1 s1 => ((r1 = 0 → ((9 < ((s1.1 51 11) - (s1.1 51 12)) → Q (s1.1, 0)) ∧ (¬ 9 < ((s1.1 51 11) - (s1.1 51 12)) → Q (s1.1, s1.2)))) ∧ (¬ r1 = 0 → ((vp_in (s1.1 51 11) (alen 56)) ∧ AtA l G (d + 2) sX11_nextToken 101 [.ref 51] [] (sput (s1.1, (((27 * s1.2) + (Int32.toInt64 (s1.1 56 (Int32.toNatClampNeg (s1.1 51 11))))) - 96)) 51 11 (((s1.1, (((27 * s1.2) + (Int32.toInt64 (s1.1 56 (Int32.toNatClampNeg (s1.1 51 11))))) - 96)).1 51 11) + 1)) (pV Q))))))) ∧ (¬ (s.1 51 11) < (s.1 51 9) → ((9 < ((s.1 51 11) - (s.1 51 12)) → Q (s.1, 0)) ∧ (¬ 9 < ((s.1 51 11) - (s.1 51 12)) → Q (s.1, s.2))))) := ⟨fun z1 => ⟨(h.1 z1).1, (p_X11_in (s.1 56 (Int32.toNatClampNeg (s.1 51 11))) 97 122 s ⟨fun z2 => ⟨fun z3 => (((h.1 z1).2.1 (bI_n z2)).1 z3), fun z3 => (((h.1 z1).2.1 (bI_n z2)).2 z3)⟩, fun z2 => ⟨((h.1 z1).2.2 (bI_p z2)).1, ((h.1 z1).2.2 (bI_p z2)).2⟩⟩)⟩, fun z1 => ⟨fun z4 => ((h.2 z1).1 z4), fun z4 => ((h.2 z1).2 z4)⟩⟩
  all_goals exact wp_sound (rt := .int) (stops := [0, 101, 219]) (tbl := tX11_nextToken) oX11_nextToken rk_X11_nextToken 38 101 _ _ _ key
set_option maxRecDepth 100000 in
theorem r_X11_nextToken_219 {l : Launch} {G : Geo} {d : Nat}   (s : St) {Q : St → Prop} (h : (((s.1 51 11) < (s.1 51 9) → ((vp_in (s.1 51 11) (alen 56)) ∧ ((¬ (b_X11_in s (s.1 56 (Int32.toNatClampNeg (s.1 51 11))) 48 57) → ((2 < (s.1 51 14) → Q (s.1, (-4))) ∧ (¬ 2 < (s.1 51 14) → Q (s.1, (-1))))) ∧ ((b_X11_in s (s.1 56 (Int32.toNatClampNeg (s.1 51 11))) 48 57) → (((s.1 51 14) < 2 → ((vp_in (s.1 51 11) (alen 56)) ∧ AtA l G (d + 2) sX11_nextToken 219 [.ref 51] [] (sput (sput (sput s 51 15 (((10 * (s.1 51 15)) + (s.1 56 (Int32.toNatClampNeg (s.1 51 11)))) - 48)) 51 14 (((sput s 51 15 (((10 * (s.1 51 15)) + (s.1 56 (Int32.toNatClampNeg (s.1 51 11)))) - 48)).1 51 14) + 1)) 51 11 (((sput (sput s 51 15 (((10 * (s.1 51 15)) + (s.1 56 (Int32.toNatClampNeg (s.1 51 11)))) - 48)) 51 14 (((sput s 51 15 (((10 * (s.1 51 15)) + (s.1 56 (Int32.toNatClampNeg (s.1 51 11)))) - 48)).1 51 14) + 1)).1 51 11) + 1)) (pV Q))) ∧ (¬ (s.1 51 14) < 2 → AtA l G (d + 2) sX11_nextToken 219 [.ref 51] [] (sput (sput (sput s 51 15 (s.1 51 15)) 51 14 (((sput s 51 15 (s.1 51 15)).1 51 14) + 1)) 51 11 (((sput (sput s 51 15 (s.1 51 15)) 51 14 (((sput s 51 15 (s.1 51 15)).1 51 14) + 1)).1 51 11) + 1)) (pV Q))))))) ∧ (¬ (s.1 51 11) < (s.1 51 9) → ((2 < (s.1 51 14) → Q (s.1, (-4))) ∧ (¬ 2 < (s.1 51 14) → Q (s.1, (-1))))))) : AtA l G (d + 2) sX11_nextToken 219 [.ref 51] [] s (pV Q) := by
  have key : (((s.1 51 11) < (s.1 51 9) → ((vp_in (s.1 51 11) (alen 56)) ∧ DoesI l G (d + 1) 131 [.int (s.1 56 (Int32.toNatClampNeg (s.1 51 11))), .int 48, .int 57] s (fun r1 s1 => ((r1 = 0 → ((2 < (s1.1 51 14) → Q (s1.1, (-4))) ∧ (¬ 2 < (s1.1 51 14) → Q (s1.1, (-1))))) ∧ (¬ r1 = 0 → (((s1.1 51 14) < 2 → ((vp_in (s1.1 51 11) (alen 56)) ∧ AtA l G (d + 2) sX11_nextToken 219 [.ref 51] [] (sput (sput (sput s1 51 15 (((10 * (s1.1 51 15)) + (s1.1 56 (Int32.toNatClampNeg (s1.1 51 11)))) - 48)) 51 14 (((sput s1 51 15 (((10 * (s1.1 51 15)) + (s1.1 56 (Int32.toNatClampNeg (s1.1 51 11)))) - 48)).1 51 14) + 1)) 51 11 (((sput (sput s1 51 15 (((10 * (s1.1 51 15)) + (s1.1 56 (Int32.toNatClampNeg (s1.1 51 11)))) - 48)) 51 14 (((sput s1 51 15 (((10 * (s1.1 51 15)) + (s1.1 56 (Int32.toNatClampNeg (s1.1 51 11)))) - 48)).1 51 14) + 1)).1 51 11) + 1)) (pV Q))) ∧ (¬ (s1.1 51 14) < 2 → AtA l G (d + 2) sX11_nextToken 219 [.ref 51] [] (sput (sput (sput s1 51 15 (s1.1 51 15)) 51 14 (((sput s1 51 15 (s1.1 51 15)).1 51 14) + 1)) 51 11 (((sput (sput s1 51 15 (s1.1 51 15)) 51 14 (((sput s1 51 15 (s1.1 51 15)).1 51 14) + 1)).1 51 11) + 1)) (pV Q)))))))) ∧ (¬ (s.1 51 11) < (s.1 51 9) → ((2 < (s.1 51 14) → Q (s.1, (-4))) ∧ (¬ 2 < (s.1 51 14) → Q (s.1, (-1)))))) := ⟨fun z1 => ⟨(h.1 z1).1, (p_X11_in (s.1 56 (Int32.toNatClampNeg (s.1 51 11))) 48 57 s ⟨fun z2 => ⟨fun z3 => (((h.1 z1).2.1 (bI_n z2)).1 z3), fun z3 => (((h.1 z1).2.1 (bI_n z2)).2 z3)⟩, fun z2 => ⟨fun z4 => ⟨(((h.1 z1).2.2 (bI_p z2)).1 z4).1, (((h.1 z1).2.2 (bI_p z2)).1 z4).2⟩, fun z4 => (((h.1 z1).2.2 (bI_p z2)).2 z4)⟩⟩)⟩, fun z1 => ⟨fun z5 => ((h.2 z1).1 z5), fun z5 => ((h.2 z1).2 z5)⟩⟩
  all_goals exact wp_sound (rt := .int) (stops := [0, 101, 219]) (tbl := tX11_nextToken) oX11_nextToken rk_X11_nextToken 48 219 _ _ _ key
set_option maxRecDepth 100000 in
theorem r_X11_nextToken_0 {l : Launch} {G : Geo} {d : Nat}   (s : St) {Q : St → Prop} (h : (((s.1 51 11) < (s.1 51 9) → ((vp_in (s.1 51 11) (alen 56)) ∧ (((s.1 56 (Int32.toNatClampNeg (s.1 51 11))) = 32 → AtA l G (d + 2) sX11_nextToken 0 [.ref 51] [] (sput s 51 11 ((s.1 51 11) + 1)) (pV Q)) ∧ (¬ (s.1 56 (Int32.toNatClampNeg (s.1 51 11))) = 32 → ((((sput (sput (sput s 51 12 (s.1 51 11)) 51 14 0) 51 15 0).1 51 11) = ((sput (sput (sput s 51 12 (s.1 51 11)) 51 14 0) 51 15 0).1 51 9) → Q ((sput (sput (sput s 51 12 (s.1 51 11)) 51 14 0) 51 15 0).1, (-2))) ∧ (¬ ((sput (sput (sput s 51 12 (s.1 51 11)) 51 14 0) 51 15 0).1 51 11) = ((sput (sput (sput s 51 12 (s.1 51 11)) 51 14 0) 51 15 0).1 51 9) → ((vp_in ((sput (sput (sput s 51 12 (s.1 51 11)) 51 14 0) 51 15 0).1 51 11) (alen 56)) ∧ ((¬ (b_X11_in (sput (sput (sput s 51 12 (s.1 51 11)) 51 14 0) 51 15 0) ((sput (sput (sput s 51 12 (s.1 51 11)) 51 14 0) 51 15 0).1 56 (Int32.toNatClampNeg ((sput (sput (sput s 51 12 (s.1 51 11)) 51 14 0) 51 15 0).1 51 11))) 97 122) → ((vp_in ((sput (sput (sput s 51 12 (s.1 51 11)) 51 14 0) 51 15 0).1 51 11) (alen 56)) ∧ ((¬ (b_X11_in (sput (sput (sput s 51 12 (s.1 51 11)) 51 14 0) 51 15 0) ((sput (sput (sput s 51 12 (s.1 51 11)) 51 14 0) 51 15 0).1 56 (Int32.toNatClampNeg ((sput (sput (sput s 51 12 (s.1 51 11)) 51 14 0) 51 15 0).1 51 11))) 48 57) → ((vp_in ((sput (sput (sput s 51 12 (s.1 51 11)) 51 14 0) 51 15 0).1 51 11) (alen 56)) ∧ ((((sput (sput (sput s 51 12 (s.1 51 11)) 51 14 0) 51 15 0).1 56 (Int32.toNatClampNeg ((sput (sput (sput s 51 12 (s.1 51 11)) 51 14 0) 51 15 0).1 51 11))) = 59 → Q (sput ((sput (sput (sput s 51 12 (s.1 51 11)) 51 14 0) 51 15 0).1, (-3)) 51 11 ((((sput (sput (sput s 51 12 (s.1 51 11)) 51 14 0) 51 15 0).1, (-3)).1 51 11) + 1))) ∧ (¬ ((sput (sput (sput s 51 12 (s.1 51 11)) 51 14 0) 51 15 0).1 56 (Int32.toNatClampNeg ((sput (sput (sput s 51 12 (s.1 51 11)) 51 14 0) 51 15 0).1 51 11))) = 59 → Q (sput ((sput (sput (sput s 51 12 (s.1 51 11)) 51 14 0) 51 15 0).1, (-4)) 51 11 ((((sput (sput (sput s 51 12 (s.1 51 11)) 51 14 0) 51 15 0).1, (-4)).1 51 11) + 1)))))) ∧ ((b_X11_in (sput (sput (sput s 51 12 (s.1 51 11)) 51 14 0) 51 15 0) ((sput (sput (sput s 51 12 (s.1 51 11)) 51 14 0) 51 15 0).1 56 (Int32.toNatClampNeg ((sput (sput (sput s 51 12 (s.1 51 11)) 51 14 0) 51 15 0).1 51 11))) 48 57) → AtA l G (d + 2) sX11_nextToken 219 [.ref 51] [] (sput (sput (sput s 51 12 (s.1 51 11)) 51 14 0) 51 15 0) (pV Q))))) ∧ ((b_X11_in (sput (sput (sput s 51 12 (s.1 51 11)) 51 14 0) 51 15 0) ((sput (sput (sput s 51 12 (s.1 51 11)) 51 14 0) 51 15 0).1 56 (Int32.toNatClampNeg ((sput (sput (sput s 51 12 (s.1 51 11)) 51 14 0) 51 15 0).1 51 11))) 97 122) → AtA l G (d + 2) sX11_nextToken 101 [.ref 51] [] ((sput (sput (sput s 51 12 (s.1 51 11)) 51 14 0) 51 15 0).1, 0) (pV Q)))))))))) ∧ (¬ (s.1 51 11) < (s.1 51 9) → ((((sput (sput (sput s 51 12 (s.1 51 11)) 51 14 0) 51 15 0).1 51 11) = ((sput (sput (sput s 51 12 (s.1 51 11)) 51 14 0) 51 15 0).1 51 9) → Q ((sput (sput (sput s 51 12 (s.1 51 11)) 51 14 0) 51 15 0).1, (-2))) ∧ (¬ ((sput (sput (sput s 51 12 (s.1 51 11)) 51 14 0) 51 15 0).1 51 11) = ((sput (sput (sput s 51 12 (s.1 51 11)) 51 14 0) 51 15 0).1 51 9) → ((vp_in ((sput (sput (sput s 51 12 (s.1 51 11)) 51 14 0) 51 15 0).1 51 11) (alen 56)) ∧ ((¬ (b_X11_in (sput (sput (sput s 51 12 (s.1 51 11)) 51 14 0) 51 15 0) ((sput (sput (sput s 51 12 (s.1 51 11)) 51 14 0) 51 15 0).1 56 (Int32.toNatClampNeg ((sput (sput (sput s 51 12 (s.1 51 11)) 51 14 0) 51 15 0).1 51 11))) 97 122) → ((vp_in ((sput (sput (sput s 51 12 (s.1 51 11)) 51 14 0) 51 15 0).1 51 11) (alen 56)) ∧ ((¬ (b_X11_in (sput (sput (sput s 51 12 (s.1 51 11)) 51 14 0) 51 15 0) ((sput (sput (sput s 51 12 (s.1 51 11)) 51 14 0) 51 15 0).1 56 (Int32.toNatClampNeg ((sput (sput (sput s 51 12 (s.1 51 11)) 51 14 0) 51 15 0).1 51 11))) 48 57) → ((vp_in ((sput (sput (sput s 51 12 (s.1 51 11)) 51 14 0) 51 15 0).1 51 11) (alen 56)) ∧ ((((sput (sput (sput s 51 12 (s.1 51 11)) 51 14 0) 51 15 0).1 56 (Int32.toNatClampNeg ((sput (sput (sput s 51 12 (s.1 51 11)) 51 14 0) 51 15 0).1 51 11))) = 59 → Q (sput ((sput (sput (sput s 51 12 (s.1 51 11)) 51 14 0) 51 15 0).1, (-3)) 51 11 ((((sput (sput (sput s 51 12 (s.1 51 11)) 51 14 0) 51 15 0).1, (-3)).1 51 11) + 1))) ∧ (¬ ((sput (sput (sput s 51 12 (s.1 51 11)) 51 14 0) 51 15 0).1 56 (Int32.toNatClampNeg ((sput (sput (sput s 51 12 (s.1 51 11)) 51 14 0) 51 15 0).1 51 11))) = 59 → Q (sput ((sput (sput (sput s 51 12 (s.1 51 11)) 51 14 0) 51 15 0).1, (-4)) 51 11 ((((sput (sput (sput s 51 12 (s.1 51 11)) 51 14 0) 51 15 0).1, (-4)).1 51 11) + 1)))))) ∧ ((b_X11_in (sput (sput (sput s 51 12 (s.1 51 11)) 51 14 0) 51 15 0) ((sput (sput (sput s 51 12 (s.1 51 11)) 51 14 0) 51 15 0).1 56 (Int32.toNatClampNeg ((sput (sput (sput s 51 12 (s.1 51 11)) 51 14 0) 51 15 0).1 51 11))) 48 57) → AtA l G (d + 2) sX11_nextToken 219 [.ref 51] [] (sput (sput (sput s 51 12 (s.1 51 11)) 51 14 0) 51 15 0) (pV Q))))) ∧ ((b_X11_in (sput (sput (sput s 51 12 (s.1 51 11)) 51 14 0) 51 15 0) ((sput (sput (sput s 51 12 (s.1 51 11)) 51 14 0) 51 15 0).1 56 (Int32.toNatClampNeg ((sput (sput (sput s 51 12 (s.1 51 11)) 51 14 0) 51 15 0).1 51 11))) 97 122) → AtA l G (d + 2) sX11_nextToken 101 [.ref 51] [] ((sput (sput (sput s 51 12 (s.1 51 11)) 51 14 0) 51 15 0).1, 0) (pV Q))))))))) : AtA l G (d + 2) sX11_nextToken 0 [.ref 51] [] s (pV Q) := by
  have key : (((s.1 51 11) < (s.1 51 9) → ((vp_in (s.1 51 11) (alen 56)) ∧ (((s.1 56 (Int32.toNatClampNeg (s.1 51 11))) = 32 → AtA l G (d + 2) sX11_nextToken 0 [.ref 51] [] (sput s 51 11 ((s.1 51 11) + 1)) (pV Q)) ∧ (¬ (s.1 56 (Int32.toNatClampNeg (s.1 51 11))) = 32 → ((((sput (sput (sput s 51 12 (s.1 51 11)) 51 14 0) 51 15 0).1 51 11) = ((sput (sput (sput s 51 12 (s.1 51 11)) 51 14 0) 51 15 0).1 51 9) → Q ((sput (sput (sput s 51 12 (s.1 51 11)) 51 14 0) 51 15 0).1, (-2))) ∧ (¬ ((sput (sput (sput s 51 12 (s.1 51 11)) 51 14 0) 51 15 0).1 51 11) = ((sput (sput (sput s 51 12 (s.1 51 11)) 51 14 0) 51 15 0).1 51 9) → ((vp_in ((sput (sput (sput s 51 12 (s.1 51 11)) 51 14 0) 51 15 0).1 51 11) (alen 56)) ∧ DoesI l G (d + 1) 131 [.int ((sput (sput (sput s 51 12 (s.1 51 11)) 51 14 0) 51 15 0).1 56 (Int32.toNatClampNeg ((sput (sput (sput s 51 12 (s.1 51 11)) 51 14 0) 51 15 0).1 51 11))), .int 97, .int 122] (sput (sput (sput s 51 12 (s.1 51 11)) 51 14 0) 51 15 0) (fun r1 s1 => ((r1 = 0 → ((vp_in (s1.1 51 11) (alen 56)) ∧ DoesI l G (d + 1) 131 [.int (s1.1 56 (Int32.toNatClampNeg (s1.1 51 11))), .int 48, .int 57] s1 (fun r2 s2 => ((r2 = 0 → ((vp_in (s2.1 51 11) (alen 56)) ∧ (((s2.1 56 (Int32.toNatClampNeg (s2.1 51 11))) = 59 → Q (sput (s2.1, (-3)) 51 11 (((s2.1, (-3)).1 51 11) + 1))) ∧ (¬ (s2.1 56 (Int32.toNatClampNeg (s2.1 51 11))) = 59 → Q (sput (s2.1, (-4)) 51 11 (((s2.1, (-4)).1 51 11) + 1)))))) ∧ (¬ r2 = 0 → AtA l G (d + 2) sX11_nextToken 219 [.ref 51] [] s2 (pV Q)))))) ∧ (¬ r1 = 0 → AtA l G (d + 2) sX11_nextToken 101 [.ref 51] [] (s1.1, 0) (pV Q))))))))))) ∧ (¬ (s.1 51 11) < (s.1 51 9) → ((((sput (sput (sput s 51 12 (s.1 51 11)) 51 14 0) 51 15 0).1 51 11) = ((sput (sput (sput s 51 12 (s.1 51 11)) 51 14 0) 51 15 0).1 51 9) → Q ((sput (sput (sput s 51 12 (s.1 51 11)) 51 14 0) 51 15 0).1, (-2))) ∧ (¬ ((sput (sput (sput s 51 12 (s.1 51 11)) 51 14 0) 51 15 0).1 51 11) = ((sput (sput (sput s 51 12 (s.1 51 11)) 51 14 0) 51 15 0).1 51 9) → ((vp_in ((sput (sput (sput s 51 12 (s.1 51 11)) 51 14 0) 51 15 0).1 51 11) (alen 56)) ∧ DoesI l G (d + 1) 131 [.int ((sput (sput (sput s 51 12 (s.1 51 11)) 51 14 0) 51 15 0).1 56 (Int32.toNatClampNeg ((sput (sput (sput s 51 12 (s.1 51 11)) 51 14 0) 51 15 0).1 51 11))), .int 97, .int 122] (sput (sput (sput s 51 12 (s.1 51 11)) 51 14 0) 51 15 0) (fun r3 s3 => ((r3 = 0 → ((vp_in (s3.1 51 11) (alen 56)) ∧ DoesI l G (d + 1) 131 [.int (s3.1 56 (Int32.toNatClampNeg (s3.1 51 11))), .int 48, .int 57] s3 (fun r4 s4 => ((r4 = 0 → ((vp_in (s4.1 51 11) (alen 56)) ∧ (((s4.1 56 (Int32.toNatClampNeg (s4.1 51 11))) = 59 → Q (sput (s4.1, (-3)) 51 11 (((s4.1, (-3)).1 51 11) + 1))) ∧ (¬ (s4.1 56 (Int32.toNatClampNeg (s4.1 51 11))) = 59 → Q (sput (s4.1, (-4)) 51 11 (((s4.1, (-4)).1 51 11) + 1)))))) ∧ (¬ r4 = 0 → AtA l G (d + 2) sX11_nextToken 219 [.ref 51] [] s4 (pV Q)))))) ∧ (¬ r3 = 0 → AtA l G (d + 2) sX11_nextToken 101 [.ref 51] [] (s3.1, 0) (pV Q))))))))) := ⟨fun z1 => ⟨(h.1 z1).1, ⟨fun z2 => ((h.1 z1).2.1 z2), fun z2 => ⟨fun z3 => (((h.1 z1).2.2 z2).1 z3), fun z3 => ⟨(((h.1 z1).2.2 z2).2 z3).1, (p_X11_in ((sput (sput (sput s 51 12 (s.1 51 11)) 51 14 0) 51 15 0).1 56 (Int32.toNatClampNeg ((sput (sput (sput s 51 12 (s.1 51 11)) 51 14 0) 51 15 0).1 51 11))) 97 122 (sput (sput (sput s 51 12 (s.1 51 11)) 51 14 0) 51 15 0) ⟨fun z4 => ⟨((((h.1 z1).2.2 z2).2 z3).2.1 (bI_n z4)).1, (p_X11_in ((sput (sput (sput s 51 12 (s.1 51 11)) 51 14 0) 51 15 0).1 56 (Int32.toNatClampNeg ((sput (sput (sput s 51 12 (s.1 51 11)) 51 14 0) 51 15 0).1 51 11))) 48 57 (sput (sput (sput s 51 12 (s.1 51 11)) 51 14 0) 51 15 0) ⟨fun z5 => ⟨(((((h.1 z1).2.2 z2).2 z3).2.1 (bI_n z4)).2.1 (bI_n z5)).1, ⟨fun z6 => ((((((h.1 z1).2.2 z2).2 z3).2.1 (bI_n z4)).2.1 (bI_n z5)).2.1 z6), fun z6 => ((((((h.1 z1).2.2 z2).2 z3).2.1 (bI_n z4)).2.1 (bI_n z5)).2.2 z6)⟩⟩, fun z5 => (((((h.1 z1).2.2 z2).2 z3).2.1 (bI_n z4)).2.2 (bI_p z5))⟩)⟩, fun z4 => ((((h.1 z1).2.2 z2).2 z3).2.2 (bI_p z4))⟩)⟩⟩⟩⟩, fun z1 => ⟨fun z7 => ((h.2 z1).1 z7), fun z7 => ⟨((h.2 z1).2 z7).1, (p_X11_in ((sput (sput (sput s 51 12 (s.1 51 11)) 51 14 0) 51 15 0).1 56 (Int32.toNatClampNeg ((sput (sput (sput s 51 12 (s.1 51 11)) 51 14 0) 51 15 0).1 51 11))) 97 122 (sput (sput (sput s 51 12 (s.1 51 11)) 51 14 0) 51 15 0) ⟨fun z8 => ⟨(((h.2 z1).2 z7).2.1 (bI_n z8)).1, (p_X11_in ((sput (sput (sput s 51 12 (s.1 51 11)) 51 14 0) 51 15 0).1 56 (Int32.toNatClampNeg ((sput (sput (sput s 51 12 (s.1 51 11)) 51 14 0) 51 15 0).1 51 11))) 48 57 (sput (sput (sput s 51 12 (s.1 51 11)) 51 14 0) 51 15 0) ⟨fun z9 => ⟨((((h.2 z1).2 z7).2.1 (bI_n z8)).2.1 (bI_n z9)).1, ⟨fun z10 => (((((h.2 z1).2 z7).2.1 (bI_n z8)).2.1 (bI_n z9)).2.1 z10), fun z10 => (((((h.2 z1).2 z7).2.1 (bI_n z8)).2.1 (bI_n z9)).2.2 z10)⟩⟩, fun z9 => ((((h.2 z1).2 z7).2.1 (bI_n z8)).2.2 (bI_p z9))⟩)⟩, fun z8 => (((h.2 z1).2 z7).2.2 (bI_p z8))⟩)⟩⟩⟩
  all_goals exact wp_sound (rt := .int) (stops := [0, 101, 219]) (tbl := tX11_nextToken) oX11_nextToken rk_X11_nextToken 64 0 _ _ _ key
set_option maxRecDepth 100000 in
theorem r_X11_addWord {l : Launch} {G : Geo} {d : Nat} (x1 : Int32) (x2 : Int32)  (s : St) {Q : St → Prop} (h : ((vp_in (s.1 51 4) (alen 53)) ∧ AtA l G (d + 2) sX11_addWord 12 [.ref 51, .int x1, .int x2, .int 0] [] (sput s 53 (Int32.toNatClampNeg (s.1 51 4)) x1) (pV Q))) : DoesV l G (d + 2) 147 [.ref 51, .int x1, .int x2] s Q := by
  have key : ((vp_in (s.1 51 4) (alen 53)) ∧ AtA l G (d + 2) sX11_addWord 12 [.ref 51, .int x1, .int x2, .int 0] [] (sput s 53 (Int32.toNatClampNeg (s.1 51 4)) x1) (pV Q)) := h
  all_goals exact does_wp 10 (g := sX11_addWord) (rt := .int) (stops := [12]) (tbl := tX11_addWord) rfl oX11_addWord rk_X11_addWord (Nat.le_of_ble_eq_true rfl) key
set_option maxRecDepth 100000 in
theorem r_X11_addWord_12 {l : Launch} {G : Geo} {d : Nat} (v1 : Int32) (v2 : Int32) (v3 : Int32)  (s : St) {Q : St → Prop} (h : (((v2 + v3) < (s.1 51 9) → ((vp_in (v2 + v3) (alen 56)) ∧ ((¬ (b_X11_in s (s.1 56 (Int32.toNatClampNeg (v2 + v3))) 97 122) → ((vp_in (s.1 51 4) (alen 54)) ∧ Q (sput (sput s 54 (Int32.toNatClampNeg (s.1 51 4)) v3) 51 4 (((sput s 54 (Int32.toNatClampNeg (s.1 51 4)) v3).1 51 4) + 1)))) ∧ ((b_X11_in s (s.1 56 (Int32.toNatClampNeg (v2 + v3))) 97 122) → ((vp_in (v2 + v3) (alen 56)) ∧ ((vp_in ((10 * (s.1 51 4)) + v3) (alen 55)) ∧ AtA l G (d + 2) sX11_addWord 12 [.ref 51, .int v1, .int v2, .int (v3 + 1)] [] (sput s 55 (Int32.toNatClampNeg ((10 * (s.1 51 4)) + v3)) ((s.1 56 (Int32.toNatClampNeg (v2 + v3))) - 96)) (pV Q))))))) ∧ (¬ (v2 + v3) < (s.1 51 9) → ((vp_in (s.1 51 4) (alen 54)) ∧ Q (sput (sput s 54 (Int32.toNatClampNeg (s.1 51 4)) v3) 51 4 (((sput s 54 (Int32.toNatClampNeg (s.1 51 4)) v3).1 51 4) + 1)))))) : AtA l G (d + 2) sX11_addWord 12 [.ref 51, .int v1, .int v2, .int v3] [] s (pV Q) := by
  have key : (((v2 + v3) < (s.1 51 9) → ((vp_in (v2 + v3) (alen 56)) ∧ DoesI l G (d + 1) 131 [.int (s.1 56 (Int32.toNatClampNeg (v2 + v3))), .int 97, .int 122] s (fun r1 s1 => ((r1 = 0 → ((vp_in (s1.1 51 4) (alen 54)) ∧ Q (sput (sput s1 54 (Int32.toNatClampNeg (s1.1 51 4)) v3) 51 4 (((sput s1 54 (Int32.toNatClampNeg (s1.1 51 4)) v3).1 51 4) + 1)))) ∧ (¬ r1 = 0 → ((vp_in (v2 + v3) (alen 56)) ∧ ((vp_in ((10 * (s1.1 51 4)) + v3) (alen 55)) ∧ AtA l G (d + 2) sX11_addWord 12 [.ref 51, .int v1, .int v2, .int (v3 + 1)] [] (sput s1 55 (Int32.toNatClampNeg ((10 * (s1.1 51 4)) + v3)) ((s1.1 56 (Int32.toNatClampNeg (v2 + v3))) - 96)) (pV Q)))))))) ∧ (¬ (v2 + v3) < (s.1 51 9) → ((vp_in (s.1 51 4) (alen 54)) ∧ Q (sput (sput s 54 (Int32.toNatClampNeg (s.1 51 4)) v3) 51 4 (((sput s 54 (Int32.toNatClampNeg (s.1 51 4)) v3).1 51 4) + 1))))) := ⟨fun z1 => ⟨(h.1 z1).1, (p_X11_in (s.1 56 (Int32.toNatClampNeg (v2 + v3))) 97 122 s ⟨fun z2 => ⟨((h.1 z1).2.1 (bI_n z2)).1, ((h.1 z1).2.1 (bI_n z2)).2⟩, fun z2 => ⟨((h.1 z1).2.2 (bI_p z2)).1, ⟨((h.1 z1).2.2 (bI_p z2)).2.1, ((h.1 z1).2.2 (bI_p z2)).2.2⟩⟩⟩)⟩, fun z1 => ⟨(h.2 z1).1, (h.2 z1).2⟩⟩
  all_goals exact wp_sound (rt := .int) (stops := [12]) (tbl := tX11_addWord) oX11_addWord rk_X11_addWord 37 12 _ _ _ key
set_option maxRecDepth 100000 in
theorem r_X11_readingMany {l : Launch} {G : Geo} {d : Nat}   (s : St) {Q : Int32 → St → Prop} (h : AtA l G (d + 2) sX11_readingMany 4 [.ref 51, .int 0, .int 0] [] s (pI Q)) : DoesI l G (d + 2) 169 [.ref 51] s Q := by
  have key : AtA l G (d + 2) sX11_readingMany 4 [.ref 51, .int 0, .int 0] [] s (pI Q) := h
  all_goals exact does_wp 6 (g := sX11_readingMany) (rt := .int) (stops := [4]) (tbl := tX11_readingMany) rfl oX11_readingMany rk_X11_readingMany (Nat.le_of_ble_eq_true rfl) key
set_option maxRecDepth 100000 in
theorem r_X11_readingMany_4 {l : Launch} {G : Geo} {d : Nat} (v1 : Int32) (v2 : Int32)  (s : St) {Q : Int32 → St → Prop} (h : ((v2 < (s.1 51 4) → ((0 < (s.1 51 26) → ((vp_in (v_X11_waysAt s 6 0 v2) (alen 64)) ∧ AtA l G (d + 2) sX11_readingMany 4 [.ref 51, .int (v1 + (s.1 64 (Int32.toNatClampNeg (v_X11_waysAt s 6 0 v2)))), .int (v2 + 1)] [] s (pI Q))) ∧ (¬ 0 < (s.1 51 26) → Q v1 s))) ∧ (¬ v2 < (s.1 51 4) → Q v1 s))) : AtA l G (d + 2) sX11_readingMany 4 [.ref 51, .int v1, .int v2] [] s (pI Q) := by
  have key : ((v2 < (s.1 51 4) → ((0 < (s.1 51 26) → DoesI l G (d + 1) 167 [.ref 51, .int 6, .int 0, .int v2] s (fun r1 s1 => ((vp_in r1 (alen 64)) ∧ AtA l G (d + 2) sX11_readingMany 4 [.ref 51, .int (v1 + (s1.1 64 (Int32.toNatClampNeg r1))), .int (v2 + 1)] [] s1 (pI Q)))) ∧ (¬ 0 < (s.1 51 26) → Q v1 s))) ∧ (¬ v2 < (s.1 51 4) → Q v1 s)) := ⟨fun z1 => ⟨fun z2 => (p_X11_waysAt 6 0 v2 s ⟨((h.1 z1).1 z2).1, ((h.1 z1).1 z2).2⟩), fun z2 => ((h.1 z1).2 z2)⟩, fun z1 => (h.2 z1)⟩
  all_goals exact wp_sound (rt := .int) (stops := [4]) (tbl := tX11_readingMany) oX11_readingMany rk_X11_readingMany 22 4 _ _ _ key
set_option maxRecDepth 100000 in
theorem r_X11_wordBy {l : Launch} {G : Geo} {d : Nat} (x1 : Int32) (x2 : Int32)  (s : St) {Q : Int32 → St → Prop} (h : AtA l G (d + 2) sX11_wordBy 2 [.ref 51, .int x1, .int x2, .int 0, .null, .null, .null] [] s (pI Q)) : DoesI l G (d + 2) 174 [.ref 51, .int x1, .int x2] s Q := by
  have key : AtA l G (d + 2) sX11_wordBy 2 [.ref 51, .int x1, .int x2, .int 0, .null, .null, .null] [] s (pI Q) := h
  all_goals exact does_wp 4 (g := sX11_wordBy) (rt := .int) (stops := [2, 19]) (tbl := tX11_wordBy) rfl oX11_wordBy rk_X11_wordBy (Nat.le_of_ble_eq_true rfl) key
set_option maxRecDepth 100000 in
theorem r_X11_wordBy_2 {l : Launch} {G : Geo} {d : Nat} (v1 : Int32) (v2 : Int32) (v3 : Int32)  (s : St) {Q : Int32 → St → Prop} (h : ((v3 < (s.1 51 4) → AtA l G (d + 2) sX11_wordBy 19 [.ref 51, .int v1, .int v2, .int v3, .int 0, .int 1, .int 0] [] s (pI Q)) ∧ (¬ v3 < (s.1 51 4) → Q (-1) s))) : AtA l G (d + 2) sX11_wordBy 2 [.ref 51, .int v1, .int v2, .int v3, .null, .null, .null] [] s (pI Q) := by
  have key : ((v3 < (s.1 51 4) → AtA l G (d + 2) sX11_wordBy 19 [.ref 51, .int v1, .int v2, .int v3, .int 0, .int 1, .int 0] [] s (pI Q)) ∧ (¬ v3 < (s.1 51 4) → Q (-1) s)) := h
  all_goals exact wp_sound (rt := .int) (stops := [2, 19]) (tbl := tX11_wordBy) oX11_wordBy rk_X11_wordBy 12 2 _ _ _ key
set_option maxRecDepth 100000 in
theorem r_X11_wordBy_19 {l : Launch} {G : Geo} {d : Nat} (v1 : Int32) (v2 : Int32) (v3 : Int32) (v4 : Int32) (v5 : Int32) (v6 : Int32)  (s : St) {Q : Int32 → St → Prop} (h : ((vp_in v1 (alen 54)) ∧ ((v6 < (s.1 54 (Int32.toNatClampNeg v1)) → ((¬ (s.1 51 0) = 0) ∧ ((¬ (b_X11_has s v2 (v6 - v6 / (s.1 51 0) * (s.1 51 0))) → AtA l G (d + 2) sX11_wordBy 19 [.ref 51, .int v1, .int v2, .int v3, .int v4, .int v5, .int (v6 + 1)] [] s (pI Q)) ∧ ((b_X11_has s v2 (v6 - v6 / (s.1 51 0) * (s.1 51 0))) → ((v5 = 0 → AtA l G (d + 2) sX11_wordBy 19 [.ref 51, .int v1, .int v2, .int v3, .int (v4 + 1), .int 0, .int (v6 + 1)] [] s (pI Q)) ∧ (¬ v5 = 0 → ((vp_in v3 (alen 54)) ∧ ((v4 < (s.1 54 (Int32.toNatClampNeg v3)) → ((vp_in ((10 * v3) + v4) (alen 55)) ∧ ((vp_in ((10 * v1) + v6) (alen 55)) ∧ (((s.1 55 (Int32.toNatClampNeg ((10 * v3) + v4))) = (s.1 55 (Int32.toNatClampNeg ((10 * v1) + v6))) → AtA l G (d + 2) sX11_wordBy 19 [.ref 51, .int v1, .int v2, .int v3, .int (v4 + 1), .int 1, .int (v6 + 1)] [] s (pI Q)) ∧ (¬ (s.1 55 (Int32.toNatClampNeg ((10 * v3) + v4))) = (s.1 55 (Int32.toNatClampNeg ((10 * v1) + v6))) → AtA l G (d + 2) sX11_wordBy 19 [.ref 51, .int v1, .int v2, .int v3, .int (v4 + 1), .int 0, .int (v6 + 1)] [] s (pI Q)))))) ∧ (¬ v4 < (s.1 54 (Int32.toNatClampNeg v3)) → AtA l G (d + 2) sX11_wordBy 19 [.ref 51, .int v1, .int v2, .int v3, .int (v4 + 1), .int 0, .int (v6 + 1)] [] s (pI Q)))))))))) ∧ (¬ v6 < (s.1 54 (Int32.toNatClampNeg v1)) → ((v5 = 0 → AtA l G (d + 2) sX11_wordBy 2 [.ref 51, .int v1, .int v2, .int (v3 + 1), .null, .null, .null] [] s (pI Q)) ∧ (¬ v5 = 0 → ((vp_in v3 (alen 54)) ∧ ((v4 = (s.1 54 (Int32.toNatClampNeg v3)) → Q v3 s) ∧ (¬ v4 = (s.1 54 (Int32.toNatClampNeg v3)) → AtA l G (d + 2) sX11_wordBy 2 [.ref 51, .int v1, .int v2, .int (v3 + 1), .null, .null, .null] [] s (pI Q)))))))))) : AtA l G (d + 2) sX11_wordBy 19 [.ref 51, .int v1, .int v2, .int v3, .int v4, .int v5, .int v6] [] s (pI Q) := by
  have key : ((vp_in v1 (alen 54)) ∧ ((v6 < (s.1 54 (Int32.toNatClampNeg v1)) → ((¬ (s.1 51 0) = 0) ∧ DoesI l G (d + 1) 132 [.int v2, .int (v6 - v6 / (s.1 51 0) * (s.1 51 0))] s (fun r1 s1 => ((r1 = 0 → AtA l G (d + 2) sX11_wordBy 19 [.ref 51, .int v1, .int v2, .int v3, .int v4, .int v5, .int (v6 + 1)] [] s1 (pI Q)) ∧ (¬ r1 = 0 → ((v5 = 0 → AtA l G (d + 2) sX11_wordBy 19 [.ref 51, .int v1, .int v2, .int v3, .int (v4 + 1), .int 0, .int (v6 + 1)] [] s1 (pI Q)) ∧ (¬ v5 = 0 → ((vp_in v3 (alen 54)) ∧ ((v4 < (s1.1 54 (Int32.toNatClampNeg v3)) → ((vp_in ((10 * v3) + v4) (alen 55)) ∧ ((vp_in ((10 * v1) + v6) (alen 55)) ∧ (((s1.1 55 (Int32.toNatClampNeg ((10 * v3) + v4))) = (s1.1 55 (Int32.toNatClampNeg ((10 * v1) + v6))) → AtA l G (d + 2) sX11_wordBy 19 [.ref 51, .int v1, .int v2, .int v3, .int (v4 + 1), .int 1, .int (v6 + 1)] [] s1 (pI Q)) ∧ (¬ (s1.1 55 (Int32.toNatClampNeg ((10 * v3) + v4))) = (s1.1 55 (Int32.toNatClampNeg ((10 * v1) + v6))) → AtA l G (d + 2) sX11_wordBy 19 [.ref 51, .int v1, .int v2, .int v3, .int (v4 + 1), .int 0, .int (v6 + 1)] [] s1 (pI Q)))))) ∧ (¬ v4 < (s1.1 54 (Int32.toNatClampNeg v3)) → AtA l G (d + 2) sX11_wordBy 19 [.ref 51, .int v1, .int v2, .int v3, .int (v4 + 1), .int 0, .int (v6 + 1)] [] s1 (pI Q))))))))))) ∧ (¬ v6 < (s.1 54 (Int32.toNatClampNeg v1)) → ((v5 = 0 → AtA l G (d + 2) sX11_wordBy 2 [.ref 51, .int v1, .int v2, .int (v3 + 1), .int v4, .int v5, .int v6] [] s (pI Q)) ∧ (¬ v5 = 0 → ((vp_in v3 (alen 54)) ∧ ((v4 = (s.1 54 (Int32.toNatClampNeg v3)) → Q v3 s) ∧ (¬ v4 = (s.1 54 (Int32.toNatClampNeg v3)) → AtA l G (d + 2) sX11_wordBy 2 [.ref 51, .int v1, .int v2, .int (v3 + 1), .int v4, .int v5, .int v6] [] s (pI Q))))))))) := ⟨h.1, ⟨fun z1 => ⟨(h.2.1 z1).1, (p_X11_has v2 (v6 - v6 / (s.1 51 0) * (s.1 51 0)) s ⟨fun z2 => ((h.2.1 z1).2.1 (bI_n z2)), fun z2 => ⟨fun z3 => (((h.2.1 z1).2.2 (bI_p z2)).1 z3), fun z3 => ⟨(((h.2.1 z1).2.2 (bI_p z2)).2 z3).1, ⟨fun z4 => ⟨((((h.2.1 z1).2.2 (bI_p z2)).2 z3).2.1 z4).1, ⟨((((h.2.1 z1).2.2 (bI_p z2)).2 z3).2.1 z4).2.1, ⟨fun z5 => (((((h.2.1 z1).2.2 (bI_p z2)).2 z3).2.1 z4).2.2.1 z5), fun z5 => (((((h.2.1 z1).2.2 (bI_p z2)).2 z3).2.1 z4).2.2.2 z5)⟩⟩⟩, fun z4 => ((((h.2.1 z1).2.2 (bI_p z2)).2 z3).2.2 z4)⟩⟩⟩⟩)⟩, fun z1 => ⟨fun z6 => (at_weak2 ((h.2.2 z1).1 z6) (by simp [wk])), fun z6 => ⟨((h.2.2 z1).2 z6).1, ⟨fun z7 => (((h.2.2 z1).2 z6).2.1 z7), fun z7 => (at_weak2 (((h.2.2 z1).2 z6).2.2 z7) (by simp [wk]))⟩⟩⟩⟩⟩
  all_goals exact wp_sound (rt := .int) (stops := [2, 19]) (tbl := tX11_wordBy) oX11_wordBy rk_X11_wordBy 46 19 _ _ _ key
set_option maxRecDepth 100000 in
theorem r_X11_spoilt {l : Launch} {G : Geo} {d : Nat}   (s : St) {Q : Int32 → St → Prop} (h : AtA l G (d + 2) sX11_spoilt 4 [.ref 51, .int 0, .int 0, .null, .null] [] s (pI Q)) : DoesI l G (d + 2) 181 [.ref 51] s Q := by
  have key : AtA l G (d + 2) sX11_spoilt 4 [.ref 51, .int 0, .int 0, .null, .null] [] s (pI Q) := h
  all_goals exact does_wp 6 (g := sX11_spoilt) (rt := .int) (stops := [4, 14]) (tbl := tX11_spoilt) rfl oX11_spoilt rk_X11_spoilt (Nat.le_of_ble_eq_true rfl) key
set_option maxRecDepth 100000 in
theorem r_X11_spoilt_4 {l : Launch} {G : Geo} {d : Nat} (v1 : Int32) (v2 : Int32)  (s : St) {Q : Int32 → St → Prop} (h : ((v2 < (s.1 51 4) → AtA l G (d + 2) sX11_spoilt 14 [.ref 51, .int v1, .int v2, .int 0, .null] [] s (pI Q)) ∧ (¬ v2 < (s.1 51 4) → Q v1 s))) : AtA l G (d + 2) sX11_spoilt 4 [.ref 51, .int v1, .int v2, .null, .null] [] s (pI Q) := by
  have key : ((v2 < (s.1 51 4) → AtA l G (d + 2) sX11_spoilt 14 [.ref 51, .int v1, .int v2, .int 0, .null] [] s (pI Q)) ∧ (¬ v2 < (s.1 51 4) → Q v1 s)) := h
  all_goals exact wp_sound (rt := .int) (stops := [4, 14]) (tbl := tX11_spoilt) oX11_spoilt rk_X11_spoilt 8 4 _ _ _ key
set_option maxRecDepth 100000 in
theorem r_X11_spoilt_14 {l : Launch} {G : Geo} {d : Nat} (v1 : Int32) (v2 : Int32) (v3 : Int32)  (s : St) {Q : Int32 → St → Prop} (h : ((vp_in v2 (alen 54)) ∧ ((v3 < (s.1 54 (Int32.toNatClampNeg v2)) → ((¬ (s.1 51 0) = 0) ∧ ((vp_in (v3 - v3 / (s.1 51 0) * (s.1 51 0)) (alen 66)) ∧ ((¬ (b_X11_has s (s.1 51 1) (s.1 66 (Int32.toNatClampNeg (v3 - v3 / (s.1 51 0) * (s.1 51 0))))) → ((¬ (b_X11_has s (s.1 51 2) (s.1 66 (Int32.toNatClampNeg (v3 - v3 / (s.1 51 0) * (s.1 51 0))))) → AtA l G (d + 2) sX11_spoilt 14 [.ref 51, .int (v1 + 0), .int v2, .int (v3 + 1), .null] [] s (pI Q)) ∧ ((b_X11_has s (s.1 51 2) (s.1 66 (Int32.toNatClampNeg (v3 - v3 / (s.1 51 0) * (s.1 51 0))))) → ((¬ (s.1 51 0) = 0) ∧ ((((v3 / (s.1 51 0)) - (v3 / (s.1 51 0)) / 2 * 2) = 1 → AtA l G (d + 2) sX11_spoilt 14 [.ref 51, .int (v1 + 1), .int v2, .int (v3 + 1), .null] [] s (pI Q)) ∧ (¬ ((v3 / (s.1 51 0)) - (v3 / (s.1 51 0)) / 2 * 2) = 1 → AtA l G (d + 2) sX11_spoilt 14 [.ref 51, .int (v1 + 0), .int v2, .int (v3 + 1), .null] [] s (pI Q))))))) ∧ ((b_X11_has s (s.1 51 1) (s.1 66 (Int32.toNatClampNeg (v3 - v3 / (s.1 51 0) * (s.1 51 0))))) → AtA l G (d + 2) sX11_spoilt 14 [.ref 51, .int (v1 + 1), .int v2, .int (v3 + 1), .null] [] s (pI Q)))))) ∧ (¬ v3 < (s.1 54 (Int32.toNatClampNeg v2)) → AtA l G (d + 2) sX11_spoilt 4 [.ref 51, .int v1, .int (v2 + 1), .null, .null] [] s (pI Q))))) : AtA l G (d + 2) sX11_spoilt 14 [.ref 51, .int v1, .int v2, .int v3, .null] [] s (pI Q) := by
  have key : ((vp_in v2 (alen 54)) ∧ ((v3 < (s.1 54 (Int32.toNatClampNeg v2)) → ((¬ (s.1 51 0) = 0) ∧ ((vp_in (v3 - v3 / (s.1 51 0) * (s.1 51 0)) (alen 66)) ∧ DoesI l G (d + 1) 132 [.int (s.1 51 1), .int (s.1 66 (Int32.toNatClampNeg (v3 - v3 / (s.1 51 0) * (s.1 51 0))))] s (fun r1 s1 => ((r1 = 0 → DoesI l G (d + 1) 132 [.int (s1.1 51 2), .int (s.1 66 (Int32.toNatClampNeg (v3 - v3 / (s.1 51 0) * (s.1 51 0))))] s1 (fun r2 s2 => ((r2 = 0 → AtA l G (d + 2) sX11_spoilt 14 [.ref 51, .int (v1 + 0), .int v2, .int (v3 + 1), .int (s.1 66 (Int32.toNatClampNeg (v3 - v3 / (s.1 51 0) * (s.1 51 0))))] [] s2 (pI Q)) ∧ (¬ r2 = 0 → ((¬ (s2.1 51 0) = 0) ∧ ((¬ (2 : Int32) = 0) ∧ ((((v3 / (s2.1 51 0)) - (v3 / (s2.1 51 0)) / 2 * 2) = 1 → AtA l G (d + 2) sX11_spoilt 14 [.ref 51, .int (v1 + 1), .int v2, .int (v3 + 1), .int (s.1 66 (Int32.toNatClampNeg (v3 - v3 / (s.1 51 0) * (s.1 51 0))))] [] s2 (pI Q)) ∧ (¬ ((v3 / (s2.1 51 0)) - (v3 / (s2.1 51 0)) / 2 * 2) = 1 → AtA l G (d + 2) sX11_spoilt 14 [.ref 51, .int (v1 + 0), .int v2, .int (v3 + 1), .int (s.1 66 (Int32.toNatClampNeg (v3 - v3 / (s.1 51 0) * (s.1 51 0))))] [] s2 (pI Q))))))))) ∧ (¬ r1 = 0 → AtA l G (d + 2) sX11_spoilt 14 [.ref 51, .int (v1 + 1), .int v2, .int (v3 + 1), .int (s.1 66 (Int32.toNatClampNeg (v3 - v3 / (s.1 51 0) * (s.1 51 0))))] [] s1 (pI Q))))))) ∧ (¬ v3 < (s.1 54 (Int32.toNatClampNeg v2)) → AtA l G (d + 2) sX11_spoilt 4 [.ref 51, .int v1, .int (v2 + 1), .int v3, .null] [] s (pI Q)))) := ⟨h.1, ⟨fun z1 => ⟨(h.2.1 z1).1, ⟨(h.2.1 z1).2.1, (p_X11_has (s.1 51 1) (s.1 66 (Int32.toNatClampNeg (v3 - v3 / (s.1 51 0) * (s.1 51 0)))) s ⟨fun z2 => (p_X11_has (s.1 51 2) (s.1 66 (Int32.toNatClampNeg (v3 - v3 / (s.1 51 0) * (s.1 51 0)))) s ⟨fun z3 => (at_weak2 (((h.2.1 z1).2.2.1 (bI_n z2)).1 (bI_n z3)) (by simp [wk])), fun z3 => ⟨(((h.2.1 z1).2.2.1 (bI_n z2)).2 (bI_p z3)).1, ⟨(by decide), ⟨fun z4 => (at_weak2 ((((h.2.1 z1).2.2.1 (bI_n z2)).2 (bI_p z3)).2.1 z4) (by simp [wk])), fun z4 => (at_weak2 ((((h.2.1 z1).2.2.1 (bI_n z2)).2 (bI_p z3)).2.2 z4) (by simp [wk]))⟩⟩⟩⟩), fun z2 => (at_weak2 ((h.2.1 z1).2.2.2 (bI_p z2)) (by simp [wk]))⟩)⟩⟩, fun z1 => (at_weak2 (h.2.2 z1) (by simp [wk]))⟩⟩
  all_goals exact wp_sound (rt := .int) (stops := [4, 14]) (tbl := tX11_spoilt) oX11_spoilt rk_X11_spoilt 41 14 _ _ _ key
set_option maxRecDepth 100000 in
theorem r_X11_keep {l : Launch} {G : Geo} {d : Nat} (x1 : Int32)  (s : St) {Q : Int32 → St → Prop} (h : ((¬ (b_X11_in s x1 0 1) → Q (-2) s) ∧ ((b_X11_in s x1 0 1) → ((vp_in (8 * x1) (alen 62)) ∧ ((vp_in ((8 * x1) + 1) (alen 62)) ∧ AtA l G (d + 2) sX11_keep 42 [.ref 51, .int x1, .int 0] [] (sput (sput s 62 (Int32.toNatClampNeg (8 * x1)) (s.1 51 23)) 62 (Int32.toNatClampNeg ((8 * x1) + 1)) ((sput s 62 (Int32.toNatClampNeg (8 * x1)) (s.1 51 23)).1 51 25)) (pI Q)))))) : DoesI l G (d + 2) 186 [.ref 51, .int x1] s Q := by
  have key : DoesI l G (d + 1) 131 [.int x1, .int 0, .int 1] s (fun r1 s1 => ((r1 = 0 → Q (-2) s1) ∧ (¬ r1 = 0 → ((vp_in (8 * x1) (alen 62)) ∧ ((vp_in ((8 * x1) + 1) (alen 62)) ∧ AtA l G (d + 2) sX11_keep 42 [.ref 51, .int x1, .int 0] [] (sput (sput s1 62 (Int32.toNatClampNeg (8 * x1)) (s1.1 51 23)) 62 (Int32.toNatClampNeg ((8 * x1) + 1)) ((sput s1 62 (Int32.toNatClampNeg (8 * x1)) (s1.1 51 23)).1 51 25)) (pI Q)))))) := (p_X11_in x1 0 1 s ⟨fun z1 => (h.1 (bI_n z1)), fun z1 => ⟨(h.2 (bI_p z1)).1, ⟨(h.2 (bI_p z1)).2.1, (h.2 (bI_p z1)).2.2⟩⟩⟩)
  all_goals exact does_wp 27 (g := sX11_keep) (rt := .int) (stops := [42]) (tbl := tX11_keep) rfl oX11_keep rk_X11_keep (Nat.le_of_ble_eq_true rfl) key
set_option maxRecDepth 100000 in
theorem r_X11_keep_42 {l : Launch} {G : Geo} {d : Nat} (v1 : Int32) (v2 : Int32)  (s : St) {Q : Int32 → St → Prop} (h : ((v2 < 6 → ((vp_in v2 (alen 60)) ∧ ((vp_in (((8 * v1) + 2) + v2) (alen 62)) ∧ AtA l G (d + 2) sX11_keep 42 [.ref 51, .int v1, .int (v2 + 1)] [] (sput s 62 (Int32.toNatClampNeg (((8 * v1) + 2) + v2)) (s.1 60 (Int32.toNatClampNeg v2))) (pI Q)))) ∧ (¬ v2 < 6 → ((vp_in v1 (zlen 63)) ∧ Q ((sput s 63 (Int32.toNatClampNeg v1) 1).1 51 25) (sput s 63 (Int32.toNatClampNeg v1) 1))))) : AtA l G (d + 2) sX11_keep 42 [.ref 51, .int v1, .int v2] [] s (pI Q) := by
  have key : ((v2 < 6 → ((vp_in v2 (alen 60)) ∧ ((vp_in (((8 * v1) + 2) + v2) (alen 62)) ∧ AtA l G (d + 2) sX11_keep 42 [.ref 51, .int v1, .int (v2 + 1)] [] (sput s 62 (Int32.toNatClampNeg (((8 * v1) + 2) + v2)) (s.1 60 (Int32.toNatClampNeg v2))) (pI Q)))) ∧ (¬ v2 < 6 → ((vp_in v1 (zlen 63)) ∧ ((vp_nar .boolean 1 = 1) ∧ Q ((sput s 63 (Int32.toNatClampNeg v1) 1).1 51 25) (sput s 63 (Int32.toNatClampNeg v1) 1))))) := ⟨fun z1 => ⟨(h.1 z1).1, ⟨(h.1 z1).2.1, (h.1 z1).2.2⟩⟩, fun z1 => ⟨(h.2 z1).1, ⟨rfl, (h.2 z1).2⟩⟩⟩
  all_goals exact wp_sound (rt := .int) (stops := [42]) (tbl := tX11_keep) oX11_keep rk_X11_keep 21 42 _ _ _ key
set_option maxRecDepth 100000 in
theorem r_X11_back {l : Launch} {G : Geo} {d : Nat} (x1 : Int32)  (s : St) {Q : Int32 → St → Prop} (h : ((¬ (b_X11_in s x1 0 1) → Q (-2) s) ∧ ((b_X11_in s x1 0 1) → ((vp_in x1 (zlen 63)) ∧ (((s.1 63 (Int32.toNatClampNeg x1)) = 0 → Q (-4) s) ∧ (¬ (s.1 63 (Int32.toNatClampNeg x1)) = 0 → ((vp_in (8 * x1) (alen 62)) ∧ ((vp_in ((8 * x1) + 1) (alen 62)) ∧ AtA l G (d + 2) sX11_back 54 [.ref 51, .int x1, .int 0] [] (sput (sput s 51 23 (s.1 62 (Int32.toNatClampNeg (8 * x1)))) 51 25 ((sput s 51 23 (s.1 62 (Int32.toNatClampNeg (8 * x1)))).1 62 (Int32.toNatClampNeg ((8 * x1) + 1)))) (pI Q))))))))) : DoesI l G (d + 2) 187 [.ref 51, .int x1] s Q := by
  have key : DoesI l G (d + 1) 131 [.int x1, .int 0, .int 1] s (fun r1 s1 => ((r1 = 0 → Q (-2) s1) ∧ (¬ r1 = 0 → ((vp_in x1 (zlen 63)) ∧ (((s1.1 63 (Int32.toNatClampNeg x1)) = 0 → Q (-4) s1) ∧ (¬ (s1.1 63 (Int32.toNatClampNeg x1)) = 0 → ((vp_in (8 * x1) (alen 62)) ∧ ((vp_in ((8 * x1) + 1) (alen 62)) ∧ AtA l G (d + 2) sX11_back 54 [.ref 51, .int x1, .int 0] [] (sput (sput s1 51 23 (s1.1 62 (Int32.toNatClampNeg (8 * x1)))) 51 25 ((sput s1 51 23 (s1.1 62 (Int32.toNatClampNeg (8 * x1)))).1 62 (Int32.toNatClampNeg ((8 * x1) + 1)))) (pI Q))))))))) := (p_X11_in x1 0 1 s ⟨fun z1 => (h.1 (bI_n z1)), fun z1 => ⟨(h.2 (bI_p z1)).1, ⟨fun z2 => ((h.2 (bI_p z1)).2.1 z2), fun z2 => ⟨((h.2 (bI_p z1)).2.2 z2).1, ⟨((h.2 (bI_p z1)).2.2 z2).2.1, ((h.2 (bI_p z1)).2.2 z2).2.2⟩⟩⟩⟩⟩)
  all_goals exact does_wp 32 (g := sX11_back) (rt := .int) (stops := [54]) (tbl := tX11_back) rfl oX11_back rk_X11_back (Nat.le_of_ble_eq_true rfl) key
set_option maxRecDepth 100000 in
theorem r_X11_back_54 {l : Launch} {G : Geo} {d : Nat} (v1 : Int32) (v2 : Int32)  (s : St) {Q : Int32 → St → Prop} (h : ((v2 < 6 → ((vp_in (((8 * v1) + 2) + v2) (alen 62)) ∧ ((vp_in v2 (alen 60)) ∧ AtA l G (d + 2) sX11_back 54 [.ref 51, .int v1, .int (v2 + 1)] [] (sput s 60 (Int32.toNatClampNeg v2) (s.1 62 (Int32.toNatClampNeg (((8 * v1) + 2) + v2)))) (pI Q)))) ∧ (¬ v2 < 6 → Q (s.1 51 25) s))) : AtA l G (d + 2) sX11_back 54 [.ref 51, .int v1, .int v2] [] s (pI Q) := by
  have key : ((v2 < 6 → ((vp_in (((8 * v1) + 2) + v2) (alen 62)) ∧ ((vp_in v2 (alen 60)) ∧ AtA l G (d + 2) sX11_back 54 [.ref 51, .int v1, .int (v2 + 1)] [] (sput s 60 (Int32.toNatClampNeg v2) (s.1 62 (Int32.toNatClampNeg (((8 * v1) + 2) + v2)))) (pI Q)))) ∧ (¬ v2 < 6 → Q (s.1 51 25) s)) := h
  all_goals exact wp_sound (rt := .int) (stops := [54]) (tbl := tX11_back) oX11_back rk_X11_back 21 54 _ _ _ key
set_option maxRecDepth 100000 in
theorem r_X11_voice {l : Launch} {G : Geo} {d : Nat} (x1 : Int32) (x2 : Int32)  (s : St) {Q : Int32 → St → Prop} (h : ((¬ (b_X11_isVoice s x1) → Q (-2) s) ∧ ((b_X11_isVoice s x1) → AtA l G (d + 3) sX11_voice 16 [.ref 51, .int x1, .int x2, .int 0, .int x1] [] s (pI Q)))) : DoesI l G (d + 3) 154 [.ref 51, .int x1, .int x2] s Q := by
  have key : DoesI l G (d + 2) 134 [.ref 51, .int x1] s (fun r1 s1 => ((r1 = 0 → Q (-2) s1) ∧ (¬ r1 = 0 → AtA l G (d + 3) sX11_voice 16 [.ref 51, .int x1, .int x2, .int 0, .int x1] [] s1 (pI Q)))) := (p_X11_isVoice x1 s ⟨fun z1 => (h.1 (bI_n z1)), fun z1 => (h.2 (bI_p z1))⟩)
  all_goals exact does_wp 10 (g := sX11_voice) (rt := .int) (stops := [16]) (tbl := tX11_voice) rfl oX11_voice rk_X11_voice (Nat.le_of_ble_eq_true rfl) key
set_option maxRecDepth 100000 in
theorem r_X11_voice_16 {l : Launch} {G : Geo} {d : Nat} (v1 : Int32) (v2 : Int32) (v3 : Int32) (v4 : Int32)  (s : St) {Q : Int32 → St → Prop} (h : ((v4 < (s.1 51 25) → (ok_X11_isSaid s v4 ∧ ((¬ (b_X11_isSaid s v4) → AtA l G (d + 3) sX11_voice 16 [.ref 51, .int v1, .int v2, .int (v3 + 0), .int (v4 + (s.1 51 0))] [] s (pI Q)) ∧ ((b_X11_isSaid s v4) → AtA l G (d + 3) sX11_voice 16 [.ref 51, .int v1, .int v2, .int (v3 + 1), .int (v4 + (s.1 51 0))] [] s (pI Q))))) ∧ (¬ v4 < (s.1 51 25) → ((v2 = 0 → ((¬ (b_X11_has s (s.1 51 1) v1) → Q 0 s) ∧ ((b_X11_has s (s.1 51 1) v1) → Q 1 s))) ∧ (¬ v2 = 0 → ((v2 = 1 → ((¬ (b_X11_has s (s.1 51 2) v1) → Q 0 s) ∧ ((b_X11_has s (s.1 51 2) v1) → Q 1 s))) ∧ (¬ v2 = 1 → ((v2 = 2 → ((vp_in v1 (alen 52)) ∧ Q (s.1 52 (Int32.toNatClampNeg v1)) s)) ∧ (¬ v2 = 2 → ((v2 = 3 → Q v3 s) ∧ (¬ v2 = 3 → Q (-3) s))))))))))) : AtA l G (d + 3) sX11_voice 16 [.ref 51, .int v1, .int v2, .int v3, .int v4] [] s (pI Q) := by
  have key : ((v4 < (s.1 51 25) → DoesI l G (d + 2) 153 [.ref 51, .int v4] s (fun r1 s1 => ((r1 = 0 → AtA l G (d + 3) sX11_voice 16 [.ref 51, .int v1, .int v2, .int (v3 + 0), .int (v4 + (s1.1 51 0))] [] s1 (pI Q)) ∧ (¬ r1 = 0 → AtA l G (d + 3) sX11_voice 16 [.ref 51, .int v1, .int v2, .int (v3 + 1), .int (v4 + (s1.1 51 0))] [] s1 (pI Q))))) ∧ (¬ v4 < (s.1 51 25) → ((v2 = 0 → DoesI l G (d + 2) 132 [.int (s.1 51 1), .int v1] s (fun r3 s3 => ((r3 = 0 → Q 0 s3) ∧ (¬ r3 = 0 → Q 1 s3)))) ∧ (¬ v2 = 0 → ((v2 = 1 → DoesI l G (d + 2) 132 [.int (s.1 51 2), .int v1] s (fun r2 s2 => ((r2 = 0 → Q 0 s2) ∧ (¬ r2 = 0 → Q 1 s2)))) ∧ (¬ v2 = 1 → ((v2 = 2 → ((vp_in v1 (alen 52)) ∧ Q (s.1 52 (Int32.toNatClampNeg v1)) s)) ∧ (¬ v2 = 2 → ((v2 = 3 → Q v3 s) ∧ (¬ v2 = 3 → Q (-3) s)))))))))) := ⟨fun z1 => (p_X11_isSaid v4 s (h.1 z1).1 ⟨fun z2 => ((h.1 z1).2.1 (bI_n z2)), fun z2 => ((h.1 z1).2.2 (bI_p z2))⟩), fun z1 => ⟨fun z3 => (p_X11_has (s.1 51 1) v1 s ⟨fun z4 => (((h.2 z1).1 z3).1 (bI_n z4)), fun z4 => (((h.2 z1).1 z3).2 (bI_p z4))⟩), fun z3 => ⟨fun z5 => (p_X11_has (s.1 51 2) v1 s ⟨fun z6 => ((((h.2 z1).2 z3).1 z5).1 (bI_n z6)), fun z6 => ((((h.2 z1).2 z3).1 z5).2 (bI_p z6))⟩), fun z5 => ⟨fun z7 => ⟨((((h.2 z1).2 z3).2 z5).1 z7).1, ((((h.2 z1).2 z3).2 z5).1 z7).2⟩, fun z7 => ⟨fun z8 => (((((h.2 z1).2 z3).2 z5).2 z7).1 z8), fun z8 => (((((h.2 z1).2 z3).2 z5).2 z7).2 z8)⟩⟩⟩⟩⟩
  all_goals exact wp_sound (rt := .int) (stops := [16]) (tbl := tX11_voice) oX11_voice rk_X11_voice 21 16 _ _ _ key
end
section
/-! ===== Int32 by its bits: bt x i ===== -/
def bt (x : Int32) (i : Nat) : Bool := x.toBitVec.getLsbD i
theorem b_ext {x y : Int32} (h : ∀ i, i < 32 → bt x i = bt y i) : x = y := Int32.toBitVec_inj.mp (BitVec.eq_of_getLsbD_eq (fun i hi => h i hi))
theorem b_or (x y : Int32) (i : Nat) : bt (x ||| y) i = (bt x i || bt y i) := by unfold bt; rw [Int32.toBitVec_or, BitVec.getLsbD_or]
theorem b_and (x y : Int32) (i : Nat) : bt (x &&& y) i = (bt x i && bt y i) := by unfold bt; rw [Int32.toBitVec_and, BitVec.getLsbD_and]
theorem b_xor (x y : Int32) (i : Nat) : bt (x ^^^ y) i = (bt x i ^^ bt y i) := by unfold bt; rw [Int32.toBitVec_xor, BitVec.getLsbD_xor]
theorem b_big {x : Int32} {i : Nat} (h : 32 ≤ i) : bt x i = false := BitVec.getLsbD_of_ge _ _ h
theorem b_255 (i : Nat) : bt 255 i = decide (i < 8) := by
  rcases Nat.lt_or_ge i 32 with h | h
  · exact (by decide +kernel : ∀ i, i < 32 → bt 255 i = decide (i < 8)) i h
  · rw [b_big h, decide_eq_false (by omega)]
theorem b_65535 (i : Nat) : bt 65535 i = decide (i < 16) := by
  rcases Nat.lt_or_ge i 32 with h | h
  · exact (by decide +kernel : ∀ i, i < 32 → bt 65535 i = decide (i < 16)) i h
  · rw [b_big h, decide_eq_false (by omega)]
theorem b_m1 : ∀ i, i < 32 → bt (-1) i = true := by decide +kernel
theorem b_0 (i : Nat) : bt 0 i = false := BitVec.getLsbD_zero
theorem s_l : ∀ n, n < 32 → ((nI n &&& 31).toBitVec.smod 32).toNat = n := by decide +kernel
theorem s_u : ∀ n, n < 32 → (((nI n).toUInt32 &&& Int32.toUInt32 31).toBitVec % 32).toNat = n := by decide +kernel
theorem b_shl (n : Nat) (hn : n < 32) (x : Int32) {i : Nat} (hi : i < 32) : bt (x <<< (nI n &&& 31)) i = (decide (n ≤ i) && bt x (i - n)) := by
  unfold bt
  rw [Int32.toBitVec_shiftLeft]
  show (x.toBitVec <<< ((nI n &&& 31).toBitVec.smod 32).toNat).getLsbD i = _
  rw [s_l n hn, BitVec.getLsbD_shiftLeft]
  rcases Nat.lt_or_ge i n with h | h
  · simp [h, Nat.not_le.mpr h]
  · simp [hi, h, Nat.not_lt.mpr h]
theorem b_ushr (n : Nat) (hn : n < 32) (x : Int32) (i : Nat) : bt ((x.toUInt32 >>> ((nI n).toUInt32 &&& Int32.toUInt32 31)).toInt32) i = bt x (n + i) := by
  show (x.toUInt32 >>> ((nI n).toUInt32 &&& Int32.toUInt32 31)).toBitVec.getLsbD i = x.toUInt32.toBitVec.getLsbD (n + i)
  rw [UInt32.toBitVec_shiftRight]
  show (x.toUInt32.toBitVec >>> (((nI n).toUInt32 &&& Int32.toUInt32 31).toBitVec % 32).toNat).getLsbD i = _
  rw [s_u n hn, BitVec.getLsbD_ushiftRight]
theorem b_sshr (n : Nat) (hn : n < 32) (x : Int32) {i : Nat} (hi : i < 32) : bt (x >>> (nI n &&& 31)) i = if n + i < 32 then bt x (n + i) else bt x 31 := by
  unfold bt
  rw [Int32.toBitVec_shiftRight]
  show (x.toBitVec.sshiftRight ((nI n &&& 31).toBitVec.smod 32).toNat).getLsbD i = _
  rw [s_l n hn, BitVec.getLsbD_sshiftRight, BitVec.msb_eq_getLsbD_last]
  simp [hi]
/-! own: one bit read and set -/
theorem b_1 (i : Nat) : bt 1 i = decide (i = 0) := by
  rcases Nat.lt_or_ge i 32 with h | h
  · exact (by decide +kernel : ∀ i, i < 32 → bt 1 i = decide (i = 0)) i h
  · rw [b_big h, decide_eq_false (by omega)]
theorem bit0 {x : Int32} {k : Nat} (hk : k < 32) : ((x >>> (nI k &&& 31)) &&& 1) = 0 ↔ bt x k = false := by
  constructor
  · intro h
    have h1 : bt ((x >>> (nI k &&& 31)) &&& 1) 0 = bt 0 0 := by rw [h]
    rw [b_and, b_sshr k hk x (by decide), b_1, b_0, Nat.add_zero, if_pos hk] at h1
    simpa using h1
  · intro h
    apply b_ext
    intro i hi
    rw [b_and, b_1, b_0]
    by_cases h0 : i = 0
    · subst h0
      rw [b_sshr k hk x (by decide), Nat.add_zero, if_pos hk, h]
      rfl
    · simp [h0]
theorem b_one (j : Nat) (hj : j < 32) {i : Nat} (hi : i < 32) : bt ((1 : Int32) <<< (nI j &&& 31)) i = decide (i = j) := by
  rw [b_shl j hj 1 hi, b_1]
  by_cases h : i = j
  · subst h; simp
  · by_cases h2 : j ≤ i
    · have : ¬ i - j = 0 := by omega
      simp [h, this]
    · simp [h, h2]
theorem b_not (x : Int32) {i : Nat} (hi : i < 32) : bt (x ^^^ (-1)) i = !bt x i := by
  rw [b_xor, b_m1 i hi]
  simp
end
section
/-! numbers, ranges, the stores; what the accessors answer at places that are there -/
/-- a number of 0 .. n -/
def rg (x : Int32) (n : Nat) : Prop := ∃ k : Nat, k ≤ n ∧ x = nI k
theorem rg_num {x : Int32} {n : Nat} (h : rg x n) (hn : n < 2 ^ 31) : x = nI (Int32.toNatClampNeg x) ∧ Int32.toNatClampNeg x ≤ n := by
  obtain ⟨k, h1, rfl⟩ := h
  have e : Int32.toNatClampNeg (nI k) = k := nI_clamp (by omega)
  rw [e]
  exact ⟨rfl, h1⟩
theorem rg_mk {k n : Nat} (h : k ≤ n) : rg (nI k) n := ⟨k, h, rfl⟩
theorem rg_mono {x : Int32} {n m : Nat} (h : rg x n) (hm : n ≤ m) : rg x m := by
  obtain ⟨k, h1, h2⟩ := h
  exact ⟨k, by omega, h2⟩
theorem nnum {k : Nat} (h : k < 2 ^ 31) : Int32.toNatClampNeg (nI k) = k := nI_clamp h
theorem nlt {a b : Nat} (ha : a < 2 ^ 31) (hb : b < 2 ^ 31) : nI a < nI b ↔ a < b := nI_ltI ha hb
theorem neq {a b : Nat} (ha : a < 2 ^ 31) (hb : b < 2 ^ 31) : nI a = nI b ↔ a = b := nI_eq ha hb
theorem l0 : (0 : Int32) = nI 0 := rfl
theorem l1 : (1 : Int32) = nI 1 := rfl
theorem nneg (k : Nat) (h : k < 2 ^ 31) : ¬ nI k < 0 := nI_pos h
theorem i_lt (a b : Int32) : a < b ↔ a.toInt < b.toInt := Int32.lt_iff_toInt_lt
theorem i_le (a b : Int32) : a ≤ b ↔ a.toInt ≤ b.toInt := Int32.le_iff_toInt_le
theorem i_eq (a b : Int32) : a = b ↔ a.toInt = b.toInt := ⟨fun h => by rw [h], fun h => Int32.toInt_inj.mp h⟩
theorem nI_i {n : Nat} (h : n < 2 ^ 31) : (nI n).toInt = (n : Int) := nI_toInt h
/-- a place of a row of n that is tested from both sides -/
theorem of_lt {x y : Int32} {n : Nat} (h0 : ¬ x < 0) (h1 : x < y) (hy : rg y n) (hn : n < 2 ^ 31) : ∃ k : Nat, k < Int32.toNatClampNeg y ∧ k < n ∧ x = nI k := by
  obtain ⟨m, hm, rfl⟩ := hy
  obtain ⟨k, hk, rfl⟩ := nI_of h0
  rw [nlt hk (by omega)] at h1
  exact ⟨k, by rw [nnum (by omega)]; exact h1, by omega, rfl⟩
theorem vin {k n : Nat} (h : k < n) (hn : n < 2 ^ 31) : vp_in (nI k) n := vp_in_nI h hn
/-! stores -/
theorem sp_s (s : St) (q k : Nat) (v : Int32) : (sput s q k v).1 q k = v := by simp [sput]
theorem sp_q {s : St} {q k q' k' : Nat} {v : Int32} (h : q' ≠ q) : (sput s q k v).1 q' k' = s.1 q' k' := by simp [sput, h]
theorem sp_k {s : St} {q k q' k' : Nat} {v : Int32} (h : k' ≠ k) : (sput s q k v).1 q' k' = s.1 q' k' := by simp [sput, h]
theorem sp_f {s : St} {q k q' : Nat} {v : Int32} (h : q' ≠ q) : (sput s q k v).1 q' = s.1 q' := by funext j; exact sp_q h
/-- a cell's whole row anew -/
def sarr (s : St) (q : Nat) (f : Nat → Int32) : St := (fun a b => if a = q then f b else s.1 a b, s.2)
theorem sa_s (s : St) (q : Nat) (f : Nat → Int32) : (sarr s q f).1 q = f := by funext j; simp [sarr]
theorem sa_q {s : St} {q q' : Nat} {f : Nat → Int32} (h : q' ≠ q) : (sarr s q f).1 q' = s.1 q' := by funext j; simp [sarr, h]
theorem sa_id (s : St) (q : Nat) : sarr s q (s.1 q) = s := by
  unfold sarr
  refine Prod.ext ?_ rfl
  funext a b
  by_cases h : a = q <;> simp [h]
theorem sa_sa (s : St) (q : Nat) (f g : Nat → Int32) : sarr (sarr s q f) q g = sarr s q g := by
  unfold sarr
  refine Prod.ext ?_ rfl
  funext a b
  by_cases h : a = q <;> simp [h]
theorem sp_sa (s : St) (q k : Nat) (f : Nat → Int32) (v : Int32) : sput (sarr s q f) q k v = sarr s q (upd f k v) := by
  unfold sarr sput
  refine Prod.ext ?_ rfl
  funext a b
  by_cases h : a = q
  · subst h
    by_cases h2 : b = k <;> simp [upd, h2]
  · simp [h]
theorem sp_is (s : St) (q k : Nat) (v : Int32) : sput s q k v = sarr s q (upd (s.1 q) k v) := by
  have := sp_sa s q k (s.1 q) v
  rw [sa_id] at this
  exact this
theorem sa_cm {s : St} {q r : Nat} {f g : Nat → Int32} (h : q ≠ r) : sarr (sarr s q f) r g = sarr (sarr s r g) q f := by
  unfold sarr
  refine Prod.ext ?_ rfl
  funext a b
  by_cases h1 : a = q
  · by_cases h2 : a = r
    · exact absurd (h1.symm.trans h2) h
    · simp [h1, h]
  · by_cases h2 : a = r
    · subst h2
      simp [h1]
    · simp [h1, h2]
/-! ranges of a list of words, of voices -/
def wlR (s : St) (o : Nat) : Prop := rg (s.1 o 3) 12 ∧ (∀ w, rg (s.1 (o + 2) w) 10) ∧ (∀ w, rg (s.1 (o + 3) w) 2) ∧ ∀ j, rg (s.1 (o + 1) j) 26
def chR (s : St) (o : Nat) : Prop := (∃ V : Nat, 1 ≤ V ∧ V ≤ 5 ∧ s.1 o 1 = nI V) ∧ ∀ v, rg (s.1 (o + 1) v) 3
theorem alen_w {o : Nat} (ho : o = 4 ∨ o = 11) : alen (o + 1) = 120 ∧ alen (o + 2) = 12 ∧ alen (o + 3) = 12 := by rcases ho with rfl | rfl <;> exact ⟨rfl, rfl, rfl⟩
theorem alen_c {o : Nat} (ho : o = 8 ∨ o = 15) : alen (o + 1) = 5 := by rcases ho with rfl | rfl <;> rfl
theorem ok_len {s : St} {o : Nat} (ho : o = 4 ∨ o = 11) (hW : wlR s o) (x : Int32) : ok_X9_lengthOf s o x := by
  intro h0 h1
  obtain ⟨k, -, h2, rfl⟩ := of_lt h0 h1 hW.1 (by decide)
  rw [(alen_w ho).2.1]
  exact vin h2 (by decide)
theorem ok_sort {s : St} {o : Nat} (ho : o = 4 ∨ o = 11) (hW : wlR s o) (x : Int32) : ok_X9_sortOf s o x := by
  intro h0 h1
  obtain ⟨k, -, h2, rfl⟩ := of_lt h0 h1 hW.1 (by decide)
  rw [(alen_w ho).2.2]
  exact vin h2 (by decide)
theorem ok_let {s : St} {o : Nat} (ho : o = 4 ∨ o = 11) (hW : wlR s o) (x y : Int32) : ok_X9_letterOf s o x y := by
  intro h0 h1 h2
  obtain ⟨w, -, hw, rfl⟩ := of_lt h0 h1 hW.1 (by decide)
  rw [(alen_w ho).2.1, (alen_w ho).1]
  refine ⟨vin hw (by decide), fun h3 => ?_⟩
  obtain ⟨k, -, hk, rfl⟩ := of_lt h2 h3 (hW.2.1 _) (by decide)
  rw [show (10 : Int32) = nI 10 from rfl, pk_mul, nI_add]
  exact vin (by omega) (by decide)
theorem v_len {s : St} {o w : Nat} (hW : wlR s o) (hw : w < Int32.toNatClampNeg (s.1 o 3)) : v_X9_lengthOf s o (nI w) = s.1 (o + 2) w := by
  obtain ⟨e, h⟩ := rg_num hW.1 (by decide)
  unfold v_X9_lengthOf
  rw [iC_f (nneg w (by omega)), iC_t (by rw [e, nlt (by omega) (by omega)]; exact hw), nnum (by omega)]
theorem v_sort {s : St} {o w : Nat} (hW : wlR s o) (hw : w < Int32.toNatClampNeg (s.1 o 3)) : v_X9_sortOf s o (nI w) = s.1 (o + 3) w := by
  obtain ⟨e, h⟩ := rg_num hW.1 (by decide)
  unfold v_X9_sortOf
  rw [iC_f (nneg w (by omega)), iC_t (by rw [e, nlt (by omega) (by omega)]; exact hw), nnum (by omega)]
theorem v_let {s : St} {o w k : Nat} (hW : wlR s o) (hw : w < Int32.toNatClampNeg (s.1 o 3)) (hk : k < Int32.toNatClampNeg (s.1 (o + 2) w)) : v_X9_letterOf s o (nI w) (nI k) = s.1 (o + 1) (10 * w + k) := by
  obtain ⟨e, h⟩ := rg_num hW.1 (by decide)
  obtain ⟨e2, h2⟩ := rg_num (hW.2.1 w) (by decide)
  unfold v_X9_letterOf
  rw [iC_f (nneg w (by omega)), iC_t (by rw [e, nlt (by omega) (by omega)]; exact hw), iC_f (nneg k (by omega)), nnum (by omega), iC_t (by rw [e2, nlt (by omega) (by omega)]; exact hk), show (10 : Int32) = nI 10 from rfl, pk_mul, nI_add, nnum (by omega), Nat.mul_comm]
theorem v_let_out {s : St} {o w k : Nat} (hW : wlR s o) (hw : w < Int32.toNatClampNeg (s.1 o 3)) (hk : Int32.toNatClampNeg (s.1 (o + 2) w) ≤ k) (hk2 : k < 2 ^ 31) : v_X9_letterOf s o (nI w) (nI k) = -1 := by
  obtain ⟨e, h⟩ := rg_num hW.1 (by decide)
  obtain ⟨e2, h2⟩ := rg_num (hW.2.1 w) (by decide)
  unfold v_X9_letterOf
  rw [iC_f (nneg w (by omega)), iC_t (by rw [e, nlt (by omega) (by omega)]; exact hw), iC_f (nneg k (by omega)), nnum (by omega), iC_f (by rw [e2, nlt (by omega) (by omega)]; omega)]
def rwR (s : St) : Prop := rg (s.1 24 1) 60 ∧ ∀ j, rg (s.1 25 j) 26
theorem ok_row {s : St} (hR : rwR s) (x : Int32) : ok_X7_at s x := by
  intro h0 h1
  obtain ⟨k, -, h2, rfl⟩ := of_lt h0 h1 hR.1 (by decide)
  exact vin h2 (by decide)
theorem v_row {s : St} (hR : rwR s) {i : Nat} (hi : i < Int32.toNatClampNeg (s.1 24 1)) : v_X7_at s (nI i) = s.1 25 i := by
  obtain ⟨e, h⟩ := rg_num hR.1 (by decide)
  unfold v_X7_at
  rw [iC_f (nneg i (by omega)), iC_t (by rw [e, nlt (by omega) (by omega)]; exact hi), nnum (by omega)]
theorem v_len4 {s : St} {w : Nat} (hW : wlR s 4) (hw : w < Int32.toNatClampNeg (s.1 4 3)) : v_X9_lengthOf s 4 (nI w) = s.1 6 w := v_len hW hw
theorem v_sort4 {s : St} {w : Nat} (hW : wlR s 4) (hw : w < Int32.toNatClampNeg (s.1 4 3)) : v_X9_sortOf s 4 (nI w) = s.1 7 w := v_sort hW hw
theorem v_let4 {s : St} {w k : Nat} (hW : wlR s 4) (hw : w < Int32.toNatClampNeg (s.1 4 3)) (hk : k < Int32.toNatClampNeg (s.1 6 w)) : v_X9_letterOf s 4 (nI w) (nI k) = s.1 5 (10 * w + k) := v_let hW hw hk
theorem v_let4o {s : St} {w k : Nat} (hW : wlR s 4) (hw : w < Int32.toNatClampNeg (s.1 4 3)) (hk : Int32.toNatClampNeg (s.1 6 w) ≤ k) (hk2 : k < 2 ^ 31) : v_X9_letterOf s 4 (nI w) (nI k) = -1 := v_let_out hW hw hk hk2
theorem siz4 {s : St} (hW : wlR s 4) : s.1 4 3 = nI (Int32.toNatClampNeg (s.1 4 3)) ∧ Int32.toNatClampNeg (s.1 4 3) ≤ 12 := rg_num hW.1 (by decide)
theorem len4 {s : St} (hW : wlR s 4) (w : Nat) : s.1 6 w = nI (Int32.toNatClampNeg (s.1 6 w)) ∧ Int32.toNatClampNeg (s.1 6 w) ≤ 10 := rg_num (hW.2.1 w) (by decide)
theorem srt4 {s : St} (hW : wlR s 4) (w : Nat) : s.1 7 w = nI (Int32.toNatClampNeg (s.1 7 w)) ∧ Int32.toNatClampNeg (s.1 7 w) ≤ 2 := rg_num (hW.2.2.1 w) (by decide)
theorem let4 {s : St} (hW : wlR s 4) (j : Nat) : s.1 5 j = nI (Int32.toNatClampNeg (s.1 5 j)) ∧ Int32.toNatClampNeg (s.1 5 j) ≤ 26 := rg_num (hW.2.2.2 j) (by decide)
end
section
/-! a word fits a sound, on both sides -/
def fitP (snd : Nat → Int32) (L : Nat) (lt : Nat → Int32) (n w f : Nat) : Prop := f + n ≤ L ∧ ∀ k, k < n → snd (f + k) = 0 ∨ snd (f + k) = lt (10 * w + k)
def b_X7_isFitting (s : St) (x2 x3 : Int32) : Prop := fitP (s.1 25) (Int32.toNatClampNeg (s.1 24 1)) (s.1 5) (Int32.toNatClampNeg (s.1 6 (Int32.toNatClampNeg x2))) (Int32.toNatClampNeg x2) (Int32.toNatClampNeg x3)
def ok_X7_isFitting (s : St) (x2 x3 : Int32) : Prop := wlR s 4 ∧ rwR s ∧ (∃ w, w < Int32.toNatClampNeg (s.1 4 3) ∧ x2 = nI w) ∧ ∃ f, f ≤ Int32.toNatClampNeg (s.1 24 1) ∧ x3 = nI f
theorem p_X7_isFitting {l : Launch} {G : Geo} {d : Nat} (x2 x3 : Int32) (s : St) {Q : Int32 → St → Prop} (hok : ok_X7_isFitting s x2 x3) (h : Q (bI (b_X7_isFitting s x2 x3)) s) : DoesI l G (d + 2) 88 [.ref 24, .ref 4, .int x2, .int x3] s Q := by
  obtain ⟨hW, hR, ⟨w, hw, rfl⟩, f, hf, rfl⟩ := hok
  obtain ⟨e1, h1⟩ := siz4 hW
  obtain ⟨e2, h2⟩ := len4 hW w
  obtain ⟨e3, h3⟩ := rg_num hR.1 (by decide)
  unfold b_X7_isFitting at h
  rw [nnum (by omega), nnum (by omega)] at h
  refine r_X7_isFitting _ _ s ⟨ok_len (Or.inl rfl) hW _, ?_, ?_⟩
  · intro z
    rw [v_len4 hW hw, e3, e2, pk_sub hf, nlt (by omega) (by omega)] at z
    rw [bI_0 (fun hp => by have := hp.1; omega)] at h
    exact h
  · intro z
    rw [v_len4 hW hw, e3, e2, pk_sub hf, nlt (by omega) (by omega)] at z
    have loop : ∀ m j, j + m = Int32.toNatClampNeg (s.1 6 w) → (∀ k, k < j → s.1 25 (f + k) = 0 ∨ s.1 25 (f + k) = s.1 5 (10 * w + k)) → AtA l G (d + 2) sX7_isFitting 23 [.ref 24, .ref 4, .int (nI w), .int (nI f), .int (nI (Int32.toNatClampNeg (s.1 6 w))), .int (nI j), .null] [] s (pI Q) := by
      intro m
      induction m with
      | zero =>
        intro j hj hp
        refine r_X7_isFitting_23 _ _ _ _ s ⟨fun z => ?_, fun z => ?_⟩
        · rw [nlt (by omega) (by omega)] at z
          omega
        · rw [bI_1 ⟨by omega, fun k hk => hp k (by omega)⟩] at h
          exact h
      | succ m ih =>
        intro j hj hp
        have hv : v_X7_at s (nI f + nI j) = s.1 25 (f + j) := by
          rw [nI_add]
          exact v_row hR (by omega)
        have hl : v_X9_letterOf s 4 (nI w) (nI j) = s.1 5 (10 * w + j) := v_let4 hW hw (by omega)
        refine r_X7_isFitting_23 _ _ _ _ s ⟨fun z => ⟨ok_row hR _, fun z2 => ?_, fun z2 => ⟨ok_let (Or.inl rfl) hW _ _, fun z3 => ?_, fun z3 => ?_⟩⟩, fun z => ?_⟩
        · rw [nI_1]
          exact ih (j + 1) (by omega) (lt_s hp (Or.inl (by rw [← hv]; exact z2)))
        · rw [nI_1]
          exact ih (j + 1) (by omega) (lt_s hp (Or.inr (by rw [← hv, ← hl]; exact z3)))
        · rw [bI_0 (fun hq => by
            rcases hq.2 j (by omega) with q | q
            · exact z2 (by rw [hv]; exact q)
            · exact z3 (by rw [hv, hl]; exact q))] at h
          exact h
        · rw [nlt (by omega) (by omega)] at z
          omega
    rw [v_len4 hW hw, e2]
    exact loop _ 0 (Nat.zero_add _) (fun k hk => absurd hk (Nat.not_lt_zero k))
/-- the model's ranges: words, voices, sound -/
def mdR (s : St) : Prop := rg (s.1 51 4) 12 ∧ (∀ w, rg (s.1 54 w) 10) ∧ (∀ w, rg (s.1 53 w) 2) ∧ (∀ j, rg (s.1 55 j) 26) ∧ rg (s.1 51 26) 60 ∧ (∀ j, rg (s.1 61 j) 26) ∧ (∃ V : Nat, 1 ≤ V ∧ V ≤ 5 ∧ s.1 51 0 = nI V) ∧ ∀ v, rg (s.1 52 v) 3
def b_X11_doesFit (s : St) (x1 x2 : Int32) : Prop := fitP (s.1 61) (Int32.toNatClampNeg (s.1 51 26)) (s.1 55) (Int32.toNatClampNeg (s.1 54 (Int32.toNatClampNeg x1))) (Int32.toNatClampNeg x1) (Int32.toNatClampNeg x2)
def ok_X11_doesFit (s : St) (x1 x2 : Int32) : Prop := mdR s ∧ (∃ w, w < Int32.toNatClampNeg (s.1 51 4) ∧ x1 = nI w) ∧ ∃ f, f ≤ Int32.toNatClampNeg (s.1 51 26) ∧ x2 = nI f
theorem p_X11_doesFit {l : Launch} {G : Geo} {d : Nat} (x1 x2 : Int32) (s : St) {Q : Int32 → St → Prop} (hok : ok_X11_doesFit s x1 x2) (h : Q (bI (b_X11_doesFit s x1 x2)) s) : DoesI l G (d + 1) 165 [.ref 51, .int x1, .int x2] s Q := by
  obtain ⟨hM, ⟨w, hw, rfl⟩, f, hf, rfl⟩ := hok
  obtain ⟨e1, h1⟩ := rg_num hM.1 (by decide)
  obtain ⟨e2, h2⟩ := rg_num (hM.2.1 w) (by decide)
  obtain ⟨e3, h3⟩ := rg_num hM.2.2.2.2.1 (by decide)
  unfold b_X11_doesFit at h
  rw [nnum (by omega), nnum (by omega)] at h
  have hin : vp_in (nI w) (alen 54) := vin (show w < 12 by omega) (by decide)
  have end0 : ∀ j, f + Int32.toNatClampNeg (s.1 54 w) ≤ Int32.toNatClampNeg (s.1 51 26) → j < Int32.toNatClampNeg (s.1 54 w) → ¬ (s.1 61 (f + j) = 0 ∨ s.1 61 (f + j) = s.1 55 (10 * w + j)) → Q 0 s := by
    intro j hl hj hn
    rw [bI_0 (fun hq => hn (hq.2 j hj))] at h
    exact h
  have stop : ∀ j, Q 0 s → AtA l G (d + 1) sX11_doesFit 24 [.ref 51, .int (nI w), .int (nI f), .int 0, .int (nI j)] [] s (pI Q) := by
    intro j h9
    exact r_X11_doesFit_24 _ _ _ _ s ⟨hin, fun z => ⟨fun _ => ⟨rfl, h9⟩, fun z2 => absurd rfl z2⟩, fun z => ⟨rfl, h9⟩⟩
  have loop : f + Int32.toNatClampNeg (s.1 54 w) ≤ Int32.toNatClampNeg (s.1 51 26) → ∀ m j, j + m = Int32.toNatClampNeg (s.1 54 w) → (∀ k, k < j → s.1 61 (f + k) = 0 ∨ s.1 61 (f + k) = s.1 55 (10 * w + k)) → AtA l G (d + 1) sX11_doesFit 24 [.ref 51, .int (nI w), .int (nI f), .int 1, .int (nI j)] [] s (pI Q) := by
    intro hle m
    induction m with
    | zero =>
      intro j hj hp
      refine r_X11_doesFit_24 _ _ _ _ s ⟨hin, fun z => ?_, fun z => ⟨rfl, ?_⟩⟩
      · rw [nnum (by omega), e2, nlt (by omega) (by omega)] at z
        omega
      · rw [bI_1 ⟨by omega, fun k hk => hp k (by omega)⟩] at h
        exact h
    | succ m ih =>
      intro j hj hp
      have i1 : vp_in (nI f + nI j) (alen 61) := by rw [nI_add]; exact vin (show f + j < 60 by omega) (by decide)
      have i2 : vp_in (10 * nI w + nI j) (alen 55) := by rw [show (10 : Int32) = nI 10 from rfl, pk_mul, nI_add]; exact vin (show 10 * w + j < 120 by omega) (by decide)
      have hv : s.1 61 (Int32.toNatClampNeg (nI f + nI j)) = s.1 61 (f + j) := by rw [nI_add, nnum (by omega)]
      have hl : s.1 55 (Int32.toNatClampNeg (10 * nI w + nI j)) = s.1 55 (10 * w + j) := by rw [show (10 : Int32) = nI 10 from rfl, pk_mul, nI_add, nnum (by omega)]
      refine r_X11_doesFit_24 _ _ _ _ s ⟨hin, fun z => ⟨fun z1 => absurd z1 (by decide), fun _ => ⟨i1, fun z2 => ?_, fun z2 => ⟨i1, i2, fun z3 => ?_, fun z3 => ?_⟩⟩⟩, fun z => ?_⟩
      · rw [nI_1]
        exact ih (j + 1) (by omega) (lt_s hp (Or.inl (by rw [← hv]; exact z2)))
      · rw [nI_1]
        exact ih (j + 1) (by omega) (lt_s hp (Or.inr (by rw [← hv, ← hl]; exact z3)))
      · rw [nI_1]
        exact stop _ (end0 j hle (by omega) (fun q => by
          rw [hv] at z2 z3
          rw [hl] at z3
          exact q.elim z2 z3))
      · rw [nnum (by omega), e2, nlt (by omega) (by omega)] at z
        omega
  refine r_X11_doesFit _ _ s ⟨hin, fun z => ?_, fun z => ?_⟩
  · rw [nnum (by omega), e2, e3, nI_add, nlt (by omega) (by omega)] at z
    exact stop 0 (by rw [bI_0 (fun hq => by have := hq.1; omega)] at h; exact h)
  · rw [nnum (by omega), e2, e3, nI_add, nlt (by omega) (by omega)] at z
    exact loop (by omega) _ 0 (Nat.zero_add _) (fun k hk => absurd hk (Nat.not_lt_zero k))
end
section
/-! what holds between the class's cells and the reference's, call by call -/
def sumN (f : Nat → Nat) : Nat → Nat
  | 0 => 0
  | n + 1 => sumN f n + f n
/-- the letter at place i of the words ws k, ws (k + 1), .. (m of them) -/
def latF (sz : Nat → Int32) (lt : Nat → Int32) (ws : Nat → Int32) : Nat → Nat → Nat → Int32
  | 0, _, _ => 0
  | m + 1, k, i => if i < Int32.toNatClampNeg (sz (Int32.toNatClampNeg (ws k))) then lt (10 * Int32.toNatClampNeg (ws k) + i) else latF sz lt ws m (k + 1) (i - Int32.toNatClampNeg (sz (Int32.toNatClampNeg (ws k))))
def totF (sz : Nat → Int32) (ws : Nat → Int32) (p : Nat) : Nat := sumN (fun k => Int32.toNatClampNeg (sz (Int32.toNatClampNeg (ws k)))) p
def blkT (n n' : Int32) (b b' : Nat → Int32) : Prop := rg n 200 ∧ (∀ j, rg (b j) 255) ∧ n' = n ∧ b' = b
def blkC (v a h v' a' h' : Int32) (t t' : Nat → Int32) : Prop := (∃ V : Nat, 1 ≤ V ∧ V ≤ 5 ∧ v = nI V) ∧ (∀ j, rg (t j) 3) ∧ v' = v ∧ a' = a ∧ h' = h ∧ t' = t
def blkW (n f n' f' : Int32) (lt sz so lt' sz' so' : Nat → Int32) : Prop := rg n 12 ∧ (∀ w, rg (sz w) 10) ∧ (∀ w, rg (so w) 2) ∧ (∀ j, rg (lt j) 26) ∧ (∀ w, w < Int32.toNatClampNeg n → 1 ≤ Int32.toNatClampNeg (sz w) ∧ ∀ k, k < Int32.toNatClampNeg (sz w) → 1 ≤ Int32.toNatClampNeg (lt (10 * w + k))) ∧ n' = n ∧ f' = f ∧ lt' = lt ∧ sz' = sz ∧ so' = so
def blkS (n n' : Int32) (b b' : Nat → Int32) : Prop := rg n 60 ∧ (∀ j, rg (b j) 26) ∧ n' = n ∧ b' = b
/-- a sermon of the class (total of letters, of words, last word, said; letters) and one of the reference (preached, gone, words) -/
def blkM (n : Int32) (lt sz : Nat → Int32) (tot cnt last said : Int32) (ls : Nat → Int32) (p g : Int32) (ws : Nat → Int32) : Prop :=
  rg p 6 ∧ (∀ k, k < Int32.toNatClampNeg p → ∃ w, w < Int32.toNatClampNeg n ∧ ws k = nI w) ∧ totF sz ws (Int32.toNatClampNeg p) ≤ 60 ∧ tot = nI (totF sz ws (Int32.toNatClampNeg p)) ∧ cnt = p ∧ said = g ∧ (∃ j, j ≤ totF sz ws (Int32.toNatClampNeg p) ∧ g = nI j) ∧ (∀ i, i < totF sz ws (Int32.toNatClampNeg p) → ls i = latF sz lt ws (Int32.toNatClampNeg p) 0 i) ∧ (Int32.toNatClampNeg p = 0 → last = -1) ∧ (0 < Int32.toNatClampNeg p → last = ws (Int32.toNatClampNeg p - 1))
def kbit (x : Int32) (k : Nat) : Prop := ¬ ((x >>> (nI k &&& 31)) &&& 1) = 0
def RI (s : St) : Prop :=
  blkT (s.1 1 1) (s.1 51 9) (s.1 2) (s.1 56) ∧ blkC (s.1 8 1) (s.1 8 2) (s.1 8 3) (s.1 51 0) (s.1 51 1) (s.1 51 2) (s.1 9) (s.1 52) ∧ blkW (s.1 4 3) (s.1 4 4) (s.1 51 4) (s.1 51 8) (s.1 5) (s.1 6) (s.1 7) (s.1 55) (s.1 54) (s.1 53) ∧ blkS (s.1 24 1) (s.1 51 26) (s.1 25) (s.1 61) ∧
  blkM (s.1 4 3) (s.1 5) (s.1 6) (s.1 18 1) (s.1 18 2) (s.1 18 3) (s.1 18 4) (s.1 19) (s.1 51 23) (s.1 51 25) (s.1 60) ∧
  (kbit (s.1 0 7) 0 ↔ s.1 63 0 = 1) ∧ (kbit (s.1 0 7) 1 ↔ s.1 63 1 = 1) ∧ (s.1 63 0 = 0 ∨ s.1 63 0 = 1) ∧ (s.1 63 1 = 0 ∨ s.1 63 1 = 1) ∧
  (s.1 63 0 = 1 → blkM (s.1 4 3) (s.1 5) (s.1 6) (s.1 20 1) (s.1 20 2) (s.1 20 3) (s.1 20 4) (s.1 21) (s.1 62 0) (s.1 62 1) (fun i => s.1 62 (2 + i))) ∧
  (s.1 63 1 = 1 → blkM (s.1 4 3) (s.1 5) (s.1 6) (s.1 22 1) (s.1 22 2) (s.1 22 3) (s.1 22 4) (s.1 23) (s.1 62 8) (s.1 62 9) (fun i => s.1 62 (10 + i)))
theorem sp_e (s : St) (q k a b : Nat) (v : Int32) : (sput s q k v).1 a b = if a = q ∧ b = k then v else s.1 a b := rfl
def Eqv (l : Launch) (G : Geo) (kx km : Nat) (ar : List Value) (s : St) : Prop := DoesI l G 20 kx (.ref 0 :: ar) s (fun r1 s1 => DoesI l G 20 km (.ref 51 :: ar) s1 (fun r2 s2 => r1 = r2 ∧ RI s2))
theorem ri_wl {s : St} (h : RI s) : wlR s 4 := ⟨h.2.2.1.1, h.2.2.1.2.1, h.2.2.1.2.2.1, h.2.2.1.2.2.2.1⟩
theorem ri_ch {s : St} (h : RI s) : chR s 8 := ⟨h.2.1.1, h.2.1.2.1⟩
theorem ri_rw {s : St} (h : RI s) : rwR s := ⟨h.2.2.2.1.1, h.2.2.2.1.2.1⟩
theorem ri_md {s : St} (h : RI s) : mdR s := by
  obtain ⟨-, ⟨c1, c2, c3, c4, c5, c6⟩, ⟨w1, w2, w3, w4, w5, w6, w7, w8, w9, w10⟩, ⟨s1, s2, s3, s4⟩, -⟩ := h
  refine ⟨by rw [w6]; exact w1, by rw [w9]; exact w2, by rw [w10]; exact w3, by rw [w8]; exact w4, by rw [s3]; exact s1, by rw [s4]; exact s2, by rw [c3]; exact c1, by rw [c6]; exact c2⟩
theorem rg0 (n : Nat) : rg 0 n := ⟨0, Nat.zero_le n, rfl⟩
theorem eq_erase {l : Launch} {G : Geo} {s : St} (h : RI s) : Eqv l G 105 136 [] s := by
  refine p_X10_erase s (p_X11_erase _ ⟨?_, ?_⟩)
  · show s.1 1 1 = (sput s 1 1 0).1 51 9
    rw [sp_q (by decide)]
    exact h.1.2.2.1.symm
  · show RI (sput (sput s 1 1 0) 51 9 0)
    obtain ⟨⟨t1, t2, t3, t4⟩, hr⟩ := h
    exact ⟨⟨rg0 _, t2, rfl, t4⟩, hr⟩
theorem eq_hush {l : Launch} {G : Geo} {s : St} (h : RI s) : Eqv l G 117 164 [] s := by
  refine p_X10_hush s (p_X11_hush _ ⟨?_, ?_⟩)
  · exact h.2.2.2.1.2.2.1.symm
  · show RI (sput (sput s 24 1 0) 51 26 0)
    obtain ⟨h1, h2, h3, ⟨t1, t2, t3, t4⟩, hr⟩ := h
    exact ⟨h1, h2, h3, ⟨rg0 _, t2, rfl, t4⟩, hr⟩
theorem blkM0 {n : Int32} {lt sz ls ws : Nat → Int32} : blkM n lt sz 0 0 (-1) 0 ls 0 0 ws :=
  ⟨rg0 _, fun k hk => absurd hk (Nat.not_lt_zero k), Nat.zero_le _, rfl, rfl, rfl, ⟨0, Nat.zero_le _, rfl⟩, fun i hi => absurd hi (Nat.not_lt_zero i), fun _ => rfl, fun h => absurd h (Nat.lt_irrefl 0)⟩
theorem eq_amen {l : Launch} {G : Geo} {s : St} (h : RI s) : Eqv l G 111 157 [] s := by
  refine p_X10_amen s (p_X11_amen _ ⟨?_, ?_⟩)
  · exact h.2.2.2.2.1.2.2.2.2.1
  · show RI (sput (sput (sput (sput (sput (sput s 18 1 0) 18 2 0) 18 3 (-1)) 18 4 0) 51 23 0) 51 25 0)
    obtain ⟨h1, h2, h3, h4, h5, hr⟩ := h
    exact ⟨h1, h2, h3, h4, blkM0, hr⟩
end
section
/-! the sermon's letters; counts -/
def smR (s : St) : Prop := rg (s.1 51 23) 6 ∧ (∀ k, k < Int32.toNatClampNeg (s.1 51 23) → ∃ w, w < 12 ∧ s.1 60 k = nI w) ∧ (∀ w, rg (s.1 54 w) 10)
theorem ri_sm {s : St} (h : RI s) : smR s := by
  obtain ⟨-, -, ⟨w1, w2, w3, w4, w5, w6, w7, w8, w9, w10⟩, -, ⟨m1, m2, -⟩, -⟩ := h
  refine ⟨m1, fun k hk => ?_, by rw [w9]; exact w2⟩
  obtain ⟨w, hw, e⟩ := m2 k hk
  have := (rg_num w1 (by decide)).2
  exact ⟨w, by omega, e⟩
noncomputable def v_X11_lettersOf (s : St) : Int32 := nI (totF (s.1 54) (s.1 60) (Int32.toNatClampNeg (s.1 51 23)))
def ok_X11_lettersOf (s : St) : Prop := smR s
theorem p_X11_lettersOf {l : Launch} {G : Geo} {d : Nat} (s : St) {Q : Int32 → St → Prop} (hok : ok_X11_lettersOf s) (h : Q (v_X11_lettersOf s) s) : DoesI l G (d + 1) 151 [.ref 51] s Q := by
  obtain ⟨h1, h2, h3⟩ := hok
  obtain ⟨e1, b1⟩ := rg_num h1 (by decide)
  have loop : ∀ m k, k + m = Int32.toNatClampNeg (s.1 51 23) → AtA l G (d + 1) sX11_lettersOf 4 [.ref 51, .int (nI (totF (s.1 54) (s.1 60) k)), .int (nI k)] [] s (pI Q) := by
    intro m
    induction m with
    | zero =>
      intro k hk
      refine r_X11_lettersOf_4 _ _ s ⟨fun z => ?_, fun _ => ?_⟩
      · rw [e1, nlt (by omega) (by omega)] at z
        omega
      · have : k = Int32.toNatClampNeg (s.1 51 23) := by omega
        rw [this]
        exact h
    | succ m ih =>
      intro k hk
      obtain ⟨w, hw, ew⟩ := h2 k (by omega)
      obtain ⟨e2, b2⟩ := rg_num (h3 w) (by decide)
      refine r_X11_lettersOf_4 _ _ s ⟨fun _ => ⟨vin (show k < 6 by omega) (by decide), ?_, ?_⟩, fun z => ?_⟩
      · rw [nnum (by omega), ew]
        exact vin (show w < 12 by omega) (by decide)
      · rw [nnum (by omega), ew, nnum (by omega), nI_1, e2, nI_add]
        have e3 : totF (s.1 54) (s.1 60) k + Int32.toNatClampNeg (s.1 54 w) = totF (s.1 54) (s.1 60) (k + 1) := by
          show _ = sumN _ k + Int32.toNatClampNeg (s.1 54 (Int32.toNatClampNeg (s.1 60 k)))
          rw [ew, nnum (by omega)]
          rfl
        rw [e3]
        exact ih (k + 1) (by omega)
      · rw [e1, nlt (by omega) (by omega)] at z
        omega
  exact r_X11_lettersOf s (loop _ 0 (Nat.zero_add _))
noncomputable def v_X11_letterAt (s : St) (x1 : Int32) : Int32 := latF (s.1 54) (s.1 55) (s.1 60) (Int32.toNatClampNeg (s.1 51 23)) 0 (Int32.toNatClampNeg x1)
def ok_X11_letterAt (s : St) (x1 : Int32) : Prop := smR s ∧ rg x1 100
theorem p_X11_letterAt {l : Launch} {G : Geo} {d : Nat} (x1 : Int32) (s : St) {Q : Int32 → St → Prop} (hok : ok_X11_letterAt s x1) (h : Q (v_X11_letterAt s x1) s) : DoesI l G (d + 1) 152 [.ref 51, .int x1] s Q := by
  obtain ⟨⟨h1, h2, h3⟩, i, hi, rfl⟩ := hok
  obtain ⟨e1, b1⟩ := rg_num h1 (by decide)
  have loop : ∀ m k i, k + m = Int32.toNatClampNeg (s.1 51 23) → i ≤ 100 → ∀ x1, Q (latF (s.1 54) (s.1 55) (s.1 60) m k i) s → AtA l G (d + 1) sX11_letterAt 4 [.ref 51, .int x1, .int (nI i), .int (nI k), .null] [] s (pI Q) := by
    intro m
    induction m with
    | zero =>
      intro k i hk hi x1 h
      refine r_X11_letterAt_4 _ _ _ s ⟨fun z => ?_, fun _ => h⟩
      rw [e1, nlt (by omega) (by omega)] at z
      omega
    | succ m ih =>
      intro k i hk hi x1 h
      obtain ⟨w, hw, ew⟩ := h2 k (by omega)
      obtain ⟨e2, b2⟩ := rg_num (h3 w) (by decide)
      have hwin : vp_in (s.1 60 (Int32.toNatClampNeg (nI k))) (alen 54) := by
        rw [nnum (by omega), ew]
        exact vin (show w < 12 by omega) (by decide)
      unfold latF at h
      rw [ew, nnum (by omega)] at h
      refine r_X11_letterAt_4 _ _ _ s ⟨fun _ => ⟨vin (show k < 6 by omega) (by decide), hwin, fun z => ?_, fun z => ⟨hwin, ?_⟩⟩, fun z => ?_⟩
      · rw [nnum (by omega), ew, nnum (by omega), e2, nlt (by omega) (by omega)] at z
        rw [nnum (by omega), ew, show (10 : Int32) = nI 10 from rfl, pk_mul, nI_add, nnum (by omega)]
        rw [if_pos z] at h
        exact ⟨vin (show 10 * w + i < 120 by omega) (by decide), h⟩
      · rw [nnum (by omega), ew, nnum (by omega), e2, nlt (by omega) (by omega)] at z
        rw [if_neg z] at h
        rw [nnum (by omega), ew, nnum (by omega), e2, pk_sub (by omega), nI_1]
        exact ih (k + 1) _ (by omega) (by omega) _ h
      · rw [e1, nlt (by omega) (by omega)] at z
        omega
  unfold v_X11_letterAt at h
  rw [nnum (by omega)] at h
  exact r_X11_letterAt _ s (loop _ 0 i (Nat.zero_add _) hi _ h)
/-! counting -/
noncomputable def cntN (P : Nat → Prop) : Nat → Nat
  | 0 => 0
  | n + 1 => cntN P n + iC (P n) 1 0
theorem cnt_t {P : Nat → Prop} {n : Nat} (h : P n) : cntN P (n + 1) = cntN P n + 1 := by
  show cntN P n + iC (P n) 1 0 = _
  rw [iC_t h]
theorem cnt_f {P : Nat → Prop} {n : Nat} (h : ¬ P n) : cntN P (n + 1) = cntN P n := by
  show cntN P n + iC (P n) 1 0 = _
  rw [iC_f h]
  rfl
theorem cnt_le (P : Nat → Prop) : ∀ n, cntN P n ≤ n
  | 0 => Nat.le_refl 0
  | n + 1 => by
    have := cnt_le P n
    by_cases h : P n
    · rw [cnt_t h]; omega
    · rw [cnt_f h]; omega
theorem cnt_skip {P : Nat → Prop} {a : Nat} : ∀ m, (∀ j, a ≤ j → j < a + m → ¬ P j) → cntN P (a + m) = cntN P a
  | 0, _ => rfl
  | m + 1, h => by
    show cntN P (a + m + 1) = _
    rw [cnt_f (h (a + m) (by omega) (by omega))]
    exact cnt_skip m (fun j h1 h2 => h j h1 (by omega))
theorem cnt_congr {P P' : Nat → Prop} : ∀ n, (∀ j, j < n → (P j ↔ P' j)) → cntN P n = cntN P' n
  | 0, _ => rfl
  | n + 1, h => by
    have ih := cnt_congr n (fun j hj => h j (by omega))
    by_cases hp : P n
    · rw [cnt_t hp, cnt_t ((h n (by omega)).mp hp), ih]
    · rw [cnt_f hp, cnt_f (fun q => hp ((h n (by omega)).mpr q)), ih]
/-! who speaks, and is heard -/
theorem v_vc {s : St} {i V : Nat} (hV : s.1 8 1 = nI V) (h1 : 1 ≤ V) (h2 : V ≤ 5) (hi : i < 2 ^ 31) : v_X0_voiceOf s 8 (nI i) = nI (i % V) := by
  unfold v_X0_voiceOf
  rw [hV, iC_f (by rw [l1, nlt (by omega) (by omega)]; omega), pk_rem hi (by omega) (by omega)]
theorem ok_vc {s : St} (h : chR s 8) (x : Int32) : ok_X0_voiceOf s 8 x := by
  obtain ⟨⟨V, h1, h2, e⟩, -⟩ := h
  intro _
  rw [e, l0, neq (by omega) (by omega)]
  omega
theorem ok_late {s : St} (h : chR s 8) (x : Int32) : ok_X0_lateOf s 8 x := by
  obtain ⟨⟨V, h1, h2, e⟩, -⟩ := h
  intro h3 h4
  obtain ⟨k, -, hk, rfl⟩ := of_lt h3 h4 (n := 5) (by rw [e]; exact rg_mk h2) (by decide)
  exact vin hk (by decide)
theorem ok_sd {s : St} (h : chR s 8) (x : Int32) : ok_X0_isSaid s 8 x := by
  have h0 := h
  obtain ⟨⟨V, h1, h2, e⟩, -⟩ := h0
  have hne : ¬ s.1 8 1 = 0 := by
    rw [e, l0, neq (by omega) (by omega)]
    omega
  exact fun _ => ⟨hne, hne, ok_late h _⟩
noncomputable def v_X6_lettersHeard (s : St) (o : Nat) : Int32 := nI (cntN (fun i => b_X0_isSaid s 8 (nI i)) (Int32.toNatClampNeg (s.1 o 4)))
def ok_X6_lettersHeard (s : St) (o : Nat) : Prop := chR s 8 ∧ rg (s.1 o 4) 60
theorem p_X6_lettersHeard {l : Launch} {G : Geo} {d : Nat} (o : Nat) (ho : o = 18 ∨ o = 20 ∨ o = 22) (s : St) {Q : Int32 → St → Prop} (hok : ok_X6_lettersHeard s o) (h : Q (v_X6_lettersHeard s o) s) : DoesI l G (d + 3) 77 [.ref o, .ref 8] s Q := by
  obtain ⟨hC, hg⟩ := hok
  obtain ⟨e1, b1⟩ := rg_num hg (by decide)
  have loop : ∀ m i, i + m = Int32.toNatClampNeg (s.1 o 4) → AtA l G (d + 3) sX6_lettersHeard 4 [.ref o, .ref 8, .int (nI (cntN (fun i => b_X0_isSaid s 8 (nI i)) i)), .int (nI i)] [] s (pI Q) := by
    intro m
    induction m with
    | zero =>
      intro i hi
      refine r_X6_lettersHeard_4 _ _ _ ho s ⟨fun z => ?_, fun _ => ?_⟩
      · rw [e1, nlt (by omega) (by omega)] at z
        omega
      · have : i = Int32.toNatClampNeg (s.1 o 4) := by omega
        rw [this]
        exact h
    | succ m ih =>
      intro i hi
      refine r_X6_lettersHeard_4 _ _ _ ho s ⟨fun _ => ⟨ok_sd hC _, fun z => ?_, fun z => ?_⟩, fun z => ?_⟩
      · have := ih (i + 1) (by omega)
        rw [cnt_f (P := fun i => b_X0_isSaid s 8 (nI i)) z] at this
        rw [nI_1]
        exact this
      · have := ih (i + 1) (by omega)
        rw [cnt_t (P := fun i => b_X0_isSaid s 8 (nI i)) z] at this
        rw [nI_1, nI_1]
        exact this
      · rw [e1, nlt (by omega) (by omega)] at z
        omega
  exact r_X6_lettersHeard _ ho s (loop _ 0 (Nat.zero_add _))
noncomputable def v_X6_lettersSaidBy (s : St) (o : Nat) (x1 : Int32) : Int32 := nI (cntN (fun i => v_X0_voiceOf s 8 (nI i) = x1 ∧ b_X0_isSaid s 8 (nI i)) (Int32.toNatClampNeg (s.1 o 4)))
def ok_X6_lettersSaidBy (s : St) (o : Nat) (_x1 : Int32) : Prop := chR s 8 ∧ rg (s.1 o 4) 60
theorem p_X6_lettersSaidBy {l : Launch} {G : Geo} {d : Nat} (o : Nat) (x1 : Int32) (ho : o = 18 ∨ o = 20 ∨ o = 22) (s : St) {Q : Int32 → St → Prop} (hok : ok_X6_lettersSaidBy s o x1) (h : Q (v_X6_lettersSaidBy s o x1) s) : DoesI l G (d + 3) 78 [.ref o, .int x1, .ref 8] s Q := by
  obtain ⟨hC, hg⟩ := hok
  obtain ⟨e1, b1⟩ := rg_num hg (by decide)
  have loop : ∀ m i, i + m = Int32.toNatClampNeg (s.1 o 4) → AtA l G (d + 3) sX6_lettersSaidBy 5 [.ref o, .int x1, .ref 8, .int (nI (cntN (fun i => v_X0_voiceOf s 8 (nI i) = x1 ∧ b_X0_isSaid s 8 (nI i)) i)), .int (nI i)] [] s (pI Q) := by
    intro m
    induction m with
    | zero =>
      intro i hi
      refine r_X6_lettersSaidBy_5 _ _ _ _ ho s ⟨fun z => ?_, fun _ => ?_⟩
      · rw [e1, nlt (by omega) (by omega)] at z
        omega
      · have : i = Int32.toNatClampNeg (s.1 o 4) := by omega
        rw [this]
        exact h
    | succ m ih =>
      intro i hi
      have ihh := ih (i + 1) (by omega)
      refine r_X6_lettersSaidBy_5 _ _ _ _ ho s ⟨fun _ => ⟨ok_vc hC _, fun z1 => ⟨ok_sd hC _, fun z => ?_, fun z => ?_⟩, fun z1 => ?_⟩, fun z => ?_⟩
      · rw [cnt_f (P := fun i => v_X0_voiceOf s 8 (nI i) = x1 ∧ b_X0_isSaid s 8 (nI i)) (fun q => z q.2)] at ihh
        rw [nI_1]
        exact ihh
      · rw [cnt_t (P := fun i => v_X0_voiceOf s 8 (nI i) = x1 ∧ b_X0_isSaid s 8 (nI i)) ⟨z1, z⟩] at ihh
        rw [nI_1, nI_1]
        exact ihh
      · rw [cnt_f (P := fun i => v_X0_voiceOf s 8 (nI i) = x1 ∧ b_X0_isSaid s 8 (nI i)) (fun q => z1 q.1)] at ihh
        rw [nI_1]
        exact ihh
      · rw [e1, nlt (by omega) (by omega)] at z
        omega
  exact r_X6_lettersSaidBy _ _ ho s (loop _ 0 (Nat.zero_add _))
end
section
/-! rows that are written from a place on -/
def rowW (f : Nat → Int32) (a n : Nat) (g : Nat → Int32) : Nat → Int32 := fun j => if a ≤ j ∧ j < a + n then g (j - a) else f j
theorem rowW_0 (f : Nat → Int32) (a : Nat) (g : Nat → Int32) : rowW f a 0 g = f := by
  funext j
  unfold rowW
  rw [if_neg (by omega)]
theorem rowW_s (f : Nat → Int32) (a n : Nat) (g : Nat → Int32) : upd (rowW f a n g) (a + n) (g n) = rowW f a (n + 1) g := by
  funext j
  unfold rowW upd
  by_cases h : j = a + n
  · subst h
    rw [if_pos rfl, if_pos (by omega), Nat.add_sub_cancel_left]
  · rw [if_neg h]
    dsimp only
    by_cases h2 : a ≤ j ∧ j < a + n
    · rw [if_pos h2, if_pos (by omega)]
    · rw [if_neg h2, if_neg (by omega)]
theorem rowW_in {f : Nat → Int32} {a n i : Nat} {g : Nat → Int32} (h : i < n) : rowW f a n g (a + i) = g i := by
  unfold rowW
  rw [if_pos (by omega), Nat.add_sub_cancel_left]
theorem rowW_out {f : Nat → Int32} {a n j : Nat} {g : Nat → Int32} (h : j < a ∨ a + n ≤ j) : rowW f a n g j = f j := by
  unfold rowW
  rw [if_neg (by omega)]
theorem rowW_rg {f : Nat → Int32} {a n m : Nat} {g : Nat → Int32} (hf : ∀ j, rg (f j) m) (hg : ∀ j, j < n → rg (g j) m) : ∀ j, rg (rowW f a n g j) m := by
  intro j
  unfold rowW
  split
  · exact hg _ (by omega)
  · exact hf j
theorem upd_rg {f : Nat → Int32} {k m : Nat} {x : Int32} (hf : ∀ j, rg (f j) m) (hx : rg x m) : ∀ j, rg (upd f k x j) m := by
  intro j
  unfold upd
  split
  · exact hx
  · exact hf j
/-- byte i of a packed word -/
def byt (x : Int64) (i : Nat) : Int32 := Int64.toInt32 ((x >>> (Int32.toInt64 (8 * nI i) &&& 63)) &&& 255)
def g_X4_append (s : St) (x1 : Int64) (x2 : Int32) : St := sput (sarr s 2 (rowW (s.1 2) (Int32.toNatClampNeg (s.1 1 1)) (Int32.toNatClampNeg x2) (byt x1))) 1 1 (nI (Int32.toNatClampNeg (s.1 1 1) + Int32.toNatClampNeg x2))
def ok_X4_append (s : St) (_x1 : Int64) (x2 : Int32) : Prop := ∃ L n : Nat, s.1 1 1 = nI L ∧ x2 = nI n ∧ L + n ≤ 200
theorem p_X4_append {l : Launch} {G : Geo} {d : Nat} (x1 : Int64) (x2 : Int32) (s : St) {Q : St → Prop} (hok : ok_X4_append s x1 x2) (h : Q (g_X4_append s x1 x2)) : DoesV l G (d + 1) 54 [.ref 1, .long x1, .int x2] s Q := by
  obtain ⟨L, n, e1, rfl, hl⟩ := hok
  unfold g_X4_append at h
  rw [e1, nnum (by omega), nnum (by omega)] at h
  have loop : ∀ m k, k + m = n → AtA l G (d + 1) sX4_append 3 [.ref 1, .long x1, .null, .int (nI n), .int (nI k)] [] (sput (sarr s 2 (rowW (s.1 2) L k (byt x1))) 1 1 (nI (L + k))) (pV Q) := by
    intro m
    induction m with
    | zero =>
      intro k hk
      have : k = n := by omega
      subst this
      refine r_X4_append_3 _ _ _ _ ⟨fun z => ?_, fun _ => h⟩
      rw [nlt (by omega) (by omega)] at z
      omega
    | succ m ih =>
      intro k hk
      have hst : sput (sput (sput (sarr s 2 (rowW (s.1 2) L k (byt x1))) 1 1 (nI (L + k))) 2 (L + k) (byt x1 k)) 1 1 (nI (L + k) + 1) = sput (sarr s 2 (rowW (s.1 2) L (k + 1) (byt x1))) 1 1 (nI (L + (k + 1))) := by
        rw [← rowW_s, ← sp_sa, nI_1]
        refine Prod.ext ?_ rfl
        funext a b
        simp only [sput]
        by_cases ha : a = 1 ∧ b = 1
        · simp [ha, Nat.add_assoc]
        · simp only [ha, if_false]
      have e2 : (sput (sarr s 2 (rowW (s.1 2) L k (byt x1))) 1 1 (nI (L + k))).1 1 1 = nI (L + k) := sp_s _ _ _ _
      refine r_X4_append_3 _ _ _ _ ⟨fun _ => ?_, fun z => ?_⟩
      · rw [e2]
        refine ⟨fun _ => ⟨vin (show L + k < 200 by omega) (by decide), ?_⟩, fun z => ?_⟩
        · rw [nnum (by omega), nI_1]
          have := ih (k + 1) (by omega)
          rw [← hst] at this
          exact this
        · rw [show (200 : Int32) = nI 200 from rfl, nlt (by omega) (by omega)] at z
          omega
      · rw [nlt (by omega) (by omega)] at z
        omega
  have h0 := loop n 0 (Nat.zero_add _)
  rw [rowW_0, sa_id, show L + 0 = L from rfl, ← e1] at h0
  have e3 : sput s 1 1 (s.1 1 1) = s := by
    refine Prod.ext ?_ rfl
    funext a b
    simp only [sput]
    split
    · rename_i hab
      rw [hab.1, hab.2]
    · rfl
  rw [e3] at h0
  exact r_X4_append _ _ s h0
/-- the reference's text behind a write -/
theorem at_X11_write {l : Launch} {G : Geo} {d : Nat} {x1 : Int64} {s : St} {Q : Int32 → St → Prop} {L n : Nat} (e1 : s.1 51 9 = nI L) (hl : L + n ≤ 200) (h : Q (nI (L + n)) (sput (sarr s 56 (rowW (s.1 56) L n (byt x1))) 51 9 (nI (L + n)))) : AtA l G (d + 2) sX11_write 31 [.ref 51, .long x1, .null, .int (nI n), .int 0] [] s (pI Q) := by
  have loop : ∀ m k, k + m = n → AtA l G (d + 2) sX11_write 31 [.ref 51, .long x1, .null, .int (nI n), .int (nI k)] [] (sarr s 56 (rowW (s.1 56) L k (byt x1))) (pI Q) := by
    intro m
    induction m with
    | zero =>
      intro k hk
      have : k = n := by omega
      subst this
      have e2 : (sarr s 56 (rowW (s.1 56) L k (byt x1))).1 51 9 = nI L := e1
      refine r_X11_write_31 _ _ _ _ ⟨fun z => ?_, fun _ => ?_⟩
      · rw [nlt (by omega) (by omega)] at z
        omega
      · rw [e2, nI_add, sp_s]
        exact h
    | succ m ih =>
      intro k hk
      have e2 : (sarr s 56 (rowW (s.1 56) L k (byt x1))).1 51 9 = nI L := e1
      refine r_X11_write_31 _ _ _ _ ⟨fun _ => ?_, fun z => ?_⟩
      · rw [e2, nI_add, nnum (by omega), nI_1, sp_sa]
        refine ⟨vin (show L + k < 200 by omega) (by decide), ?_⟩
        have := ih (k + 1) (by omega)
        rw [← rowW_s] at this
        exact this
      · rw [nlt (by omega) (by omega)] at z
        omega
  have h0 := loop n 0 (Nat.zero_add _)
  rw [rowW_0, sa_id] at h0
  exact h0
/-- the class's sermon behind a word -/
noncomputable def g_X6_append (s : St) (o : Nat) (x1 : Int32) : St := sput (sput (sput (sarr s (o + 1) (rowW (s.1 (o + 1)) (Int32.toNatClampNeg (s.1 o 1)) (Int32.toNatClampNeg (s.1 6 (Int32.toNatClampNeg x1))) (fun i => s.1 5 (10 * Int32.toNatClampNeg x1 + i)))) o 1 (nI (Int32.toNatClampNeg (s.1 o 1) + Int32.toNatClampNeg (s.1 6 (Int32.toNatClampNeg x1))))) o 2 (s.1 o 2 + 1)) o 3 x1
def ok_X6_append (s : St) (o : Nat) (x1 : Int32) : Prop := o = 18 ∧ wlR s 4 ∧ (∃ w, w < Int32.toNatClampNeg (s.1 4 3) ∧ x1 = nI w ∧ ∃ T, s.1 o 1 = nI T ∧ T + Int32.toNatClampNeg (s.1 6 w) ≤ 60) ∧ b_X6_hasRoom s o (v_X9_lengthOf s 4 x1)
theorem p_X6_append {l : Launch} {G : Geo} {d : Nat} (o : Nat) (x1 : Int32) (ho : o = 18 ∨ o = 20 ∨ o = 22) (s : St) {Q : St → Prop} (hok : ok_X6_append s o x1) (h : Q (g_X6_append s o x1)) : DoesV l G (d + 2) 73 [.ref o, .int x1, .ref 4] s Q := by
  obtain ⟨rfl, hW, ⟨w, hw, rfl, T, e1, hT⟩, hroom⟩ := hok
  obtain ⟨ez, hz⟩ := siz4 hW
  obtain ⟨e2, h2⟩ := len4 hW w
  unfold g_X6_append at h
  rw [e1, nnum (by omega), nnum (by omega)] at h
  have loop : ∀ m k, k + m = Int32.toNatClampNeg (s.1 6 w) → AtA l G (d + 2) sX6_append 18 [.ref 18, .int (nI w), .ref 4, .int (nI (Int32.toNatClampNeg (s.1 6 w))), .int (nI k)] [] (sarr s 19 (rowW (s.1 19) T k (fun i => s.1 5 (10 * w + i)))) (pV Q) := by
    intro m
    induction m with
    | zero =>
      intro k hk
      have : k = Int32.toNatClampNeg (s.1 6 w) := by omega
      subst this
      have e3 : (sarr s 19 (rowW (s.1 19) T (Int32.toNatClampNeg (s.1 6 w)) (fun i => s.1 5 (10 * w + i)))).1 18 1 = nI T := e1
      refine r_X6_append_18 18 _ _ _ (Or.inl rfl) _ ⟨fun z => ?_, fun _ => ?_⟩
      · rw [nlt (by omega) (by omega)] at z
        omega
      · rw [e3, nI_add]
        exact h
    | succ m ih =>
      intro k hk
      have e3 : (sarr s 19 (rowW (s.1 19) T k (fun i => s.1 5 (10 * w + i)))).1 18 1 = nI T := e1
      have hW' : wlR (sarr s 19 (rowW (s.1 19) T k (fun i => s.1 5 (10 * w + i)))) 4 := hW
      have e4 : v_X9_letterOf (sarr s 19 (rowW (s.1 19) T k (fun i => s.1 5 (10 * w + i)))) 4 (nI w) (nI k) = s.1 5 (10 * w + k) := v_let4 (s := sarr s 19 (rowW (s.1 19) T k (fun i => s.1 5 (10 * w + i)))) hW' hw (by show k < Int32.toNatClampNeg (s.1 6 w); omega)
      refine r_X6_append_18 18 _ _ _ (Or.inl rfl) _ ⟨fun _ => ⟨ok_let (Or.inl rfl) hW' _ _, ?_⟩, fun z => ?_⟩
      · rw [e3, e4, nI_add, nnum (by omega), nI_1]
        refine ⟨vin (show T + k < 60 by omega) (by decide), ?_⟩
        have := ih (k + 1) (by omega)
        rw [← rowW_s, ← sp_sa] at this
        exact this
      · rw [nlt (by omega) (by omega)] at z
        omega
  have h0 := loop _ 0 (Nat.zero_add _)
  rw [rowW_0, sa_id] at h0
  refine r_X6_append 18 _ (Or.inl rfl) s ⟨ok_len (Or.inl rfl) hW _, fun z => absurd hroom z, fun _ => ?_⟩
  rw [v_len4 hW hw, e2]
  exact h0
end
section
theorem p_X10_shelf {l : Launch} {G : Geo} {d : Nat} (x1 : Int32) (s : St) {Q : Nat → St → Prop} (h : (x1 = 0 → Q 20 s) ∧ (¬ x1 = 0 → Q 22 s)) : DoesR l G (d + 1) 129 [.ref 0, .int x1] s Q := by
  have key : ((x1 = 0 → Q 20 s) ∧ (¬ x1 = 0 → Q 22 s)) := h
  exact does_wp 10 (g := sX10_shelf) (rt := .int) (stops := []) (tbl := tX10_shelf) rfl oX10_shelf rk_X10_shelf (Nat.le_of_ble_eq_true rfl) key
noncomputable def v_X10_fits (s : St) (x1 : Int32) (x2 : Int32) : Int32 := (iC (b_X9_has s 4 x1) (iC (x2 < 0) (-3) (iC ((v_X7_length s) < x2) (-3) (iC (b_X7_isFitting s x1 x2) 1 0))) (-2))
def ok_X10_fits (s : St) (x1 : Int32) (x2 : Int32) : Prop := ((b_X9_has s 4 x1) → (¬ x2 < 0 → (¬ (v_X7_length s) < x2 → ok_X7_isFitting s x1 x2)))
theorem p_X10_fits {l : Launch} {G : Geo} {d : Nat} (x1 : Int32) (x2 : Int32)  (s : St) {Q : Int32 → St → Prop} (hok : ok_X10_fits s x1 x2) (h : Q (v_X10_fits s x1 x2) s) : DoesI l G (d + 3) 118 [.ref 0, .int x1, .int x2] s Q := by
  unfold ok_X10_fits at hok
  have key : DoesI l G (d + 2) 93 [.ref 4, .int x1] s (fun r1 s1 => ((r1 = 0 → Q (-2) s1) ∧ (¬ r1 = 0 → ((x2 < 0 → Q (-3) s1) ∧ (¬ x2 < 0 → DoesI l G (d + 2) 83 [.ref 24] s1 (fun r2 s2 => ((r2 < x2 → Q (-3) s2) ∧ (¬ r2 < x2 → DoesI l G (d + 2) 88 [.ref 24, .ref 4, .int x1, .int x2] s2 (fun r3 s3 => ((r3 = 0 → Q 0 s3) ∧ (¬ r3 = 0 → Q 1 s3))))))))))) := (p_X9_has 4 x1 (by decide) s ⟨fun z1 => (lfI (by rw [v_X10_fits, iC_f (bI_n z1)]) h), fun z1 => ⟨fun z2 => (lfI (by rw [v_X10_fits, iC_t (bI_p z1), iC_t z2]) h), fun z2 => (p_X7_length  s ⟨fun z3 => (lfI (by rw [v_X10_fits, iC_t (bI_p z1), iC_f z2, iC_t z3]) h), fun z3 => (p_X7_isFitting x1 x2 s (((hok (bI_p z1)) z2) z3) ⟨fun z4 => (lfI (by rw [v_X10_fits, iC_t (bI_p z1), iC_f z2, iC_f z3, iC_f (bI_n z4)]) h), fun z4 => (lfI (by rw [v_X10_fits, iC_t (bI_p z1), iC_f z2, iC_f z3, iC_t (bI_p z4)]) h)⟩)⟩)⟩⟩)
  all_goals exact does_wp 26 (g := sX10_fits) (rt := .int) (stops := []) (tbl := tX10_fits) rfl oX10_fits rk_X10_fits (Nat.le_of_ble_eq_true rfl) key
noncomputable def v_X11_fits (s : St) (x1 : Int32) (x2 : Int32) : Int32 := (iC (b_X11_isWord s x1) (iC (b_X11_in s x2 0 (s.1 51 26)) (iC (b_X11_doesFit s x1 x2) 1 0) (-3)) (-2))
def ok_X11_fits (s : St) (x1 : Int32) (x2 : Int32) : Prop := ((b_X11_isWord s x1) → ((b_X11_in s x2 0 (s.1 51 26)) → ok_X11_doesFit s x1 x2))
theorem p_X11_fits {l : Launch} {G : Geo} {d : Nat} (x1 : Int32) (x2 : Int32)  (s : St) {Q : Int32 → St → Prop} (hok : ok_X11_fits s x1 x2) (h : Q (v_X11_fits s x1 x2) s) : DoesI l G (d + 3) 166 [.ref 51, .int x1, .int x2] s Q := by
  unfold ok_X11_fits at hok
  have key : DoesI l G (d + 2) 133 [.ref 51, .int x1] s (fun r1 s1 => ((r1 = 0 → Q (-2) s1) ∧ (¬ r1 = 0 → DoesI l G (d + 2) 131 [.int x2, .int 0, .int (s1.1 51 26)] s1 (fun r2 s2 => ((r2 = 0 → Q (-3) s2) ∧ (¬ r2 = 0 → DoesI l G (d + 2) 165 [.ref 51, .int x1, .int x2] s2 (fun r3 s3 => ((r3 = 0 → Q 0 s3) ∧ (¬ r3 = 0 → Q 1 s3))))))))) := (p_X11_isWord x1 s ⟨fun z1 => (lfI (by rw [v_X11_fits, iC_f (bI_n z1)]) h), fun z1 => (p_X11_in x2 0 (s.1 51 26) s ⟨fun z2 => (lfI (by rw [v_X11_fits, iC_t (bI_p z1), iC_f (bI_n z2)]) h), fun z2 => (p_X11_doesFit x1 x2 s ((hok (bI_p z1)) (bI_p z2)) ⟨fun z3 => (lfI (by rw [v_X11_fits, iC_t (bI_p z1), iC_t (bI_p z2), iC_f (bI_n z3)]) h), fun z3 => (lfI (by rw [v_X11_fits, iC_t (bI_p z1), iC_t (bI_p z2), iC_t (bI_p z3)]) h)⟩)⟩)⟩)
  all_goals exact does_wp 19 (g := sX11_fits) (rt := .int) (stops := []) (tbl := tX11_fits) rfl oX11_fits rk_X11_fits (Nat.le_of_ble_eq_true rfl) key
noncomputable def f_X11_say (s : St) (x1 : Int32) : Int32 × St := (iC (b_X11_in s x1 1 60) (iC (((s.1 51 25) + x1) < (v_X11_lettersOf s)) (((sput s 51 25 ((s.1 51 25) + x1)).1 51 25), (sput s 51 25 ((s.1 51 25) + x1))) (((sput s 51 25 (v_X11_lettersOf s)).1 51 25), (sput s 51 25 (v_X11_lettersOf s)))) ((-3), s))
def ok_X11_say (s : St) (x1 : Int32) : Prop := ((b_X11_in s x1 1 60) → ok_X11_lettersOf s)
theorem p_X11_say {l : Launch} {G : Geo} {d : Nat} (x1 : Int32)  (s : St) {Q : Int32 → St → Prop} (hok : ok_X11_say s x1) (h : Q (f_X11_say s x1).1 (f_X11_say s x1).2) : DoesI l G (d + 2) 158 [.ref 51, .int x1] s Q := by
  unfold ok_X11_say at hok
  have key : DoesI l G (d + 1) 131 [.int x1, .int 1, .int 60] s (fun r1 s1 => ((r1 = 0 → Q (-3) s1) ∧ (¬ r1 = 0 → DoesI l G (d + 1) 151 [.ref 51] s1 (fun r2 s2 => ((((s2.1 51 25) + x1) < r2 → Q ((sput s2 51 25 ((s2.1 51 25) + x1)).1 51 25) (sput s2 51 25 ((s2.1 51 25) + x1))) ∧ (¬ ((s2.1 51 25) + x1) < r2 → Q ((sput s2 51 25 r2).1 51 25) (sput s2 51 25 r2))))))) := (p_X11_in x1 1 60 s ⟨fun z1 => (lfF (by rw [f_X11_say, iC_f (bI_n z1)]) h), fun z1 => (p_X11_lettersOf  s (hok (bI_p z1)) ⟨fun z2 => (lfF (by rw [f_X11_say, iC_t (bI_p z1), iC_t z2]) h), fun z2 => (lfF (by rw [f_X11_say, iC_t (bI_p z1), iC_f z2]) h)⟩)⟩)
  all_goals exact does_wp 25 (g := sX11_say) (rt := .int) (stops := []) (tbl := tX11_say) rfl oX11_say rk_X11_say (Nat.le_of_ble_eq_true rfl) key
noncomputable def f_X11_preach (s : St) (x1 : Int32) : Int32 × St := (iC (b_X11_isWord s x1) (iC (0 < (s.1 51 23)) (iC (b_X11_mayFollow s (s.1 60 (Int32.toNatClampNeg ((s.1 51 23) - 1))) x1) (iC ((s.1 51 23) = 6) ((-5), s) (iC (60 < ((v_X11_lettersOf s) + (s.1 54 (Int32.toNatClampNeg x1)))) ((-5), s) ((v_X11_lettersOf (sput (sput s 60 (Int32.toNatClampNeg (s.1 51 23)) x1) 51 23 (((sput s 60 (Int32.toNatClampNeg (s.1 51 23)) x1).1 51 23) + 1))), (sput (sput s 60 (Int32.toNatClampNeg (s.1 51 23)) x1) 51 23 (((sput s 60 (Int32.toNatClampNeg (s.1 51 23)) x1).1 51 23) + 1))))) ((-4), s)) (iC ((s.1 51 23) = 6) ((-5), s) (iC (60 < ((v_X11_lettersOf s) + (s.1 54 (Int32.toNatClampNeg x1)))) ((-5), s) ((v_X11_lettersOf (sput (sput s 60 (Int32.toNatClampNeg (s.1 51 23)) x1) 51 23 (((sput s 60 (Int32.toNatClampNeg (s.1 51 23)) x1).1 51 23) + 1))), (sput (sput s 60 (Int32.toNatClampNeg (s.1 51 23)) x1) 51 23 (((sput s 60 (Int32.toNatClampNeg (s.1 51 23)) x1).1 51 23) + 1)))))) ((-2), s))
def ok_X11_preach (s : St) (x1 : Int32) : Prop := ((b_X11_isWord s x1) → ((0 < (s.1 51 23) → ((vp_in ((s.1 51 23) - 1) (alen 60)) ∧ (ok_X11_mayFollow s (s.1 60 (Int32.toNatClampNeg ((s.1 51 23) - 1))) x1 ∧ ((b_X11_mayFollow s (s.1 60 (Int32.toNatClampNeg ((s.1 51 23) - 1))) x1) → (¬ (s.1 51 23) = 6 → (ok_X11_lettersOf s ∧ ((vp_in x1 (alen 54)) ∧ (¬ 60 < ((v_X11_lettersOf s) + (s.1 54 (Int32.toNatClampNeg x1))) → ((vp_in (s.1 51 23) (alen 60)) ∧ ok_X11_lettersOf (sput (sput s 60 (Int32.toNatClampNeg (s.1 51 23)) x1) 51 23 (((sput s 60 (Int32.toNatClampNeg (s.1 51 23)) x1).1 51 23) + 1))))))))))) ∧ (¬ 0 < (s.1 51 23) → (¬ (s.1 51 23) = 6 → (ok_X11_lettersOf s ∧ ((vp_in x1 (alen 54)) ∧ (¬ 60 < ((v_X11_lettersOf s) + (s.1 54 (Int32.toNatClampNeg x1))) → ((vp_in (s.1 51 23) (alen 60)) ∧ ok_X11_lettersOf (sput (sput s 60 (Int32.toNatClampNeg (s.1 51 23)) x1) 51 23 (((sput s 60 (Int32.toNatClampNeg (s.1 51 23)) x1).1 51 23) + 1))))))))))
theorem p_X11_preach {l : Launch} {G : Geo} {d : Nat} (x1 : Int32)  (s : St) {Q : Int32 → St → Prop} (hok : ok_X11_preach s x1) (h : Q (f_X11_preach s x1).1 (f_X11_preach s x1).2) : DoesI l G (d + 3) 156 [.ref 51, .int x1] s Q := by
  unfold ok_X11_preach at hok
  have key : DoesI l G (d + 2) 133 [.ref 51, .int x1] s (fun r1 s1 => ((r1 = 0 → Q (-2) s1) ∧ (¬ r1 = 0 → ((0 < (s1.1 51 23) → ((vp_in ((s1.1 51 23) - 1) (alen 60)) ∧ DoesI l G (d + 2) 155 [.ref 51, .int (s1.1 60 (Int32.toNatClampNeg ((s1.1 51 23) - 1))), .int x1] s1 (fun r2 s2 => ((r2 = 0 → Q (-4) s2) ∧ (¬ r2 = 0 → (((s2.1 51 23) = 6 → Q (-5) s2) ∧ (¬ (s2.1 51 23) = 6 → DoesI l G (d + 2) 151 [.ref 51] s2 (fun r3 s3 => ((vp_in x1 (alen 54)) ∧ ((60 < (r3 + (s3.1 54 (Int32.toNatClampNeg x1))) → Q (-5) s3) ∧ (¬ 60 < (r3 + (s3.1 54 (Int32.toNatClampNeg x1))) → ((vp_in (s3.1 51 23) (alen 60)) ∧ DoesI l G (d + 2) 151 [.ref 51] (sput (sput s3 60 (Int32.toNatClampNeg (s3.1 51 23)) x1) 51 23 (((sput s3 60 (Int32.toNatClampNeg (s3.1 51 23)) x1).1 51 23) + 1)) (fun r4 s4 => Q r4 s4))))))))))))) ∧ (¬ 0 < (s1.1 51 23) → (((s1.1 51 23) = 6 → Q (-5) s1) ∧ (¬ (s1.1 51 23) = 6 → DoesI l G (d + 2) 151 [.ref 51] s1 (fun r5 s5 => ((vp_in x1 (alen 54)) ∧ ((60 < (r5 + (s5.1 54 (Int32.toNatClampNeg x1))) → Q (-5) s5) ∧ (¬ 60 < (r5 + (s5.1 54 (Int32.toNatClampNeg x1))) → ((vp_in (s5.1 51 23) (alen 60)) ∧ DoesI l G (d + 2) 151 [.ref 51] (sput (sput s5 60 (Int32.toNatClampNeg (s5.1 51 23)) x1) 51 23 (((sput s5 60 (Int32.toNatClampNeg (s5.1 51 23)) x1).1 51 23) + 1)) (fun r6 s6 => Q r6 s6))))))))))))) := (p_X11_isWord x1 s ⟨fun z1 => (lfF (by rw [f_X11_preach, iC_f (bI_n z1)]) h), fun z1 => ⟨fun z2 => ⟨((hok (bI_p z1)).1 z2).1, (p_X11_mayFollow (s.1 60 (Int32.toNatClampNeg ((s.1 51 23) - 1))) x1 s ((hok (bI_p z1)).1 z2).2.1 ⟨fun z3 => (lfF (by rw [f_X11_preach, iC_t (bI_p z1), iC_t z2, iC_f (bI_n z3)]) h), fun z3 => ⟨fun z4 => (lfF (by rw [f_X11_preach, iC_t (bI_p z1), iC_t z2, iC_t (bI_p z3), iC_t z4]) h), fun z4 => (p_X11_lettersOf  s ((((hok (bI_p z1)).1 z2).2.2 (bI_p z3)) z4).1 ⟨((((hok (bI_p z1)).1 z2).2.2 (bI_p z3)) z4).2.1, ⟨fun z5 => (lfF (by rw [f_X11_preach, iC_t (bI_p z1), iC_t z2, iC_t (bI_p z3), iC_f z4, iC_t z5]) h), fun z5 => ⟨(((((hok (bI_p z1)).1 z2).2.2 (bI_p z3)) z4).2.2 z5).1, (p_X11_lettersOf  (sput (sput s 60 (Int32.toNatClampNeg (s.1 51 23)) x1) 51 23 (((sput s 60 (Int32.toNatClampNeg (s.1 51 23)) x1).1 51 23) + 1)) (((((hok (bI_p z1)).1 z2).2.2 (bI_p z3)) z4).2.2 z5).2 (lfF (by rw [f_X11_preach, iC_t (bI_p z1), iC_t z2, iC_t (bI_p z3), iC_f z4, iC_f z5]) h))⟩⟩⟩)⟩⟩)⟩, fun z2 => ⟨fun z6 => (lfF (by rw [f_X11_preach, iC_t (bI_p z1), iC_f z2, iC_t z6]) h), fun z6 => (p_X11_lettersOf  s (((hok (bI_p z1)).2 z2) z6).1 ⟨(((hok (bI_p z1)).2 z2) z6).2.1, ⟨fun z7 => (lfF (by rw [f_X11_preach, iC_t (bI_p z1), iC_f z2, iC_f z6, iC_t z7]) h), fun z7 => ⟨((((hok (bI_p z1)).2 z2) z6).2.2 z7).1, (p_X11_lettersOf  (sput (sput s 60 (Int32.toNatClampNeg (s.1 51 23)) x1) 51 23 (((sput s 60 (Int32.toNatClampNeg (s.1 51 23)) x1).1 51 23) + 1)) ((((hok (bI_p z1)).2 z2) z6).2.2 z7).2 (lfF (by rw [f_X11_preach, iC_t (bI_p z1), iC_f z2, iC_f z6, iC_f z7]) h))⟩⟩⟩)⟩⟩⟩)
  all_goals exact does_wp 47 (g := sX11_preach) (rt := .int) (stops := []) (tbl := tX11_preach) rfl oX11_preach rk_X11_preach (Nat.le_of_ble_eq_true rfl) key
noncomputable def v_X11_heardAt (s : St) (x1 : Int32) : Int32 := (iC (b_X11_isSaid s x1) (v_X11_letterAt s x1) 0)
def ok_X11_heardAt (s : St) (x1 : Int32) : Prop := (ok_X11_isSaid s x1 ∧ ((b_X11_isSaid s x1) → ok_X11_letterAt s x1))
theorem p_X11_heardAt {l : Launch} {G : Geo} {d : Nat} (x1 : Int32)  (s : St) {Q : Int32 → St → Prop} (hok : ok_X11_heardAt s x1) (h : Q (v_X11_heardAt s x1) s) : DoesI l G (d + 3) 159 [.ref 51, .int x1] s Q := by
  unfold ok_X11_heardAt at hok
  have key : DoesI l G (d + 2) 153 [.ref 51, .int x1] s (fun r1 s1 => ((r1 = 0 → Q 0 s1) ∧ (¬ r1 = 0 → DoesI l G (d + 2) 152 [.ref 51, .int x1] s1 (fun r2 s2 => Q r2 s2)))) := (p_X11_isSaid x1 s hok.1 ⟨fun z1 => (lfI (by rw [v_X11_heardAt, iC_f (bI_n z1)]) h), fun z1 => (p_X11_letterAt x1 s (hok.2 (bI_p z1)) (lfI (by rw [v_X11_heardAt, iC_t (bI_p z1)]) h))⟩)
  all_goals exact does_wp 10 (g := sX11_heardAt) (rt := .int) (stops := []) (tbl := tX11_heardAt) rfl oX11_heardAt rk_X11_heardAt (Nat.le_of_ble_eq_true rfl) key
noncomputable def v_X11_heard (s : St) (x1 : Int32) : Int32 := (iC (x1 < 0) (-3) (iC (x1 < (s.1 51 25)) (v_X11_heardAt s x1) (-1)))
def ok_X11_heard (s : St) (x1 : Int32) : Prop := (¬ x1 < 0 → (x1 < (s.1 51 25) → ok_X11_heardAt s x1))
theorem p_X11_heard {l : Launch} {G : Geo} {d : Nat} (x1 : Int32)  (s : St) {Q : Int32 → St → Prop} (hok : ok_X11_heard s x1) (h : Q (v_X11_heard s x1) s) : DoesI l G (d + 4) 160 [.ref 51, .int x1] s Q := by
  unfold ok_X11_heard at hok
  have key : ((x1 < 0 → Q (-3) s) ∧ (¬ x1 < 0 → ((x1 < (s.1 51 25) → DoesI l G (d + 3) 159 [.ref 51, .int x1] s (fun r1 s1 => Q r1 s1)) ∧ (¬ x1 < (s.1 51 25) → Q (-1) s)))) := ⟨fun z1 => (lfI (by rw [v_X11_heard, iC_t z1]) h), fun z1 => ⟨fun z2 => (p_X11_heardAt x1 s ((hok z1) z2) (lfI (by rw [v_X11_heard, iC_f z1, iC_t z2]) h)), fun z2 => (lfI (by rw [v_X11_heard, iC_f z1, iC_f z2]) h)⟩⟩
  all_goals exact does_wp 12 (g := sX11_heard) (rt := .int) (stops := []) (tbl := tX11_heard) rfl oX11_heard rk_X11_heard (Nat.le_of_ble_eq_true rfl) key
noncomputable def v_X11_count (s : St) (x1 : Int32) : Int32 := (iC (x1 = 0) (s.1 51 0) (iC (x1 = 1) (s.1 51 4) (iC (x1 = 2) (s.1 51 23) (iC (x1 = 3) (v_X11_lettersOf s) (iC (x1 = 4) (s.1 51 25) (iC (x1 = 5) (s.1 51 26) (iC (x1 = 6) (s.1 51 9) (iC (x1 = 7) (s.1 51 8) (-3)))))))))
def ok_X11_count (s : St) (x1 : Int32) : Prop := (¬ x1 = 0 → (¬ x1 = 1 → (¬ x1 = 2 → (x1 = 3 → ok_X11_lettersOf s))))
theorem p_X11_count {l : Launch} {G : Geo} {d : Nat} (x1 : Int32)  (s : St) {Q : Int32 → St → Prop} (hok : ok_X11_count s x1) (h : Q (v_X11_count s x1) s) : DoesI l G (d + 2) 188 [.ref 51, .int x1] s Q := by
  unfold ok_X11_count at hok
  have key : ((x1 = 0 → Q (s.1 51 0) s) ∧ (¬ x1 = 0 → ((x1 = 1 → Q (s.1 51 4) s) ∧ (¬ x1 = 1 → ((x1 = 2 → Q (s.1 51 23) s) ∧ (¬ x1 = 2 → ((x1 = 3 → DoesI l G (d + 1) 151 [.ref 51] s (fun r1 s1 => Q r1 s1)) ∧ (¬ x1 = 3 → ((x1 = 4 → Q (s.1 51 25) s) ∧ (¬ x1 = 4 → ((x1 = 5 → Q (s.1 51 26) s) ∧ (¬ x1 = 5 → ((x1 = 6 → Q (s.1 51 9) s) ∧ (¬ x1 = 6 → ((x1 = 7 → Q (s.1 51 8) s) ∧ (¬ x1 = 7 → Q (-3) s)))))))))))))))) := ⟨fun z1 => (lfI (by rw [v_X11_count, iC_t z1]) h), fun z1 => ⟨fun z2 => (lfI (by rw [v_X11_count, iC_f z1, iC_t z2]) h), fun z2 => ⟨fun z3 => (lfI (by rw [v_X11_count, iC_f z1, iC_f z2, iC_t z3]) h), fun z3 => ⟨fun z4 => (p_X11_lettersOf  s ((((hok z1) z2) z3) z4) (lfI (by rw [v_X11_count, iC_f z1, iC_f z2, iC_f z3, iC_t z4]) h)), fun z4 => ⟨fun z5 => (lfI (by rw [v_X11_count, iC_f z1, iC_f z2, iC_f z3, iC_f z4, iC_t z5]) h), fun z5 => ⟨fun z6 => (lfI (by rw [v_X11_count, iC_f z1, iC_f z2, iC_f z3, iC_f z4, iC_f z5, iC_t z6]) h), fun z6 => ⟨fun z7 => (lfI (by rw [v_X11_count, iC_f z1, iC_f z2, iC_f z3, iC_f z4, iC_f z5, iC_f z6, iC_t z7]) h), fun z7 => ⟨fun z8 => (lfI (by rw [v_X11_count, iC_f z1, iC_f z2, iC_f z3, iC_f z4, iC_f z5, iC_f z6, iC_f z7, iC_t z8]) h), fun z8 => (lfI (by rw [v_X11_count, iC_f z1, iC_f z2, iC_f z3, iC_f z4, iC_f z5, iC_f z6, iC_f z7, iC_f z8]) h)⟩⟩⟩⟩⟩⟩⟩⟩
  all_goals exact does_wp 6 (g := sX11_count) (rt := .int) (stops := []) (tbl := tX11_count) rfl oX11_count rk_X11_count (Nat.le_of_ble_eq_true rfl) key
noncomputable def v_X10_voice (s : St) (x1 : Int32) (x2 : Int32) : Int32 := (iC (b_X0_has s 8 x1) (iC (x2 = 0) (iC (b_X0_isAway s 8 x1) 1 0) (iC (x2 = 1) (iC (b_X0_isHoarse s 8 x1) 1 0) (iC (x2 = 2) (v_X0_lateOf s 8 x1) (iC (x2 = 3) (v_X6_lettersSaidBy s 18 x1) (-3))))) (-2))
def ok_X10_voice (s : St) (x1 : Int32) (x2 : Int32) : Prop := ((b_X0_has s 8 x1) → (¬ x2 = 0 → (¬ x2 = 1 → ((x2 = 2 → ok_X0_lateOf s 8 x1) ∧ (¬ x2 = 2 → (x2 = 3 → ok_X6_lettersSaidBy s 18 x1))))))
theorem p_X10_voice {l : Launch} {G : Geo} {d : Nat} (x1 : Int32) (x2 : Int32)  (s : St) {Q : Int32 → St → Prop} (hok : ok_X10_voice s x1 x2) (h : Q (v_X10_voice s x1 x2) s) : DoesI l G (d + 4) 109 [.ref 0, .int x1, .int x2] s Q := by
  unfold ok_X10_voice at hok
  have key : DoesI l G (d + 3) 4 [.ref 8, .int x1] s (fun r1 s1 => ((r1 = 0 → Q (-2) s1) ∧ (¬ r1 = 0 → ((x2 = 0 → DoesI l G (d + 3) 5 [.ref 8, .int x1] s1 (fun r5 s5 => ((r5 = 0 → Q 0 s5) ∧ (¬ r5 = 0 → Q 1 s5)))) ∧ (¬ x2 = 0 → ((x2 = 1 → DoesI l G (d + 3) 6 [.ref 8, .int x1] s1 (fun r4 s4 => ((r4 = 0 → Q 0 s4) ∧ (¬ r4 = 0 → Q 1 s4)))) ∧ (¬ x2 = 1 → ((x2 = 2 → DoesI l G (d + 3) 7 [.ref 8, .int x1] s1 (fun r3 s3 => Q r3 s3)) ∧ (¬ x2 = 2 → ((x2 = 3 → DoesI l G (d + 3) 78 [.ref 18, .int x1, .ref 8] s1 (fun r2 s2 => Q r2 s2)) ∧ (¬ x2 = 3 → Q (-3) s1))))))))))) := (p_X0_has 8 x1 (by decide) s ⟨fun z1 => (lfI (by rw [v_X10_voice, iC_f (bI_n z1)]) h), fun z1 => ⟨fun z2 => (p_X0_isAway 8 x1 (by decide) s ⟨fun z3 => (lfI (by rw [v_X10_voice, iC_t (bI_p z1), iC_t z2, iC_f (bI_n z3)]) h), fun z3 => (lfI (by rw [v_X10_voice, iC_t (bI_p z1), iC_t z2, iC_t (bI_p z3)]) h)⟩), fun z2 => ⟨fun z4 => (p_X0_isHoarse 8 x1 (by decide) s ⟨fun z5 => (lfI (by rw [v_X10_voice, iC_t (bI_p z1), iC_f z2, iC_t z4, iC_f (bI_n z5)]) h), fun z5 => (lfI (by rw [v_X10_voice, iC_t (bI_p z1), iC_f z2, iC_t z4, iC_t (bI_p z5)]) h)⟩), fun z4 => ⟨fun z6 => (p_X0_lateOf 8 x1 (by decide) s ((((hok (bI_p z1)) z2) z4).1 z6) (lfI (by rw [v_X10_voice, iC_t (bI_p z1), iC_f z2, iC_f z4, iC_t z6]) h)), fun z6 => ⟨fun z7 => (p_X6_lettersSaidBy 18 x1 (by decide) s (((((hok (bI_p z1)) z2) z4).2 z6) z7) (lfI (by rw [v_X10_voice, iC_t (bI_p z1), iC_f z2, iC_f z4, iC_f z6, iC_t z7]) h)), fun z7 => (lfI (by rw [v_X10_voice, iC_t (bI_p z1), iC_f z2, iC_f z4, iC_f z6, iC_f z7]) h)⟩⟩⟩⟩⟩)
  all_goals exact does_wp 18 (g := sX10_voice) (rt := .int) (stops := []) (tbl := tX10_voice) rfl oX10_voice rk_X10_voice (Nat.le_of_ble_eq_true rfl) key
noncomputable def v_X10_tally (s : St) (x1 : Int32) : Int32 := (iC (x1 = 0) ((v_X6_saidTotal s 18) - (v_X6_lettersHeard s 18)) (iC (x1 = 1) (v_X6_lettersHeard s 18) (iC (x1 = 2) (iC ((v_X6_saidTotal s 18) < (v_X6_letterTotal s 18)) (v_X0_voiceOf s 8 (v_X6_saidTotal s 18)) (-1)) (-3))))
def ok_X10_tally (s : St) (x1 : Int32) : Prop := ((x1 = 0 → ok_X6_lettersHeard s 18) ∧ (¬ x1 = 0 → ((x1 = 1 → ok_X6_lettersHeard s 18) ∧ (¬ x1 = 1 → (x1 = 2 → ((v_X6_saidTotal s 18) < (v_X6_letterTotal s 18) → ok_X0_voiceOf s 8 (v_X6_saidTotal s 18)))))))
theorem p_X10_tally {l : Launch} {G : Geo} {d : Nat} (x1 : Int32)  (s : St) {Q : Int32 → St → Prop} (hok : ok_X10_tally s x1) (h : Q (v_X10_tally s x1) s) : DoesI l G (d + 4) 114 [.ref 0, .int x1] s Q := by
  unfold ok_X10_tally at hok
  have key : ((x1 = 0 → DoesI l G (d + 3) 70 [.ref 18] s (fun r6 s6 => DoesI l G (d + 3) 77 [.ref 18, .ref 8] s6 (fun r7 s7 => Q (r6 - r7) s7))) ∧ (¬ x1 = 0 → ((x1 = 1 → DoesI l G (d + 3) 77 [.ref 18, .ref 8] s (fun r5 s5 => Q r5 s5)) ∧ (¬ x1 = 1 → ((x1 = 2 → DoesI l G (d + 3) 70 [.ref 18] s (fun r1 s1 => DoesI l G (d + 3) 68 [.ref 18] s1 (fun r2 s2 => ((r1 < r2 → DoesI l G (d + 3) 70 [.ref 18] s2 (fun r3 s3 => DoesI l G (d + 3) 11 [.ref 8, .int r3] s3 (fun r4 s4 => Q r4 s4))) ∧ (¬ r1 < r2 → Q (-1) s2))))) ∧ (¬ x1 = 2 → Q (-3) s)))))) := ⟨fun z1 => (p_X6_saidTotal 18 (by decide) s (p_X6_lettersHeard 18 (by decide) s (hok.1 z1) (lfI (by rw [v_X10_tally, iC_t z1]) h))), fun z1 => ⟨fun z2 => (p_X6_lettersHeard 18 (by decide) s ((hok.2 z1).1 z2) (lfI (by rw [v_X10_tally, iC_f z1, iC_t z2]) h)), fun z2 => ⟨fun z3 => (p_X6_saidTotal 18 (by decide) s (p_X6_letterTotal 18 (by decide) s ⟨fun z4 => (p_X6_saidTotal 18 (by decide) s (p_X0_voiceOf 8 (v_X6_saidTotal s 18) (by decide) s ((((hok.2 z1).2 z2) z3) z4) (lfI (by rw [v_X10_tally, iC_f z1, iC_f z2, iC_t z3, iC_t z4]) h))), fun z4 => (lfI (by rw [v_X10_tally, iC_f z1, iC_f z2, iC_t z3, iC_f z4]) h)⟩)), fun z3 => (lfI (by rw [v_X10_tally, iC_f z1, iC_f z2, iC_f z3]) h)⟩⟩⟩
  all_goals exact does_wp 19 (g := sX10_tally) (rt := .int) (stops := []) (tbl := tX10_tally) rfl oX10_tally rk_X10_tally (Nat.le_of_ble_eq_true rfl) key
noncomputable def f_X10_write (s : St) (x1 : Int64) (x2 : Int32) : Int32 × St := (iC (x2 < 1) ((-3), s) (iC (8 < x2) ((-3), s) (iC (b_X4_hasRoom s x2) ((v_X4_length (g_X4_append s x1 x2)), (g_X4_append s x1 x2)) ((-5), s))))
def ok_X10_write (s : St) (x1 : Int64) (x2 : Int32) : Prop := (¬ x2 < 1 → (¬ 8 < x2 → ((b_X4_hasRoom s x2) → ok_X4_append s x1 x2)))
theorem p_X10_write {l : Launch} {G : Geo} {d : Nat} (x1 : Int64) (x2 : Int32)  (s : St) {Q : Int32 → St → Prop} (hok : ok_X10_write s x1 x2) (h : Q (f_X10_write s x1 x2).1 (f_X10_write s x1 x2).2) : DoesI l G (d + 2) 104 [.ref 0, .long x1, .int x2] s Q := by
  unfold ok_X10_write at hok
  have key : ((x2 < 1 → Q (-3) s) ∧ (¬ x2 < 1 → ((8 < x2 → Q (-3) s) ∧ (¬ 8 < x2 → DoesI l G (d + 1) 53 [.ref 1, .int x2] s (fun r1 s1 => ((r1 = 0 → Q (-5) s1) ∧ (¬ r1 = 0 → DoesV l G (d + 1) 54 [.ref 1, .long x1, .int x2] s1 (fun s2 => DoesI l G (d + 1) 52 [.ref 1] s2 (fun r3 s3 => Q r3 s3))))))))) := ⟨fun z1 => (lfF (by rw [f_X10_write, iC_t z1]) h), fun z1 => ⟨fun z2 => (lfF (by rw [f_X10_write, iC_f z1, iC_t z2]) h), fun z2 => (p_X4_hasRoom x2 s ⟨fun z3 => (lfF (by rw [f_X10_write, iC_f z1, iC_f z2, iC_f (bI_n z3)]) h), fun z3 => (p_X4_append x1 x2 s (((hok z1) z2) (bI_p z3)) (p_X4_length  (g_X4_append s x1 x2) (lfF (by rw [f_X10_write, iC_f z1, iC_f z2, iC_t (bI_p z3)]) h)))⟩)⟩⟩
  all_goals exact does_wp 21 (g := sX10_write) (rt := .int) (stops := []) (tbl := tX10_write) rfl oX10_write rk_X10_write (Nat.le_of_ble_eq_true rfl) key
noncomputable def f_X10_preach (s : St) (x1 : Int32) : Int32 × St := (iC (b_X9_has s 4 x1) (iC ((v_X6_lastWord s 18) = (-1)) (iC (b_X6_hasRoom s 18 (v_X9_lengthOf s 4 x1)) ((v_X6_letterTotal (g_X6_append s 18 x1) 18), (g_X6_append s 18 x1)) ((-5), s)) (iC (b_X9_mayFollow s 4 (v_X9_sortOf s 4 (v_X6_lastWord s 18)) (v_X9_sortOf s 4 x1)) (iC (b_X6_hasRoom s 18 (v_X9_lengthOf s 4 x1)) ((v_X6_letterTotal (g_X6_append s 18 x1) 18), (g_X6_append s 18 x1)) ((-5), s)) ((-4), s))) ((-2), s))
def ok_X10_preach (s : St) (x1 : Int32) : Prop := ((b_X9_has s 4 x1) → (((v_X6_lastWord s 18) = (-1) → (ok_X9_lengthOf s 4 x1 ∧ ((b_X6_hasRoom s 18 (v_X9_lengthOf s 4 x1)) → ok_X6_append s 18 x1))) ∧ (¬ (v_X6_lastWord s 18) = (-1) → (ok_X9_sortOf s 4 (v_X6_lastWord s 18) ∧ (ok_X9_sortOf s 4 x1 ∧ ((b_X9_mayFollow s 4 (v_X9_sortOf s 4 (v_X6_lastWord s 18)) (v_X9_sortOf s 4 x1)) → (ok_X9_lengthOf s 4 x1 ∧ ((b_X6_hasRoom s 18 (v_X9_lengthOf s 4 x1)) → ok_X6_append s 18 x1))))))))
theorem p_X10_preach {l : Launch} {G : Geo} {d : Nat} (x1 : Int32)  (s : St) {Q : Int32 → St → Prop} (hok : ok_X10_preach s x1) (h : Q (f_X10_preach s x1).1 (f_X10_preach s x1).2) : DoesI l G (d + 3) 110 [.ref 0, .int x1] s Q := by
  unfold ok_X10_preach at hok
  have key : DoesI l G (d + 2) 93 [.ref 4, .int x1] s (fun r1 s1 => ((r1 = 0 → Q (-2) s1) ∧ (¬ r1 = 0 → DoesI l G (d + 2) 71 [.ref 18] s1 (fun r2 s2 => ((r2 = (-1) → DoesI l G (d + 2) 94 [.ref 4, .int x1] s2 (fun r3 s3 => DoesI l G (d + 2) 72 [.ref 18, .int r3] s3 (fun r4 s4 => ((r4 = 0 → Q (-5) s4) ∧ (¬ r4 = 0 → DoesV l G (d + 2) 73 [.ref 18, .int x1, .ref 4] s4 (fun s5 => DoesI l G (d + 2) 68 [.ref 18] s5 (fun r6 s6 => Q r6 s6))))))) ∧ (¬ r2 = (-1) → DoesI l G (d + 2) 95 [.ref 4, .int r2] s2 (fun r7 s7 => DoesI l G (d + 2) 95 [.ref 4, .int x1] s7 (fun r8 s8 => DoesI l G (d + 2) 98 [.ref 4, .int r7, .int r8] s8 (fun r9 s9 => ((r9 = 0 → Q (-4) s9) ∧ (¬ r9 = 0 → DoesI l G (d + 2) 94 [.ref 4, .int x1] s9 (fun r10 s10 => DoesI l G (d + 2) 72 [.ref 18, .int r10] s10 (fun r11 s11 => ((r11 = 0 → Q (-5) s11) ∧ (¬ r11 = 0 → DoesV l G (d + 2) 73 [.ref 18, .int x1, .ref 4] s11 (fun s12 => DoesI l G (d + 2) 68 [.ref 18] s12 (fun r13 s13 => Q r13 s13))))))))))))))))) := (p_X9_has 4 x1 (by decide) s ⟨fun z1 => (lfF (by rw [f_X10_preach, iC_f (bI_n z1)]) h), fun z1 => (p_X6_lastWord 18 (by decide) s ⟨fun z2 => (p_X9_lengthOf 4 x1 (by decide) s ((hok (bI_p z1)).1 z2).1 (p_X6_hasRoom 18 (v_X9_lengthOf s 4 x1) (by decide) s ⟨fun z3 => (lfF (by rw [f_X10_preach, iC_t (bI_p z1), iC_t z2, iC_f (bI_n z3)]) h), fun z3 => (p_X6_append 18 x1 (by decide) s (((hok (bI_p z1)).1 z2).2 (bI_p z3)) (p_X6_letterTotal 18 (by decide) (g_X6_append s 18 x1) (lfF (by rw [f_X10_preach, iC_t (bI_p z1), iC_t z2, iC_t (bI_p z3)]) h)))⟩)), fun z2 => (p_X9_sortOf 4 (v_X6_lastWord s 18) (by decide) s ((hok (bI_p z1)).2 z2).1 (p_X9_sortOf 4 x1 (by decide) s ((hok (bI_p z1)).2 z2).2.1 (p_X9_mayFollow 4 (v_X9_sortOf s 4 (v_X6_lastWord s 18)) (v_X9_sortOf s 4 x1) (by decide) s ⟨fun z4 => (lfF (by rw [f_X10_preach, iC_t (bI_p z1), iC_f z2, iC_f (bI_n z4)]) h), fun z4 => (p_X9_lengthOf 4 x1 (by decide) s (((hok (bI_p z1)).2 z2).2.2 (bI_p z4)).1 (p_X6_hasRoom 18 (v_X9_lengthOf s 4 x1) (by decide) s ⟨fun z5 => (lfF (by rw [f_X10_preach, iC_t (bI_p z1), iC_f z2, iC_t (bI_p z4), iC_f (bI_n z5)]) h), fun z5 => (p_X6_append 18 x1 (by decide) s ((((hok (bI_p z1)).2 z2).2.2 (bI_p z4)).2 (bI_p z5)) (p_X6_letterTotal 18 (by decide) (g_X6_append s 18 x1) (lfF (by rw [f_X10_preach, iC_t (bI_p z1), iC_f z2, iC_t (bI_p z4), iC_t (bI_p z5)]) h)))⟩))⟩)))⟩)⟩)
  all_goals exact does_wp 49 (g := sX10_preach) (rt := .int) (stops := []) (tbl := tX10_preach) rfl oX10_preach rk_X10_preach (Nat.le_of_ble_eq_true rfl) key
set_option maxRecDepth 100000 in
theorem r_X10_back {l : Launch} {G : Geo} {d : Nat} (x1 : Int32)  (s : St) {Q : Int32 → St → Prop} (h : ((x1 < 0 → Q (-2) s) ∧ (¬ x1 < 0 → ((x1 < 2 → (((((s.1 0 7) >>> (x1 &&& 31)) &&& 1) = 0 → Q (-4) s) ∧ (¬ (((s.1 0 7) >>> (x1 &&& 31)) &&& 1) = 0 → ((x1 = 0 → (ok_X6_copyFrom s 18 20 ∧ Q (v_X6_saidTotal (g_X6_copyFrom s 18 20) 18) (g_X6_copyFrom s 18 20))) ∧ (¬ x1 = 0 → (ok_X6_copyFrom s 18 22 ∧ Q (v_X6_saidTotal (g_X6_copyFrom s 18 22) 18) (g_X6_copyFrom s 18 22))))))) ∧ (¬ x1 < 2 → Q (-2) s))))) : DoesI l G (d + 2) 127 [.ref 0, .int x1] s Q := by
  have key : ((x1 < 0 → Q (-2) s) ∧ (¬ x1 < 0 → ((x1 < 2 → (((((s.1 0 7) >>> (x1 &&& 31)) &&& 1) = 0 → Q (-4) s) ∧ (¬ (((s.1 0 7) >>> (x1 &&& 31)) &&& 1) = 0 → DoesR l G (d + 1) 129 [.ref 0, .int x1] s (fun r1 s1 => wp (fun pc ls st σ => AtA l G (d + 2) sX10_back pc ls st σ (pI Q)) (DoesQ l G (d + 1)) (pI Q) .int [] tX10_back 43 35 [.ref 0, .int x1] (.ref r1 :: [.ref 18]) s1)))) ∧ (¬ x1 < 2 → Q (-2) s)))) := ⟨fun z1 => (h.1 z1), fun z1 => ⟨fun z2 => ⟨fun z3 => (((h.2 z1).1 z2).1 z3), fun z3 => (p_X10_shelf x1 s ⟨fun z4 => (show DoesV l G (d + 1) 66 [.ref 18, .ref 20] s (fun s2 => DoesI l G (d + 1) 70 [.ref 18] s2 (fun r3 s3 => Q r3 s3)) from (p_X6_copyFrom 18 20 (by decide) s ((((h.2 z1).1 z2).2 z3).1 z4).1 (p_X6_saidTotal 18 (by decide) (g_X6_copyFrom s 18 20) ((((h.2 z1).1 z2).2 z3).1 z4).2))), fun z4 => (show DoesV l G (d + 1) 66 [.ref 18, .ref 22] s (fun s4 => DoesI l G (d + 1) 70 [.ref 18] s4 (fun r5 s5 => Q r5 s5)) from (p_X6_copyFrom 18 22 (by decide) s ((((h.2 z1).1 z2).2 z3).2 z4).1 (p_X6_saidTotal 18 (by decide) (g_X6_copyFrom s 18 22) ((((h.2 z1).1 z2).2 z3).2 z4).2)))⟩)⟩, fun z2 => ((h.2 z1).2 z2)⟩⟩
  all_goals exact does_wp 60 (g := sX10_back) (rt := .int) (stops := []) (tbl := tX10_back) rfl oX10_back rk_X10_back (Nat.le_of_ble_eq_true rfl) key
theorem r_X10_keep {l : Launch} {G : Geo} {d : Nat} (x1 : Int32)  (s : St) {Q : Int32 → St → Prop} (h : ((x1 < 0 → Q (-2) s) ∧ (¬ x1 < 0 → ((x1 < 2 → ((x1 = 0 → (ok_X6_copyFrom s 20 18 ∧ Q (v_X6_saidTotal (sput (g_X6_copyFrom s 20 18) 0 7 (((g_X6_copyFrom s 20 18).1 0 7) ||| (1 <<< (x1 &&& 31)))) 18) (sput (g_X6_copyFrom s 20 18) 0 7 (((g_X6_copyFrom s 20 18).1 0 7) ||| (1 <<< (x1 &&& 31)))))) ∧ (¬ x1 = 0 → (ok_X6_copyFrom s 22 18 ∧ Q (v_X6_saidTotal (sput (g_X6_copyFrom s 22 18) 0 7 (((g_X6_copyFrom s 22 18).1 0 7) ||| (1 <<< (x1 &&& 31)))) 18) (sput (g_X6_copyFrom s 22 18) 0 7 (((g_X6_copyFrom s 22 18).1 0 7) ||| (1 <<< (x1 &&& 31)))))))) ∧ (¬ x1 < 2 → Q (-2) s))))) : DoesI l G (d + 2) 126 [.ref 0, .int x1] s Q := by
  refine does_wp 60 (g := sX10_keep) (rt := .int) (stops := []) (tbl := tX10_keep) rfl oX10_keep rk_X10_keep (Nat.le_of_ble_eq_true rfl) ?_
  refine And.intro (fun z1 => ?_) (fun z1 => And.intro (fun z2 => ?_) (fun z2 => ?_))
  · exact h.1 z1
  · refine p_X10_shelf x1 s ⟨fun z3 => ?_, fun z3 => ?_⟩
    · exact (show DoesV l G (d + 1) 66 [.ref 20, .ref 18] s (fun s2 => DoesI l G (d + 1) 70 [.ref 18] (sput s2 0 7 ((s2.1 0 7) ||| (1 <<< (x1 &&& 31)))) (fun r3 s3 => Q r3 s3)) from (p_X6_copyFrom 20 18 (by decide) s (((h.2 z1).1 z2).1 z3).1 (p_X6_saidTotal 18 (by decide) (sput (g_X6_copyFrom s 20 18) 0 7 (((g_X6_copyFrom s 20 18).1 0 7) ||| (1 <<< (x1 &&& 31)))) (((h.2 z1).1 z2).1 z3).2)))
    · exact (show DoesV l G (d + 1) 66 [.ref 22, .ref 18] s (fun s4 => DoesI l G (d + 1) 70 [.ref 18] (sput s4 0 7 ((s4.1 0 7) ||| (1 <<< (x1 &&& 31)))) (fun r5 s5 => Q r5 s5)) from (p_X6_copyFrom 22 18 (by decide) s (((h.2 z1).1 z2).2 z3).1 (p_X6_saidTotal 18 (by decide) (sput (g_X6_copyFrom s 22 18) 0 7 (((g_X6_copyFrom s 22 18).1 0 7) ||| (1 <<< (x1 &&& 31)))) (((h.2 z1).1 z2).2 z3).2)))
  · exact (h.2 z1).2 z2
set_option maxRecDepth 100000 in
theorem r_X11_tally {l : Launch} {G : Geo} {d : Nat} (x1 : Int32)  (s : St) {Q : Int32 → St → Prop} (h : ((¬ (b_X11_in s x1 0 2) → Q (-3) s) ∧ ((b_X11_in s x1 0 2) → AtA l G (d + 3) sX11_tally 16 [.ref 51, .int x1, .int 0, .int 0] [] s (pI Q)))) : DoesI l G (d + 3) 161 [.ref 51, .int x1] s Q := by
  have key : DoesI l G (d + 2) 131 [.int x1, .int 0, .int 2] s (fun r1 s1 => ((r1 = 0 → Q (-3) s1) ∧ (¬ r1 = 0 → AtA l G (d + 3) sX11_tally 16 [.ref 51, .int x1, .int 0, .int 0] [] s1 (pI Q)))) := (p_X11_in x1 0 2 s ⟨fun z1 => (h.1 (bI_n z1)), fun z1 => (h.2 (bI_p z1))⟩)
  all_goals exact does_wp 11 (g := sX11_tally) (rt := .int) (stops := [16]) (tbl := tX11_tally) rfl oX11_tally rk_X11_tally (Nat.le_of_ble_eq_true rfl) key
set_option maxRecDepth 100000 in
theorem r_X11_tally_16 {l : Launch} {G : Geo} {d : Nat} (v1 : Int32) (v2 : Int32) (v3 : Int32)  (s : St) {Q : Int32 → St → Prop} (h : ((v3 < (s.1 51 25) → (ok_X11_isSaid s v3 ∧ ((¬ (b_X11_isSaid s v3) → AtA l G (d + 3) sX11_tally 16 [.ref 51, .int v1, .int (v2 + 0), .int (v3 + 1)] [] s (pI Q)) ∧ ((b_X11_isSaid s v3) → AtA l G (d + 3) sX11_tally 16 [.ref 51, .int v1, .int (v2 + 1), .int (v3 + 1)] [] s (pI Q))))) ∧ (¬ v3 < (s.1 51 25) → ((v1 = 0 → Q ((s.1 51 25) - v2) s) ∧ (¬ v1 = 0 → ((v1 = 1 → Q v2 s) ∧ (¬ v1 = 1 → (ok_X11_lettersOf s ∧ (((s.1 51 25) < (v_X11_lettersOf s) → ((¬ (s.1 51 0) = 0) ∧ Q ((s.1 51 25) - (s.1 51 25) / (s.1 51 0) * (s.1 51 0)) s)) ∧ (¬ (s.1 51 25) < (v_X11_lettersOf s) → Q (-1) s)))))))))) : AtA l G (d + 3) sX11_tally 16 [.ref 51, .int v1, .int v2, .int v3] [] s (pI Q) := by
  have key : ((v3 < (s.1 51 25) → DoesI l G (d + 2) 153 [.ref 51, .int v3] s (fun r1 s1 => ((r1 = 0 → AtA l G (d + 3) sX11_tally 16 [.ref 51, .int v1, .int (v2 + 0), .int (v3 + 1)] [] s1 (pI Q)) ∧ (¬ r1 = 0 → AtA l G (d + 3) sX11_tally 16 [.ref 51, .int v1, .int (v2 + 1), .int (v3 + 1)] [] s1 (pI Q))))) ∧ (¬ v3 < (s.1 51 25) → ((v1 = 0 → Q ((s.1 51 25) - v2) s) ∧ (¬ v1 = 0 → ((v1 = 1 → Q v2 s) ∧ (¬ v1 = 1 → DoesI l G (d + 2) 151 [.ref 51] s (fun r2 s2 => (((s.1 51 25) < r2 → ((¬ (s2.1 51 0) = 0) ∧ Q ((s2.1 51 25) - (s2.1 51 25) / (s2.1 51 0) * (s2.1 51 0)) s2)) ∧ (¬ (s.1 51 25) < r2 → Q (-1) s2))))))))) := ⟨fun z1 => (p_X11_isSaid v3 s (h.1 z1).1 ⟨fun z2 => ((h.1 z1).2.1 (bI_n z2)), fun z2 => ((h.1 z1).2.2 (bI_p z2))⟩), fun z1 => ⟨fun z3 => ((h.2 z1).1 z3), fun z3 => ⟨fun z4 => (((h.2 z1).2 z3).1 z4), fun z4 => (p_X11_lettersOf  s (((h.2 z1).2 z3).2 z4).1 ⟨fun z5 => ⟨((((h.2 z1).2 z3).2 z4).2.1 z5).1, ((((h.2 z1).2 z3).2 z4).2.1 z5).2⟩, fun z5 => ((((h.2 z1).2 z3).2 z4).2.2 z5)⟩)⟩⟩⟩
  all_goals exact wp_sound (rt := .int) (stops := [16]) (tbl := tX11_tally) oX11_tally rk_X11_tally 22 16 _ _ _ key
set_option maxRecDepth 100000 in
theorem r_X10_listen {l : Launch} {G : Geo} {d : Nat}   (s : St) {Q : Int32 → St → Prop} (h : AtA l G (d + 4) sX10_listen 10 [.ref 0, .int 0] [] (f_X7_makeEmpty s).2 (pI Q)) : DoesI l G (d + 4) 116 [.ref 0] s Q := by
  have key : DoesI l G (d + 3) 85 [.ref 24] s (fun r1 s1 => AtA l G (d + 4) sX10_listen 10 [.ref 0, .int 0] [] s1 (pI Q)) := (p_X7_makeEmpty  s h)
  all_goals exact does_wp 8 (g := sX10_listen) (rt := .int) (stops := [10]) (tbl := tX10_listen) rfl oX10_listen rk_X10_listen (Nat.le_of_ble_eq_true rfl) key
set_option maxRecDepth 100000 in
theorem r_X10_listen_10 {l : Launch} {G : Geo} {d : Nat} (v1 : Int32)  (s : St) {Q : Int32 → St → Prop} (h : ((v1 < (v_X6_saidTotal s 18) → (ok_X6_heardAt s 18 v1 ∧ (ok_X7_append s (v_X6_heardAt s 18 v1) ∧ AtA l G (d + 4) sX10_listen 10 [.ref 0, .int (v1 + 1)] [] (g_X7_append s (v_X6_heardAt s 18 v1)) (pI Q)))) ∧ (¬ v1 < (v_X6_saidTotal s 18) → Q (v_X7_length s) s))) : AtA l G (d + 4) sX10_listen 10 [.ref 0, .int v1] [] s (pI Q) := by
  have key : DoesI l G (d + 3) 70 [.ref 18] s (fun r1 s1 => ((v1 < r1 → DoesI l G (d + 3) 76 [.ref 18, .int v1, .ref 8] s1 (fun r2 s2 => DoesV l G (d + 3) 86 [.ref 24, .int r2] s2 (fun s3 => AtA l G (d + 4) sX10_listen 10 [.ref 0, .int (v1 + 1)] [] s3 (pI Q)))) ∧ (¬ v1 < r1 → DoesI l G (d + 3) 83 [.ref 24] s1 (fun r4 s4 => Q r4 s4)))) := (p_X6_saidTotal 18 (by decide) s ⟨fun z1 => (p_X6_heardAt 18 v1 (by decide) s (h.1 z1).1 (p_X7_append (v_X6_heardAt s 18 v1) s (h.1 z1).2.1 (h.1 z1).2.2)), fun z1 => (p_X7_length  s (h.2 z1))⟩)
  all_goals exact wp_sound (rt := .int) (stops := [10]) (tbl := tX10_listen) oX10_listen rk_X10_listen 19 10 _ _ _ key
set_option maxRecDepth 100000 in
theorem r_X11_listen {l : Launch} {G : Geo} {d : Nat}   (s : St) {Q : Int32 → St → Prop} (h : AtA l G (d + 4) sX11_listen 10 [.ref 51, .int 0] [] (sput s 51 26 (s.1 51 25)) (pI Q)) : DoesI l G (d + 4) 163 [.ref 51] s Q := by
  have key : AtA l G (d + 4) sX11_listen 10 [.ref 51, .int 0] [] (sput s 51 26 (s.1 51 25)) (pI Q) := h
  all_goals exact does_wp 8 (g := sX11_listen) (rt := .int) (stops := [10]) (tbl := tX11_listen) rfl oX11_listen rk_X11_listen (Nat.le_of_ble_eq_true rfl) key
set_option maxRecDepth 100000 in
theorem r_X11_listen_10 {l : Launch} {G : Geo} {d : Nat} (v1 : Int32)  (s : St) {Q : Int32 → St → Prop} (h : ((v1 < (s.1 51 25) → (ok_X11_heardAt s v1 ∧ ((vp_in v1 (alen 61)) ∧ AtA l G (d + 4) sX11_listen 10 [.ref 51, .int (v1 + 1)] [] (sput s 61 (Int32.toNatClampNeg v1) (v_X11_heardAt s v1)) (pI Q)))) ∧ (¬ v1 < (s.1 51 25) → Q (s.1 51 26) s))) : AtA l G (d + 4) sX11_listen 10 [.ref 51, .int v1] [] s (pI Q) := by
  have key : ((v1 < (s.1 51 25) → DoesI l G (d + 3) 159 [.ref 51, .int v1] s (fun r1 s1 => ((vp_in v1 (alen 61)) ∧ AtA l G (d + 4) sX11_listen 10 [.ref 51, .int (v1 + 1)] [] (sput s1 61 (Int32.toNatClampNeg v1) r1) (pI Q)))) ∧ (¬ v1 < (s.1 51 25) → Q (s.1 51 26) s)) := ⟨fun z1 => (p_X11_heardAt v1 s (h.1 z1).1 ⟨(h.1 z1).2.1, (h.1 z1).2.2⟩), fun z1 => (h.2 z1)⟩
  all_goals exact wp_sound (rt := .int) (stops := [10]) (tbl := tX11_listen) oX11_listen rk_X11_listen 15 10 _ _ _ key
end
section
/-! equal answers: the plain methods -/
theorem in_iff {s : St} {x a b : Int32} : b_X11_in s x a b ↔ ¬ x < a ∧ ¬ b < x := by
  unfold b_X11_in iP
  constructor
  · intro h
    have h1 : ¬ x < a := fun z => h.1 z
    exact ⟨h1, fun z => (h.2 h1).1 z⟩
  · intro h
    exact ⟨fun z => absurd z h.1, fun _ => ⟨fun z => absurd z h.2, fun _ => trivial⟩⟩
theorem in0_iff {s : St} {x : Int32} {N : Nat} (hN : N < 1000) : b_X11_in s x 0 (nI N - 1) ↔ ∃ w, w < N ∧ x = nI w := by
  rw [in_iff]
  have e : (nI N - 1).toInt = (N : Int) - 1 := pk_sub_toInt (b := 1) (by omega) (by omega)
  constructor
  · rintro ⟨h1, h2⟩
    obtain ⟨k, hk, rfl⟩ := nI_of h1
    rw [i_lt, e, nI_i hk] at h2
    exact ⟨k, by omega, rfl⟩
  · rintro ⟨w, hw, rfl⟩
    refine ⟨nneg w (by omega), ?_⟩
    rw [i_lt, e, nI_i (by omega)]
    omega
theorem has_iff {s : St} {o : Nat} {x : Int32} (hr : rg (s.1 o 3) 12) : b_X9_has s o x ↔ ∃ w, w < Int32.toNatClampNeg (s.1 o 3) ∧ x = nI w := by
  unfold b_X9_has iP
  obtain ⟨e, h⟩ := rg_num hr (by decide)
  constructor
  · intro hh
    have h1 : ¬ x < 0 := fun z => hh.1 z
    have h2 : x < s.1 o 3 := Classical.byContradiction fun z => (hh.2 h1).2 z
    obtain ⟨k, h3, -, h4⟩ := of_lt h1 h2 hr (by decide)
    exact ⟨k, h3, h4⟩
  · rintro ⟨w, hw, rfl⟩
    have h1 : ¬ nI w < 0 := nneg w (by omega)
    have h2 : nI w < s.1 o 3 := by rw [e, nlt (by omega) (by omega)]; exact hw
    exact ⟨fun z => absurd z h1, fun _ => ⟨fun _ => trivial, fun z => absurd h2 z⟩⟩
theorem isw_iff {s : St} (h : RI s) {x : Int32} : b_X11_isWord s x ↔ ∃ w, w < Int32.toNatClampNeg (s.1 4 3) ∧ x = nI w := by
  unfold b_X11_isWord
  obtain ⟨e, hz⟩ := siz4 (ri_wl h)
  rw [h.2.2.1.2.2.2.2.2.1, e, in0_iff (by omega), nnum (by omega)]
theorem w_in {w : Nat} (h : w < 12) : vp_in (nI w) 12 := vin h (by decide)
theorem eq_word {l : Launch} {G : Geo} {s : St} (h : RI s) (x1 x2 : Int32) : Eqv l G 108 150 [.int x1, .int x2] s := by
  have hW := ri_wl h
  obtain ⟨ez, hz⟩ := siz4 hW
  obtain ⟨-, -, ⟨-, -, -, -, -, w6, w7, w8, w9, w10⟩, -⟩ := id h
  have ok1 : ok_X10_word s x1 x2 := fun _ => ⟨fun _ => ok_len (Or.inl rfl) hW _, fun _ => ⟨fun _ => ok_sort (Or.inl rfl) hW _, fun _ _ _ => ok_let (Or.inl rfl) hW _ _⟩⟩
  refine p_X10_word _ _ s ok1 ?_
  by_cases hw : ∃ w, w < Int32.toNatClampNeg (s.1 4 3) ∧ x1 = nI w
  · have hh := (has_iff (o := 4) hW.1).mpr hw
    have hi := (isw_iff h).mpr hw
    obtain ⟨w, hw, rfl⟩ := hw
    obtain ⟨el, hl⟩ := len4 hW w
    have i12 : vp_in (nI w) 12 := w_in (by omega)
    have ok2 : ok_X11_word s (nI w) x2 := by
      refine fun _ => ⟨fun _ => ⟨fun _ => i12, fun _ => i12⟩, fun _ => ⟨fun _ => ⟨fun _ => i12, fun _ => i12⟩, fun _ hin => ⟨i12, fun hlt => ?_⟩⟩⟩
      rw [in_iff] at hin
      rw [nnum (by omega), w9, el] at hlt
      have e10 : (x2 - 10).toInt = x2.toInt - 10 ∧ 10 ≤ x2.toInt := by
        have h1 := hin.1
        have h2 := hin.2
        rw [i_lt] at h1 h2
        have q1 : (10 : Int32).toInt = 10 := rfl
        have q2 : (19 : Int32).toInt = 19 := rfl
        obtain ⟨k, hk, rfl⟩ := nI_of (x := x2) (by rw [i_lt]; show ¬ x2.toInt < 0; omega)
        rw [nI_i hk] at h1 h2 ⊢
        exact ⟨pk_sub_toInt (b := 10) (by omega) (by omega), by omega⟩
      obtain ⟨k, hk, rfl⟩ := nI_of (x := x2) (by rw [i_lt]; show ¬ x2.toInt < 0; omega)
      rw [nI_i hk] at e10
      rw [show (10 : Int32) = nI 10 from rfl, pk_sub (by omega), nlt (by omega) (by omega)] at hlt
      rw [show (10 : Int32) = nI 10 from rfl, pk_mul, nI_add, pk_sub (by omega)]
      exact vin (show 10 * w + k - 10 < 120 by omega) (by decide)
    refine p_X11_word _ _ s ok2 ⟨?_, h⟩
    unfold v_X10_word v_X11_word
    rw [iC_t hh, iC_t hi, nnum (by omega)]
    by_cases c0 : x2 = 0
    · rw [iC_t c0, iC_t c0, iC_t c0, v_len4 hW hw, w9]
    · by_cases c1 : x2 = 1
      · rw [iC_f c0, iC_t c1, iC_f c0, iC_t c1, iC_f c0, v_sort4 hW hw, w10]
      · rw [iC_f c0, iC_f c1, iC_f c0, iC_f c1]
        by_cases c2 : x2 < 10
        · rw [iC_t c2, iC_f (fun q => (in_iff.mp q).1 c2)]
        · by_cases c3 : x2 < 20
          · obtain ⟨k, hk, rfl⟩ := nI_of (x := x2) (by
              rw [i_lt] at c2 ⊢
              have q1 : (10 : Int32).toInt = 10 := rfl
              show ¬ x2.toInt < 0
              omega)
            rw [show (10 : Int32) = nI 10 from rfl, nlt (by omega) (by omega)] at c2
            rw [show (20 : Int32) = nI 20 from rfl, nlt (by omega) (by omega)] at c3
            have hin : b_X11_in s (nI k) 10 19 := in_iff.mpr ⟨by rw [show (10 : Int32) = nI 10 from rfl, nlt (by omega) (by omega)]; exact c2, by rw [show (19 : Int32) = nI 19 from rfl, nlt (by omega) (by omega)]; omega⟩
            rw [iC_f (by rw [show (10 : Int32) = nI 10 from rfl, nlt (by omega) (by omega)]; exact c2), iC_t (by rw [show (20 : Int32) = nI 20 from rfl, nlt (by omega) (by omega)]; exact c3), iC_t hin, show (10 : Int32) = nI 10 from rfl, pk_sub (by omega), pk_mul, nI_add, pk_sub (by omega), nnum (by omega), w9, el, w8]
            by_cases c4 : k - 10 < Int32.toNatClampNeg (s.1 6 w)
            · rw [v_let4 hW hw c4, iC_t ((nlt (by omega) (by omega)).mpr c4), show 10 * w + k - 10 = 10 * w + (k - 10) by omega]
            · rw [v_let4o hW hw (by omega) (by omega), iC_f (fun q => c4 ((nlt (by omega) (by omega)).mp q))]
          · rw [iC_f c2, iC_f c3, iC_f (fun q => c3 (by
              have := (in_iff.mp q).2
              rw [i_lt] at this ⊢
              have q1 : (19 : Int32).toInt = 19 := rfl
              have q2 : (20 : Int32).toInt = 20 := rfl
              omega))]
  · have hh := fun q => hw ((has_iff (o := 4) hW.1).mp q)
    have hi := fun q => hw ((isw_iff h).mp q)
    refine p_X11_word _ _ s (fun q => absurd q hi) ⟨?_, h⟩
    unfold v_X10_word v_X11_word
    rw [iC_f hh, iC_f hi]
theorem eq_fits {l : Launch} {G : Geo} {s : St} (h : RI s) (x1 x2 : Int32) : Eqv l G 118 166 [.int x1, .int x2] s := by
  have hW := ri_wl h
  have hR := ri_rw h
  obtain ⟨ez, hz⟩ := siz4 hW
  obtain ⟨er, hr⟩ := rg_num hR.1 (by decide)
  obtain ⟨-, -, ⟨-, -, -, -, -, w6, w7, w8, w9, w10⟩, ⟨-, -, s3, s4⟩, -⟩ := id h
  have key : ∀ x2 : Int32, ¬ x2 < 0 → ¬ s.1 24 1 < x2 → ∃ f, f ≤ Int32.toNatClampNeg (s.1 24 1) ∧ x2 = nI f := by
    intro x2 c1 c2
    obtain ⟨k, hk, rfl⟩ := nI_of c1
    rw [er, nlt (by omega) (by omega)] at c2
    exact ⟨k, by omega, rfl⟩
  refine p_X10_fits _ _ s (fun q c1 c2 => ⟨hW, hR, (has_iff (o := 4) hW.1).mp q, key x2 c1 c2⟩) ?_
  refine p_X11_fits _ _ s (fun q c => ⟨ri_md h, by rw [w6]; exact (isw_iff h).mp q, by
    rw [s3] at c ⊢
    exact key x2 (in_iff.mp c).1 (in_iff.mp c).2⟩) ⟨?_, h⟩
  have hfit : b_X7_isFitting s x1 x2 ↔ b_X11_doesFit s x1 x2 := by
    unfold b_X7_isFitting b_X11_doesFit
    rw [s3, s4, w8, w9]
  unfold v_X10_fits v_X11_fits
  by_cases hw : ∃ w, w < Int32.toNatClampNeg (s.1 4 3) ∧ x1 = nI w
  · rw [iC_t ((has_iff (o := 4) hW.1).mpr hw), iC_t ((isw_iff h).mpr hw)]
    by_cases c1 : x2 < 0
    · rw [iC_t c1, iC_f (fun q => (in_iff.mp q).1 c1)]
    · by_cases c2 : s.1 24 1 < x2
      · rw [iC_f c1, iC_t (show v_X7_length s < x2 from c2), iC_f (fun q => (in_iff.mp q).2 (by rw [s3]; exact c2))]
      · rw [iC_f c1, iC_f (show ¬ v_X7_length s < x2 from c2), iC_t (in_iff.mpr ⟨c1, by rw [s3]; exact c2⟩)]
        by_cases c3 : b_X7_isFitting s x1 x2
        · rw [iC_t c3, iC_t (hfit.mp c3)]
        · rw [iC_f c3, iC_f (fun q => c3 (hfit.mpr q))]
  · rw [iC_f (fun q => hw ((has_iff (o := 4) hW.1).mp q)), iC_f (fun q => hw ((isw_iff h).mp q))]
theorem tot_eq {s : St} (h : RI s) : v_X11_lettersOf s = s.1 18 1 := by
  obtain ⟨-, -, ⟨-, -, -, -, -, w6, w7, w8, w9, w10⟩, -, ⟨m1, m2, m3, m4, -⟩, -⟩ := h
  unfold v_X11_lettersOf
  rw [w9]
  exact m4.symm
theorem eq_count {l : Launch} {G : Geo} {s : St} (h : RI s) (x1 : Int32) : Eqv l G 128 188 [.int x1] s := by
  refine p_X10_count _ s (p_X11_count _ s (fun _ _ _ _ => ri_sm h) ⟨?_, h⟩)
  have ht := tot_eq h
  obtain ⟨⟨-, -, t3, -⟩, ⟨-, -, c3, -⟩, ⟨-, -, -, -, -, w6, w7, -⟩, ⟨-, -, s3, -⟩, ⟨m1, m2, m3, m4, m5, m6, -⟩, -⟩ := h
  unfold v_X10_count v_X11_count
  rw [ht, c3, w6, w7, s3, t3]
  show iC (x1 = 0) (s.1 8 1) (iC (x1 = 1) (s.1 4 3) (iC (x1 = 2) (s.1 18 2) (iC (x1 = 3) (s.1 18 1) (iC (x1 = 4) (s.1 18 4) (iC (x1 = 5) (s.1 24 1) (iC (x1 = 6) (s.1 1 1) (iC (x1 = 7) (s.1 4 4) (-3)))))))) = _
  rw [m5, m6]
theorem eq_sound {l : Launch} {G : Geo} {s : St} (h : RI s) (x1 : Int32) : Eqv l G 115 162 [.int x1] s := by
  have hR := ri_rw h
  obtain ⟨er, hr⟩ := rg_num hR.1 (by decide)
  obtain ⟨b1, b2, b3, ⟨s1, s2, s3, s4⟩, b5⟩ := id h
  have hful : b_X7_isFull s ↔ Int32.toNatClampNeg (s.1 24 1) = 60 := by
    unfold b_X7_isFull iP
    rw [show (60 : Int32) = nI 60 from rfl, er, nlt (by omega) (by omega), nnum (by omega)]
    constructor
    · intro q
      exact Classical.byContradiction fun z => q.1 (by omega)
    · intro q
      exact ⟨fun z => by omega, fun _ => trivial⟩
  have h60 : s.1 51 26 = 60 ↔ Int32.toNatClampNeg (s.1 24 1) = 60 := by
    rw [s3, er, show (60 : Int32) = nI 60 from rfl, neq (by omega) (by omega), nnum (by omega)]
  have inn : ¬ Int32.toNatClampNeg (s.1 24 1) = 60 → vp_in (s.1 24 1) 60 := fun q => by
    rw [er]
    exact vin (by omega) (by decide)
  refine p_X10_sound _ s (fun _ _ q _ => inn (fun z => q (hful.mpr z))) ?_
  unfold f_X10_sound
  by_cases c1 : x1 < 0
  · rw [iC_t c1]
    refine p_X11_sound _ s (fun q => absurd c1 (in_iff.mp q).1) ?_
    unfold f_X11_sound
    rw [iC_f (fun q => (in_iff.mp q).1 c1)]
    exact ⟨rfl, h⟩
  · by_cases c2 : 26 < x1
    · rw [iC_f c1, iC_t c2]
      refine p_X11_sound _ s (fun q => absurd c2 (in_iff.mp q).2) ?_
      unfold f_X11_sound
      rw [iC_f (fun q => (in_iff.mp q).2 c2)]
      exact ⟨rfl, h⟩
    · rw [iC_f c1, iC_f c2]
      have hin : ∀ s, b_X11_in s x1 0 26 := fun s => in_iff.mpr ⟨c1, c2⟩
      by_cases c3 : Int32.toNatClampNeg (s.1 24 1) = 60
      · rw [iC_t (hful.mpr c3)]
        refine p_X11_sound _ s (fun _ q => absurd (h60.mpr c3) q) ?_
        unfold f_X11_sound
        rw [iC_t (hin s), iC_t (h60.mpr c3)]
        exact ⟨rfl, h⟩
      · rw [iC_f (fun q => c3 (hful.mp q))]
        have hg : g_X7_append s x1 = sput (sput s 25 (Int32.toNatClampNeg (s.1 24 1)) x1) 24 1 (nI (Int32.toNatClampNeg (s.1 24 1) + 1)) := by
          unfold g_X7_append
          rw [iC_f (fun q => c3 (hful.mp q)), sp_q (by decide)]
          conv => lhs; rw [er, nI_1]
          rw [nnum (by omega)]
        rw [hg]
        have q1 : (sput (sput s 25 (Int32.toNatClampNeg (s.1 24 1)) x1) 24 1 (nI (Int32.toNatClampNeg (s.1 24 1) + 1))).1 51 26 = s.1 24 1 := s3
        refine p_X11_sound _ _ (fun _ _ => by rw [q1]; exact inn c3) ?_
        unfold f_X11_sound
        rw [iC_t (hin _), q1, iC_f (fun q => c3 (h60.mp (by rw [s3]; exact q)))]
        have q2 : (sput (sput (sput s 25 (Int32.toNatClampNeg (s.1 24 1)) x1) 24 1 (nI (Int32.toNatClampNeg (s.1 24 1) + 1))) 61 (Int32.toNatClampNeg (s.1 24 1)) x1).1 51 26 = s.1 24 1 := s3
        rw [q2]
        have q3 : s.1 24 1 + 1 = nI (Int32.toNatClampNeg (s.1 24 1) + 1) := by
          conv => lhs; rw [er, nI_1]
        rw [q3]
        refine ⟨rfl, b1, b2, b3, ⟨rg_mk (by omega), ?_, rfl, ?_⟩, b5⟩
        · obtain ⟨k, hk, rfl⟩ := nI_of c1
          rw [show (26 : Int32) = nI 26 from rfl, nlt (by omega) (by omega)] at c2
          show ∀ j, rg ((sput s 25 (Int32.toNatClampNeg (s.1 24 1)) (nI k)).1 25 j) 26
          rw [← upd_put]
          exact upd_rg s2 (rg_mk (by omega))
        · show (sput s 61 (Int32.toNatClampNeg (s.1 24 1)) x1).1 61 = (sput s 25 (Int32.toNatClampNeg (s.1 24 1)) x1).1 25
          rw [← upd_put, ← upd_put, s4]
end
section
/-! equal answers: what is said and heard -/
theorem and1 (y : Int32) : y &&& 1 = 0 ∨ y &&& 1 = 1 := by
  obtain ⟨j, hj, e⟩ := pk_andE y (m := 1) 1 rfl
  rw [e]
  rcases (show j = 0 ∨ j = 1 by omega) with rfl | rfl
  · exact Or.inl rfl
  · exact Or.inr rfl
theorem hasb {s : St} {x y : Int32} : b_X11_has s x y ↔ ¬ ((x >>> (y &&& 31)) &&& 1) = 0 := by
  unfold b_X11_has iP
  rcases and1 (x >>> (y &&& 31)) with e | e
  · rw [e]
    exact ⟨fun q => absurd (q.2 (by decide)) id, fun q => absurd rfl q⟩
  · rw [e]
    exact ⟨fun _ => by decide, fun _ => ⟨fun _ => trivial, fun q => absurd rfl q⟩⟩
theorem away_iff {s : St} {o v V : Nat} (hV : s.1 o 1 = nI V) (hv : v < V) (h5 : V ≤ 5) : b_X0_isAway s o (nI v) ↔ ¬ (((s.1 o 2) >>> (nI v &&& 31)) &&& 1) = 0 := by
  unfold b_X0_isAway
  rw [iP_f (nneg v (by omega)), hV, iP_t ((nlt (by omega) (by omega)).mpr hv)]
  exact ⟨fun q z => q.1 z, fun q => ⟨fun z => absurd z q, fun _ => trivial⟩⟩
theorem hoarse_iff {s : St} {o v V : Nat} (hV : s.1 o 1 = nI V) (hv : v < V) (h5 : V ≤ 5) : b_X0_isHoarse s o (nI v) ↔ ¬ (((s.1 o 3) >>> (nI v &&& 31)) &&& 1) = 0 := by
  unfold b_X0_isHoarse
  rw [iP_f (nneg v (by omega)), hV, iP_t ((nlt (by omega) (by omega)).mpr hv)]
  exact ⟨fun q z => q.1 z, fun q => ⟨fun z => absurd z q, fun _ => trivial⟩⟩
theorem v_late {s : St} {o v V : Nat} (hV : s.1 o 1 = nI V) (hv : v < V) (h5 : V ≤ 5) : v_X0_lateOf s o (nI v) = s.1 (o + 1) v := by
  unfold v_X0_lateOf
  rw [iC_f (nneg v (by omega)), hV, iC_t ((nlt (by omega) (by omega)).mpr hv), nnum (by omega)]
theorem said_eq {s : St} (h : RI s) {i : Nat} (hi : i < 2 ^ 31) : b_X0_isSaid s 8 (nI i) ↔ b_X11_isSaid s (nI i) := by
  obtain ⟨-, ⟨⟨V, h1, h2, hV⟩, c2, c3, c4, c5, c6⟩, -⟩ := h
  unfold b_X0_isSaid b_X11_isSaid
  rw [c3, c4, c5, c6, hV, pk_rem hi (by omega) (by omega), iP_f (by rw [l1, nlt (by omega) (by omega)]; omega)]
  have hv : i % V < V := Nat.mod_lt _ (by omega)
  rw [propext (away_iff hV hv h2), propext (hoarse_iff hV hv h2), v_late hV hv h2, propext hasb, propext hasb, nnum (by omega)]
theorem ok_sd11 {s : St} (h : RI s) {i : Nat} (hi : i < 2 ^ 31) : ok_X11_isSaid s (nI i) := by
  obtain ⟨-, ⟨⟨V, h1, h2, hV⟩, c2, c3, c4, c5, c6⟩, -⟩ := h
  have hne : ¬ s.1 51 0 = 0 := by
    rw [c3, hV, l0, neq (by omega) (by omega)]
    omega
  refine ⟨hne, hne, ?_⟩
  rw [c3, hV, pk_rem hi (by omega) (by omega)]
  have hv : i % V < V := Nat.mod_lt _ (by omega)
  exact vin (show i % V < 5 by omega) (by decide)
theorem heard_eq {s : St} (h : RI s) {i : Nat} (hi : i < totF (s.1 6) (s.1 60) (Int32.toNatClampNeg (s.1 51 23))) : v_X6_heardAt s 18 (nI i) = v_X11_heardAt s (nI i) := by
  have hs : i < 2 ^ 31 → (b_X0_isSaid s 8 (nI i) ↔ b_X11_isSaid s (nI i)) := fun q => said_eq h q
  obtain ⟨-, -, ⟨-, -, -, -, -, w6, w7, w8, w9, w10⟩, -, ⟨m1, m2, m3, m4, m5, m6, m7, m8, -⟩, -⟩ := h
  unfold v_X6_heardAt v_X11_heardAt
  by_cases c : b_X0_isSaid s 8 (nI i)
  · rw [iC_t c, iC_t ((hs (by omega)).mp c)]
    unfold v_X6_letterAt v_X11_letterAt
    rw [iC_f (nneg i (by omega)), m4, iC_t ((nlt (by omega) (by omega)).mpr hi), nnum (by omega), w8, w9]
    exact m8 i hi
  · rw [iC_f c, iC_f (fun q => c ((hs (by omega)).mpr q))]
theorem ok_h6 {s : St} (h : RI s) (x : Int32) : ok_X6_heardAt s 18 x := by
  refine ⟨ok_sd (ri_ch h) _, fun _ h1 h2 => ?_⟩
  obtain ⟨-, -, -, -, ⟨m1, m2, m3, m4, -⟩, -⟩ := h
  obtain ⟨k, -, hk, rfl⟩ := of_lt h1 h2 (n := 60) (by rw [m4]; exact rg_mk m3) (by decide)
  exact vin hk (by decide)
theorem ok_h11 {s : St} (h : RI s) {i : Nat} (hi : i ≤ 100) : ok_X11_heardAt s (nI i) := ⟨ok_sd11 h (by omega), fun _ => ⟨ri_sm h, rg_mk hi⟩⟩
theorem ri_g {s : St} (h : RI s) : ∃ g T : Nat, g ≤ T ∧ T ≤ 60 ∧ T = totF (s.1 6) (s.1 60) (Int32.toNatClampNeg (s.1 51 23)) ∧ s.1 18 1 = nI T ∧ s.1 18 4 = nI g ∧ s.1 51 25 = nI g := by
  obtain ⟨-, -, -, -, ⟨m1, m2, m3, m4, m5, m6, ⟨j, hj, e⟩, -⟩, -⟩ := h
  exact ⟨j, _, hj, m3, rfl, m4, m6.trans e, e⟩
theorem eq_heard {l : Launch} {G : Geo} {s : St} (h : RI s) (x1 : Int32) : Eqv l G 113 160 [.int x1] s := by
  obtain ⟨g, T, h1, h2, hT, e1, e2, e3⟩ := ri_g h
  refine p_X10_heard _ s (fun _ _ => ok_h6 h _) (p_X11_heard _ s (fun q1 q2 => ?_) ⟨?_, h⟩)
  · obtain ⟨k, -, hk, rfl⟩ := of_lt q1 q2 (n := 60) (by rw [e3]; exact rg_mk (by omega)) (by decide)
    exact ok_h11 h (by omega)
  · unfold v_X10_heard v_X11_heard
    by_cases c1 : x1 < 0
    · rw [iC_t c1, iC_t c1]
    · rw [iC_f c1, iC_f c1]
      show iC (x1 < s.1 18 4) _ _ = _
      rw [e2, e3]
      by_cases c2 : x1 < nI g
      · rw [iC_t c2, iC_t c2]
        obtain ⟨k, hk, rfl⟩ := nI_of c1
        rw [nlt (by omega) (by omega)] at c2
        exact heard_eq h (by omega)
      · rw [iC_f c2, iC_f c2]
theorem eq_say {l : Launch} {G : Geo} {s : St} (h : RI s) (x1 : Int32) : Eqv l G 112 158 [.int x1] s := by
  obtain ⟨g, T, h1, h2, hT, e1, e2, e3⟩ := ri_g h
  have ht := tot_eq h
  refine p_X10_say _ s ?_
  unfold f_X10_say
  by_cases c1 : x1 < 1
  · rw [iC_t c1]
    refine p_X11_say _ s (fun q => absurd c1 (in_iff.mp q).1) ?_
    unfold f_X11_say
    rw [iC_f (fun q => (in_iff.mp q).1 c1)]
    exact ⟨rfl, h⟩
  · by_cases c2 : 60 < x1
    · rw [iC_f c1, iC_t c2]
      refine p_X11_say _ s (fun q => absurd c2 (in_iff.mp q).2) ?_
      unfold f_X11_say
      rw [iC_f (fun q => (in_iff.mp q).2 c2)]
      exact ⟨rfl, h⟩
    · rw [iC_f c1, iC_f c2]
      obtain ⟨n, hn, rfl⟩ := nI_of (x := x1) (by
        rw [i_lt] at c1 ⊢
        have q1 : (1 : Int32).toInt = 1 := rfl
        show ¬ x1.toInt < 0
        omega)
      rw [show (60 : Int32) = nI 60 from rfl, nlt (by omega) (by omega)] at c2
      rw [l1, nlt (by omega) (by omega)] at c1
      have hin : ∀ s, b_X11_in s (nI n) 1 60 := fun s => in_iff.mpr ⟨by rw [l1, nlt (by omega) (by omega)]; exact c1, by rw [show (60 : Int32) = nI 60 from rfl, nlt (by omega) (by omega)]; exact c2⟩
      have hst : ∃ j, j ≤ T ∧ g_X6_sayMore s 18 (nI n) = sput s 18 4 (nI j) ∧ ((g + n < T ∧ j = g + n) ∨ (¬ g + n < T ∧ j = T)) := by
        unfold g_X6_sayMore
        rw [e1, e2, pk_sub h1]
        by_cases c3 : T - g < n
        · rw [if_pos ((nlt (by omega) (by omega)).mpr c3), nI_add]
          exact ⟨T, Nat.le_refl T, by rw [show g + (T - g) = T by omega], Or.inr ⟨by omega, rfl⟩⟩
        · rw [if_neg (fun q => c3 ((nlt (by omega) (by omega)).mp q)), nI_add]
          refine ⟨g + n, by omega, rfl, ?_⟩
          by_cases c4 : g + n < T
          · exact Or.inl ⟨c4, rfl⟩
          · exact Or.inr ⟨c4, by omega⟩
      obtain ⟨j, hj, ej, hc⟩ := hst
      rw [ej]
      have hm0 : smR s := ri_sm h
      have hm : ok_X11_lettersOf (sput s 18 4 (nI j)) := hm0
      refine p_X11_say _ _ (fun _ => hm) ?_
      unfold f_X11_say
      have q1 : (sput s 18 4 (nI j)).1 51 25 = nI g := e3
      have q2 : v_X11_lettersOf (sput s 18 4 (nI j)) = nI T := by
        rw [← e1, ← ht]
        rfl
      rw [iC_t (hin _), q1, q2, nI_add]
      have fin : RI (sput (sput s 18 4 (nI j)) 51 25 (nI j)) := by
        obtain ⟨b1, b2, b3, b4, ⟨m1, m2, m3, m4, m5, m6, m7, m8, m9, m10⟩, b6⟩ := h
        exact ⟨b1, b2, b3, b4, ⟨m1, m2, m3, m4, m5, rfl, ⟨j, (show j ≤ totF (s.1 6) (s.1 60) (Int32.toNatClampNeg (s.1 51 23)) by rw [← hT]; exact hj), rfl⟩, m8, m9, m10⟩, b6⟩
      rcases hc with ⟨c4, rfl⟩ | ⟨c4, rfl⟩
      · rw [iC_t ((nlt (by omega) (by omega)).mpr c4)]
        exact ⟨rfl, fin⟩
      · rw [iC_f (fun q => c4 ((nlt (by omega) (by omega)).mp q))]
        exact ⟨rfl, fin⟩
theorem eq_tally {l : Launch} {G : Geo} {s : St} (h : RI s) (x1 : Int32) : Eqv l G 114 161 [.int x1] s := by
  obtain ⟨g, T, h1, h2, hT, e1, e2, e3⟩ := ri_g h
  have ht := tot_eq h
  have hC := ri_ch h
  obtain ⟨-, ⟨⟨V, v1, v2, hV⟩, -, c3, -⟩, -⟩ := id h
  have okh : ok_X6_lettersHeard s 18 := ⟨hC, by rw [e2]; exact rg_mk (by omega)⟩
  refine p_X10_tally _ s ⟨fun _ => okh, fun _ => ⟨fun _ => okh, fun _ _ _ => ok_vc hC _⟩⟩ ?_
  have hcnt : v_X6_lettersHeard s 18 = nI (cntN (fun i => b_X11_isSaid s (nI i)) g) := by
    unfold v_X6_lettersHeard
    rw [e2, nnum (by omega), cnt_congr g (fun j hj => said_eq h (by omega))]
  have hle := cnt_le (fun i => b_X11_isSaid s (nI i)) g
  unfold v_X10_tally
  rw [hcnt]
  show DoesI l G 20 161 [.ref 51, .int x1] s _
  have fin : ∀ Q : Int32 → St → Prop, (b_X11_in s x1 0 2 → (x1 = 0 → Q (nI g - nI (cntN (fun i => b_X11_isSaid s (nI i)) g)) s) ∧ (¬ x1 = 0 → (x1 = 1 → Q (nI (cntN (fun i => b_X11_isSaid s (nI i)) g)) s) ∧ (¬ x1 = 1 → (g < T → Q (nI (g % V)) s) ∧ (¬ g < T → Q (-1) s)))) → (¬ b_X11_in s x1 0 2 → Q (-3) s) → DoesI l G 20 161 [.ref 51, .int x1] s Q := by
    intro Q hq hn
    refine r_X11_tally _ s ⟨hn, fun hin => ?_⟩
    have hq := hq hin
    have loop : ∀ m i, i + m = g → AtA l G 20 sX11_tally 16 [.ref 51, .int x1, .int (nI (cntN (fun i => b_X11_isSaid s (nI i)) i)), .int (nI i)] [] s (pI Q) := by
      intro m
      induction m with
      | zero =>
        intro i hi
        have : i = g := by omega
        subst this
        refine r_X11_tally_16 _ _ _ s ⟨fun z => ?_, fun _ => ⟨fun z0 => ?_, fun z0 => ⟨fun z1 => ?_, fun z1 => ⟨ri_sm h, fun z2 => ⟨?_, ?_⟩, fun z2 => ?_⟩⟩⟩⟩
        · rw [e3, nlt (by omega) (by omega)] at z
          omega
        · rw [e3]
          exact hq.1 z0
        · exact (hq.2 z0).1 z1
        · rw [c3, hV, l0, neq (by omega) (by omega)]
          omega
        · rw [e3, ht, e1, nlt (by omega) (by omega)] at z2
          rw [e3, c3, hV, pk_rem (by omega) (by omega) (by omega)]
          exact ((hq.2 z0).2 z1).1 z2
        · rw [e3, ht, e1, nlt (by omega) (by omega)] at z2
          exact ((hq.2 z0).2 z1).2 z2
      | succ m ih =>
        intro i hi
        have ihh := ih (i + 1) (by omega)
        refine r_X11_tally_16 _ _ _ s ⟨fun _ => ⟨ok_sd11 h (by omega), fun z => ?_, fun z => ?_⟩, fun z => ?_⟩
        · rw [cnt_f (P := fun i => b_X11_isSaid s (nI i)) z] at ihh
          rw [nI_1, l0, nI_add]
          exact ihh
        · rw [cnt_t (P := fun i => b_X11_isSaid s (nI i)) z] at ihh
          rw [nI_1, nI_1]
          exact ihh
        · rw [e3, nlt (by omega) (by omega)] at z
          omega
    exact loop g 0 (Nat.zero_add _)
  refine fin _ (fun hin => ⟨fun z0 => ⟨?_, h⟩, fun z0 => ⟨fun z1 => ⟨?_, h⟩, fun z1 => ?_⟩⟩) (fun hin => ⟨?_, h⟩)
  · rw [iC_t z0]
    show s.1 18 4 - _ = _
    rw [e2]
  · rw [iC_f z0, iC_t z1]
  · have z2 : x1 = 2 := by
      rw [in_iff] at hin
      obtain ⟨k, hk, rfl⟩ := nI_of hin.1
      have := hin.2
      rw [show (2 : Int32) = nI 2 from rfl, nlt (by omega) (by omega)] at this
      rw [l0, neq (by omega) (by omega)] at z0
      rw [l1, neq (by omega) (by omega)] at z1
      rw [show (2 : Int32) = nI 2 from rfl, neq (by omega) (by omega)]
      omega
    rw [iC_f z0, iC_f z1, iC_t z2]
    refine ⟨fun c => ⟨?_, h⟩, fun c => ⟨?_, h⟩⟩
    · rw [iC_t (show v_X6_saidTotal s 18 < v_X6_letterTotal s 18 by show s.1 18 4 < s.1 18 1; rw [e1, e2, nlt (by omega) (by omega)]; exact c)]
      show v_X0_voiceOf s 8 (s.1 18 4) = _
      rw [e2, v_vc hV v1 v2 (by omega)]
    · rw [iC_f (show ¬ v_X6_saidTotal s 18 < v_X6_letterTotal s 18 by show ¬ s.1 18 4 < s.1 18 1; rw [e1, e2, nlt (by omega) (by omega)]; exact c)]
  · rw [iC_f (fun q => hin (in_iff.mpr (by rw [q]; decide))), iC_f (fun q => hin (in_iff.mpr (by rw [q]; decide))), iC_f (fun q => hin (in_iff.mpr (by rw [q]; decide)))]
end
section
/-! equal answers: voices, listening, writing -/
theorem hasv_iff {s : St} {x : Int32} {V : Nat} (hV : s.1 8 1 = nI V) (h5 : V ≤ 5) : b_X0_has s 8 x ↔ ∃ v, v < V ∧ x = nI v := by
  unfold b_X0_has iP
  constructor
  · intro hh
    have h1 : ¬ x < 0 := fun z => hh.1 z
    have h2 : x < s.1 8 1 := Classical.byContradiction fun z => (hh.2 h1).2 z
    obtain ⟨k, hk, rfl⟩ := nI_of h1
    rw [hV, nlt hk (by omega)] at h2
    exact ⟨k, h2, rfl⟩
  · rintro ⟨w, hw, rfl⟩
    have h1 : ¬ nI w < 0 := nneg w (by omega)
    have h2 : nI w < s.1 8 1 := by rw [hV, nlt (by omega) (by omega)]; exact hw
    exact ⟨fun z => absurd z h1, fun _ => ⟨fun _ => trivial, fun z => absurd h2 z⟩⟩
theorem isv_iff {s : St} {x : Int32} {V : Nat} (hV : s.1 51 0 = nI V) (h5 : V ≤ 5) : b_X11_isVoice s x ↔ ∃ v, v < V ∧ x = nI v := by
  unfold b_X11_isVoice
  rw [hV, in0_iff (by omega)]
theorem mod_gap {V i r v : Nat} (h1 : 1 ≤ V) (h5 : V ≤ 5) (hi : i % V = v) (h0 : 0 < r) (hr : r < V) : (i + r) % V ≠ v := by
  rcases (show V = 1 ∨ V = 2 ∨ V = 3 ∨ V = 4 ∨ V = 5 by omega) with rfl | rfl | rfl | rfl | rfl <;> omega
theorem mod_add {V i v : Nat} (h1 : 1 ≤ V) (h5 : V ≤ 5) (hi : i % V = v) : (i + V) % V = v := by
  rcases (show V = 1 ∨ V = 2 ∨ V = 3 ∨ V = 4 ∨ V = 5 by omega) with rfl | rfl | rfl | rfl | rfl <;> omega
theorem eq_voice {l : Launch} {G : Geo} {s : St} (h : RI s) (x1 x2 : Int32) : Eqv l G 109 154 [.int x1, .int x2] s := by
  obtain ⟨g, T, h1, h2, hT, e1, e2, e3⟩ := ri_g h
  have hC := ri_ch h
  obtain ⟨-, ⟨⟨V, v1, v5, hV⟩, c2, c3, c4, c5, c6⟩, -⟩ := id h
  have hV' : s.1 51 0 = nI V := c3.trans hV
  have oks : ok_X6_lettersSaidBy s 18 x1 := ⟨hC, by rw [e2]; exact rg_mk (by omega)⟩
  refine p_X10_voice _ _ s (fun _ _ _ => ⟨fun _ => ok_late hC _, fun _ _ => oks⟩) ?_
  unfold v_X10_voice
  refine r_X11_voice _ _ s ⟨fun z => ?_, fun z => ?_⟩
  · rw [iC_f (fun q => z ((isv_iff hV' v5).mpr ((hasv_iff hV v5).mp q)))]
    exact ⟨rfl, h⟩
  · obtain ⟨v, hv, rfl⟩ := (isv_iff hV' v5).mp z
    rw [iC_t ((hasv_iff hV v5).mpr ⟨v, hv, rfl⟩)]
    have hcnt : v_X6_lettersSaidBy s 18 (nI v) = nI (cntN (fun i => i % V = v ∧ b_X11_isSaid s (nI i)) g) := by
      unfold v_X6_lettersSaidBy
      rw [e2, nnum (by omega)]
      refine congrArg nI (cnt_congr g (fun j hj => ?_))
      have hm : j % V < V := Nat.mod_lt _ (by omega)
      rw [v_vc hV v1 v5 (by omega), neq (by omega) (by omega), said_eq h (by omega)]
    rw [hcnt]
    have loop : ∀ m i, g ≤ i + m → i ≤ 70 → i % V = v → (∀ j, g ≤ j → j < i → ¬ (j % V = v)) → AtA l G 20 sX11_voice 16 [.ref 51, .int (nI v), .int x2, .int (nI (cntN (fun i => i % V = v ∧ b_X11_isSaid s (nI i)) i)), .int (nI i)] [] s (pI (fun r2 s2 => iC (x2 = 0) (iC (b_X0_isAway s 8 (nI v)) 1 0) (iC (x2 = 1) (iC (b_X0_isHoarse s 8 (nI v)) 1 0) (iC (x2 = 2) (v_X0_lateOf s 8 (nI v)) (iC (x2 = 3) (nI (cntN (fun i => i % V = v ∧ b_X11_isSaid s (nI i)) g)) (-3)))) = r2 ∧ RI s2)) := by
      intro m
      induction m with
      | zero =>
        intro i hi hi2 hm hgap
        have hce : cntN (fun i => i % V = v ∧ b_X11_isSaid s (nI i)) i = cntN (fun i => i % V = v ∧ b_X11_isSaid s (nI i)) g := by
          have := cnt_skip (P := fun i => i % V = v ∧ b_X11_isSaid s (nI i)) (a := g) (i - g) (fun j q1 q2 q => hgap j q1 (by omega) q.1)
          rwa [show g + (i - g) = i by omega] at this
        refine r_X11_voice_16 _ _ _ _ s ⟨fun z => ?_, fun _ => ?_⟩
        · rw [e3, nlt (by omega) (by omega)] at z
          omega
        · rw [hce]
          refine ⟨fun z0 => ⟨fun a => ⟨?_, h⟩, fun a => ⟨?_, h⟩⟩, fun z0 => ⟨fun z1 => ⟨fun a => ⟨?_, h⟩, fun a => ⟨?_, h⟩⟩, fun z1 => ⟨fun z2 => ⟨vin (show v < 5 by omega) (by decide), ?_, h⟩, fun z2 => ⟨fun z3 => ⟨?_, h⟩, fun z3 => ⟨?_, h⟩⟩⟩⟩⟩
          · rw [c4, hasb] at a
            rw [iC_t z0, iC_f (fun q => a ((away_iff hV hv v5).mp q))]
          · rw [c4, hasb] at a
            rw [iC_t z0, iC_t ((away_iff hV hv v5).mpr a)]
          · rw [c5, hasb] at a
            rw [iC_f z0, iC_t z1, iC_f (fun q => a ((hoarse_iff hV hv v5).mp q))]
          · rw [c5, hasb] at a
            rw [iC_f z0, iC_t z1, iC_t ((hoarse_iff hV hv v5).mpr a)]
          · rw [iC_f z0, iC_f z1, iC_t z2, v_late hV hv v5, c6, nnum (by omega)]
          · rw [iC_f z0, iC_f z1, iC_f z2, iC_t z3]
          · rw [iC_f z0, iC_f z1, iC_f z2, iC_f z3]
      | succ m ih =>
        intro i hi hi2 hm hgap
        by_cases hlt : i < g
        · have step : ∀ c : Nat, cntN (fun i => i % V = v ∧ b_X11_isSaid s (nI i)) (i + 1) = c → cntN (fun i => i % V = v ∧ b_X11_isSaid s (nI i)) (i + V) = c := by
            intro c hc
            have := cnt_skip (P := fun i => i % V = v ∧ b_X11_isSaid s (nI i)) (a := i + 1) (V - 1) (fun j q1 q2 q => mod_gap (r := j - i) v1 v5 hm (by omega) (by omega) (by rw [show i + (j - i) = j by omega]; exact q.1))
            rw [show i + 1 + (V - 1) = i + V by omega] at this
            rw [this, hc]
          have ihh := ih (i + V) (by omega) (by omega) (mod_add v1 v5 hm) (fun j q1 q2 q => mod_gap (r := j - i) v1 v5 hm (by omega) (by omega) (by rw [show i + (j - i) = j by omega]; exact q))
          refine r_X11_voice_16 _ _ _ _ s ⟨fun _ => ⟨ok_sd11 h (by omega), fun z => ?_, fun z => ?_⟩, fun z => ?_⟩
          · rw [step _ (cnt_f (P := fun i => i % V = v ∧ b_X11_isSaid s (nI i)) (fun q => z q.2))] at ihh
            rw [l0, nI_add, hV', nI_add]
            exact ihh
          · rw [step _ (cnt_t (P := fun i => i % V = v ∧ b_X11_isSaid s (nI i)) ⟨hm, z⟩)] at ihh
            rw [nI_1, hV', nI_add]
            exact ihh
          · rw [e3, nlt (by omega) (by omega)] at z
            omega
        · exact r_X11_voice_16 _ _ _ _ s ⟨fun z => by
            rw [e3, nlt (by omega) (by omega)] at z
            omega, fun z => by
            have hce : cntN (fun i => i % V = v ∧ b_X11_isSaid s (nI i)) i = cntN (fun i => i % V = v ∧ b_X11_isSaid s (nI i)) g := by
              have := cnt_skip (P := fun i => i % V = v ∧ b_X11_isSaid s (nI i)) (a := g) (i - g) (fun j q1 q2 q => hgap j q1 (by omega) q.1)
              rwa [show g + (i - g) = i by omega] at this
            rw [hce]
            refine ⟨fun z0 => ⟨fun a => ⟨?_, h⟩, fun a => ⟨?_, h⟩⟩, fun z0 => ⟨fun z1 => ⟨fun a => ⟨?_, h⟩, fun a => ⟨?_, h⟩⟩, fun z1 => ⟨fun z2 => ⟨vin (show v < 5 by omega) (by decide), ?_, h⟩, fun z2 => ⟨fun z3 => ⟨?_, h⟩, fun z3 => ⟨?_, h⟩⟩⟩⟩⟩
            · rw [c4, hasb] at a
              rw [iC_t z0, iC_f (fun q => a ((away_iff hV hv v5).mp q))]
            · rw [c4, hasb] at a
              rw [iC_t z0, iC_t ((away_iff hV hv v5).mpr a)]
            · rw [c5, hasb] at a
              rw [iC_f z0, iC_t z1, iC_f (fun q => a ((hoarse_iff hV hv v5).mp q))]
            · rw [c5, hasb] at a
              rw [iC_f z0, iC_t z1, iC_t ((hoarse_iff hV hv v5).mpr a)]
            · rw [iC_f z0, iC_f z1, iC_t z2, v_late hV hv v5, c6, nnum (by omega)]
            · rw [iC_f z0, iC_f z1, iC_f z2, iC_t z3]
            · rw [iC_f z0, iC_f z1, iC_f z2, iC_f z3]⟩
    have hv0 : v % V = v := Nat.mod_eq_of_lt hv
    have hc0 : cntN (fun i => i % V = v ∧ b_X11_isSaid s (nI i)) v = 0 := by
      have := cnt_skip (P := fun i => i % V = v ∧ b_X11_isSaid s (nI i)) (a := 0) v (fun j q1 q2 q => by
        have := q.1
        rw [Nat.mod_eq_of_lt (by omega)] at this
        omega)
      rw [Nat.zero_add] at this
      exact this
    have h0 := loop g v (by omega) (by omega) hv0 (fun j q1 q2 q => by
      rw [Nat.mod_eq_of_lt (by omega)] at q
      omega)
    rw [hc0] at h0
    exact h0
theorem sp_c3 {s : St} {q r k j : Nat} {f : Nat → Int32} {x v v' : Int32} : sput (sput (sput (sarr s q f) r j v) q k x) r j v' = sput (sarr s q (upd f k x)) r j v' := by
  rw [← sp_sa]
  refine Prod.ext ?_ rfl
  funext a b
  simp only [sput]
  by_cases ha : a = r ∧ b = j
  · simp [ha]
  · simp only [ha, if_false]
theorem rowW_congr {f f' g g' : Nat → Int32} {a n : Nat} (hf : f = f') (hg : ∀ i, i < n → g i = g' i) : rowW f a n g = rowW f' a n g' := by
  subst hf
  funext j
  unfold rowW
  split
  · exact hg _ (by omega)
  · rfl
theorem latF_rg {sz lt ws : Nat → Int32} (h : ∀ j, rg (lt j) 26) : ∀ m k i, rg (latF sz lt ws m k i) 26
  | 0, _, _ => rg0 _
  | m + 1, k, i => by
    unfold latF
    split
    · exact h _
    · exact latF_rg h m _ _
theorem eq_listen {l : Launch} {G : Geo} {s : St} (h : RI s) : Eqv l G 116 163 [] s := by
  obtain ⟨g, T, h1, h2, hT, e1, e2, e3⟩ := ri_g h
  have hI : ∀ (f : Nat → Int32) (x : Int32), RI s → v_X6_heardAt (sput (sarr s 25 f) 24 1 x) 18 = v_X6_heardAt s 18 := fun _ _ _ => rfl
  have mid : DoesI l G 20 163 [.ref 51] (sput (sarr s 25 (rowW (s.1 25) 0 g (fun i => v_X6_heardAt s 18 (nI i)))) 24 1 (nI g)) (fun r2 s2 => nI g = r2 ∧ RI s2) := by
    obtain ⟨t, ht⟩ : ∃ t, t = sput (sarr s 25 (rowW (s.1 25) 0 g (fun i => v_X6_heardAt s 18 (nI i)))) 24 1 (nI g) := ⟨_, rfl⟩
    rw [← ht]
    have f1 : t.1 51 25 = nI g := by rw [ht]; exact e3
    have f2 : t.1 61 = s.1 61 := by rw [ht]; rfl
    have loop : ∀ m k, k + m = g → AtA l G 20 sX11_listen 10 [.ref 51, .int (nI k)] [] (sarr (sput t 51 26 (nI g)) 61 (rowW (s.1 61) 0 k (fun i => v_X11_heardAt s (nI i)))) (pI (fun r2 s2 => nI g = r2 ∧ RI s2)) := by
      intro m
      induction m with
      | zero =>
        intro k hk
        have : k = g := by omega
        subst this
        refine r_X11_listen_10 _ _ ⟨fun z => ?_, fun _ => ⟨?_, ?_⟩⟩
        · have : (sarr (sput t 51 26 (nI k)) 61 (rowW (s.1 61) 0 k (fun i => v_X11_heardAt s (nI i)))).1 51 25 = nI k := f1
          rw [this, nlt (by omega) (by omega)] at z
          omega
        · rfl
        · rw [ht]
          obtain ⟨b1, b2, b3, ⟨s1, s2, s3, s4⟩, b5⟩ := id h
          refine ⟨b1, b2, b3, ⟨rg_mk (by omega), ?_, rfl, ?_⟩, b5⟩
          · show ∀ j, rg (rowW (s.1 25) 0 k (fun i => v_X6_heardAt s 18 (nI i)) j) 26
            refine rowW_rg s2 (fun j hj => ?_)
            show rg (v_X6_heardAt s 18 (nI j)) 26
            rw [heard_eq h (by omega)]
            unfold v_X11_heardAt
            by_cases c : b_X11_isSaid s (nI j)
            · rw [iC_t c]
              exact latF_rg (by rw [b3.2.2.2.2.2.2.2.1]; exact b3.2.2.2.1) _ _ _
            · rw [iC_f c]
              exact rg0 _
          · show rowW (s.1 61) 0 k (fun i => v_X11_heardAt s (nI i)) = rowW (s.1 25) 0 k (fun i => v_X6_heardAt s 18 (nI i))
            exact rowW_congr s4 (fun i hi => (heard_eq h (by omega)).symm)
      | succ m ih =>
        intro k hk
        refine r_X11_listen_10 _ _ ⟨fun _ => ⟨?_, vin (show k < 60 by omega) (by decide), ?_⟩, fun z => ?_⟩
        · have := ok_h11 h (i := k) (by omega)
          rw [ht]
          exact this
        · have e9 : v_X11_heardAt (sarr (sput t 51 26 (nI g)) 61 (rowW (s.1 61) 0 k (fun i => v_X11_heardAt s (nI i)))) (nI k) = v_X11_heardAt s (nI k) := by
            rw [ht]
            rfl
          rw [e9, nnum (by omega), nI_1, sp_sa]
          have := ih (k + 1) (by omega)
          rw [← rowW_s, Nat.zero_add] at this
          exact this
        · have : (sarr (sput t 51 26 (nI g)) 61 (rowW (s.1 61) 0 k (fun i => v_X11_heardAt s (nI i)))).1 51 25 = nI g := f1
          rw [this, nlt (by omega) (by omega)] at z
          omega
    refine r_X11_listen _ ?_
    rw [f1]
    have h0 := loop g 0 (Nat.zero_add _)
    rw [rowW_0, ← f2] at h0
    have e8 : sarr (sput t 51 26 (nI g)) 61 (t.1 61) = sput t 51 26 (nI g) := sa_id (sput t 51 26 (nI g)) 61
    rw [e8] at h0
    exact h0
  have loop : ∀ m k, k + m = g → AtA l G 20 sX10_listen 10 [.ref 0, .int (nI k)] [] (sput (sarr s 25 (rowW (s.1 25) 0 k (fun i => v_X6_heardAt s 18 (nI i)))) 24 1 (nI k)) (pI (fun r1 s1 => DoesI l G 20 163 [.ref 51] s1 (fun r2 s2 => r1 = r2 ∧ RI s2))) := by
    intro m
    induction m with
    | zero =>
      intro k hk
      have : k = g := by omega
      subst this
      refine r_X10_listen_10 _ _ ⟨fun z => ?_, fun _ => mid⟩
      have : v_X6_saidTotal (sput (sarr s 25 (rowW (s.1 25) 0 k (fun i => v_X6_heardAt s 18 (nI i)))) 24 1 (nI k)) 18 = nI k := e2
      rw [this, nlt (by omega) (by omega)] at z
      omega
    | succ m ih =>
      intro k hk
      have hnf : ¬ b_X7_isFull (sput (sarr s 25 (rowW (s.1 25) 0 k (fun i => v_X6_heardAt s 18 (nI i)))) 24 1 (nI k)) := by
        unfold b_X7_isFull iP
        rw [sp_s, show (60 : Int32) = nI 60 from rfl, nlt (by omega) (by omega)]
        exact fun q => q.1 (by omega)
      refine r_X10_listen_10 _ _ ⟨fun _ => ⟨ok_h6 h _, fun _ => ?_, ?_⟩, fun z => ?_⟩
      · rw [sp_s]
        exact vin (show k < 60 by omega) (by decide)
      · have e9 : g_X7_append (sput (sarr s 25 (rowW (s.1 25) 0 k (fun i => v_X6_heardAt s 18 (nI i)))) 24 1 (nI k)) (v_X6_heardAt (sput (sarr s 25 (rowW (s.1 25) 0 k (fun i => v_X6_heardAt s 18 (nI i)))) 24 1 (nI k)) 18 (nI k)) = sput (sarr s 25 (rowW (s.1 25) 0 (k + 1) (fun i => v_X6_heardAt s 18 (nI i)))) 24 1 (nI (k + 1)) := by
          unfold g_X7_append
          rw [iC_f hnf, sp_s, nnum (by omega), sp_q (by decide), sp_s, nI_1, sp_c3, ← rowW_s, Nat.zero_add]
          rfl
        rw [e9, nI_1]
        exact ih (k + 1) (by omega)
      · have : v_X6_saidTotal (sput (sarr s 25 (rowW (s.1 25) 0 k (fun i => v_X6_heardAt s 18 (nI i)))) 24 1 (nI k)) 18 = nI g := e2
        rw [this, nlt (by omega) (by omega)] at z
        omega
  have h0 := loop g 0 (Nat.zero_add _)
  rw [rowW_0, sa_id] at h0
  exact r_X10_listen s h0
end
section
/-! equal answers: writing, preaching, the shelves -/
theorem wb_m255 (x : Int64) : ∃ m : Nat, m < 256 ∧ x &&& 255 = lN m := by
  refine ⟨x.toBitVec.toNat % 256, Nat.mod_lt _ (by decide), ?_⟩
  apply Int64.toBitVec_inj.mp
  apply BitVec.eq_of_toNat_eq
  rw [Int64.toBitVec_and, BitVec.toNat_and]
  show x.toBitVec.toNat &&& 255 = (Int64.ofNat (x.toBitVec.toNat % 256)).toBitVec.toNat
  rw [show (255 : Nat) = 2 ^ 8 - 1 from rfl, Nat.and_two_pow_sub_one_eq_mod, Int64.toBitVec_ofNat', BitVec.toNat_ofNat]
  omega
theorem byt_rg (x : Int64) (i : Nat) : rg (byt x i) 255 := by
  unfold byt
  obtain ⟨m, hm, e⟩ := wb_m255 (x >>> (Int32.toInt64 (8 * nI i) &&& 63))
  rw [e, lN_i]
  exact rg_mk (by omega)
theorem eq_write {l : Launch} {G : Geo} {s : St} (h : RI s) (x1 : Int64) (x2 : Int32) : Eqv l G 104 135 [.long x1, .int x2] s := by
  obtain ⟨⟨t1, t2, t3, t4⟩, hr⟩ := id h
  obtain ⟨L, hL, e1⟩ := t1
  have e2 : s.1 51 9 = nI L := t3.trans e1
  have small : ∀ x2 : Int32, ¬ x2 < 1 → ¬ 8 < x2 → ∃ n : Nat, 1 ≤ n ∧ n ≤ 8 ∧ x2 = nI n := by
    intro x2 c1 c2
    obtain ⟨n, hn, rfl⟩ := nI_of (x := x2) (by
      rw [i_lt] at c1 ⊢
      have q1 : (1 : Int32).toInt = 1 := rfl
      show ¬ x2.toInt < 0
      omega)
    rw [l1, nlt (by omega) (by omega)] at c1
    rw [show (8 : Int32) = nI 8 from rfl, nlt (by omega) (by omega)] at c2
    exact ⟨n, by omega, by omega, rfl⟩
  have room : ∀ n : Nat, n ≤ 8 → (b_X4_hasRoom s (nI n) ↔ L + n ≤ 200) := by
    intro n hn
    unfold b_X4_hasRoom iP
    rw [e1, show (200 : Int32) = nI 200 from rfl, pk_sub hL, nlt (by omega) (by omega)]
    exact ⟨fun q => Classical.byContradiction fun z => q.1 (by omega), fun q => ⟨fun z => by omega, fun _ => trivial⟩⟩
  refine p_X10_write _ _ s (fun c1 c2 hroom => ?_) ?_
  · obtain ⟨n, n1, n8, rfl⟩ := small x2 c1 c2
    exact ⟨L, n, e1, rfl, (room n n8).mp hroom⟩
  · unfold f_X10_write
    by_cases c1 : x2 < 1
    · rw [iC_t c1]
      exact r_X11_write _ _ s ⟨fun _ => ⟨rfl, h⟩, fun q => absurd c1 (in_iff.mp q).1⟩
    · by_cases c2 : 8 < x2
      · rw [iC_f c1, iC_t c2]
        exact r_X11_write _ _ s ⟨fun _ => ⟨rfl, h⟩, fun q => absurd c2 (in_iff.mp q).2⟩
      · rw [iC_f c1, iC_f c2]
        have hin : ∀ s, b_X11_in s x2 1 8 := fun s => in_iff.mpr ⟨c1, c2⟩
        obtain ⟨n, n1, n8, rfl⟩ := small x2 c1 c2
        by_cases c3 : L + n ≤ 200
        · rw [iC_t ((room n n8).mpr c3)]
          have hg : g_X4_append s x1 (nI n) = sput (sarr s 2 (rowW (s.1 2) L n (byt x1))) 1 1 (nI (L + n)) := by
            unfold g_X4_append
            rw [e1, nnum (by omega), nnum (by omega)]
          rw [hg]
          refine r_X11_write _ _ _ ⟨fun q => absurd (hin _) q, fun _ => ⟨fun z => ?_, fun z => ?_⟩⟩
          · have q1 : (sput (sarr s 2 (rowW (s.1 2) L n (byt x1))) 1 1 (nI (L + n))).1 51 9 = nI L := e2
            rw [q1, nI_add, show (200 : Int32) = nI 200 from rfl, nlt (by omega) (by omega)] at z
            omega
          · refine at_X11_write (L := L) e2 c3 ⟨rfl, ?_⟩
            refine ⟨⟨rg_mk c3, ?_, rfl, ?_⟩, hr⟩
            · show ∀ j, rg (rowW (s.1 2) L n (byt x1) j) 255
              exact rowW_rg t2 (fun j _ => byt_rg x1 j)
            · show rowW (s.1 56) L n (byt x1) = rowW (s.1 2) L n (byt x1)
              rw [t4]
        · rw [iC_f (fun q => c3 ((room n n8).mp q))]
          refine r_X11_write _ _ _ ⟨fun q => absurd (hin _) q, fun _ => ⟨fun z => ⟨rfl, h⟩, fun z => ?_⟩⟩
          rw [e2, nI_add, show (200 : Int32) = nI 200 from rfl, nlt (by omega) (by omega)] at z
          omega
/-! words behind words -/
theorem sumN_congr {f g : Nat → Nat} : ∀ n, (∀ j, j < n → f j = g j) → sumN f n = sumN g n
  | 0, _ => rfl
  | n + 1, h => by
    show sumN f n + f n = sumN g n + g n
    rw [sumN_congr n (fun j hj => h j (by omega)), h n (by omega)]
theorem sumN_shift (f : Nat → Nat) : ∀ n, sumN f (n + 1) = f 0 + sumN (fun j => f (j + 1)) n
  | 0 => by
    show 0 + f 0 = f 0 + 0
    omega
  | n + 1 => by
    show sumN f (n + 1) + f (n + 1) = f 0 + (sumN (fun j => f (j + 1)) n + f (n + 1))
    rw [sumN_shift f n]
    omega
theorem latF_congr {sz lt ws ws' : Nat → Int32} : ∀ m k i, (∀ j, k ≤ j → j < k + m → ws j = ws' j) → latF sz lt ws m k i = latF sz lt ws' m k i
  | 0, _, _, _ => rfl
  | m + 1, k, i, h => by
    unfold latF
    rw [h k (Nat.le_refl k) (by omega), latF_congr m (k + 1) _ (fun j h1 h2 => h j (by omega) (by omega))]
theorem latF_low {sz lt ws : Nat → Int32} : ∀ m k i, i < sumN (fun j => Int32.toNatClampNeg (sz (Int32.toNatClampNeg (ws (k + j))))) m → latF sz lt ws (m + 1) k i = latF sz lt ws m k i
  | 0, _, _, h => absurd h (Nat.not_lt_zero _)
  | m + 1, k, i, h => by
    rw [sumN_shift] at h
    show (if i < Int32.toNatClampNeg (sz (Int32.toNatClampNeg (ws k))) then _ else latF sz lt ws (m + 1) (k + 1) (i - Int32.toNatClampNeg (sz (Int32.toNatClampNeg (ws k))))) = (if i < Int32.toNatClampNeg (sz (Int32.toNatClampNeg (ws k))) then _ else latF sz lt ws m (k + 1) (i - Int32.toNatClampNeg (sz (Int32.toNatClampNeg (ws k)))))
    split
    · rfl
    · rename_i hlt
      refine latF_low m (k + 1) _ ?_
      rw [sumN_congr (g := fun j => Int32.toNatClampNeg (sz (Int32.toNatClampNeg (ws (k + (j + 1)))))) m (fun j _ => by rw [show k + 1 + j = k + (j + 1) by omega])]
      simp only [Nat.add_zero] at h
      omega
theorem latF_top {sz lt ws : Nat → Int32} : ∀ m k r, r < Int32.toNatClampNeg (sz (Int32.toNatClampNeg (ws (k + m)))) → latF sz lt ws (m + 1) k (sumN (fun j => Int32.toNatClampNeg (sz (Int32.toNatClampNeg (ws (k + j))))) m + r) = lt (10 * Int32.toNatClampNeg (ws (k + m)) + r)
  | 0, k, r, h => by
    have h : r < Int32.toNatClampNeg (sz (Int32.toNatClampNeg (ws k))) := h
    show (if 0 + r < Int32.toNatClampNeg (sz (Int32.toNatClampNeg (ws k))) then lt (10 * Int32.toNatClampNeg (ws k) + (0 + r)) else _) = lt (10 * Int32.toNatClampNeg (ws k) + r)
    rw [Nat.zero_add, if_pos h]
  | m + 1, k, r, h => by
    rw [sumN_shift]
    show (if _ < Int32.toNatClampNeg (sz (Int32.toNatClampNeg (ws k))) then _ else latF sz lt ws (m + 1) (k + 1) _) = _
    simp only [Nat.add_zero]
    rw [if_neg (by omega)]
    have e : Int32.toNatClampNeg (sz (Int32.toNatClampNeg (ws k))) + sumN (fun j => Int32.toNatClampNeg (sz (Int32.toNatClampNeg (ws (k + (j + 1)))))) m + r - Int32.toNatClampNeg (sz (Int32.toNatClampNeg (ws k))) = sumN (fun j => Int32.toNatClampNeg (sz (Int32.toNatClampNeg (ws (k + 1 + j))))) m + r := by
      have e2 : sumN (fun j => Int32.toNatClampNeg (sz (Int32.toNatClampNeg (ws (k + 1 + j))))) m = sumN (fun j => Int32.toNatClampNeg (sz (Int32.toNatClampNeg (ws (k + (j + 1)))))) m := sumN_congr m (fun j _ => by rw [show k + 1 + j = k + (j + 1) by omega])
      rw [e2]
      omega
    rw [e, latF_top m (k + 1) r (by rw [show k + 1 + m = k + (m + 1) by omega]; exact h), show k + 1 + m = k + (m + 1) by omega]
theorem blkM_add {n : Int32} {lt sz : Nat → Int32} {tot cnt last said : Int32} {ls : Nat → Int32} {p g : Int32} {ws : Nat → Int32} {w : Nat} (h : blkM n lt sz tot cnt last said ls p g ws) (hw : w < Int32.toNatClampNeg n) (hp : Int32.toNatClampNeg p < 6) (ht : totF sz ws (Int32.toNatClampNeg p) + Int32.toNatClampNeg (sz w) ≤ 60) (hn : Int32.toNatClampNeg n ≤ 12) :
    blkM n lt sz (nI (totF sz ws (Int32.toNatClampNeg p) + Int32.toNatClampNeg (sz w))) (cnt + 1) (nI w) said (rowW ls (totF sz ws (Int32.toNatClampNeg p)) (Int32.toNatClampNeg (sz w)) (fun i => lt (10 * w + i))) (p + 1) g (upd ws (Int32.toNatClampNeg p) (nI w)) := by
  obtain ⟨m1, m2, m3, m4, m5, m6, ⟨j, hj, ej⟩, m8, m9, m10⟩ := h
  obtain ⟨ep, bp⟩ := rg_num m1 (by decide)
  have ep1 : p + 1 = nI (Int32.toNatClampNeg p + 1) := by conv => lhs; rw [ep, nI_1]
  have np1 : Int32.toNatClampNeg (p + 1) = Int32.toNatClampNeg p + 1 := by rw [ep1, nnum (by omega)]
  have hup : ∀ k, k < Int32.toNatClampNeg p → upd ws (Int32.toNatClampNeg p) (nI w) k = ws k := fun k hk => if_neg (by omega)
  have htp : upd ws (Int32.toNatClampNeg p) (nI w) (Int32.toNatClampNeg p) = nI w := if_pos rfl
  have htot0 : totF sz (upd ws (Int32.toNatClampNeg p) (nI w)) (Int32.toNatClampNeg p) = totF sz ws (Int32.toNatClampNeg p) := sumN_congr _ (fun k hk => by rw [hup k hk])
  have htot : totF sz (upd ws (Int32.toNatClampNeg p) (nI w)) (Int32.toNatClampNeg (p + 1)) = totF sz ws (Int32.toNatClampNeg p) + Int32.toNatClampNeg (sz w) := by
    rw [np1]
    show totF sz (upd ws (Int32.toNatClampNeg p) (nI w)) (Int32.toNatClampNeg p) + Int32.toNatClampNeg (sz (Int32.toNatClampNeg (upd ws (Int32.toNatClampNeg p) (nI w) (Int32.toNatClampNeg p)))) = _
    rw [htot0, htp, nnum (by omega)]
  refine ⟨by rw [ep1]; exact rg_mk (by omega), fun k hk => ?_, by rw [htot]; exact ht, by rw [htot], by rw [m5], m6, ⟨j, by rw [htot]; omega, ej⟩, fun i hi => ?_, fun q => by rw [np1] at q; omega, fun _ => ?_⟩
  · rw [np1] at hk
    by_cases hk2 : k < Int32.toNatClampNeg p
    · rw [hup k hk2]
      exact m2 k hk2
    · have : k = Int32.toNatClampNeg p := by omega
      rw [this, htp]
      exact ⟨w, hw, rfl⟩
  · rw [htot] at hi
    rw [np1]
    have e0 : sumN (fun j => Int32.toNatClampNeg (sz (Int32.toNatClampNeg (upd ws (Int32.toNatClampNeg p) (nI w) (0 + j))))) (Int32.toNatClampNeg p) = totF sz ws (Int32.toNatClampNeg p) := by
      rw [← htot0]
      exact sumN_congr _ (fun k hk => by rw [Nat.zero_add])
    by_cases hlow : i < totF sz ws (Int32.toNatClampNeg p)
    · rw [rowW_out (Or.inl hlow), m8 i hlow, latF_low (Int32.toNatClampNeg p) 0 i (by rw [e0]; exact hlow)]
      exact latF_congr _ _ _ (fun k h1 h2 => (hup k (by omega)).symm)
    · obtain ⟨r, rfl⟩ : ∃ r, i = totF sz ws (Int32.toNatClampNeg p) + r := ⟨i - totF sz ws (Int32.toNatClampNeg p), by omega⟩
      have hr : r < Int32.toNatClampNeg (sz w) := by omega
      rw [rowW_in hr]
      have := latF_top (sz := sz) (lt := lt) (ws := upd ws (Int32.toNatClampNeg p) (nI w)) (Int32.toNatClampNeg p) 0 r (by rw [Nat.zero_add, htp, nnum (by omega)]; exact hr)
      rw [e0, Nat.zero_add, htp, nnum (by omega)] at this
      exact this.symm
  · rw [np1, Nat.add_sub_cancel, htp]
theorem eq_preach {l : Launch} {G : Geo} {s : St} (h : RI s) (x1 : Int32) : Eqv l G 110 156 [.int x1] s := by
  have hW := ri_wl h
  have hsm := ri_sm h
  have ht := tot_eq h
  obtain ⟨ez, hz⟩ := siz4 hW
  obtain ⟨b1, b2, ⟨w1, w2, w3, w4, w5, w6, w7, w8, w9, w10⟩, b4, hM, b6⟩ := id h
  obtain ⟨m1, m2, m3, m4, m5, m6, m7, m8, m9, m10⟩ := id hM
  obtain ⟨ep, bp⟩ := rg_num m1 (by decide)
  by_cases hnw : ¬ ∃ w, w < Int32.toNatClampNeg (s.1 4 3) ∧ x1 = nI w
  · have hh := fun q => hnw ((has_iff (o := 4) hW.1).mp q)
    have hi := fun q => hnw ((isw_iff h).mp q)
    refine p_X10_preach _ s (fun q => absurd q hh) ?_
    unfold f_X10_preach
    rw [iC_f hh]
    refine p_X11_preach _ s (fun q => absurd q hi) ?_
    unfold f_X11_preach
    rw [iC_f hi]
    exact ⟨rfl, h⟩
  have hw := Classical.not_not.mp hnw
  clear hnw
  have hh := (has_iff (o := 4) hW.1).mpr hw
  have hi := (isw_iff h).mpr hw
  obtain ⟨w, hw, rfl⟩ := hw
  obtain ⟨el, hl⟩ := len4 hW w
  have i12 : vp_in (nI w) 12 := w_in (by omega)
  -- room
  have room : b_X6_hasRoom s 18 (v_X9_lengthOf s 4 (nI w)) ↔ Int32.toNatClampNeg (s.1 51 23) < 6 ∧ totF (s.1 6) (s.1 60) (Int32.toNatClampNeg (s.1 51 23)) + Int32.toNatClampNeg (s.1 6 w) ≤ 60 := by
    rw [v_len4 hW hw]
    unfold b_X6_hasRoom
    rw [m5, m4]
    constructor
    · intro q
      have q1 : s.1 51 23 < 6 := Classical.byContradiction fun z => q.2 z
      have q2 := (q.1 q1).1
      rw [show (60 : Int32) = nI 60 from rfl, pk_sub m3, el, nlt (by omega) (by omega)] at q2
      rw [ep, show (6 : Int32) = nI 6 from rfl, nlt (by omega) (by omega)] at q1
      exact ⟨q1, Classical.byContradiction fun z => q2 (by omega)⟩
    · rintro ⟨q1, q2⟩
      refine ⟨fun _ => ⟨fun z => ?_, fun _ => trivial⟩, fun z => z (by rw [ep, show (6 : Int32) = nI 6 from rfl, nlt (by omega) (by omega)]; exact q1)⟩
      rw [show (60 : Int32) = nI 60 from rfl, pk_sub m3, el, nlt (by omega) (by omega)] at z
      omega
  have okap : b_X6_hasRoom s 18 (v_X9_lengthOf s 4 (nI w)) → ok_X6_append s 18 (nI w) := fun q => ⟨rfl, hW, ⟨w, hw, rfl, _, m4, (room.mp q).2⟩, q⟩
  have hlast : (v_X6_lastWord s 18 = -1) ↔ ¬ 0 < s.1 51 23 := by
    show s.1 18 3 = -1 ↔ _
    rw [ep, l0, nlt (by omega) (by omega)]
    constructor
    · intro q z
      obtain ⟨v, hv, e⟩ := m2 (Int32.toNatClampNeg (s.1 51 23) - 1) (by omega)
      rw [m10 z, e] at q
      have : (nI v).toInt = (-1 : Int32).toInt := by rw [q]
      rw [nI_i (by omega)] at this
      have q9 : (-1 : Int32).toInt = -1 := rfl
      omega
    · intro q
      exact m9 (by omega)
  have hfol : 0 < s.1 51 23 → (b_X9_mayFollow s 4 (v_X9_sortOf s 4 (v_X6_lastWord s 18)) (v_X9_sortOf s 4 (nI w)) ↔ b_X11_mayFollow s (s.1 60 (Int32.toNatClampNeg (s.1 51 23 - 1))) (nI w)) := by
    intro q
    have hp0 : 0 < Int32.toNatClampNeg (s.1 51 23) := by
      rw [ep, l0, nlt (by omega) (by omega)] at q
      exact q
    obtain ⟨v, hv, e⟩ := m2 (Int32.toNatClampNeg (s.1 51 23) - 1) (by omega)
    have e7 : Int32.toNatClampNeg (s.1 51 23 - 1) = Int32.toNatClampNeg (s.1 51 23) - 1 := by
      conv => lhs; rw [ep, l1, pk_sub (by omega), nnum (by omega)]
    have e8 : v_X6_lastWord s 18 = nI v := (m10 hp0).trans e
    unfold b_X11_mayFollow
    rw [e7, e, e8, v_sort4 hW hv, v_sort4 hW hw, hasb, nnum (by omega), nnum (by omega), w7, w10]
    unfold b_X9_mayFollow
    exact ⟨fun q z => q.1 z, fun q => ⟨fun z => absurd z q, fun _ => trivial⟩⟩
  -- the end, where there is room
  have good : Int32.toNatClampNeg (s.1 51 23) < 6 → totF (s.1 6) (s.1 60) (Int32.toNatClampNeg (s.1 51 23)) + Int32.toNatClampNeg (s.1 6 w) ≤ 60 → ∃ s2, sput (sput (g_X6_append s 18 (nI w)) 60 (Int32.toNatClampNeg (s.1 51 23)) (nI w)) 51 23 (s.1 51 23 + 1) = s2 ∧ v_X11_lettersOf s2 = v_X6_letterTotal (g_X6_append s 18 (nI w)) 18 ∧ RI s2 := by
    intro q1 q2
    refine ⟨_, rfl, ?_, ?_⟩
    · have hB := blkM_add hM hw q1 q2 hz
      obtain ⟨-, -, -, t4, -⟩ := hB
      show nI (totF (s.1 54) ((sput s 60 (Int32.toNatClampNeg (s.1 51 23)) (nI w)).1 60) (Int32.toNatClampNeg (s.1 51 23 + 1))) = nI (Int32.toNatClampNeg (s.1 18 1) + Int32.toNatClampNeg (s.1 6 (Int32.toNatClampNeg (nI w))))
      rw [w9, ← upd_put, ← t4, m4, nnum (by omega), nnum (by omega)]
    · have hB := blkM_add hM hw q1 q2 hz
      refine ⟨b1, b2, ⟨w1, w2, w3, w4, w5, w6, w7, w8, w9, w10⟩, b4, ?_, b6⟩
      show blkM (s.1 4 3) (s.1 5) (s.1 6) (nI (Int32.toNatClampNeg (s.1 18 1) + Int32.toNatClampNeg (s.1 6 (Int32.toNatClampNeg (nI w))))) (s.1 18 2 + 1) (nI w) (s.1 18 4) (rowW (s.1 19) (Int32.toNatClampNeg (s.1 18 1)) (Int32.toNatClampNeg (s.1 6 (Int32.toNatClampNeg (nI w)))) (fun i => s.1 5 (10 * Int32.toNatClampNeg (nI w) + i))) (s.1 51 23 + 1) (s.1 51 25) ((sput s 60 (Int32.toNatClampNeg (s.1 51 23)) (nI w)).1 60)
      rw [← upd_put, m4, nnum (by omega), nnum (by omega)]
      exact hB
  have smO : ∀ t : St, t.1 51 23 = s.1 51 23 → t.1 60 = s.1 60 → t.1 54 = s.1 54 → ok_X11_lettersOf t := by
    intro t q1 q2 q3
    unfold ok_X11_lettersOf smR
    rw [q1, q2, q3]
    exact hsm
  -- the reference's run from any store that differs in the class's sermon alone
  have run : ∀ (t : St), t.1 51 = s.1 51 → t.1 60 = s.1 60 → t.1 54 = s.1 54 → t.1 53 = s.1 53 → ∀ Q : Int32 → St → Prop, (0 < s.1 51 23 → ¬ b_X11_mayFollow s (s.1 60 (Int32.toNatClampNeg (s.1 51 23 - 1))) (nI w) → Q (-4) t) → ((0 < s.1 51 23 → b_X11_mayFollow s (s.1 60 (Int32.toNatClampNeg (s.1 51 23 - 1))) (nI w)) → ¬ (Int32.toNatClampNeg (s.1 51 23) < 6 ∧ totF (s.1 6) (s.1 60) (Int32.toNatClampNeg (s.1 51 23)) + Int32.toNatClampNeg (s.1 6 w) ≤ 60) → Q (-5) t) → ((0 < s.1 51 23 → b_X11_mayFollow s (s.1 60 (Int32.toNatClampNeg (s.1 51 23 - 1))) (nI w)) → Int32.toNatClampNeg (s.1 51 23) < 6 → totF (s.1 6) (s.1 60) (Int32.toNatClampNeg (s.1 51 23)) + Int32.toNatClampNeg (s.1 6 w) ≤ 60 → Q (v_X11_lettersOf (sput (sput t 60 (Int32.toNatClampNeg (s.1 51 23)) (nI w)) 51 23 (s.1 51 23 + 1))) (sput (sput t 60 (Int32.toNatClampNeg (s.1 51 23)) (nI w)) 51 23 (s.1 51 23 + 1))) → DoesI l G 20 156 [.ref 51, .int (nI w)] t Q := by
    intro t q1 q2 q3 q4 Q k1 k2 k3
    have hiw : b_X11_isWord t (nI w) := by
      have : b_X11_isWord t (nI w) ↔ b_X11_isWord s (nI w) := by
        unfold b_X11_isWord
        rw [q1]
        exact ⟨fun q => in_iff.mpr (in_iff.mp q), fun q => in_iff.mpr (in_iff.mp q)⟩
      exact this.mpr hi
    have hmf : b_X11_mayFollow t (t.1 60 (Int32.toNatClampNeg (t.1 51 23 - 1))) (nI w) ↔ b_X11_mayFollow s (s.1 60 (Int32.toNatClampNeg (s.1 51 23 - 1))) (nI w) := by
      unfold b_X11_mayFollow
      rw [q1, q2, q4, hasb, hasb]
    have hlo : v_X11_lettersOf t = nI (totF (s.1 6) (s.1 60) (Int32.toNatClampNeg (s.1 51 23))) := by
      rw [← m4, ← ht]
      unfold v_X11_lettersOf
      rw [q1, q2, q3]
    have h6 : t.1 51 23 = 6 ↔ ¬ Int32.toNatClampNeg (s.1 51 23) < 6 := by
      rw [q1, ep, show (6 : Int32) = nI 6 from rfl, neq (by omega) (by omega), nnum (by omega)]
      omega
    have h60 : 60 < v_X11_lettersOf t + t.1 54 (Int32.toNatClampNeg (nI w)) ↔ ¬ totF (s.1 6) (s.1 60) (Int32.toNatClampNeg (s.1 51 23)) + Int32.toNatClampNeg (s.1 6 w) ≤ 60 := by
      rw [hlo, q3, w9, nnum (by omega), el, nI_add, show (60 : Int32) = nI 60 from rfl, nlt (by omega) (by omega), nnum (by omega)]
      omega
    have okt := smO t (by rw [q1]) q2 q3
    have oke : Int32.toNatClampNeg (s.1 51 23) < 6 → ok_X11_lettersOf (sput (sput t 60 (Int32.toNatClampNeg (t.1 51 23)) (nI w)) 51 23 ((sput t 60 (Int32.toNatClampNeg (t.1 51 23)) (nI w)).1 51 23 + 1)) := by
      intro q6
      have e9 : s.1 51 23 + 1 = nI (Int32.toNatClampNeg (s.1 51 23) + 1) := by conv => lhs; rw [ep, nI_1]
      have e10 : (sput t 60 (Int32.toNatClampNeg (t.1 51 23)) (nI w)).1 51 23 = s.1 51 23 := by
        show t.1 51 23 = _
        rw [q1]
      unfold ok_X11_lettersOf smR
      rw [e10]
      have e11 : (sput (sput t 60 (Int32.toNatClampNeg (t.1 51 23)) (nI w)) 51 23 (s.1 51 23 + 1)).1 51 23 = nI (Int32.toNatClampNeg (s.1 51 23) + 1) := by rw [sp_s, e9]
      rw [e11, nnum (by omega)]
      refine ⟨rg_mk (by omega), fun k hk => ?_, ?_⟩
      · show ∃ v, v < 12 ∧ (sput t 60 (Int32.toNatClampNeg (t.1 51 23)) (nI w)).1 60 k = nI v
        rw [q1]
        by_cases hk2 : k = Int32.toNatClampNeg (s.1 51 23)
        · rw [hk2, sp_s]
          exact ⟨w, by omega, rfl⟩
        · rw [sp_k hk2, q2]
          exact hsm.2.1 k (by omega)
      · show ∀ v, rg (t.1 54 v) 10
        rw [q3]
        exact hsm.2.2
    have okend : Int32.toNatClampNeg (s.1 51 23) < 6 → (vp_in (t.1 51 23) (alen 60)) ∧ ok_X11_lettersOf (sput (sput t 60 (Int32.toNatClampNeg (t.1 51 23)) (nI w)) 51 23 ((sput t 60 (Int32.toNatClampNeg (t.1 51 23)) (nI w)).1 51 23 + 1)) := fun q6 => ⟨by
      rw [q1, ep]
      exact vin (show Int32.toNatClampNeg (s.1 51 23) < 6 from q6) (by decide), oke q6⟩
    refine p_X11_preach _ t (fun _ => ⟨fun q => ?_, fun _ q6 => ⟨okt, i12, fun _ => okend (Classical.byContradiction fun z => q6 (h6.mpr z))⟩⟩) ?_
    · have hp0 : 0 < Int32.toNatClampNeg (s.1 51 23) := by
        rw [q1, ep, l0, nlt (by omega) (by omega)] at q
        exact q
      obtain ⟨v, hv, e⟩ := m2 (Int32.toNatClampNeg (s.1 51 23) - 1) (by omega)
      have e7 : Int32.toNatClampNeg (s.1 51 23 - 1) = Int32.toNatClampNeg (s.1 51 23) - 1 := by
        conv => lhs; rw [ep, l1, pk_sub (by omega), nnum (by omega)]
      refine ⟨?_, ⟨?_, i12⟩, fun _ q6 => ⟨okt, i12, fun _ => okend (Classical.byContradiction fun z => q6 (h6.mpr z))⟩⟩
      · rw [q1, ep, l1, pk_sub (by omega)]
        exact vin (show Int32.toNatClampNeg (s.1 51 23) - 1 < 6 by omega) (by decide)
      · rw [q1, q2, e7, e]
        exact w_in (by omega)
    · unfold f_X11_preach
      rw [iC_t hiw]
      have e10 : (sput t 60 (Int32.toNatClampNeg (t.1 51 23)) (nI w)).1 51 23 = s.1 51 23 := by
        show t.1 51 23 = _
        rw [q1]
      have tail : (0 < s.1 51 23 → b_X11_mayFollow s (s.1 60 (Int32.toNatClampNeg (s.1 51 23 - 1))) (nI w)) → Q (iC (t.1 51 23 = 6) (-5, t) (iC (60 < v_X11_lettersOf t + t.1 54 (Int32.toNatClampNeg (nI w))) (-5, t) (v_X11_lettersOf (sput (sput t 60 (Int32.toNatClampNeg (t.1 51 23)) (nI w)) 51 23 ((sput t 60 (Int32.toNatClampNeg (t.1 51 23)) (nI w)).1 51 23 + 1)), sput (sput t 60 (Int32.toNatClampNeg (t.1 51 23)) (nI w)) 51 23 ((sput t 60 (Int32.toNatClampNeg (t.1 51 23)) (nI w)).1 51 23 + 1)))).1 (iC (t.1 51 23 = 6) (-5, t) (iC (60 < v_X11_lettersOf t + t.1 54 (Int32.toNatClampNeg (nI w))) (-5, t) (v_X11_lettersOf (sput (sput t 60 (Int32.toNatClampNeg (t.1 51 23)) (nI w)) 51 23 ((sput t 60 (Int32.toNatClampNeg (t.1 51 23)) (nI w)).1 51 23 + 1)), sput (sput t 60 (Int32.toNatClampNeg (t.1 51 23)) (nI w)) 51 23 ((sput t 60 (Int32.toNatClampNeg (t.1 51 23)) (nI w)).1 51 23 + 1)))).2 := by
        intro kf
        rw [e10]
        by_cases q6 : Int32.toNatClampNeg (s.1 51 23) < 6
        · rw [iC_f (fun q => (h6.mp q) q6)]
          by_cases q7 : totF (s.1 6) (s.1 60) (Int32.toNatClampNeg (s.1 51 23)) + Int32.toNatClampNeg (s.1 6 w) ≤ 60
          · rw [iC_f (fun q => (h60.mp q) q7), q1]
            exact k3 kf q6 q7
          · rw [iC_t (h60.mpr q7)]
            exact k2 kf (fun q => q7 q.2)
        · rw [iC_t (h6.mpr q6)]
          exact k2 kf (fun q => q6 q.1)
      by_cases q0 : 0 < t.1 51 23
      · have q0' : 0 < s.1 51 23 := by rw [q1] at q0; exact q0
        rw [iC_t q0]
        by_cases q5 : b_X11_mayFollow s (s.1 60 (Int32.toNatClampNeg (s.1 51 23 - 1))) (nI w)
        · rw [iC_t (hmf.mpr q5)]
          exact tail (fun _ => q5)
        · rw [iC_f (fun q => q5 (hmf.mp q))]
          exact k1 q0' q5
      · have q0' : ¬ 0 < s.1 51 23 := by rw [q1] at q0; exact q0
        rw [iC_f q0]
        exact tail (fun q => absurd q q0')
  -- the class's run
  refine p_X10_preach _ s (fun _ => ⟨fun _ => ⟨ok_len (Or.inl rfl) hW _, okap⟩, fun _ => ⟨ok_sort (Or.inl rfl) hW _, ok_sort (Or.inl rfl) hW _, fun _ => ⟨ok_len (Or.inl rfl) hW _, okap⟩⟩⟩) ?_
  unfold f_X10_preach
  rw [iC_t hh]
  have tail : (0 < s.1 51 23 → b_X11_mayFollow s (s.1 60 (Int32.toNatClampNeg (s.1 51 23 - 1))) (nI w)) → DoesI l G 20 156 [.ref 51, .int (nI w)] (iC (b_X6_hasRoom s 18 (v_X9_lengthOf s 4 (nI w))) (v_X6_letterTotal (g_X6_append s 18 (nI w)) 18, g_X6_append s 18 (nI w)) (-5, s)).2 (fun r2 s2 => (iC (b_X6_hasRoom s 18 (v_X9_lengthOf s 4 (nI w))) (v_X6_letterTotal (g_X6_append s 18 (nI w)) 18, g_X6_append s 18 (nI w)) (-5, s)).1 = r2 ∧ RI s2) := by
    intro kf
    by_cases q : b_X6_hasRoom s 18 (v_X9_lengthOf s 4 (nI w))
    · rw [iC_t q]
      obtain ⟨r1, r2⟩ := room.mp q
      refine run (g_X6_append s 18 (nI w)) rfl rfl rfl rfl _ (fun z1 z2 => absurd (kf z1) z2) (fun _ z => absurd ⟨r1, r2⟩ z) (fun _ _ _ => ?_)
      obtain ⟨s2, e5, e6, e7⟩ := good r1 r2
      rw [e5]
      exact ⟨e6.symm, e7⟩
    · rw [iC_f q]
      exact run s rfl rfl rfl rfl _ (fun z1 z2 => absurd (kf z1) z2) (fun _ _ => ⟨rfl, h⟩) (fun _ z1 z2 => absurd (room.mpr ⟨z1, z2⟩) q)
  by_cases q0 : 0 < s.1 51 23
  · rw [iC_f (fun z => (hlast.mp z) q0)]
    by_cases q5 : b_X11_mayFollow s (s.1 60 (Int32.toNatClampNeg (s.1 51 23 - 1))) (nI w)
    · rw [iC_t ((hfol q0).mpr q5)]
      exact tail (fun _ => q5)
    · rw [iC_f (fun q => q5 ((hfol q0).mp q))]
      exact run s rfl rfl rfl rfl _ (fun _ _ => ⟨rfl, h⟩) (fun z => absurd (z q0) q5) (fun z => absurd (z q0) q5)
  · rw [iC_t (hlast.mpr q0)]
    exact tail (fun z => absurd z q0)
end
section
/-! equal answers: the shelves -/
theorem blkM_mv {n : Int32} {lt sz : Nat → Int32} {tot cnt last said : Int32} {ls ls' : Nat → Int32} {p g : Int32} {ws ws' : Nat → Int32} (h : blkM n lt sz tot cnt last said ls p g ws) (hl : ∀ i, i < 60 → ls' i = ls i) (hw : ∀ k, k < 6 → ws' k = ws k) : blkM n lt sz tot cnt last said ls' p g ws' := by
  obtain ⟨m1, m2, m3, m4, m5, m6, m7, m8, m9, m10⟩ := h
  obtain ⟨ep, bp⟩ := rg_num m1 (by decide)
  have ht : totF sz ws' (Int32.toNatClampNeg p) = totF sz ws (Int32.toNatClampNeg p) := sumN_congr _ (fun k hk => by rw [hw k (by omega)])
  refine ⟨m1, fun k hk => by rw [hw k (by omega)]; exact m2 k hk, by rw [ht]; exact m3, by rw [ht]; exact m4, m5, m6, by rw [ht]; exact m7, fun i hi => ?_, m9, fun q => by rw [hw _ (by omega)]; exact m10 q⟩
  rw [ht] at hi
  rw [hl i (by omega), m8 i hi]
  exact latF_congr _ _ _ (fun k _ h2 => (hw k (by omega)).symm)
theorem cp_row {s : St} {q r : Nat} {i : Nat} (hi : i < 60) : (scpy s q (Int32.toNatClampNeg 0) r (Int32.toNatClampNeg 0) (Int32.toNatClampNeg (nI 60))).1 r i = s.1 q i := by
  have e : Int32.toNatClampNeg (nI 60) = 60 := nnum (by decide)
  have e0 : Int32.toNatClampNeg 0 = 0 := rfl
  rw [e, e0]
  simp [scpy, hi]
theorem kb_set (x : Int32) {j k : Nat} (hj : j < 2) (hk : k < 2) : kbit (x ||| ((1 : Int32) <<< (nI j &&& 31))) k ↔ (j = k ∨ kbit x k) := by
  unfold kbit
  rw [bit0 (by omega), bit0 (by omega), b_or, b_one j (by omega) (by omega)]
  by_cases h : k = j
  · subst h; simp
  · have h2 : ¬ j = k := fun z => h z.symm
    simp [h, h2]
theorem at_keep {l : Launch} {G : Geo} {t : St} {Q : Int32 → St → Prop} (k : Nat) (hk : k < 2) (h : Q (t.1 51 25) (sput (sarr t 62 (rowW (t.1 62) (8 * k + 2) 6 (t.1 60))) 63 k 1)) : AtA l G 20 sX11_keep 42 [.ref 51, .int (nI k), .int 0] [] t (pI Q) := by
  have loop : ∀ m i, i + m = 6 → AtA l G 20 sX11_keep 42 [.ref 51, .int (nI k), .int (nI i)] [] (sarr t 62 (rowW (t.1 62) (8 * k + 2) i (t.1 60))) (pI Q) := by
    intro m
    induction m with
    | zero =>
      intro i hi
      have : i = 6 := by omega
      subst this
      refine r_X11_keep_42 _ _ _ ⟨fun z => ?_, fun _ => ⟨vin (show k < 2 by omega) (by decide), ?_⟩⟩
      · rw [show (6 : Int32) = nI 6 from rfl, nlt (by omega) (by omega)] at z
        omega
      · rw [nnum (by omega)]
        exact h
    | succ m ih =>
      intro i hi
      have e1 : (8 * nI k + 2 + nI i : Int32) = nI (8 * k + 2 + i) := by
        rw [show (8 : Int32) = nI 8 from rfl, show (2 : Int32) = nI 2 from rfl, pk_mul, nI_add, nI_add]
      refine r_X11_keep_42 _ _ _ ⟨fun _ => ⟨vin (show i < 6 by omega) (by decide), ?_, ?_⟩, fun z => ?_⟩
      · rw [e1]
        exact vin (show 8 * k + 2 + i < 16 by omega) (by decide)
      · rw [e1, nnum (by omega), nnum (by omega), nI_1, sp_sa]
        have := ih (i + 1) (by omega)
        rw [← rowW_s] at this
        exact this
      · rw [show (6 : Int32) = nI 6 from rfl, nlt (by omega) (by omega)] at z
        omega
  have h0 := loop 6 0 (Nat.zero_add _)
  rw [rowW_0, sa_id] at h0
  exact h0
theorem at_back {l : Launch} {G : Geo} {t : St} {Q : Int32 → St → Prop} (k : Nat) (hk : k < 2) (h : Q (t.1 51 25) (sarr t 60 (rowW (t.1 60) 0 6 (fun i => t.1 62 (8 * k + 2 + i))))) : AtA l G 20 sX11_back 54 [.ref 51, .int (nI k), .int 0] [] t (pI Q) := by
  have loop : ∀ m i, i + m = 6 → AtA l G 20 sX11_back 54 [.ref 51, .int (nI k), .int (nI i)] [] (sarr t 60 (rowW (t.1 60) 0 i (fun i => t.1 62 (8 * k + 2 + i)))) (pI Q) := by
    intro m
    induction m with
    | zero =>
      intro i hi
      have : i = 6 := by omega
      subst this
      refine r_X11_back_54 _ _ _ ⟨fun z => ?_, fun _ => h⟩
      rw [show (6 : Int32) = nI 6 from rfl, nlt (by omega) (by omega)] at z
      omega
    | succ m ih =>
      intro i hi
      have e1 : (8 * nI k + 2 + nI i : Int32) = nI (8 * k + 2 + i) := by
        rw [show (8 : Int32) = nI 8 from rfl, show (2 : Int32) = nI 2 from rfl, pk_mul, nI_add, nI_add]
      refine r_X11_back_54 _ _ _ ⟨fun _ => ⟨?_, vin (show i < 6 by omega) (by decide), ?_⟩, fun z => ?_⟩
      · rw [e1]
        exact vin (show 8 * k + 2 + i < 16 by omega) (by decide)
      · rw [e1, nnum (by omega), nnum (by omega), nI_1, sp_sa]
        have := ih (i + 1) (by omega)
        rw [← rowW_s, Nat.zero_add] at this
        exact this
      · rw [show (6 : Int32) = nI 6 from rfl, nlt (by omega) (by omega)] at z
        omega
  have h0 := loop 6 0 (Nat.zero_add _)
  rw [rowW_0, sa_id] at h0
  exact h0
theorem k01 {x : Int32} (h0 : ¬ x < 0) (h1 : x < 2) : x = 0 ∨ x = 1 := by
  obtain ⟨k, hk, rfl⟩ := nI_of h0
  rw [show (2 : Int32) = nI 2 from rfl, nlt (by omega) (by omega)] at h1
  rcases (show k = 0 ∨ k = 1 by omega) with rfl | rfl
  · exact Or.inl rfl
  · exact Or.inr rfl
theorem cok (s : St) {o p : Nat} (h : (o = 20 ∧ p = 18) ∨ (o = 22 ∧ p = 18) ∨ (o = 18 ∧ p = 20) ∨ (o = 18 ∧ p = 22)) : ok_X6_copyFrom s o p := by
  rcases h with ⟨rfl, rfl⟩ | ⟨rfl, rfl⟩ | ⟨rfl, rfl⟩ | ⟨rfl, rfl⟩ <;> (unfold ok_X6_copyFrom; decide +kernel)
theorem eq_keep {l : Launch} {G : Geo} {s : St} (h : RI s) (x1 : Int32) : Eqv l G 126 186 [.int x1] s := by
  obtain ⟨b1, b2, b3, b4, b5, k0, k1, z0, z1, s0, s1⟩ := id h
  refine r_X10_keep _ s ⟨fun c => ?_, fun c => ⟨fun c2 => ⟨fun e => ⟨cok s (by decide), ?_⟩, fun e => ⟨cok s (by decide), ?_⟩⟩, fun c2 => ?_⟩⟩
  · exact r_X11_keep _ s ⟨fun _ => ⟨rfl, h⟩, fun q => absurd c (in_iff.mp q).1⟩
  · subst e
    refine r_X11_keep _ _ ⟨fun q => absurd (in_iff.mpr (by decide)) q, fun _ => ⟨by unfold vp_in; decide +kernel, by unfold vp_in; decide +kernel, ?_⟩⟩
    refine at_keep 0 (by decide) ⟨b5.2.2.2.2.2.1, ?_⟩
    refine ⟨b1, b2, b3, b4, b5, ?_, ?_, Or.inr rfl, z1, fun _ => ?_, fun q => ?_⟩
    · exact ⟨fun _ => rfl, fun _ => (kb_set (s.1 0 7) (j := 0) (k := 0) (by decide) (by decide)).mpr (Or.inl rfl)⟩
    · exact ⟨fun q => k1.mp (((kb_set (s.1 0 7) (j := 0) (k := 1) (by decide) (by decide)).mp q).resolve_left (by decide)), fun q => (kb_set (s.1 0 7) (j := 0) (k := 1) (by decide) (by decide)).mpr (Or.inr (k1.mpr q))⟩
    · exact blkM_mv b5 (fun i hi => cp_row (q := 19) (r := 21) hi) (fun k hk => rowW_in (a := 2) (n := 6) hk)
    · exact blkM_mv (s1 q) (fun i hi => rfl) (fun k hk => (rowW_out (a := 2) (n := 6) (j := 10 + k) (Or.inr (by omega))).trans ((sp_k (show 10 + k ≠ 1 by omega)).trans ((sp_k (show 10 + k ≠ 0 by omega)).trans rfl)))
  · have e1 := (k01 c c2).resolve_left e
    subst e1
    refine r_X11_keep _ _ ⟨fun q => absurd (in_iff.mpr (by decide)) q, fun _ => ⟨by unfold vp_in; decide +kernel, by unfold vp_in; decide +kernel, ?_⟩⟩
    refine at_keep 1 (by decide) ⟨b5.2.2.2.2.2.1, ?_⟩
    refine ⟨b1, b2, b3, b4, b5, ?_, ?_, z0, Or.inr rfl, fun q => ?_, fun _ => ?_⟩
    · exact ⟨fun q => k0.mp (((kb_set (s.1 0 7) (j := 1) (k := 0) (by decide) (by decide)).mp q).resolve_left (by decide)), fun q => (kb_set (s.1 0 7) (j := 1) (k := 0) (by decide) (by decide)).mpr (Or.inr (k0.mpr q))⟩
    · exact ⟨fun _ => rfl, fun _ => (kb_set (s.1 0 7) (j := 1) (k := 1) (by decide) (by decide)).mpr (Or.inl rfl)⟩
    · exact blkM_mv (s0 q) (fun i hi => rfl) (fun k hk => (rowW_out (a := 10) (n := 6) (j := 2 + k) (Or.inl (by omega))).trans ((sp_k (show 2 + k ≠ 9 by omega)).trans ((sp_k (show 2 + k ≠ 8 by omega)).trans rfl)))
    · exact blkM_mv b5 (fun i hi => cp_row (q := 19) (r := 23) hi) (fun k hk => rowW_in (a := 10) (n := 6) hk)
  · refine r_X11_keep _ s ⟨fun _ => ⟨rfl, h⟩, fun q => absurd ?_ (in_iff.mp q).2⟩
    rw [i_lt] at c2 ⊢
    have q1 : (1 : Int32).toInt = 1 := rfl
    have q2 : (2 : Int32).toInt = 2 := rfl
    omega
theorem eq_back {l : Launch} {G : Geo} {s : St} (h : RI s) (x1 : Int32) : Eqv l G 127 187 [.int x1] s := by
  obtain ⟨b1, b2, b3, b4, b5, k0, k1, z0, z1, s0, s1⟩ := id h
  refine r_X10_back _ s ⟨fun c => ?_, fun c => ⟨fun c2 => ⟨fun kb => ?_, fun kb => ⟨fun e => ⟨cok s (by decide), ?_⟩, fun e => ⟨cok s (by decide), ?_⟩⟩⟩, fun c2 => ?_⟩⟩
  · exact r_X11_back _ s ⟨fun _ => ⟨rfl, h⟩, fun q => absurd c (in_iff.mp q).1⟩
  · rcases k01 c c2 with rfl | rfl
    · have e0 : s.1 63 0 = 0 := z0.resolve_right (fun q => (k0.mpr q) kb)
      exact r_X11_back _ s ⟨fun q => absurd (in_iff.mpr (by decide)) q, fun _ => ⟨by unfold vp_in; decide +kernel, fun _ => ⟨rfl, h⟩, fun q => absurd e0 q⟩⟩
    · have e0 : s.1 63 1 = 0 := z1.resolve_right (fun q => (k1.mpr q) kb)
      exact r_X11_back _ s ⟨fun q => absurd (in_iff.mpr (by decide)) q, fun _ => ⟨by unfold vp_in; decide +kernel, fun _ => ⟨rfl, h⟩, fun q => absurd e0 q⟩⟩
  · subst e
    have e1 : s.1 63 0 = 1 := k0.mp kb
    have hM := s0 e1
    refine r_X11_back _ _ ⟨fun q => absurd (in_iff.mpr (by decide)) q, fun _ => ⟨by unfold vp_in; decide +kernel, fun q => ?_, fun _ => ⟨by unfold vp_in; decide +kernel, by unfold vp_in; decide +kernel, ?_⟩⟩⟩
    · have q : s.1 63 0 = 0 := q
      rw [e1] at q
      exact absurd q (by decide)
    · refine at_back 0 (by decide) ⟨hM.2.2.2.2.2.1, ?_⟩
      refine ⟨b1, b2, b3, b4, ?_, k0, k1, z0, z1, s0, s1⟩
      exact blkM_mv hM (fun i hi => cp_row (q := 21) (r := 19) hi) (fun k hk => by
        have := rowW_in (f := s.1 60) (a := 0) (n := 6) (g := fun i => s.1 62 (2 + i)) hk
        rw [Nat.zero_add] at this
        exact this)
  · have e9 := (k01 c c2).resolve_left e
    subst e9
    have e1 : s.1 63 1 = 1 := k1.mp kb
    have hM := s1 e1
    refine r_X11_back _ _ ⟨fun q => absurd (in_iff.mpr (by decide)) q, fun _ => ⟨by unfold vp_in; decide +kernel, fun q => ?_, fun _ => ⟨by unfold vp_in; decide +kernel, by unfold vp_in; decide +kernel, ?_⟩⟩⟩
    · have q : s.1 63 1 = 0 := q
      rw [e1] at q
      exact absurd q (by decide)
    · refine at_back 1 (by decide) ⟨hM.2.2.2.2.2.1, ?_⟩
      refine ⟨b1, b2, b3, b4, ?_, k0, k1, z0, z1, s0, s1⟩
      exact blkM_mv hM (fun i hi => cp_row (q := 23) (r := 19) hi) (fun k hk => by
        have := rowW_in (f := s.1 60) (a := 0) (n := 6) (g := fun i => s.1 62 (10 + i)) hk
        rw [Nat.zero_add] at this
        exact this)
  · refine r_X11_back _ s ⟨fun _ => ⟨rfl, h⟩, fun q => absurd ?_ (in_iff.mp q).2⟩
    rw [i_lt] at c2 ⊢
    have q1 : (1 : Int32).toInt = 1 := rfl
    have q2 : (2 : Int32).toInt = 2 := rfl
    omega
end
section
/-! what some voices say of a word; classes; greatest common divisors -/
def selP (V : Nat) (set : Int32) (i : Nat) : Prop := ¬ ((set >>> (nI (i % V) &&& 31)) &&& 1) = 0
def sayP (V : Nat) (set : Int32) (lt : Nat → Int32) (n m w q : Nat) : Prop := (∀ i, i < n → selP V set i → cntN (selP V set) i < m ∧ lt (10 * q + cntN (selP V set) i) = lt (10 * w + i)) ∧ cntN (selP V set) n = m
def b_X2_isSaidBy (s : St) (x1 x2 x3 : Int32) : Prop := sayP (Int32.toNatClampNeg (s.1 8 1)) x2 (s.1 5) (Int32.toNatClampNeg (s.1 6 (Int32.toNatClampNeg x1))) (Int32.toNatClampNeg (s.1 6 (Int32.toNatClampNeg x3))) (Int32.toNatClampNeg x1) (Int32.toNatClampNeg x3)
def ok_X2_isSaidBy (s : St) (x1 _x2 x3 : Int32) : Prop := wlR s 4 ∧ chR s 8 ∧ (∃ w, w < Int32.toNatClampNeg (s.1 4 3) ∧ x1 = nI w) ∧ ∃ q, q < Int32.toNatClampNeg (s.1 4 3) ∧ x3 = nI q
theorem p_X2_isSaidBy {l : Launch} {G : Geo} {d : Nat} (x1 x2 x3 : Int32) (s : St) {Q : Int32 → St → Prop} (hok : ok_X2_isSaidBy s x1 x2 x3) (h : Q (bI (b_X2_isSaidBy s x1 x2 x3)) s) : DoesI l G (d + 2) 28 [.ref 45, .int x1, .int x2, .int x3] s Q := by
  obtain ⟨hW, hC, ⟨w, hw, rfl⟩, q, hq, rfl⟩ := hok
  obtain ⟨⟨V, v1, v5, hV⟩, -⟩ := id hC
  obtain ⟨ez, hz⟩ := siz4 hW
  obtain ⟨e1, h1⟩ := len4 hW w
  obtain ⟨e2, h2⟩ := len4 hW q
  unfold b_X2_isSaidBy at h
  rw [hV, nnum (by omega), nnum (by omega), nnum (by omega)] at h
  have loop : ∀ m i, i + m = Int32.toNatClampNeg (s.1 6 w) → (∀ j, j < i → selP V x2 j → cntN (selP V x2) j < Int32.toNatClampNeg (s.1 6 q) ∧ s.1 5 (10 * q + cntN (selP V x2) j) = s.1 5 (10 * w + j)) → AtA l G (d + 2) sX2_isSaidBy 6 [.ref 45, .int (nI w), .int x2, .int (nI q), .int (nI (cntN (selP V x2) i)), .int (nI i)] [] s (pI Q) := by
    intro m
    induction m with
    | zero =>
      intro i hi hp
      have : i = Int32.toNatClampNeg (s.1 6 w) := by omega
      subst this
      have hc := cnt_le (selP V x2) (Int32.toNatClampNeg (s.1 6 w))
      refine r_X2_isSaidBy_6 _ _ _ _ _ s ⟨ok_len (Or.inl rfl) hW _, fun z => ?_, fun _ => ⟨ok_len (Or.inl rfl) hW _, fun z => ?_, fun z => ?_⟩⟩
      · rw [v_len4 hW hw, ← e1] at z
        exact (Int32.lt_irrefl z).elim
      · rw [v_len4 hW hq, e2, neq (by omega) (by omega)] at z
        rw [bI_1 ⟨hp, z⟩] at h
        exact h
      · rw [v_len4 hW hq, e2, neq (by omega) (by omega)] at z
        rw [bI_0 (fun k => z k.2)] at h
        exact h
    | succ m ih =>
      intro i hi hp
      have hc := cnt_le (selP V x2) i
      have hl : v_X9_letterOf s 4 (nI w) (nI i) = s.1 5 (10 * w + i) := v_let4 hW hw (by omega)
      refine r_X2_isSaidBy_6 _ _ _ _ _ s ⟨ok_len (Or.inl rfl) hW _, fun _ => ⟨ok_vc hC _, fun z => ?_, fun z => ⟨ok_let (Or.inl rfl) hW _ _, ok_let (Or.inl rfl) hW _ _, fun z2 => ?_, fun z2 => ?_⟩⟩, fun z => ?_⟩
      · rw [v_vc hV v1 v5 (by omega)] at z
        have hns : ¬ selP V x2 i := fun k => k z
        have := ih (i + 1) (by omega) (lt_s hp (fun k => absurd k hns))
        rw [cnt_f hns] at this
        rw [nI_1]
        exact this
      · rw [v_vc hV v1 v5 (by omega)] at z
        have hns : selP V x2 i := z
        rw [hl] at z2
        have hlt : cntN (selP V x2) i < Int32.toNatClampNeg (s.1 6 q) := Classical.byContradiction fun k => by
          rw [v_let4o hW hq (by omega) (by omega), (let4 hW (10 * w + i)).1] at z2
          have h9 := (let4 hW (10 * w + i)).2
          have : (nI (Int32.toNatClampNeg (s.1 5 (10 * w + i)))).toInt = (-1 : Int32).toInt := by rw [z2]
          rw [nI_i (by omega)] at this
          have q9 : (-1 : Int32).toInt = -1 := rfl
          omega
        rw [v_let4 hW hq hlt] at z2
        have := ih (i + 1) (by omega) (lt_s hp (fun _ => ⟨hlt, z2.symm⟩))
        rw [cnt_t hns] at this
        rw [nI_1, nI_1]
        exact this
      · rw [v_vc hV v1 v5 (by omega)] at z
        have hns : selP V x2 i := z
        rw [bI_0 (fun k => by
          obtain ⟨k1, k2⟩ := k.1 i (by omega) hns
          rw [hl, v_let4 hW hq k1] at z2
          exact z2 k2.symm)] at h
        exact h
      · rw [v_len4 hW hw, e1, nlt (by omega) (by omega)] at z
        omega
  exact r_X2_isSaidBy _ _ _ s (loop _ 0 (Nat.zero_add _) (fun j hj => absurd hj (Nat.not_lt_zero j)))
/-- the least k of k0 .. for which P holds, or -1 -/
noncomputable def findF (P : Nat → Prop) : Nat → Nat → Int32
  | 0, _ => -1
  | m + 1, k => iC (P k) (nI k) (findF P m (k + 1))
theorem findF_congr {P P' : Nat → Prop} : ∀ m k, (∀ j, k ≤ j → j < k + m → (P j ↔ P' j)) → findF P m k = findF P' m k
  | 0, _, _ => rfl
  | m + 1, k, h => by
    show iC (P k) (nI k) (findF P m (k + 1)) = iC (P' k) (nI k) (findF P' m (k + 1))
    rw [findF_congr m (k + 1) (fun j h1 h2 => h j (by omega) (by omega)), propext (h k (Nat.le_refl k) (by omega))]
theorem findF_or {P : Nat → Prop} : ∀ m k, findF P m k = -1 ∨ ∃ j, k ≤ j ∧ j < k + m ∧ findF P m k = nI j
  | 0, _ => Or.inl rfl
  | m + 1, k => by
    show iC (P k) (nI k) (findF P m (k + 1)) = -1 ∨ ∃ j, k ≤ j ∧ j < k + (m + 1) ∧ iC (P k) (nI k) (findF P m (k + 1)) = nI j
    by_cases h : P k
    · exact Or.inr ⟨k, Nat.le_refl k, by omega, by rw [iC_t h]⟩
    · rw [iC_f h]
      rcases findF_or (P := P) m (k + 1) with e | ⟨j, h1, h2, e⟩
      · exact Or.inl e
      · exact Or.inr ⟨j, by omega, by omega, e⟩
noncomputable def v_X11_wordBy (s : St) (x1 x2 : Int32) : Int32 := findF (fun q => sayP (Int32.toNatClampNeg (s.1 51 0)) x2 (s.1 55) (Int32.toNatClampNeg (s.1 54 (Int32.toNatClampNeg x1))) (Int32.toNatClampNeg (s.1 54 q)) (Int32.toNatClampNeg x1) q) (Int32.toNatClampNeg (s.1 51 4)) 0
def ok_X11_wordBy (s : St) (x1 _x2 : Int32) : Prop := mdR s ∧ ∃ w, w < Int32.toNatClampNeg (s.1 51 4) ∧ x1 = nI w
theorem p_X11_wordBy {l : Launch} {G : Geo} {d : Nat} (x1 x2 : Int32) (s : St) {Q : Int32 → St → Prop} (hok : ok_X11_wordBy s x1 x2) (h : Q (v_X11_wordBy s x1 x2) s) : DoesI l G (d + 2) 174 [.ref 51, .int x1, .int x2] s Q := by
  obtain ⟨⟨m1, m2, m3, m4, -, -, ⟨V, v1, v5, hV⟩, -⟩, w, hw, rfl⟩ := hok
  obtain ⟨ez, hz⟩ := rg_num m1 (by decide)
  obtain ⟨e1, h1⟩ := rg_num (m2 w) (by decide)
  have i12 : vp_in (nI w) (alen 54) := vin (show w < 12 by omega) (by decide)
  have hne : ¬ s.1 51 0 = 0 := by
    rw [hV, l0, neq (by omega) (by omega)]
    omega
  unfold v_X11_wordBy at h
  rw [hV, nnum (by omega), nnum (by omega)] at h
  have inner : ∀ q, q < Int32.toNatClampNeg (s.1 51 4) → (sayP V x2 (s.1 55) (Int32.toNatClampNeg (s.1 54 w)) (Int32.toNatClampNeg (s.1 54 q)) w q → Q (nI q) s) → (¬ sayP V x2 (s.1 55) (Int32.toNatClampNeg (s.1 54 w)) (Int32.toNatClampNeg (s.1 54 q)) w q → AtA l G (d + 2) sX11_wordBy 2 [.ref 51, .int (nI w), .int x2, .int (nI (q + 1)), .null, .null, .null] [] s (pI Q)) → ∀ m i, i + m = Int32.toNatClampNeg (s.1 54 w) → ∀ b : Int32, (b = 1 ∧ (∀ j, j < i → selP V x2 j → cntN (selP V x2) j < Int32.toNatClampNeg (s.1 54 q) ∧ s.1 55 (10 * q + cntN (selP V x2) j) = s.1 55 (10 * w + j))) ∨ (b = 0 ∧ ¬ sayP V x2 (s.1 55) (Int32.toNatClampNeg (s.1 54 w)) (Int32.toNatClampNeg (s.1 54 q)) w q) → AtA l G (d + 2) sX11_wordBy 19 [.ref 51, .int (nI w), .int x2, .int (nI q), .int (nI (cntN (selP V x2) i)), .int b, .int (nI i)] [] s (pI Q) := by
    intro q hq kt kf m
    obtain ⟨e2, h2⟩ := rg_num (m2 q) (by decide)
    have iq : vp_in (nI q) (alen 54) := vin (show q < 12 by omega) (by decide)
    induction m with
    | zero =>
      intro i hi b hb
      have : i = Int32.toNatClampNeg (s.1 54 w) := by omega
      subst this
      have hc := cnt_le (selP V x2) (Int32.toNatClampNeg (s.1 54 w))
      refine r_X11_wordBy_19 _ _ _ _ _ _ s ⟨i12, fun z => ?_, fun _ => ⟨fun z => ?_, fun z => ⟨iq, fun z2 => ?_, fun z2 => ?_⟩⟩⟩
      · rw [nnum (show w < 2 ^ 31 by omega), ← e1] at z
        exact (Int32.lt_irrefl z).elim
      · rw [nI_1]
        rcases hb with ⟨rfl, -⟩ | ⟨-, hn⟩
        · exact absurd z (by decide)
        · exact kf hn
      · rw [nnum (by omega), e2, neq (by omega) (by omega)] at z2
        rcases hb with ⟨-, hp⟩ | ⟨rfl, -⟩
        · exact kt ⟨hp, z2⟩
        · exact absurd rfl z
      · rw [nnum (by omega), e2, neq (by omega) (by omega)] at z2
        rw [nI_1]
        exact kf (fun k => z2 k.2)
    | succ m ih =>
      intro i hi b hb
      have hc := cnt_le (selP V x2) i
      have er : (nI i - nI i / s.1 51 0 * s.1 51 0 : Int32) = nI (i % V) := by rw [hV, pk_rem (by omega) (by omega) (by omega)]
      have eqn : (10 * nI q + nI (cntN (selP V x2) i) : Int32) = nI (10 * q + cntN (selP V x2) i) := by rw [show (10 : Int32) = nI 10 from rfl, pk_mul, nI_add]
      have ewn : (10 * nI w + nI i : Int32) = nI (10 * w + i) := by rw [show (10 : Int32) = nI 10 from rfl, pk_mul, nI_add]
      have hsel : b_X11_has s x2 (nI i - nI i / s.1 51 0 * s.1 51 0) ↔ selP V x2 i := by
        rw [er, hasb]
        exact Iff.rfl
      refine r_X11_wordBy_19 _ _ _ _ _ _ s ⟨i12, fun _ => ⟨hne, fun z => ?_, fun z => ⟨fun z1 => ?_, fun z1 => ⟨iq, fun z2 => ⟨?_, ?_, fun z3 => ?_, fun z3 => ?_⟩, fun z2 => ?_⟩⟩⟩, fun z => ?_⟩
      · have hns : ¬ selP V x2 i := fun k => z (hsel.mpr k)
        have := ih (i + 1) (by omega) b (hb.imp (fun k => ⟨k.1, lt_s k.2 (fun k2 => absurd k2 hns)⟩) id)
        rw [cnt_f hns] at this
        rw [nI_1]
        exact this
      · have hns := hsel.mp z
        have := ih (i + 1) (by omega) 0 (Or.inr ⟨rfl, hb.elim (fun k => absurd (k.1.symm.trans z1) (by decide)) (fun k => k.2)⟩)
        rw [cnt_t hns] at this
        rw [nI_1, nI_1]
        exact this
      · rw [nnum (by omega), e2, nlt (by omega) (by omega)] at z2
        rw [eqn]
        exact vin (show _ < 120 by omega) (by decide)
      · rw [ewn]
        exact vin (show _ < 120 by omega) (by decide)
      · have hns := hsel.mp z
        rw [nnum (by omega), e2, nlt (by omega) (by omega)] at z2
        rw [eqn, ewn, nnum (by omega), nnum (by omega)] at z3
        have hp := hb.resolve_right (fun k => z1 k.1)
        have := ih (i + 1) (by omega) 1 (Or.inl ⟨rfl, lt_s hp.2 (fun _ => ⟨z2, z3⟩)⟩)
        rw [cnt_t hns] at this
        rw [nI_1, nI_1]
        exact this
      · have hns := hsel.mp z
        rw [eqn, ewn, nnum (by omega), nnum (by omega)] at z3
        have := ih (i + 1) (by omega) 0 (Or.inr ⟨rfl, fun k => z3 (k.1 i (by omega) hns).2⟩)
        rw [cnt_t hns] at this
        rw [nI_1, nI_1]
        exact this
      · have hns := hsel.mp z
        rw [nnum (by omega), e2, nlt (by omega) (by omega)] at z2
        have := ih (i + 1) (by omega) 0 (Or.inr ⟨rfl, fun k => z2 (k.1 i (by omega) hns).1⟩)
        rw [cnt_t hns] at this
        rw [nI_1, nI_1]
        exact this
      · rw [nnum (by omega), e1, nlt (by omega) (by omega)] at z
        omega
  have outer : ∀ m q, q + m = Int32.toNatClampNeg (s.1 51 4) → Q (findF (fun q => sayP V x2 (s.1 55) (Int32.toNatClampNeg (s.1 54 w)) (Int32.toNatClampNeg (s.1 54 q)) w q) m q) s → AtA l G (d + 2) sX11_wordBy 2 [.ref 51, .int (nI w), .int x2, .int (nI q), .null, .null, .null] [] s (pI Q) := by
    intro m
    induction m with
    | zero =>
      intro q hq h
      refine r_X11_wordBy_2 _ _ _ s ⟨fun z => ?_, fun _ => h⟩
      rw [ez, nlt (by omega) (by omega)] at z
      omega
    | succ m ih =>
      intro q hq h
      refine r_X11_wordBy_2 _ _ _ s ⟨fun _ => ?_, fun z => ?_⟩
      · have h : Q (iC (sayP V x2 (s.1 55) (Int32.toNatClampNeg (s.1 54 w)) (Int32.toNatClampNeg (s.1 54 q)) w q) (nI q) (findF (fun q => sayP V x2 (s.1 55) (Int32.toNatClampNeg (s.1 54 w)) (Int32.toNatClampNeg (s.1 54 q)) w q) m (q + 1))) s := h
        exact inner q (by omega) (fun k => by rw [iC_t k] at h; exact h) (fun k => ih (q + 1) (by omega) (by rw [iC_f k] at h; exact h)) _ 0 (Nat.zero_add _) 1 (Or.inl ⟨rfl, fun j hj => absurd hj (Nat.not_lt_zero j)⟩)
      · rw [ez, nlt (by omega) (by omega)] at z
        omega
  exact r_X11_wordBy _ _ s (outer _ 0 (Nat.zero_add _) h)
end
section
/-! which voices differ; classes; divisors -/
noncomputable def difM (V : Nat) (lt : Nat → Int32) (a b : Nat) : Nat → Int32
  | 0 => 0
  | i + 1 => iC (lt (10 * a + i) = lt (10 * b + i)) (difM V lt a b i) (difM V lt a b i ||| ((1 : Int32) <<< (nI (i % V) &&& 31)))
theorem difM_t {V : Nat} {lt : Nat → Int32} {a b i : Nat} (h : lt (10 * a + i) = lt (10 * b + i)) : difM V lt a b (i + 1) = difM V lt a b i := iC_t h
theorem difM_f {V : Nat} {lt : Nat → Int32} {a b i : Nat} (h : ¬ lt (10 * a + i) = lt (10 * b + i)) : difM V lt a b (i + 1) = (difM V lt a b i ||| ((1 : Int32) <<< (nI (i % V) &&& 31))) := iC_f h
theorem difM_bit {V : Nat} {lt : Nat → Int32} {a b : Nat} (h1 : 1 ≤ V) (h5 : V ≤ 5) {v : Nat} (hv : v < 32) : ∀ n, bt (difM V lt a b n) v = true ↔ ∃ i, i < n ∧ i % V = v ∧ ¬ lt (10 * a + i) = lt (10 * b + i)
  | 0 => by
    show bt 0 v = true ↔ _
    rw [b_0]
    exact ⟨fun h => absurd h (by decide), fun ⟨i, hi, _⟩ => absurd hi (Nat.not_lt_zero i)⟩
  | n + 1 => by
    have ih := difM_bit (lt := lt) (a := a) (b := b) h1 h5 hv n
    by_cases h : lt (10 * a + n) = lt (10 * b + n)
    · rw [difM_t h, ih]
      constructor
      · rintro ⟨i, hi, h2⟩
        exact ⟨i, by omega, h2⟩
      · rintro ⟨i, hi, h2, h3⟩
        by_cases e : i = n
        · subst e
          exact absurd h h3
        · exact ⟨i, by omega, h2, h3⟩
    · have hm : n % V < 32 := Nat.lt_of_lt_of_le (Nat.mod_lt _ (by omega)) (by omega)
      rw [difM_f h, b_or, b_one _ hm hv, Bool.or_eq_true, ih, decide_eq_true_eq]
      constructor
      · rintro (⟨i, hi, h2⟩ | e)
        · exact ⟨i, by omega, h2⟩
        · exact ⟨n, by omega, e.symm, h⟩
      · rintro ⟨i, hi, h2, h3⟩
        by_cases e : i = n
        · subst e
          exact Or.inr h2.symm
        · exact Or.inl ⟨i, by omega, h2, h3⟩
noncomputable def v_X2_voicesThatDiffer (s : St) (x1 x2 : Int32) : Int32 := difM (Int32.toNatClampNeg (s.1 8 1)) (s.1 5) (Int32.toNatClampNeg x1) (Int32.toNatClampNeg x2) (Int32.toNatClampNeg (s.1 6 (Int32.toNatClampNeg x1)))
def ok_X2_voicesThatDiffer (s : St) (x1 x2 : Int32) : Prop := wlR s 4 ∧ chR s 8 ∧ ∃ a b, a < Int32.toNatClampNeg (s.1 4 3) ∧ b < Int32.toNatClampNeg (s.1 4 3) ∧ x1 = nI a ∧ x2 = nI b ∧ s.1 6 a = s.1 6 b
theorem p_X2_voicesThatDiffer {l : Launch} {G : Geo} {d : Nat} (x1 x2 : Int32) (s : St) {Q : Int32 → St → Prop} (hok : ok_X2_voicesThatDiffer s x1 x2) (h : Q (v_X2_voicesThatDiffer s x1 x2) s) : DoesI l G (d + 2) 35 [.ref 45, .int x1, .int x2] s Q := by
  obtain ⟨hW, hC, a, b, ha, hb, rfl, rfl, hab⟩ := hok
  obtain ⟨⟨V, v1, v5, hV⟩, -⟩ := id hC
  obtain ⟨ez, hz⟩ := siz4 hW
  obtain ⟨e1, h1⟩ := len4 hW a
  unfold v_X2_voicesThatDiffer at h
  rw [hV, nnum (by omega), nnum (by omega), nnum (by omega)] at h
  have loop : ∀ m i, i + m = Int32.toNatClampNeg (s.1 6 a) → AtA l G (d + 2) sX2_voicesThatDiffer 5 [.ref 45, .int (nI a), .int (nI b), .int (difM V (s.1 5) a b i), .int (nI i)] [] s (pI Q) := by
    intro m
    induction m with
    | zero =>
      intro i hi
      have : i = Int32.toNatClampNeg (s.1 6 a) := by omega
      subst this
      refine r_X2_voicesThatDiffer_5 _ _ _ _ s ⟨ok_len (Or.inl rfl) hW _, fun z => ?_, fun _ => h⟩
      rw [v_len4 hW ha, ← e1] at z
      exact (Int32.lt_irrefl z).elim
    | succ m ih =>
      intro i hi
      have ihh := ih (i + 1) (by omega)
      have l1 : v_X9_letterOf s 4 (nI a) (nI i) = s.1 5 (10 * a + i) := v_let4 hW ha (by omega)
      have l2 : v_X9_letterOf s 4 (nI b) (nI i) = s.1 5 (10 * b + i) := v_let4 hW hb (by rw [← hab]; omega)
      refine r_X2_voicesThatDiffer_5 _ _ _ _ s ⟨ok_len (Or.inl rfl) hW _, fun _ => ⟨ok_let (Or.inl rfl) hW _ _, ok_let (Or.inl rfl) hW _ _, fun z => ?_, fun z => ⟨ok_vc hC _, ?_⟩⟩, fun z => ?_⟩
      · rw [l1, l2] at z
        rw [difM_t z] at ihh
        rw [nI_1]
        exact ihh
      · rw [l1, l2] at z
        rw [difM_f z] at ihh
        rw [nI_1, v_vc hV v1 v5 (by omega)]
        exact ihh
      · rw [v_len4 hW ha, e1, nlt (by omega) (by omega)] at z
        omega
  exact r_X2_voicesThatDiffer _ _ s (loop _ 0 (Nat.zero_add _))
def clsP (V : Nat) (lt sz : Nat → Int32) (a b v : Nat) : Prop := sz a = sz b ∧ ∀ i, i < Int32.toNatClampNeg (sz a) → i % V = v → lt (10 * a + i) = lt (10 * b + i)
def b_X11_isClassed (s : St) (x1 x2 x3 : Int32) : Prop := clsP (Int32.toNatClampNeg (s.1 51 0)) (s.1 55) (s.1 54) (Int32.toNatClampNeg x1) (Int32.toNatClampNeg x2) (Int32.toNatClampNeg x3)
def ok_X11_isClassed (s : St) (x1 x2 x3 : Int32) : Prop := mdR s ∧ ∃ a b v, a < Int32.toNatClampNeg (s.1 51 4) ∧ b < Int32.toNatClampNeg (s.1 51 4) ∧ v < Int32.toNatClampNeg (s.1 51 0) ∧ x1 = nI a ∧ x2 = nI b ∧ x3 = nI v
theorem p_X11_isClassed {l : Launch} {G : Geo} {d : Nat} (x1 x2 x3 : Int32) (s : St) {Q : Int32 → St → Prop} (hok : ok_X11_isClassed s x1 x2 x3) (h : Q (bI (b_X11_isClassed s x1 x2 x3)) s) : DoesI l G (d + 1) 177 [.ref 51, .int x1, .int x2, .int x3] s Q := by
  obtain ⟨⟨m1, m2, m3, m4, -, -, ⟨V, v1, v5, hV⟩, -⟩, a, b, v, ha, hb, hv, rfl, rfl, rfl⟩ := hok
  obtain ⟨ez, hz⟩ := rg_num m1 (by decide)
  obtain ⟨e1, h1⟩ := rg_num (m2 a) (by decide)
  rw [hV, nnum (by omega)] at hv
  have ia : vp_in (nI a) (alen 54) := vin (show a < 12 by omega) (by decide)
  have ib : vp_in (nI b) (alen 54) := vin (show b < 12 by omega) (by decide)
  unfold b_X11_isClassed at h
  rw [hV, nnum (by omega), nnum (by omega), nnum (by omega), nnum (by omega)] at h
  have stop : ∀ i : Int32, ¬ clsP V (s.1 55) (s.1 54) a b v → AtA l G (d + 1) sX11_isClassed 25 [.ref 51, .int (nI a), .int (nI b), .int (nI v), .int 0, .int i] [] s (pI Q) := by
    intro i hn
    rw [bI_0 hn] at h
    exact r_X11_isClassed_25 _ _ _ _ _ s ⟨ia, fun _ => ⟨fun _ => ⟨rfl, h⟩, fun z => absurd rfl z⟩, fun _ => ⟨rfl, h⟩⟩
  have loop : s.1 54 a = s.1 54 b → ∀ m i, Int32.toNatClampNeg (s.1 54 a) ≤ i + m → i ≤ 70 → i % V = v → (∀ j, j < i → j < Int32.toNatClampNeg (s.1 54 a) → j % V = v → s.1 55 (10 * a + j) = s.1 55 (10 * b + j)) → AtA l G (d + 1) sX11_isClassed 25 [.ref 51, .int (nI a), .int (nI b), .int (nI v), .int 1, .int (nI i)] [] s (pI Q) := by
    intro hab m
    induction m with
    | zero =>
      intro i hi hi2 hm hp
      refine r_X11_isClassed_25 _ _ _ _ _ s ⟨ia, fun z => ?_, fun _ => ⟨rfl, ?_⟩⟩
      · rw [nnum (by omega), e1, nlt (by omega) (by omega)] at z
        omega
      · rw [bI_1 ⟨hab, fun j hj hjv => hp j (by omega) hj hjv⟩] at h
        exact h
    | succ m ih =>
      intro i hi hi2 hm hp
      by_cases hlt : i < Int32.toNatClampNeg (s.1 54 a)
      · have ea : (10 * nI a + nI i : Int32) = nI (10 * a + i) := by rw [show (10 : Int32) = nI 10 from rfl, pk_mul, nI_add]
        have eb : (10 * nI b + nI i : Int32) = nI (10 * b + i) := by rw [show (10 : Int32) = nI 10 from rfl, pk_mul, nI_add]
        refine r_X11_isClassed_25 _ _ _ _ _ s ⟨ia, fun _ => ⟨fun z => absurd z (by decide), fun _ => ⟨?_, ?_, fun z => ?_, fun z => ?_⟩⟩, fun z => ?_⟩
        · rw [ea]
          exact vin (show _ < 120 by omega) (by decide)
        · rw [eb]
          exact vin (show _ < 120 by omega) (by decide)
        · rw [ea, eb, nnum (by omega), nnum (by omega)] at z
          rw [hV, nI_add]
          refine ih (i + V) (by omega) (by omega) (mod_add v1 v5 hm) (fun j j1 j2 j3 => ?_)
          by_cases c1 : j < i
          · exact hp j c1 j2 j3
          · by_cases c2 : j = i
            · subst c2
              exact z
            · exact absurd (by rw [show i + (j - i) = j by omega]; exact j3) (mod_gap (r := j - i) v1 v5 hm (by omega) (by omega))
        · rw [ea, eb, nnum (by omega), nnum (by omega)] at z
          exact stop _ (fun k => z (k.2 i hlt hm))
        · rw [nnum (by omega), e1, nlt (by omega) (by omega)] at z
          omega
      · refine r_X11_isClassed_25 _ _ _ _ _ s ⟨ia, fun z => ?_, fun _ => ⟨rfl, ?_⟩⟩
        · rw [nnum (by omega), e1, nlt (by omega) (by omega)] at z
          omega
        · rw [bI_1 ⟨hab, fun j hj hjv => hp j (by omega) hj hjv⟩] at h
          exact h
  refine r_X11_isClassed _ _ _ s ⟨ia, ib, fun z => ?_, fun z => ?_⟩
  · rw [nnum (by omega), nnum (by omega)] at z
    exact loop z 70 v (by omega) (by omega) (Nat.mod_eq_of_lt hv) (fun j j1 _ j3 => by
      rw [Nat.mod_eq_of_lt (by omega)] at j3
      omega)
  · rw [nnum (by omega), nnum (by omega)] at z
    exact stop _ (fun k => z k.1)
/-! divisors -/
theorem remz {a d : Nat} (ha : a < 2 ^ 31) (h0 : 0 < d) (hd : d < 2 ^ 31) : (nI a - nI a / nI d * nI d = 0) ↔ d ∣ a := by
  have hm : a % d < d := Nat.mod_lt _ h0
  rw [pk_rem ha h0 hd, l0, neq (by omega) (by omega)]
  exact ⟨fun h => Nat.dvd_of_mod_eq_zero h, fun h => Nat.mod_eq_zero_of_dvd h⟩
noncomputable def v_X10_lowestTerm (_s : St) (x1 x2 : Int32) : Int32 := nI (Int32.toNatClampNeg x1 / Nat.gcd (Int32.toNatClampNeg x1) (Int32.toNatClampNeg x2))
def ok_X10_lowestTerm (_s : St) (x1 x2 : Int32) : Prop := ∃ a b, 1 ≤ a ∧ 1 ≤ b ∧ a ≤ 1000 ∧ b ≤ 1000 ∧ x1 = nI a ∧ x2 = nI b
theorem p_X10_lowestTerm {l : Launch} {G : Geo} {d : Nat} (x1 x2 : Int32) (s : St) {Q : Int32 → St → Prop} (hok : ok_X10_lowestTerm s x1 x2) (h : Q (v_X10_lowestTerm s x1 x2) s) : DoesI l G (d + 1) 130 [.int x1, .int x2] s Q := by
  obtain ⟨a, b, a1, b1, ha, hb, rfl, rfl⟩ := hok
  unfold v_X10_lowestTerm at h
  rw [nnum (by omega), nnum (by omega)] at h
  have g1 : 1 ≤ Nat.gcd a b := Nat.gcd_pos_of_pos_left _ (by omega)
  have loop : ∀ n, n ≤ 1000 → Nat.gcd a b ≤ n ∨ (n = 0 ∧ False) → AtA l G (d + 1) sX10_lowestTerm 6 [.int (nI a), .int (nI b), .int (nI n)] [] s (pI Q) := by
    intro n
    induction n with
    | zero =>
      intro _ hg
      rcases hg with hg | hg
      · omega
      · exact hg.2.elim
    | succ n ih =>
      intro hn hg
      have hg : Nat.gcd a b ≤ n + 1 := hg.elim id (fun k => k.2.elim)
      have hnz : ¬ nI (n + 1) = 0 := by rw [l0, neq (by omega) (by omega)]; omega
      have next : 1 < n + 1 → ¬ (n + 1 ∣ a ∧ n + 1 ∣ b) → AtA l G (d + 1) sX10_lowestTerm 6 [.int (nI a), .int (nI b), .int (nI (n + 1) + (-1))] [] s (pI Q) := by
        intro h1 hnd
        rw [pk_m1]
        refine ih (by omega) (Or.inl ?_)
        rcases Nat.lt_or_ge (Nat.gcd a b) (n + 1) with q | q
        · omega
        · have : Nat.gcd a b = n + 1 := by omega
          exact absurd ⟨this ▸ Nat.gcd_dvd_left a b, this ▸ Nat.gcd_dvd_right a b⟩ hnd
      refine r_X10_lowestTerm_6 _ _ _ s ⟨fun z => ⟨hnz, fun z1 => ⟨hnz, fun z2 => ⟨hnz, ?_⟩, fun z2 => ?_⟩, fun z1 => ?_⟩, fun z => ?_⟩
      · rw [remz (by omega) (by omega) (by omega)] at z1 z2
        have hdv : n + 1 ∣ Nat.gcd a b := Nat.dvd_gcd z1 z2
        have : Nat.gcd a b = n + 1 := Nat.le_antisymm hg (Nat.le_of_dvd (by omega) hdv)
        rw [this] at h
        rw [pk_div (by omega) (by omega) (by omega)]
        exact h
      · rw [l1, nlt (by omega) (by omega)] at z
        rw [remz (by omega) (by omega) (by omega)] at z2
        exact next z (fun k => z2 k.2)
      · rw [l1, nlt (by omega) (by omega)] at z
        rw [remz (by omega) (by omega) (by omega)] at z1
        exact next z (fun k => z1 k.1)
      · rw [l1, nlt (by omega) (by omega)] at z
        have : Nat.gcd a b = 1 := by omega
        rw [this, Nat.div_one] at h
        exact h
  refine r_X10_lowestTerm _ _ s ?_
  have e : (if nI b < nI a then nI b else nI a) = nI (min a b) := by
    by_cases q : b < a
    · rw [if_pos ((nlt (by omega) (by omega)).mpr q), Nat.min_eq_right (by omega)]
    · rw [if_neg (fun z => q ((nlt (by omega) (by omega)).mp z)), Nat.min_eq_left (by omega)]
  rw [e]
  refine loop _ (by omega) (Or.inl ?_)
  have q1 := Nat.le_of_dvd (by omega) (Nat.gcd_dvd_left a b)
  have q2 := Nat.le_of_dvd (by omega) (Nat.gcd_dvd_right a b)
  omega
noncomputable def v_X11_divisor (_s : St) (x1 x2 : Int32) : Int32 := nI (Nat.gcd (Int32.toNatClampNeg x1) (Int32.toNatClampNeg x2))
def ok_X11_divisor (_s : St) (x1 x2 : Int32) : Prop := rg x1 1000 ∧ rg x2 1000
theorem p_X11_divisor {l : Launch} {G : Geo} {d : Nat} (x1 x2 : Int32) (s : St) {Q : Int32 → St → Prop} (hok : ok_X11_divisor s x1 x2) (h : Q (v_X11_divisor s x1 x2) s) : DoesI l G (d + 1) 178 [.int x1, .int x2] s Q := by
  obtain ⟨⟨a, ha, rfl⟩, b, hb, rfl⟩ := hok
  unfold v_X11_divisor at h
  rw [nnum (by omega), nnum (by omega)] at h
  have loop : ∀ n y x, y ≤ n → y ≤ 1000 → x ≤ 1000 → Nat.gcd x y = Nat.gcd a b → ∀ u w : Int32, AtA l G (d + 1) sX11_divisor 4 [.int u, .int w, .int (nI x), .int (nI y), .null] [] s (pI Q) := by
    intro n
    induction n with
    | zero =>
      intro y x hy _ hx hg u w
      have : y = 0 := Nat.le_zero.mp hy
      subst this
      rw [Nat.gcd_zero_right] at hg
      refine r_X11_divisor_4 _ _ _ _ s ⟨fun _ => ?_, fun z => absurd rfl z⟩
      rw [hg]
      exact h
    | succ n ih =>
      intro y x hy hy2 hx hg u w
      refine r_X11_divisor_4 _ _ _ _ s ⟨fun z => ?_, fun z => ⟨z, ?_⟩⟩
      · rw [l0, neq (by omega) (by omega)] at z
        subst z
        rw [Nat.gcd_zero_right] at hg
        rw [hg]
        exact h
      · rw [l0, neq (by omega) (by omega)] at z
        have hm : x % y < y := Nat.mod_lt _ (by omega)
        rw [pk_rem (by omega) (by omega) (by omega)]
        refine ih (x % y) y (by omega) (by omega) (by omega) ?_ _ _
        rw [← hg, Nat.gcd_comm x y, Nat.gcd_comm y (x % y), ← Nat.gcd_rec]
  exact r_X11_divisor _ _ s (loop b b a (Nat.le_refl b) hb ha rfl _ _)
end
section
noncomputable def b_X2_isOneClass (s : St) (x1 : Int32) (x2 : Int32) (x3 : Int32) : Prop := (iP ((v_X9_lengthOf s 4 x2) = (v_X9_lengthOf s 4 x3)) (iP ((((v_X2_voicesThatDiffer s x2 x3) >>> (x1 &&& 31)) &&& 1) = 0) True False) False)
def ok_X2_isOneClass (s : St) (x1 : Int32) (x2 : Int32) (x3 : Int32) : Prop := (ok_X9_lengthOf s 4 x2 ∧ (ok_X9_lengthOf s 4 x3 ∧ ((v_X9_lengthOf s 4 x2) = (v_X9_lengthOf s 4 x3) → ok_X2_voicesThatDiffer s x2 x3)))
theorem p_X2_isOneClass {l : Launch} {G : Geo} {d : Nat} (x1 : Int32) (x2 : Int32) (x3 : Int32)  (s : St) {Q : Int32 → St → Prop} (hok : ok_X2_isOneClass s x1 x2 x3) (h : Q (bI (b_X2_isOneClass s x1 x2 x3)) s) : DoesI l G (d + 3) 34 [.ref 45, .int x1, .int x2, .int x3] s Q := by
  unfold ok_X2_isOneClass at hok
  have key : DoesI l G (d + 2) 94 [.ref 4, .int x2] s (fun r1 s1 => DoesI l G (d + 2) 94 [.ref 4, .int x3] s1 (fun r2 s2 => ((r1 = r2 → DoesI l G (d + 2) 35 [.ref 45, .int x2, .int x3] s2 (fun r3 s3 => ((((r3 >>> (x1 &&& 31)) &&& 1) = 0 → (narrow .boolean (.int 1) = .int 1 ∧ Q 1 s3)) ∧ (¬ ((r3 >>> (x1 &&& 31)) &&& 1) = 0 → (narrow .boolean (.int 0) = .int 0 ∧ Q 0 s3))))) ∧ (¬ r1 = r2 → (narrow .boolean (.int 0) = .int 0 ∧ Q 0 s2))))) := (p_X9_lengthOf 4 x2 (by decide) s hok.1 (p_X9_lengthOf 4 x3 (by decide) s hok.2.1 ⟨fun z1 => (p_X2_voicesThatDiffer x2 x3 s (hok.2.2 z1) ⟨fun z2 => ⟨rfl, (lfI (by rw [b_X2_isOneClass, iP_t z1, iP_t z2, bI_T]) h)⟩, fun z2 => ⟨rfl, (lfI (by rw [b_X2_isOneClass, iP_t z1, iP_f z2, bI_F]) h)⟩⟩), fun z1 => ⟨rfl, (lfI (by rw [b_X2_isOneClass, iP_f z1, bI_F]) h)⟩⟩))
  all_goals exact does_wp 22 (g := sX2_isOneClass) (rt := .boolean) (stops := []) (tbl := tX2_isOneClass) rfl oX2_isOneClass rk_X2_isOneClass (Nat.le_of_ble_eq_true rfl) key
noncomputable def b_X2_isClash (s : St) (x1 : Int32) (x2 : Int32) : Prop := (iP ((v_X9_lengthOf s 4 x1) = (v_X9_lengthOf s 4 x2)) (iP (1 < (v_J6_bitCount_0f7a4 s (v_X2_voicesThatDiffer s x1 x2))) False True) False)
def ok_X2_isClash (s : St) (x1 : Int32) (x2 : Int32) : Prop := (ok_X9_lengthOf s 4 x1 ∧ (ok_X9_lengthOf s 4 x2 ∧ ((v_X9_lengthOf s 4 x1) = (v_X9_lengthOf s 4 x2) → ok_X2_voicesThatDiffer s x1 x2)))
theorem p_X2_isClash {l : Launch} {G : Geo} {d : Nat} (x1 : Int32) (x2 : Int32)  (s : St) {Q : Int32 → St → Prop} (hok : ok_X2_isClash s x1 x2) (h : Q (bI (b_X2_isClash s x1 x2)) s) : DoesI l G (d + 3) 37 [.ref 45, .int x1, .int x2] s Q := by
  unfold ok_X2_isClash at hok
  have key : DoesI l G (d + 2) 94 [.ref 4, .int x1] s (fun r1 s1 => DoesI l G (d + 2) 94 [.ref 4, .int x2] s1 (fun r2 s2 => ((r1 = r2 → DoesI l G (d + 2) 35 [.ref 45, .int x1, .int x2] s2 (fun r3 s3 => DoesI l G (d + 2) 189 [.int r3] s3 (fun r4 s4 => ((1 < r4 → (narrow .boolean (.int 0) = .int 0 ∧ Q 0 s4)) ∧ (¬ 1 < r4 → (narrow .boolean (.int 1) = .int 1 ∧ Q 1 s4)))))) ∧ (¬ r1 = r2 → (narrow .boolean (.int 0) = .int 0 ∧ Q 0 s2))))) := (p_X9_lengthOf 4 x1 (by decide) s hok.1 (p_X9_lengthOf 4 x2 (by decide) s hok.2.1 ⟨fun z1 => (p_X2_voicesThatDiffer x1 x2 s (hok.2.2 z1) (p_J6_bitCount_0f7a4 (v_X2_voicesThatDiffer s x1 x2) s ⟨fun z2 => ⟨rfl, (lfI (by rw [b_X2_isClash, iP_t z1, iP_t z2, bI_F]) h)⟩, fun z2 => ⟨rfl, (lfI (by rw [b_X2_isClash, iP_t z1, iP_f z2, bI_T]) h)⟩⟩)), fun z1 => ⟨rfl, (lfI (by rw [b_X2_isClash, iP_f z1, bI_F]) h)⟩⟩))
  all_goals exact does_wp 20 (g := sX2_isClash) (rt := .boolean) (stops := []) (tbl := tX2_isClash) rfl oX2_isClash rk_X2_isClash (Nat.le_of_ble_eq_true rfl) key
noncomputable def v_X11_alone (s : St) (x1 : Int32) (x2 : Int32) : Int32 := (iC (b_X11_isWord s x1) (iC (b_X11_in s x2 0 (((1 : Int32) <<< ((s.1 51 0) &&& 31)) - 1)) (v_X11_wordBy s x1 x2) (-3)) (-2))
def ok_X11_alone (s : St) (x1 : Int32) (x2 : Int32) : Prop := ((b_X11_isWord s x1) → ((b_X11_in s x2 0 (((1 : Int32) <<< ((s.1 51 0) &&& 31)) - 1)) → ok_X11_wordBy s x1 x2))
theorem p_X11_alone {l : Launch} {G : Geo} {d : Nat} (x1 : Int32) (x2 : Int32)  (s : St) {Q : Int32 → St → Prop} (hok : ok_X11_alone s x1 x2) (h : Q (v_X11_alone s x1 x2) s) : DoesI l G (d + 3) 175 [.ref 51, .int x1, .int x2] s Q := by
  unfold ok_X11_alone at hok
  have key : DoesI l G (d + 2) 133 [.ref 51, .int x1] s (fun r1 s1 => ((r1 = 0 → Q (-2) s1) ∧ (¬ r1 = 0 → DoesI l G (d + 2) 131 [.int x2, .int 0, .int (((1 : Int32) <<< ((s1.1 51 0) &&& 31)) - 1)] s1 (fun r2 s2 => ((r2 = 0 → Q (-3) s2) ∧ (¬ r2 = 0 → DoesI l G (d + 2) 174 [.ref 51, .int x1, .int x2] s2 (fun r3 s3 => Q r3 s3))))))) := (p_X11_isWord x1 s ⟨fun z1 => (lfI (by rw [v_X11_alone, iC_f (bI_n z1)]) h), fun z1 => (p_X11_in x2 0 (((1 : Int32) <<< ((s.1 51 0) &&& 31)) - 1) s ⟨fun z2 => (lfI (by rw [v_X11_alone, iC_t (bI_p z1), iC_f (bI_n z2)]) h), fun z2 => (p_X11_wordBy x1 x2 s ((hok (bI_p z1)) (bI_p z2)) (lfI (by rw [v_X11_alone, iC_t (bI_p z1), iC_t (bI_p z2)]) h))⟩)⟩)
  all_goals exact does_wp 21 (g := sX11_alone) (rt := .int) (stops := []) (tbl := tX11_alone) rfl oX11_alone rk_X11_alone (Nat.le_of_ble_eq_true rfl) key
set_option maxRecDepth 100000 in
theorem r_X2_wordSaidBy {l : Launch} {G : Geo} {d : Nat} (x1 : Int32) (x2 : Int32)  (s : St) {Q : Int32 → St → Prop} (h : AtA l G (d + 3) sX2_wordSaidBy 2 [.ref 45, .int x1, .int x2, .int 0] [] s (pI Q)) : DoesI l G (d + 3) 27 [.ref 45, .int x1, .int x2] s Q := by
  have key : AtA l G (d + 3) sX2_wordSaidBy 2 [.ref 45, .int x1, .int x2, .int 0] [] s (pI Q) := h
  all_goals exact does_wp 4 (g := sX2_wordSaidBy) (rt := .int) (stops := [2]) (tbl := tX2_wordSaidBy) rfl oX2_wordSaidBy rk_X2_wordSaidBy (Nat.le_of_ble_eq_true rfl) key
set_option maxRecDepth 100000 in
theorem r_X2_wordSaidBy_2 {l : Launch} {G : Geo} {d : Nat} (v1 : Int32) (v2 : Int32) (v3 : Int32)  (s : St) {Q : Int32 → St → Prop} (h : ((v3 < (v_X9_size s 4) → (ok_X2_isSaidBy s v1 v2 v3 ∧ ((¬ (b_X2_isSaidBy s v1 v2 v3) → AtA l G (d + 3) sX2_wordSaidBy 2 [.ref 45, .int v1, .int v2, .int (v3 + 1)] [] s (pI Q)) ∧ ((b_X2_isSaidBy s v1 v2 v3) → Q v3 s)))) ∧ (¬ v3 < (v_X9_size s 4) → Q (-1) s))) : AtA l G (d + 3) sX2_wordSaidBy 2 [.ref 45, .int v1, .int v2, .int v3] [] s (pI Q) := by
  have key : DoesI l G (d + 2) 91 [.ref 4] s (fun r1 s1 => ((v3 < r1 → DoesI l G (d + 2) 28 [.ref 45, .int v1, .int v2, .int v3] s1 (fun r2 s2 => ((r2 = 0 → AtA l G (d + 3) sX2_wordSaidBy 2 [.ref 45, .int v1, .int v2, .int (v3 + 1)] [] s2 (pI Q)) ∧ (¬ r2 = 0 → Q v3 s2)))) ∧ (¬ v3 < r1 → Q (-1) s1))) := (p_X9_size 4 (by decide) s ⟨fun z1 => (p_X2_isSaidBy v1 v2 v3 s (h.1 z1).1 ⟨fun z2 => ((h.1 z1).2.1 (bI_n z2)), fun z2 => ((h.1 z1).2.2 (bI_p z2))⟩), fun z1 => (h.2 z1)⟩)
  all_goals exact wp_sound (rt := .int) (stops := [2]) (tbl := tX2_wordSaidBy) oX2_wordSaidBy rk_X2_wordSaidBy 15 2 _ _ _ key
set_option maxRecDepth 100000 in
theorem r_X2_sumOfClassSizes {l : Launch} {G : Geo} {d : Nat} (x1 : Int32)  (s : St) {Q : Int32 → St → Prop} (h : AtA l G (d + 4) sX2_sumOfClassSizes 4 [.ref 45, .int x1, .int 0, .int 0, .null] [] s (pI Q)) : DoesI l G (d + 4) 32 [.ref 45, .int x1] s Q := by
  have key : AtA l G (d + 4) sX2_sumOfClassSizes 4 [.ref 45, .int x1, .int 0, .int 0, .null] [] s (pI Q) := h
  all_goals exact does_wp 6 (g := sX2_sumOfClassSizes) (rt := .int) (stops := [4, 18]) (tbl := tX2_sumOfClassSizes) rfl oX2_sumOfClassSizes rk_X2_sumOfClassSizes (Nat.le_of_ble_eq_true rfl) key
set_option maxRecDepth 100000 in
theorem r_X2_sumOfClassSizes_4 {l : Launch} {G : Geo} {d : Nat} (v1 : Int32) (v2 : Int32) (v3 : Int32)  (s : St) {Q : Int32 → St → Prop} (h : ((v3 < (v_X9_size s 4) → AtA l G (d + 4) sX2_sumOfClassSizes 18 [.ref 45, .int v1, .int v2, .int v3, .int 0] [] s (pI Q)) ∧ (¬ v3 < (v_X9_size s 4) → Q v2 s))) : AtA l G (d + 4) sX2_sumOfClassSizes 4 [.ref 45, .int v1, .int v2, .int v3, .null] [] s (pI Q) := by
  have key : DoesI l G (d + 3) 91 [.ref 4] s (fun r1 s1 => ((v3 < r1 → AtA l G (d + 4) sX2_sumOfClassSizes 18 [.ref 45, .int v1, .int v2, .int v3, .int 0] [] s1 (pI Q)) ∧ (¬ v3 < r1 → Q v2 s1))) := (p_X9_size 4 (by decide) s ⟨fun z1 => (h.1 z1), fun z1 => (h.2 z1)⟩)
  all_goals exact wp_sound (rt := .int) (stops := [4, 18]) (tbl := tX2_sumOfClassSizes) oX2_sumOfClassSizes rk_X2_sumOfClassSizes 9 4 _ _ _ key
set_option maxRecDepth 100000 in
theorem r_X2_sumOfClassSizes_18 {l : Launch} {G : Geo} {d : Nat} (v1 : Int32) (v2 : Int32) (v3 : Int32) (v4 : Int32)  (s : St) {Q : Int32 → St → Prop} (h : ((v4 < (v_X9_size s 4) → (ok_X2_isOneClass s v1 v3 v4 ∧ ((¬ (b_X2_isOneClass s v1 v3 v4) → AtA l G (d + 4) sX2_sumOfClassSizes 18 [.ref 45, .int v1, .int v2, .int v3, .int (v4 + 1)] [] s (pI Q)) ∧ ((b_X2_isOneClass s v1 v3 v4) → AtA l G (d + 4) sX2_sumOfClassSizes 18 [.ref 45, .int v1, .int (v2 + 1), .int v3, .int (v4 + 1)] [] s (pI Q))))) ∧ (¬ v4 < (v_X9_size s 4) → AtA l G (d + 4) sX2_sumOfClassSizes 4 [.ref 45, .int v1, .int v2, .int (v3 + 1), .null] [] s (pI Q)))) : AtA l G (d + 4) sX2_sumOfClassSizes 18 [.ref 45, .int v1, .int v2, .int v3, .int v4] [] s (pI Q) := by
  have key : DoesI l G (d + 3) 91 [.ref 4] s (fun r1 s1 => ((v4 < r1 → DoesI l G (d + 3) 34 [.ref 45, .int v1, .int v3, .int v4] s1 (fun r2 s2 => ((r2 = 0 → AtA l G (d + 4) sX2_sumOfClassSizes 18 [.ref 45, .int v1, .int v2, .int v3, .int (v4 + 1)] [] s2 (pI Q)) ∧ (¬ r2 = 0 → AtA l G (d + 4) sX2_sumOfClassSizes 18 [.ref 45, .int v1, .int (v2 + 1), .int v3, .int (v4 + 1)] [] s2 (pI Q))))) ∧ (¬ v4 < r1 → AtA l G (d + 4) sX2_sumOfClassSizes 4 [.ref 45, .int v1, .int v2, .int (v3 + 1), .int v4] [] s1 (pI Q)))) := (p_X9_size 4 (by decide) s ⟨fun z1 => (p_X2_isOneClass v1 v3 v4 s (h.1 z1).1 ⟨fun z2 => ((h.1 z1).2.1 (bI_n z2)), fun z2 => ((h.1 z1).2.2 (bI_p z2))⟩), fun z1 => (at_weak2 (h.2 z1) (by simp [wk]))⟩)
  all_goals exact wp_sound (rt := .int) (stops := [4, 18]) (tbl := tX2_sumOfClassSizes) oX2_sumOfClassSizes rk_X2_sumOfClassSizes 16 18 _ _ _ key
set_option maxRecDepth 100000 in
theorem r_X2_countClasses {l : Launch} {G : Geo} {d : Nat} (x1 : Int32)  (s : St) {Q : Int32 → St → Prop} (h : AtA l G (d + 4) sX2_countClasses 4 [.ref 45, .int x1, .int 0, .int 0, .null] [] s (pI Q)) : DoesI l G (d + 4) 33 [.ref 45, .int x1] s Q := by
  have key : AtA l G (d + 4) sX2_countClasses 4 [.ref 45, .int x1, .int 0, .int 0, .null] [] s (pI Q) := h
  all_goals exact does_wp 6 (g := sX2_countClasses) (rt := .int) (stops := [4, 18]) (tbl := tX2_countClasses) rfl oX2_countClasses rk_X2_countClasses (Nat.le_of_ble_eq_true rfl) key
set_option maxRecDepth 100000 in
theorem r_X2_countClasses_4 {l : Launch} {G : Geo} {d : Nat} (v1 : Int32) (v2 : Int32) (v3 : Int32)  (s : St) {Q : Int32 → St → Prop} (h : ((v3 < (v_X9_size s 4) → AtA l G (d + 4) sX2_countClasses 18 [.ref 45, .int v1, .int v2, .int v3, .int 0] [] s (pI Q)) ∧ (¬ v3 < (v_X9_size s 4) → Q v2 s))) : AtA l G (d + 4) sX2_countClasses 4 [.ref 45, .int v1, .int v2, .int v3, .null] [] s (pI Q) := by
  have key : DoesI l G (d + 3) 91 [.ref 4] s (fun r1 s1 => ((v3 < r1 → AtA l G (d + 4) sX2_countClasses 18 [.ref 45, .int v1, .int v2, .int v3, .int 0] [] s1 (pI Q)) ∧ (¬ v3 < r1 → Q v2 s1))) := (p_X9_size 4 (by decide) s ⟨fun z1 => (h.1 z1), fun z1 => (h.2 z1)⟩)
  all_goals exact wp_sound (rt := .int) (stops := [4, 18]) (tbl := tX2_countClasses) oX2_countClasses rk_X2_countClasses 9 4 _ _ _ key
set_option maxRecDepth 100000 in
theorem r_X2_countClasses_18 {l : Launch} {G : Geo} {d : Nat} (v1 : Int32) (v2 : Int32) (v3 : Int32) (v4 : Int32)  (s : St) {Q : Int32 → St → Prop} (h : ((v4 < v3 → (ok_X2_isOneClass s v1 v3 v4 ∧ ((¬ (b_X2_isOneClass s v1 v3 v4) → AtA l G (d + 4) sX2_countClasses 18 [.ref 45, .int v1, .int v2, .int v3, .int (v4 + 1)] [] s (pI Q)) ∧ ((b_X2_isOneClass s v1 v3 v4) → ((v4 = v3 → AtA l G (d + 4) sX2_countClasses 4 [.ref 45, .int v1, .int (v2 + 1), .int (v3 + 1), .null] [] s (pI Q)) ∧ (¬ v4 = v3 → AtA l G (d + 4) sX2_countClasses 4 [.ref 45, .int v1, .int v2, .int (v3 + 1), .null] [] s (pI Q))))))) ∧ (¬ v4 < v3 → ((v4 = v3 → AtA l G (d + 4) sX2_countClasses 4 [.ref 45, .int v1, .int (v2 + 1), .int (v3 + 1), .null] [] s (pI Q)) ∧ (¬ v4 = v3 → AtA l G (d + 4) sX2_countClasses 4 [.ref 45, .int v1, .int v2, .int (v3 + 1), .null] [] s (pI Q)))))) : AtA l G (d + 4) sX2_countClasses 18 [.ref 45, .int v1, .int v2, .int v3, .int v4] [] s (pI Q) := by
  have key : ((v4 < v3 → DoesI l G (d + 3) 34 [.ref 45, .int v1, .int v3, .int v4] s (fun r1 s1 => ((r1 = 0 → AtA l G (d + 4) sX2_countClasses 18 [.ref 45, .int v1, .int v2, .int v3, .int (v4 + 1)] [] s1 (pI Q)) ∧ (¬ r1 = 0 → ((v4 = v3 → AtA l G (d + 4) sX2_countClasses 4 [.ref 45, .int v1, .int (v2 + 1), .int (v3 + 1), .int v4] [] s1 (pI Q)) ∧ (¬ v4 = v3 → AtA l G (d + 4) sX2_countClasses 4 [.ref 45, .int v1, .int v2, .int (v3 + 1), .int v4] [] s1 (pI Q))))))) ∧ (¬ v4 < v3 → ((v4 = v3 → AtA l G (d + 4) sX2_countClasses 4 [.ref 45, .int v1, .int (v2 + 1), .int (v3 + 1), .int v4] [] s (pI Q)) ∧ (¬ v4 = v3 → AtA l G (d + 4) sX2_countClasses 4 [.ref 45, .int v1, .int v2, .int (v3 + 1), .int v4] [] s (pI Q))))) := ⟨fun z1 => (p_X2_isOneClass v1 v3 v4 s (h.1 z1).1 ⟨fun z2 => ((h.1 z1).2.1 (bI_n z2)), fun z2 => ⟨fun z3 => (at_weak2 (((h.1 z1).2.2 (bI_p z2)).1 z3) (by simp [wk])), fun z3 => (at_weak2 (((h.1 z1).2.2 (bI_p z2)).2 z3) (by simp [wk]))⟩⟩), fun z1 => ⟨fun z4 => (at_weak2 ((h.2 z1).1 z4) (by simp [wk])), fun z4 => (at_weak2 ((h.2 z1).2 z4) (by simp [wk]))⟩⟩
  all_goals exact wp_sound (rt := .int) (stops := [4, 18]) (tbl := tX2_countClasses) oX2_countClasses rk_X2_countClasses 17 18 _ _ _ key
set_option maxRecDepth 100000 in
theorem r_X11_twins {l : Launch} {G : Geo} {d : Nat} (x1 : Int32) (x2 : Int32)  (s : St) {Q : Int32 → St → Prop} (h : ((¬ (b_X11_isVoice s x1) → Q (-2) s) ∧ ((b_X11_isVoice s x1) → ((¬ (b_X11_in s x2 0 1) → Q (-3) s) ∧ ((b_X11_in s x2 0 1) → AtA l G (d + 3) sX11_twins 31 [.ref 51, .int x1, .int x2, .int 0, .int (-1), .int 0, .null] [] s (pI Q)))))) : DoesI l G (d + 3) 176 [.ref 51, .int x1, .int x2] s Q := by
  have key : DoesI l G (d + 2) 134 [.ref 51, .int x1] s (fun r1 s1 => ((r1 = 0 → Q (-2) s1) ∧ (¬ r1 = 0 → DoesI l G (d + 2) 131 [.int x2, .int 0, .int 1] s1 (fun r2 s2 => ((r2 = 0 → Q (-3) s2) ∧ (¬ r2 = 0 → AtA l G (d + 3) sX11_twins 31 [.ref 51, .int x1, .int x2, .int 0, .int (-1), .int 0, .null] [] s2 (pI Q))))))) := (p_X11_isVoice x1 s ⟨fun z1 => (h.1 (bI_n z1)), fun z1 => (p_X11_in x2 0 1 s ⟨fun z2 => ((h.2 (bI_p z1)).1 (bI_n z2)), fun z2 => ((h.2 (bI_p z1)).2 (bI_p z2))⟩)⟩)
  all_goals exact does_wp 17 (g := sX11_twins) (rt := .int) (stops := [31]) (tbl := tX11_twins) rfl oX11_twins rk_X11_twins (Nat.le_of_ble_eq_true rfl) key
set_option maxRecDepth 100000 in
theorem r_X11_twins_31 {l : Launch} {G : Geo} {d : Nat} (v1 : Int32) (v2 : Int32) (v3 : Int32) (v4 : Int32) (v5 : Int32)  (s : St) {Q : Int32 → St → Prop} (h : ((v5 < (s.1 51 4) → (ok_X11_wordBy s v5 ((((1 : Int32) <<< ((s.1 51 0) &&& 31)) - 1) &&& (((1 : Int32) <<< (v1 &&& 31)) ^^^ (-1))) ∧ (((v_X11_wordBy s v5 ((((1 : Int32) <<< ((s.1 51 0) &&& 31)) - 1) &&& (((1 : Int32) <<< (v1 &&& 31)) ^^^ (-1)))) = (-1) → AtA l G (d + 3) sX11_twins 31 [.ref 51, .int v1, .int v2, .int v3, .int v4, .int (v5 + 1), .null] [] s (pI Q)) ∧ (¬ (v_X11_wordBy s v5 ((((1 : Int32) <<< ((s.1 51 0) &&& 31)) - 1) &&& (((1 : Int32) <<< (v1 &&& 31)) ^^^ (-1)))) = (-1) → (((v_X11_wordBy s v5 ((((1 : Int32) <<< ((s.1 51 0) &&& 31)) - 1) &&& (((1 : Int32) <<< (v1 &&& 31)) ^^^ (-1)))) = v5 → AtA l G (d + 3) sX11_twins 31 [.ref 51, .int v1, .int v2, .int v3, .int v4, .int (v5 + 1), .null] [] s (pI Q)) ∧ (¬ (v_X11_wordBy s v5 ((((1 : Int32) <<< ((s.1 51 0) &&& 31)) - 1) &&& (((1 : Int32) <<< (v1 &&& 31)) ^^^ (-1)))) = v5 → ((v3 = 0 → AtA l G (d + 3) sX11_twins 31 [.ref 51, .int v1, .int v2, .int (v3 + 1), .int ((20 * v5) + (v_X11_wordBy s v5 ((((1 : Int32) <<< ((s.1 51 0) &&& 31)) - 1) &&& (((1 : Int32) <<< (v1 &&& 31)) ^^^ (-1))))), .int (v5 + 1), .null] [] s (pI Q)) ∧ (¬ v3 = 0 → AtA l G (d + 3) sX11_twins 31 [.ref 51, .int v1, .int v2, .int (v3 + 1), .int v4, .int (v5 + 1), .null] [] s (pI Q))))))))) ∧ (¬ v5 < (s.1 51 4) → ((v2 = 0 → Q v3 s) ∧ (¬ v2 = 0 → Q v4 s))))) : AtA l G (d + 3) sX11_twins 31 [.ref 51, .int v1, .int v2, .int v3, .int v4, .int v5, .null] [] s (pI Q) := by
  have key : ((v5 < (s.1 51 4) → DoesI l G (d + 2) 174 [.ref 51, .int v5, .int ((((1 : Int32) <<< ((s.1 51 0) &&& 31)) - 1) &&& (((1 : Int32) <<< (v1 &&& 31)) ^^^ (-1)))] s (fun r1 s1 => ((r1 = (-1) → AtA l G (d + 3) sX11_twins 31 [.ref 51, .int v1, .int v2, .int v3, .int v4, .int (v5 + 1), .int r1] [] s1 (pI Q)) ∧ (¬ r1 = (-1) → ((r1 = v5 → AtA l G (d + 3) sX11_twins 31 [.ref 51, .int v1, .int v2, .int v3, .int v4, .int (v5 + 1), .int r1] [] s1 (pI Q)) ∧ (¬ r1 = v5 → ((v3 = 0 → AtA l G (d + 3) sX11_twins 31 [.ref 51, .int v1, .int v2, .int (v3 + 1), .int ((20 * v5) + r1), .int (v5 + 1), .int r1] [] s1 (pI Q)) ∧ (¬ v3 = 0 → AtA l G (d + 3) sX11_twins 31 [.ref 51, .int v1, .int v2, .int (v3 + 1), .int v4, .int (v5 + 1), .int r1] [] s1 (pI Q))))))))) ∧ (¬ v5 < (s.1 51 4) → ((v2 = 0 → Q v3 s) ∧ (¬ v2 = 0 → Q v4 s)))) := ⟨fun z1 => (p_X11_wordBy v5 ((((1 : Int32) <<< ((s.1 51 0) &&& 31)) - 1) &&& (((1 : Int32) <<< (v1 &&& 31)) ^^^ (-1))) s (h.1 z1).1 ⟨fun z2 => (at_weak2 ((h.1 z1).2.1 z2) (by simp [wk])), fun z2 => ⟨fun z3 => (at_weak2 (((h.1 z1).2.2 z2).1 z3) (by simp [wk])), fun z3 => ⟨fun z4 => (at_weak2 ((((h.1 z1).2.2 z2).2 z3).1 z4) (by simp [wk])), fun z4 => (at_weak2 ((((h.1 z1).2.2 z2).2 z3).2 z4) (by simp [wk]))⟩⟩⟩), fun z1 => ⟨fun z5 => ((h.2 z1).1 z5), fun z5 => ((h.2 z1).2 z5)⟩⟩
  all_goals exact wp_sound (rt := .int) (stops := [31]) (tbl := tX11_twins) oX11_twins rk_X11_twins 40 31 _ _ _ key
set_option maxRecDepth 100000 in
theorem r_X11_learnt {l : Launch} {G : Geo} {d : Nat} (x1 : Int32) (x2 : Int32) (x3 : Int32)  (s : St) {Q : Int32 → St → Prop} (h : ((¬ (b_X11_isVoice s x1) → Q (-2) s) ∧ ((b_X11_isVoice s x1) → ((¬ (b_X11_in s x2 0 1) → Q (-3) s) ∧ ((b_X11_in s x2 0 1) → ((¬ (b_X11_in s x3 0 1) → Q (-3) s) ∧ ((b_X11_in s x3 0 1) → (((s.1 51 4) = 0 → Q (-4) s) ∧ (¬ (s.1 51 4) = 0 → AtA l G (d + 3) sX11_learnt 51 [.ref 51, .int x1, .int x2, .int x3, .int 0, .int 0, .int 0, .null, .null, .null] [] s (pI Q)))))))))) : DoesI l G (d + 3) 179 [.ref 51, .int x1, .int x2, .int x3] s Q := by
  have key : DoesI l G (d + 2) 134 [.ref 51, .int x1] s (fun r1 s1 => ((r1 = 0 → Q (-2) s1) ∧ (¬ r1 = 0 → DoesI l G (d + 2) 131 [.int x2, .int 0, .int 1] s1 (fun r2 s2 => ((r2 = 0 → Q (-3) s2) ∧ (¬ r2 = 0 → DoesI l G (d + 2) 131 [.int x3, .int 0, .int 1] s2 (fun r3 s3 => ((r3 = 0 → Q (-3) s3) ∧ (¬ r3 = 0 → (((s3.1 51 4) = 0 → Q (-4) s3) ∧ (¬ (s3.1 51 4) = 0 → AtA l G (d + 3) sX11_learnt 51 [.ref 51, .int x1, .int x2, .int x3, .int 0, .int 0, .int 0, .null, .null, .null] [] s3 (pI Q)))))))))))) := (p_X11_isVoice x1 s ⟨fun z1 => (h.1 (bI_n z1)), fun z1 => (p_X11_in x2 0 1 s ⟨fun z2 => ((h.2 (bI_p z1)).1 (bI_n z2)), fun z2 => (p_X11_in x3 0 1 s ⟨fun z3 => (((h.2 (bI_p z1)).2 (bI_p z2)).1 (bI_n z3)), fun z3 => ⟨fun z4 => ((((h.2 (bI_p z1)).2 (bI_p z2)).2 (bI_p z3)).1 z4), fun z4 => ((((h.2 (bI_p z1)).2 (bI_p z2)).2 (bI_p z3)).2 z4)⟩⟩)⟩)⟩)
  all_goals exact does_wp 25 (g := sX11_learnt) (rt := .int) (stops := [51, 66]) (tbl := tX11_learnt) rfl oX11_learnt rk_X11_learnt (Nat.le_of_ble_eq_true rfl) key
set_option maxRecDepth 100000 in
theorem r_X11_learnt_51 {l : Launch} {G : Geo} {d : Nat} (v1 : Int32) (v2 : Int32) (v3 : Int32) (v4 : Int32) (v5 : Int32) (v6 : Int32)  (s : St) {Q : Int32 → St → Prop} (h : ((v6 < (s.1 51 4) → AtA l G (d + 3) sX11_learnt 66 [.ref 51, .int v1, .int v2, .int v3, .int v4, .int v5, .int v6, .int 1, .int 0, .null] [] s (pI Q)) ∧ (¬ v6 < (s.1 51 4) → ((v2 = 0 → ((v3 = 0 → (ok_X11_divisor s v4 (s.1 51 4) ∧ ((¬ (v_X11_divisor s v4 (s.1 51 4)) = 0) ∧ Q (v4 / (v_X11_divisor s v4 (s.1 51 4))) s))) ∧ (¬ v3 = 0 → (ok_X11_divisor s v4 (s.1 51 4) ∧ ((¬ (v_X11_divisor s v4 (s.1 51 4)) = 0) ∧ Q ((s.1 51 4) / (v_X11_divisor s v4 (s.1 51 4))) s))))) ∧ (¬ v2 = 0 → ((v3 = 0 → (ok_X11_divisor s v5 (s.1 51 4) ∧ ((¬ (v_X11_divisor s v5 (s.1 51 4)) = 0) ∧ Q (v5 / (v_X11_divisor s v5 (s.1 51 4))) s))) ∧ (¬ v3 = 0 → (ok_X11_divisor s v5 (s.1 51 4) ∧ ((¬ (v_X11_divisor s v5 (s.1 51 4)) = 0) ∧ Q ((s.1 51 4) / (v_X11_divisor s v5 (s.1 51 4))) s))))))))) : AtA l G (d + 3) sX11_learnt 51 [.ref 51, .int v1, .int v2, .int v3, .int v4, .int v5, .int v6, .null, .null, .null] [] s (pI Q) := by
  have key : ((v6 < (s.1 51 4) → AtA l G (d + 3) sX11_learnt 66 [.ref 51, .int v1, .int v2, .int v3, .int v4, .int v5, .int v6, .int 1, .int 0, .null] [] s (pI Q)) ∧ (¬ v6 < (s.1 51 4) → ((v2 = 0 → ((v3 = 0 → DoesI l G (d + 2) 178 [.int v4, .int (s.1 51 4)] s (fun r1 s1 => ((¬ r1 = 0) ∧ Q (v4 / r1) s1))) ∧ (¬ v3 = 0 → DoesI l G (d + 2) 178 [.int v4, .int (s.1 51 4)] s (fun r2 s2 => ((¬ r2 = 0) ∧ Q ((s.1 51 4) / r2) s2))))) ∧ (¬ v2 = 0 → ((v3 = 0 → DoesI l G (d + 2) 178 [.int v5, .int (s.1 51 4)] s (fun r3 s3 => ((¬ r3 = 0) ∧ Q (v5 / r3) s3))) ∧ (¬ v3 = 0 → DoesI l G (d + 2) 178 [.int v5, .int (s.1 51 4)] s (fun r4 s4 => ((¬ r4 = 0) ∧ Q ((s.1 51 4) / r4) s4)))))))) := ⟨fun z1 => (h.1 z1), fun z1 => ⟨fun z2 => ⟨fun z3 => (p_X11_divisor v4 (s.1 51 4) s (((h.2 z1).1 z2).1 z3).1 ⟨(((h.2 z1).1 z2).1 z3).2.1, (((h.2 z1).1 z2).1 z3).2.2⟩), fun z3 => (p_X11_divisor v4 (s.1 51 4) s (((h.2 z1).1 z2).2 z3).1 ⟨(((h.2 z1).1 z2).2 z3).2.1, (((h.2 z1).1 z2).2 z3).2.2⟩)⟩, fun z2 => ⟨fun z4 => (p_X11_divisor v5 (s.1 51 4) s (((h.2 z1).2 z2).1 z4).1 ⟨(((h.2 z1).2 z2).1 z4).2.1, (((h.2 z1).2 z2).1 z4).2.2⟩), fun z4 => (p_X11_divisor v5 (s.1 51 4) s (((h.2 z1).2 z2).2 z4).1 ⟨(((h.2 z1).2 z2).2 z4).2.1, (((h.2 z1).2 z2).2 z4).2.2⟩)⟩⟩⟩
  all_goals exact wp_sound (rt := .int) (stops := [51, 66]) (tbl := tX11_learnt) oX11_learnt rk_X11_learnt 20 51 _ _ _ key
set_option maxRecDepth 100000 in
theorem r_X11_learnt_66 {l : Launch} {G : Geo} {d : Nat} (v1 : Int32) (v2 : Int32) (v3 : Int32) (v4 : Int32) (v5 : Int32) (v6 : Int32) (v7 : Int32) (v8 : Int32)  (s : St) {Q : Int32 → St → Prop} (h : ((v8 < (s.1 51 4) → (ok_X11_isClassed s v6 v8 v1 ∧ ((¬ (b_X11_isClassed s v6 v8 v1) → ((v7 = 0 → AtA l G (d + 3) sX11_learnt 66 [.ref 51, .int v1, .int v2, .int v3, .int (v4 + 0), .int v5, .int v6, .int 0, .int (v8 + 1), .null] [] s (pI Q)) ∧ (¬ v7 = 0 → ((¬ (b_X11_isClassed s v6 v8 v1) → AtA l G (d + 3) sX11_learnt 66 [.ref 51, .int v1, .int v2, .int v3, .int (v4 + 0), .int v5, .int v6, .int 1, .int (v8 + 1), .null] [] s (pI Q)) ∧ ((b_X11_isClassed s v6 v8 v1) → ((v8 < v6 → AtA l G (d + 3) sX11_learnt 66 [.ref 51, .int v1, .int v2, .int v3, .int (v4 + 0), .int v5, .int v6, .int 0, .int (v8 + 1), .null] [] s (pI Q)) ∧ (¬ v8 < v6 → AtA l G (d + 3) sX11_learnt 66 [.ref 51, .int v1, .int v2, .int v3, .int (v4 + 0), .int v5, .int v6, .int 1, .int (v8 + 1), .null] [] s (pI Q)))))))) ∧ ((b_X11_isClassed s v6 v8 v1) → ((v7 = 0 → AtA l G (d + 3) sX11_learnt 66 [.ref 51, .int v1, .int v2, .int v3, .int (v4 + 1), .int v5, .int v6, .int 0, .int (v8 + 1), .null] [] s (pI Q)) ∧ (¬ v7 = 0 → ((¬ (b_X11_isClassed s v6 v8 v1) → AtA l G (d + 3) sX11_learnt 66 [.ref 51, .int v1, .int v2, .int v3, .int (v4 + 1), .int v5, .int v6, .int 1, .int (v8 + 1), .null] [] s (pI Q)) ∧ ((b_X11_isClassed s v6 v8 v1) → ((v8 < v6 → AtA l G (d + 3) sX11_learnt 66 [.ref 51, .int v1, .int v2, .int v3, .int (v4 + 1), .int v5, .int v6, .int 0, .int (v8 + 1), .null] [] s (pI Q)) ∧ (¬ v8 < v6 → AtA l G (d + 3) sX11_learnt 66 [.ref 51, .int v1, .int v2, .int v3, .int (v4 + 1), .int v5, .int v6, .int 1, .int (v8 + 1), .null] [] s (pI Q))))))))))) ∧ (¬ v8 < (s.1 51 4) → ((v7 = 0 → AtA l G (d + 3) sX11_learnt 51 [.ref 51, .int v1, .int v2, .int v3, .int v4, .int (v5 + 0), .int (v6 + 1), .null, .null, .null] [] s (pI Q)) ∧ (¬ v7 = 0 → AtA l G (d + 3) sX11_learnt 51 [.ref 51, .int v1, .int v2, .int v3, .int v4, .int (v5 + 1), .int (v6 + 1), .null, .null, .null] [] s (pI Q)))))) : AtA l G (d + 3) sX11_learnt 66 [.ref 51, .int v1, .int v2, .int v3, .int v4, .int v5, .int v6, .int v7, .int v8, .null] [] s (pI Q) := by
  have key : ((v8 < (s.1 51 4) → DoesI l G (d + 2) 177 [.ref 51, .int v6, .int v8, .int v1] s (fun r1 s1 => ((r1 = 0 → ((v7 = 0 → AtA l G (d + 3) sX11_learnt 66 [.ref 51, .int v1, .int v2, .int v3, .int (v4 + 0), .int v5, .int v6, .int 0, .int (v8 + 1), .int r1] [] s1 (pI Q)) ∧ (¬ v7 = 0 → ((r1 = 0 → AtA l G (d + 3) sX11_learnt 66 [.ref 51, .int v1, .int v2, .int v3, .int (v4 + 0), .int v5, .int v6, .int 1, .int (v8 + 1), .int r1] [] s1 (pI Q)) ∧ (¬ r1 = 0 → ((v8 < v6 → AtA l G (d + 3) sX11_learnt 66 [.ref 51, .int v1, .int v2, .int v3, .int (v4 + 0), .int v5, .int v6, .int 0, .int (v8 + 1), .int r1] [] s1 (pI Q)) ∧ (¬ v8 < v6 → AtA l G (d + 3) sX11_learnt 66 [.ref 51, .int v1, .int v2, .int v3, .int (v4 + 0), .int v5, .int v6, .int 1, .int (v8 + 1), .int r1] [] s1 (pI Q)))))))) ∧ (¬ r1 = 0 → ((v7 = 0 → AtA l G (d + 3) sX11_learnt 66 [.ref 51, .int v1, .int v2, .int v3, .int (v4 + 1), .int v5, .int v6, .int 0, .int (v8 + 1), .int r1] [] s1 (pI Q)) ∧ (¬ v7 = 0 → ((r1 = 0 → AtA l G (d + 3) sX11_learnt 66 [.ref 51, .int v1, .int v2, .int v3, .int (v4 + 1), .int v5, .int v6, .int 1, .int (v8 + 1), .int r1] [] s1 (pI Q)) ∧ (¬ r1 = 0 → ((v8 < v6 → AtA l G (d + 3) sX11_learnt 66 [.ref 51, .int v1, .int v2, .int v3, .int (v4 + 1), .int v5, .int v6, .int 0, .int (v8 + 1), .int r1] [] s1 (pI Q)) ∧ (¬ v8 < v6 → AtA l G (d + 3) sX11_learnt 66 [.ref 51, .int v1, .int v2, .int v3, .int (v4 + 1), .int v5, .int v6, .int 1, .int (v8 + 1), .int r1] [] s1 (pI Q))))))))))) ∧ (¬ v8 < (s.1 51 4) → ((v7 = 0 → AtA l G (d + 3) sX11_learnt 51 [.ref 51, .int v1, .int v2, .int v3, .int v4, .int (v5 + 0), .int (v6 + 1), .int v7, .int v8, .null] [] s (pI Q)) ∧ (¬ v7 = 0 → AtA l G (d + 3) sX11_learnt 51 [.ref 51, .int v1, .int v2, .int v3, .int v4, .int (v5 + 1), .int (v6 + 1), .int v7, .int v8, .null] [] s (pI Q))))) := ⟨fun z1 => (p_X11_isClassed v6 v8 v1 s (h.1 z1).1 ⟨fun z2 => ⟨fun z3 => (at_weak2 (((h.1 z1).2.1 (bI_n z2)).1 z3) (by simp [wk])), fun z3 => ⟨fun z4 => (at_weak2 ((((h.1 z1).2.1 (bI_n z2)).2 z3).1 (bI_n z4)) (by simp [wk])), fun z4 => ⟨fun z5 => (at_weak2 (((((h.1 z1).2.1 (bI_n z2)).2 z3).2 (bI_p z4)).1 z5) (by simp [wk])), fun z5 => (at_weak2 (((((h.1 z1).2.1 (bI_n z2)).2 z3).2 (bI_p z4)).2 z5) (by simp [wk]))⟩⟩⟩, fun z2 => ⟨fun z6 => (at_weak2 (((h.1 z1).2.2 (bI_p z2)).1 z6) (by simp [wk])), fun z6 => ⟨fun z7 => (at_weak2 ((((h.1 z1).2.2 (bI_p z2)).2 z6).1 (bI_n z7)) (by simp [wk])), fun z7 => ⟨fun z8 => (at_weak2 (((((h.1 z1).2.2 (bI_p z2)).2 z6).2 (bI_p z7)).1 z8) (by simp [wk])), fun z8 => (at_weak2 (((((h.1 z1).2.2 (bI_p z2)).2 z6).2 (bI_p z7)).2 z8) (by simp [wk]))⟩⟩⟩⟩), fun z1 => ⟨fun z9 => (at_weak2 ((h.2 z1).1 z9) (by simp [wk])), fun z9 => (at_weak2 ((h.2 z1).2 z9) (by simp [wk]))⟩⟩
  all_goals exact wp_sound (rt := .int) (stops := [51, 66]) (tbl := tX11_learnt) oX11_learnt rk_X11_learnt 31 66 _ _ _ key
end
