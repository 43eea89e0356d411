section
-- ===== PART A: goes FIRST, ahead of the names: the tables' words, and 'selects' of the private methods out of them =====
/-- a private method of a class that the tables say can be made, by its rows of tables_1 -/
def lw_okq (q : MethodName × Nat) : Prop := (q.1.cls ≠ "java/lang/invoke/MethodHandle" ∧ q.1.cls ≠ "java/lang/invoke/VarHandle") ∧ Cond.instantiable q.1.cls q.2 ∈ tables_1 ∧ Cond.privateMethod q.1 ∈ tables_1 ∧ Cond.instanceMethod q.1 ∈ tables_1
theorem lw_p0 : lw_okq (⟨"WatchDogs$Tape", "readToken", "()V"⟩, 10) := ⟨⟨by decide +kernel, by decide +kernel⟩, List.mem_of_getElem? (i := 150) (by decide +kernel), List.mem_of_getElem? (i := 267) (by decide +kernel), List.mem_of_getElem? (i := 268) (by decide +kernel)⟩
theorem lw_p1 : lw_okq (⟨"WatchDogs$Tape", "readName", "()V"⟩, 10) := ⟨⟨by decide +kernel, by decide +kernel⟩, List.mem_of_getElem? (i := 150) (by decide +kernel), List.mem_of_getElem? (i := 274) (by decide +kernel), List.mem_of_getElem? (i := 275) (by decide +kernel)⟩
theorem lw_p2 : lw_okq (⟨"WatchDogs$Tape", "readNumber", "()V"⟩, 10) := ⟨⟨by decide +kernel, by decide +kernel⟩, List.mem_of_getElem? (i := 150) (by decide +kernel), List.mem_of_getElem? (i := 281) (by decide +kernel), List.mem_of_getElem? (i := 282) (by decide +kernel)⟩
theorem lw_p3 : lw_okq (⟨"WatchDogs$Tape", "refuse", "(I)V"⟩, 10) := ⟨⟨by decide +kernel, by decide +kernel⟩, List.mem_of_getElem? (i := 150) (by decide +kernel), List.mem_of_getElem? (i := 285) (by decide +kernel), List.mem_of_getElem? (i := 286) (by decide +kernel)⟩
theorem lw_p4 : lw_okq (⟨"WatchDogs$Tape", "isName", "(Ljava/lang/String;)Z"⟩, 10) := ⟨⟨by decide +kernel, by decide +kernel⟩, List.mem_of_getElem? (i := 150) (by decide +kernel), List.mem_of_getElem? (i := 298) (by decide +kernel), List.mem_of_getElem? (i := 299) (by decide +kernel)⟩
theorem lw_p5 : lw_okq (⟨"WatchDogs$Tape", "readDog", "(I)V"⟩, 10) := ⟨⟨by decide +kernel, by decide +kernel⟩, List.mem_of_getElem? (i := 150) (by decide +kernel), List.mem_of_getElem? (i := 350) (by decide +kernel), List.mem_of_getElem? (i := 351) (by decide +kernel)⟩
theorem lw_p6 : lw_okq (⟨"WatchDogs$Tape", "takeNumber", "(II)I"⟩, 10) := ⟨⟨by decide +kernel, by decide +kernel⟩, List.mem_of_getElem? (i := 150) (by decide +kernel), List.mem_of_getElem? (i := 354) (by decide +kernel), List.mem_of_getElem? (i := 355) (by decide +kernel)⟩
theorem lw_p7 : lw_okq (⟨"WatchDogs$Tape", "readSigns", "()V"⟩, 10) := ⟨⟨by decide +kernel, by decide +kernel⟩, List.mem_of_getElem? (i := 150) (by decide +kernel), List.mem_of_getElem? (i := 367) (by decide +kernel), List.mem_of_getElem? (i := 368) (by decide +kernel)⟩
theorem lw_p8 : lw_okq (⟨"WatchDogs$Tape", "readJam", "()V"⟩, 10) := ⟨⟨by decide +kernel, by decide +kernel⟩, List.mem_of_getElem? (i := 150) (by decide +kernel), List.mem_of_getElem? (i := 376) (by decide +kernel), List.mem_of_getElem? (i := 377) (by decide +kernel)⟩
theorem lw_p9 : lw_okq (⟨"WatchDogs$Tape", "takeSemicolon", "()V"⟩, 10) := ⟨⟨by decide +kernel, by decide +kernel⟩, List.mem_of_getElem? (i := 150) (by decide +kernel), List.mem_of_getElem? (i := 384) (by decide +kernel), List.mem_of_getElem? (i := 385) (by decide +kernel)⟩
theorem lw_p10 : lw_okq (⟨"WatchDogs", "noDog", "(I)Z"⟩, 7) := ⟨⟨by decide +kernel, by decide +kernel⟩, List.mem_of_getElem? (i := 16) (by decide +kernel), List.mem_of_getElem? (i := 411) (by decide +kernel), List.mem_of_getElem? (i := 412) (by decide +kernel)⟩
theorem lw_p11 : lw_okq (⟨"WatchDogs", "noSign", "(I)Z"⟩, 7) := ⟨⟨by decide +kernel, by decide +kernel⟩, List.mem_of_getElem? (i := 16) (by decide +kernel), List.mem_of_getElem? (i := 419) (by decide +kernel), List.mem_of_getElem? (i := 420) (by decide +kernel)⟩
theorem lw_p12 : lw_okq (⟨"WatchDogs", "alterKind", "(II)I"⟩, 7) := ⟨⟨by decide +kernel, by decide +kernel⟩, List.mem_of_getElem? (i := 16) (by decide +kernel), List.mem_of_getElem? (i := 431) (by decide +kernel), List.mem_of_getElem? (i := 432) (by decide +kernel)⟩
theorem lw_p13 : lw_okq (⟨"WatchDogs", "alterLimit", "(II)I"⟩, 7) := ⟨⟨by decide +kernel, by decide +kernel⟩, List.mem_of_getElem? (i := 16) (by decide +kernel), List.mem_of_getElem? (i := 435) (by decide +kernel), List.mem_of_getElem? (i := 436) (by decide +kernel)⟩
theorem lw_p14 : lw_okq (⟨"WatchDogs$Trial", "bitesIn", "(IZ)Z"⟩, 8) := ⟨⟨by decide +kernel, by decide +kernel⟩, List.mem_of_getElem? (i := 109) (by decide +kernel), List.mem_of_getElem? (i := 501) (by decide +kernel), List.mem_of_getElem? (i := 502) (by decide +kernel)⟩
theorem lw_p15 : lw_okq (⟨"WatchDogs", "bitesWithin", "(III)Z"⟩, 7) := ⟨⟨by decide +kernel, by decide +kernel⟩, List.mem_of_getElem? (i := 16) (by decide +kernel), List.mem_of_getElem? (i := 529) (by decide +kernel), List.mem_of_getElem? (i := 530) (by decide +kernel)⟩
def lw_privs_1 : List (MethodName × Nat) := [(⟨"WatchDogs$Tape", "readToken", "()V"⟩, 10), (⟨"WatchDogs$Tape", "readName", "()V"⟩, 10), (⟨"WatchDogs$Tape", "readNumber", "()V"⟩, 10), (⟨"WatchDogs$Tape", "refuse", "(I)V"⟩, 10), (⟨"WatchDogs$Tape", "isName", "(Ljava/lang/String;)Z"⟩, 10), (⟨"WatchDogs$Tape", "readDog", "(I)V"⟩, 10), (⟨"WatchDogs$Tape", "takeNumber", "(II)I"⟩, 10), (⟨"WatchDogs$Tape", "readSigns", "()V"⟩, 10), (⟨"WatchDogs$Tape", "readJam", "()V"⟩, 10), (⟨"WatchDogs$Tape", "takeSemicolon", "()V"⟩, 10), (⟨"WatchDogs", "noDog", "(I)Z"⟩, 7), (⟨"WatchDogs", "noSign", "(I)Z"⟩, 7), (⟨"WatchDogs", "alterKind", "(II)I"⟩, 7), (⟨"WatchDogs", "alterLimit", "(II)I"⟩, 7), (⟨"WatchDogs$Trial", "bitesIn", "(IZ)Z"⟩, 8), (⟨"WatchDogs", "bitesWithin", "(III)Z"⟩, 7)]
theorem lw_r1 : ∀ q ∈ lw_privs_1, lw_okq q := List.forall_mem_cons.mpr ⟨lw_p0, List.forall_mem_cons.mpr ⟨lw_p1, List.forall_mem_cons.mpr ⟨lw_p2, List.forall_mem_cons.mpr ⟨lw_p3, List.forall_mem_cons.mpr ⟨lw_p4, List.forall_mem_cons.mpr ⟨lw_p5, List.forall_mem_cons.mpr ⟨lw_p6, List.forall_mem_cons.mpr ⟨lw_p7, List.forall_mem_cons.mpr ⟨lw_p8, List.forall_mem_cons.mpr ⟨lw_p9, List.forall_mem_cons.mpr ⟨lw_p10, List.forall_mem_cons.mpr ⟨lw_p11, List.forall_mem_cons.mpr ⟨lw_p12, List.forall_mem_cons.mpr ⟨lw_p13, List.forall_mem_cons.mpr ⟨lw_p14, List.forall_mem_cons.mpr ⟨lw_p15, fun _ h => absurd h List.not_mem_nil⟩⟩⟩⟩⟩⟩⟩⟩⟩⟩⟩⟩⟩⟩⟩⟩
theorem lw_p16 : lw_okq (⟨"WatchDogs", "resetsAsItIs", "(I)I"⟩, 7) := ⟨⟨by decide +kernel, by decide +kernel⟩, List.mem_of_getElem? (i := 16) (by decide +kernel), List.mem_of_getElem? (i := 549) (by decide +kernel), List.mem_of_getElem? (i := 550) (by decide +kernel)⟩
theorem lw_p17 : lw_okq (⟨"WatchDogs", "resetsSwapped", "(IIII)I"⟩, 7) := ⟨⟨by decide +kernel, by decide +kernel⟩, List.mem_of_getElem? (i := 16) (by decide +kernel), List.mem_of_getElem? (i := 553) (by decide +kernel), List.mem_of_getElem? (i := 554) (by decide +kernel)⟩
theorem lw_p18 : lw_okq (⟨"WatchDogs", "resetsLosing", "(II)I"⟩, 7) := ⟨⟨by decide +kernel, by decide +kernel⟩, List.mem_of_getElem? (i := 16) (by decide +kernel), List.mem_of_getElem? (i := 578) (by decide +kernel), List.mem_of_getElem? (i := 579) (by decide +kernel)⟩
theorem lw_p19 : lw_okq (⟨"WatchDogs", "resetBitsByLimit", "(II)J"⟩, 7) := ⟨⟨by decide +kernel, by decide +kernel⟩, List.mem_of_getElem? (i := 16) (by decide +kernel), List.mem_of_getElem? (i := 620) (by decide +kernel), List.mem_of_getElem? (i := 621) (by decide +kernel)⟩
theorem lw_p20 : lw_okq (⟨"WatchDogsModel", "firstDraft", "()V"⟩, 32) := ⟨⟨by decide +kernel, by decide +kernel⟩, List.mem_of_getElem? (i := 708) (by decide +kernel), List.mem_of_getElem? (i := 714) (by decide +kernel), List.mem_of_getElem? (i := 715) (by decide +kernel)⟩
theorem lw_p21 : lw_okq (⟨"WatchDogsModel", "keepDraft", "()V"⟩, 32) := ⟨⟨by decide +kernel, by decide +kernel⟩, List.mem_of_getElem? (i := 708) (by decide +kernel), List.mem_of_getElem? (i := 718) (by decide +kernel), List.mem_of_getElem? (i := 719) (by decide +kernel)⟩
theorem lw_p22 : lw_okq (⟨"WatchDogsModel", "reads", "()V"⟩, 32) := ⟨⟨by decide +kernel, by decide +kernel⟩, List.mem_of_getElem? (i := 708) (by decide +kernel), List.mem_of_getElem? (i := 835) (by decide +kernel), List.mem_of_getElem? (i := 836) (by decide +kernel)⟩
theorem lw_p23 : lw_okq (⟨"WatchDogsModel", "byteAt", "(I)I"⟩, 32) := ⟨⟨by decide +kernel, by decide +kernel⟩, List.mem_of_getElem? (i := 708) (by decide +kernel), List.mem_of_getElem? (i := 839) (by decide +kernel), List.mem_of_getElem? (i := 840) (by decide +kernel)⟩
theorem lw_p24 : lw_okq (⟨"WatchDogsModel", "requires", "(ZI)V"⟩, 32) := ⟨⟨by decide +kernel, by decide +kernel⟩, List.mem_of_getElem? (i := 708) (by decide +kernel), List.mem_of_getElem? (i := 847) (by decide +kernel), List.mem_of_getElem? (i := 848) (by decide +kernel)⟩
theorem lw_p25 : lw_okq (⟨"WatchDogsModel", "readLine", "()V"⟩, 32) := ⟨⟨by decide +kernel, by decide +kernel⟩, List.mem_of_getElem? (i := 708) (by decide +kernel), List.mem_of_getElem? (i := 851) (by decide +kernel), List.mem_of_getElem? (i := 852) (by decide +kernel)⟩
theorem lw_p26 : lw_okq (⟨"WatchDogsModel", "lineNow", "()I"⟩, 32) := ⟨⟨by decide +kernel, by decide +kernel⟩, List.mem_of_getElem? (i := 708) (by decide +kernel), List.mem_of_getElem? (i := 855) (by decide +kernel), List.mem_of_getElem? (i := 856) (by decide +kernel)⟩
theorem lw_p27 : lw_okq (⟨"WatchDogsModel", "is", "(IIII)Z"⟩, 32) := ⟨⟨by decide +kernel, by decide +kernel⟩, List.mem_of_getElem? (i := 708) (by decide +kernel), List.mem_of_getElem? (i := 859) (by decide +kernel), List.mem_of_getElem? (i := 860) (by decide +kernel)⟩
theorem lw_p28 : lw_okq (⟨"WatchDogsModel", "endsIn", "(III)Z"⟩, 32) := ⟨⟨by decide +kernel, by decide +kernel⟩, List.mem_of_getElem? (i := 708) (by decide +kernel), List.mem_of_getElem? (i := 863) (by decide +kernel), List.mem_of_getElem? (i := 864) (by decide +kernel)⟩
theorem lw_p29 : lw_okq (⟨"WatchDogsModel", "readLineOf", "(I)V"⟩, 32) := ⟨⟨by decide +kernel, by decide +kernel⟩, List.mem_of_getElem? (i := 708) (by decide +kernel), List.mem_of_getElem? (i := 867) (by decide +kernel), List.mem_of_getElem? (i := 868) (by decide +kernel)⟩
theorem lw_p30 : lw_okq (⟨"WatchDogsModel", "readSigns", "()V"⟩, 32) := ⟨⟨by decide +kernel, by decide +kernel⟩, List.mem_of_getElem? (i := 708) (by decide +kernel), List.mem_of_getElem? (i := 871) (by decide +kernel), List.mem_of_getElem? (i := 872) (by decide +kernel)⟩
theorem lw_p31 : lw_okq (⟨"WatchDogsModel", "readNumber", "(II)I"⟩, 32) := ⟨⟨by decide +kernel, by decide +kernel⟩, List.mem_of_getElem? (i := 708) (by decide +kernel), List.mem_of_getElem? (i := 875) (by decide +kernel), List.mem_of_getElem? (i := 876) (by decide +kernel)⟩
def lw_privs_2 : List (MethodName × Nat) := [(⟨"WatchDogs", "resetsAsItIs", "(I)I"⟩, 7), (⟨"WatchDogs", "resetsSwapped", "(IIII)I"⟩, 7), (⟨"WatchDogs", "resetsLosing", "(II)I"⟩, 7), (⟨"WatchDogs", "resetBitsByLimit", "(II)J"⟩, 7), (⟨"WatchDogsModel", "firstDraft", "()V"⟩, 32), (⟨"WatchDogsModel", "keepDraft", "()V"⟩, 32), (⟨"WatchDogsModel", "reads", "()V"⟩, 32), (⟨"WatchDogsModel", "byteAt", "(I)I"⟩, 32), (⟨"WatchDogsModel", "requires", "(ZI)V"⟩, 32), (⟨"WatchDogsModel", "readLine", "()V"⟩, 32), (⟨"WatchDogsModel", "lineNow", "()I"⟩, 32), (⟨"WatchDogsModel", "is", "(IIII)Z"⟩, 32), (⟨"WatchDogsModel", "endsIn", "(III)Z"⟩, 32), (⟨"WatchDogsModel", "readLineOf", "(I)V"⟩, 32), (⟨"WatchDogsModel", "readSigns", "()V"⟩, 32), (⟨"WatchDogsModel", "readNumber", "(II)I"⟩, 32)]
theorem lw_r2 : ∀ q ∈ lw_privs_2, lw_okq q := List.forall_mem_cons.mpr ⟨lw_p16, List.forall_mem_cons.mpr ⟨lw_p17, List.forall_mem_cons.mpr ⟨lw_p18, List.forall_mem_cons.mpr ⟨lw_p19, List.forall_mem_cons.mpr ⟨lw_p20, List.forall_mem_cons.mpr ⟨lw_p21, List.forall_mem_cons.mpr ⟨lw_p22, List.forall_mem_cons.mpr ⟨lw_p23, List.forall_mem_cons.mpr ⟨lw_p24, List.forall_mem_cons.mpr ⟨lw_p25, List.forall_mem_cons.mpr ⟨lw_p26, List.forall_mem_cons.mpr ⟨lw_p27, List.forall_mem_cons.mpr ⟨lw_p28, List.forall_mem_cons.mpr ⟨lw_p29, List.forall_mem_cons.mpr ⟨lw_p30, List.forall_mem_cons.mpr ⟨lw_p31, fun _ h => absurd h List.not_mem_nil⟩⟩⟩⟩⟩⟩⟩⟩⟩⟩⟩⟩⟩⟩⟩⟩
theorem lw_p32 : lw_okq (⟨"WatchDogsModel", "starts", "()V"⟩, 32) := ⟨⟨by decide +kernel, by decide +kernel⟩, List.mem_of_getElem? (i := 708) (by decide +kernel), List.mem_of_getElem? (i := 887) (by decide +kernel), List.mem_of_getElem? (i := 888) (by decide +kernel)⟩
theorem lw_p33 : lw_okq (⟨"WatchDogsModel", "isStuck", "()Z"⟩, 32) := ⟨⟨by decide +kernel, by decide +kernel⟩, List.mem_of_getElem? (i := 708) (by decide +kernel), List.mem_of_getElem? (i := 891) (by decide +kernel), List.mem_of_getElem? (i := 892) (by decide +kernel)⟩
theorem lw_p34 : lw_okq (⟨"WatchDogsModel", "isDog", "(I)Z"⟩, 32) := ⟨⟨by decide +kernel, by decide +kernel⟩, List.mem_of_getElem? (i := 708) (by decide +kernel), List.mem_of_getElem? (i := 902) (by decide +kernel), List.mem_of_getElem? (i := 903) (by decide +kernel)⟩
theorem lw_p35 : lw_okq (⟨"WatchDogsModel", "isSign", "(I)Z"⟩, 32) := ⟨⟨by decide +kernel, by decide +kernel⟩, List.mem_of_getElem? (i := 708) (by decide +kernel), List.mem_of_getElem? (i := 911) (by decide +kernel), List.mem_of_getElem? (i := 912) (by decide +kernel)⟩
theorem lw_p36 : lw_okq (⟨"WatchDogsModel", "becomes", "(II)I"⟩, 32) := ⟨⟨by decide +kernel, by decide +kernel⟩, List.mem_of_getElem? (i := 708) (by decide +kernel), List.mem_of_getElem? (i := 927) (by decide +kernel), List.mem_of_getElem? (i := 928) (by decide +kernel)⟩
theorem lw_p37 : lw_okq (⟨"WatchDogsModel", "bitesFed", "(I)Z"⟩, 32) := ⟨⟨by decide +kernel, by decide +kernel⟩, List.mem_of_getElem? (i := 708) (by decide +kernel), List.mem_of_getElem? (i := 958) (by decide +kernel), List.mem_of_getElem? (i := 959) (by decide +kernel)⟩
theorem lw_p38 : lw_okq (⟨"WatchDogsModel", "of", "(II)I"⟩, 32) := ⟨⟨by decide +kernel, by decide +kernel⟩, List.mem_of_getElem? (i := 708) (by decide +kernel), List.mem_of_getElem? (i := 962) (by decide +kernel), List.mem_of_getElem? (i := 963) (by decide +kernel)⟩
theorem lw_p39 : lw_okq (⟨"WatchDogsModel", "becomesOf", "(III)V"⟩, 32) := ⟨⟨by decide +kernel, by decide +kernel⟩, List.mem_of_getElem? (i := 708) (by decide +kernel), List.mem_of_getElem? (i := 966) (by decide +kernel), List.mem_of_getElem? (i := 967) (by decide +kernel)⟩
theorem lw_p40 : lw_okq (⟨"WatchDogsModel", "resets", "(II)V"⟩, 32) := ⟨⟨by decide +kernel, by decide +kernel⟩, List.mem_of_getElem? (i := 708) (by decide +kernel), List.mem_of_getElem? (i := 970) (by decide +kernel), List.mem_of_getElem? (i := 971) (by decide +kernel)⟩
theorem lw_p41 : lw_okq (⟨"WatchDogsModel", "settles", "()V"⟩, 32) := ⟨⟨by decide +kernel, by decide +kernel⟩, List.mem_of_getElem? (i := 708) (by decide +kernel), List.mem_of_getElem? (i := 974) (by decide +kernel), List.mem_of_getElem? (i := 975) (by decide +kernel)⟩
theorem lw_p42 : lw_okq (⟨"WatchDogsModel", "ticksGo", "(I)V"⟩, 32) := ⟨⟨by decide +kernel, by decide +kernel⟩, List.mem_of_getElem? (i := 708) (by decide +kernel), List.mem_of_getElem? (i := 983) (by decide +kernel), List.mem_of_getElem? (i := 984) (by decide +kernel)⟩
theorem lw_p43 : lw_okq (⟨"WatchDogsModel", "tickGoes", "(Z)V"⟩, 32) := ⟨⟨by decide +kernel, by decide +kernel⟩, List.mem_of_getElem? (i := 708) (by decide +kernel), List.mem_of_getElem? (i := 987) (by decide +kernel), List.mem_of_getElem? (i := 988) (by decide +kernel)⟩
theorem lw_p44 : lw_okq (⟨"WatchDogsModel", "dogsGo", "(I)V"⟩, 32) := ⟨⟨by decide +kernel, by decide +kernel⟩, List.mem_of_getElem? (i := 708) (by decide +kernel), List.mem_of_getElem? (i := 991) (by decide +kernel), List.mem_of_getElem? (i := 992) (by decide +kernel)⟩
theorem lw_p45 : lw_okq (⟨"WatchDogsModel", "bitesUnfed", "(I)Z"⟩, 32) := ⟨⟨by decide +kernel, by decide +kernel⟩, List.mem_of_getElem? (i := 708) (by decide +kernel), List.mem_of_getElem? (i := 995) (by decide +kernel), List.mem_of_getElem? (i := 996) (by decide +kernel)⟩
theorem lw_p46 : lw_okq (⟨"WatchDogsModel", "bitesLate", "(I)Z"⟩, 32) := ⟨⟨by decide +kernel, by decide +kernel⟩, List.mem_of_getElem? (i := 708) (by decide +kernel), List.mem_of_getElem? (i := 999) (by decide +kernel), List.mem_of_getElem? (i := 1000) (by decide +kernel)⟩
theorem lw_p47 : lw_okq (⟨"WatchDogsModel", "bitesBy", "(III)Z"⟩, 32) := ⟨⟨by decide +kernel, by decide +kernel⟩, List.mem_of_getElem? (i := 708) (by decide +kernel), List.mem_of_getElem? (i := 1024) (by decide +kernel), List.mem_of_getElem? (i := 1025) (by decide +kernel)⟩
def lw_privs_3 : List (MethodName × Nat) := [(⟨"WatchDogsModel", "starts", "()V"⟩, 32), (⟨"WatchDogsModel", "isStuck", "()Z"⟩, 32), (⟨"WatchDogsModel", "isDog", "(I)Z"⟩, 32), (⟨"WatchDogsModel", "isSign", "(I)Z"⟩, 32), (⟨"WatchDogsModel", "becomes", "(II)I"⟩, 32), (⟨"WatchDogsModel", "bitesFed", "(I)Z"⟩, 32), (⟨"WatchDogsModel", "of", "(II)I"⟩, 32), (⟨"WatchDogsModel", "becomesOf", "(III)V"⟩, 32), (⟨"WatchDogsModel", "resets", "(II)V"⟩, 32), (⟨"WatchDogsModel", "settles", "()V"⟩, 32), (⟨"WatchDogsModel", "ticksGo", "(I)V"⟩, 32), (⟨"WatchDogsModel", "tickGoes", "(Z)V"⟩, 32), (⟨"WatchDogsModel", "dogsGo", "(I)V"⟩, 32), (⟨"WatchDogsModel", "bitesUnfed", "(I)Z"⟩, 32), (⟨"WatchDogsModel", "bitesLate", "(I)Z"⟩, 32), (⟨"WatchDogsModel", "bitesBy", "(III)Z"⟩, 32)]
theorem lw_r3 : ∀ q ∈ lw_privs_3, lw_okq q := List.forall_mem_cons.mpr ⟨lw_p32, List.forall_mem_cons.mpr ⟨lw_p33, List.forall_mem_cons.mpr ⟨lw_p34, List.forall_mem_cons.mpr ⟨lw_p35, List.forall_mem_cons.mpr ⟨lw_p36, List.forall_mem_cons.mpr ⟨lw_p37, List.forall_mem_cons.mpr ⟨lw_p38, List.forall_mem_cons.mpr ⟨lw_p39, List.forall_mem_cons.mpr ⟨lw_p40, List.forall_mem_cons.mpr ⟨lw_p41, List.forall_mem_cons.mpr ⟨lw_p42, List.forall_mem_cons.mpr ⟨lw_p43, List.forall_mem_cons.mpr ⟨lw_p44, List.forall_mem_cons.mpr ⟨lw_p45, List.forall_mem_cons.mpr ⟨lw_p46, List.forall_mem_cons.mpr ⟨lw_p47, fun _ h => absurd h List.not_mem_nil⟩⟩⟩⟩⟩⟩⟩⟩⟩⟩⟩⟩⟩⟩⟩⟩
theorem lw_p48 : lw_okq (⟨"WatchDogsModel", "startsJudging", "(I)V"⟩, 32) := ⟨⟨by decide +kernel, by decide +kernel⟩, List.mem_of_getElem? (i := 708) (by decide +kernel), List.mem_of_getElem? (i := 1037) (by decide +kernel), List.mem_of_getElem? (i := 1038) (by decide +kernel)⟩
theorem lw_p49 : lw_okq (⟨"WatchDogsModel", "resetsIn", "(I)I"⟩, 32) := ⟨⟨by decide +kernel, by decide +kernel⟩, List.mem_of_getElem? (i := 708) (by decide +kernel), List.mem_of_getElem? (i := 1041) (by decide +kernel), List.mem_of_getElem? (i := 1042) (by decide +kernel)⟩
theorem lw_p50 : lw_okq (⟨"WatchDogsModel", "judges", "(II)V"⟩, 32) := ⟨⟨by decide +kernel, by decide +kernel⟩, List.mem_of_getElem? (i := 708) (by decide +kernel), List.mem_of_getElem? (i := 1045) (by decide +kernel), List.mem_of_getElem? (i := 1046) (by decide +kernel)⟩
theorem lw_p51 : lw_okq (⟨"WatchDogsModel", "judged", "(I)I"⟩, 32) := ⟨⟨by decide +kernel, by decide +kernel⟩, List.mem_of_getElem? (i := 708) (by decide +kernel), List.mem_of_getElem? (i := 1049) (by decide +kernel), List.mem_of_getElem? (i := 1050) (by decide +kernel)⟩
theorem lw_p52 : lw_okq (⟨"WatchDogsModel", "findOdds", "(II)V"⟩, 32) := ⟨⟨by decide +kernel, by decide +kernel⟩, List.mem_of_getElem? (i := 708) (by decide +kernel), List.mem_of_getElem? (i := 1068) (by decide +kernel), List.mem_of_getElem? (i := 1069) (by decide +kernel)⟩
theorem lw_p53 : lw_okq (⟨"WatchDogsModel", "which", "(IIII)I"⟩, 32) := ⟨⟨by decide +kernel, by decide +kernel⟩, List.mem_of_getElem? (i := 708) (by decide +kernel), List.mem_of_getElem? (i := 1094) (by decide +kernel), List.mem_of_getElem? (i := 1095) (by decide +kernel)⟩
theorem lw_p54 : lw_okq (⟨"WatchDogsModel", "isSoWith", "(III)Z"⟩, 32) := ⟨⟨by decide +kernel, by decide +kernel⟩, List.mem_of_getElem? (i := 708) (by decide +kernel), List.mem_of_getElem? (i := 1098) (by decide +kernel), List.mem_of_getElem? (i := 1099) (by decide +kernel)⟩
theorem lw_p55 : lw_okq (⟨"WatchDogsModel", "copies", "(II)V"⟩, 32) := ⟨⟨by decide +kernel, by decide +kernel⟩, List.mem_of_getElem? (i := 708) (by decide +kernel), List.mem_of_getElem? (i := 1119) (by decide +kernel), List.mem_of_getElem? (i := 1120) (by decide +kernel)⟩
def lw_privs_4 : List (MethodName × Nat) := [(⟨"WatchDogsModel", "startsJudging", "(I)V"⟩, 32), (⟨"WatchDogsModel", "resetsIn", "(I)I"⟩, 32), (⟨"WatchDogsModel", "judges", "(II)V"⟩, 32), (⟨"WatchDogsModel", "judged", "(I)I"⟩, 32), (⟨"WatchDogsModel", "findOdds", "(II)V"⟩, 32), (⟨"WatchDogsModel", "which", "(IIII)I"⟩, 32), (⟨"WatchDogsModel", "isSoWith", "(III)Z"⟩, 32), (⟨"WatchDogsModel", "copies", "(II)V"⟩, 32)]
theorem lw_r4 : ∀ q ∈ lw_privs_4, lw_okq q := List.forall_mem_cons.mpr ⟨lw_p48, List.forall_mem_cons.mpr ⟨lw_p49, List.forall_mem_cons.mpr ⟨lw_p50, List.forall_mem_cons.mpr ⟨lw_p51, List.forall_mem_cons.mpr ⟨lw_p52, List.forall_mem_cons.mpr ⟨lw_p53, List.forall_mem_cons.mpr ⟨lw_p54, List.forall_mem_cons.mpr ⟨lw_p55, fun _ h => absurd h List.not_mem_nil⟩⟩⟩⟩⟩⟩⟩⟩
def lw_privs : List (MethodName × Nat) := lw_privs_1 ++ (lw_privs_2 ++ (lw_privs_3 ++ (lw_privs_4)))
def lw_tbl : List Cond := k2_sels lw_privs ++ tables_1
theorem lw_privs_ok : ∀ q ∈ lw_privs, lw_okq q := by
  show ∀ q ∈ lw_privs_1 ++ (lw_privs_2 ++ (lw_privs_3 ++ (lw_privs_4))), lw_okq q
  exact List.forall_mem_append.mpr ⟨lw_r1, List.forall_mem_append.mpr ⟨lw_r2, List.forall_mem_append.mpr ⟨lw_r3, lw_r4⟩⟩⟩
end
section
def RX0 : String := "WatchDogs$Pack"
def TX0 : u_T := fun k => match k with
  | 0 => ("WatchDogs$Pack", "kindOf", "[I", true)
  | 1 => ("WatchDogs$Pack", "limitOf", "[I", true)
  | 2 => ("WatchDogs$Pack", "countOf", "[I", true)
  | 3 => ("WatchDogs$Pack", "barksOf", "[I", true)
  | 4 => ("WatchDogs$Pack", "signAt", "[I", true)
  | 5 => ("WatchDogs$Pack", "jamFrom", "[I", true)
  | 6 => ("WatchDogs$Pack", "jamFor", "[I", true)
  | 7 => ("WatchDogs$Pack", "seenTick", "[I", true)
  | 8 => ("WatchDogs$Pack", "seenReset", "[I", true)
  | 9 => ("WatchDogs$Pack", "dogs", "I", false)
  | 10 => ("WatchDogs$Pack", "signs", "I", false)
  | 11 => ("WatchDogs$Pack", "jams", "I", false)
  | 12 => ("WatchDogs$Pack", "seen", "I", false)
  | 13 => ("WatchDogs$Pack", "place", "I", false)
  | 14 => ("WatchDogs$Pack", "tick", "I", false)
  | 15 => ("WatchDogs$Pack", "resets", "I", false)
  | 16 => ("WatchDogs$Pack", "free", "I", false)
  | _ => ("WatchDogs$Pack", "last", "I", false)
def tyX0 : Nat → FieldType := fun k => match k with
  | 0 => .array .int
  | 1 => .array .int
  | 2 => .array .int
  | 3 => .array .int
  | 4 => .array .int
  | 5 => .array .int
  | 6 => .array .int
  | 7 => .array .int
  | 8 => .array .int
  | 9 => .int
  | 10 => .int
  | 11 => .int
  | 12 => .int
  | 13 => .int
  | 14 => .int
  | 15 => .int
  | 16 => .int
  | _ => .int
abbrev wsX00 : List Cond := u_ws RX0 TX0 18
theorem nmX0 : ∀ a, a < 18 → ∀ b, b < 18 → a ≠ b → (TX0 a).2.1 ≠ (TX0 b).2.1 := by decide +kernel
theorem tyX0_ok : ∀ k, k < 18 → parseFieldDescriptor (TX0 k).2.2.1 = some (tyX0 k) := by decide +kernel
abbrev cX0_init : ByteArray := prog_2_method_1_code
def yX0_init : MethodName := ⟨RX0, "<init>", "()V"⟩
abbrev cX0_copyOf : ByteArray := prog_2_method_2_code
def yX0_copyOf : MethodName := ⟨RX0, "copyOf", "(LWatchDogs$Pack;)V"⟩
abbrev cX0_empty : ByteArray := prog_2_method_3_code
def yX0_empty : MethodName := ⟨RX0, "empty", "()V"⟩
abbrev cX0_addDog : ByteArray := prog_2_method_4_code
def yX0_addDog : MethodName := ⟨RX0, "addDog", "(II)V"⟩
abbrev cX0_addSign : ByteArray := prog_2_method_5_code
def yX0_addSign : MethodName := ⟨RX0, "addSign", "(I)V"⟩
abbrev cX0_addJam : ByteArray := prog_2_method_6_code
def yX0_addJam : MethodName := ⟨RX0, "addJam", "(II)V"⟩
abbrev cX0_addSeen : ByteArray := prog_2_method_7_code
def yX0_addSeen : MethodName := ⟨RX0, "addSeen", "(II)V"⟩
abbrev cX0_isStuck : ByteArray := prog_2_method_8_code
def yX0_isStuck : MethodName := ⟨RX0, "isStuck", "()Z"⟩
abbrev cX0_nextSign : ByteArray := prog_2_method_9_code
def yX0_nextSign : MethodName := ⟨RX0, "nextSign", "()I"⟩
abbrev cX0_bitesFed : ByteArray := prog_2_method_10_code
def yX0_bitesFed : MethodName := ⟨RX0, "bitesFed", "(I)Z"⟩
abbrev cX0_bitesUnfed : ByteArray := prog_2_method_11_code
def yX0_bitesUnfed : MethodName := ⟨RX0, "bitesUnfed", "(I)Z"⟩
abbrev cX0_beginAnew : ByteArray := prog_2_method_12_code
def yX0_beginAnew : MethodName := ⟨RX0, "beginAnew", "(II)V"⟩
abbrev cX0_isAsSeen : ByteArray := prog_2_method_13_code
def yX0_isAsSeen : MethodName := ⟨RX0, "isAsSeen", "(J)Z"⟩
abbrev cX0_countsSummed : ByteArray := prog_2_method_14_code
def yX0_countsSummed : MethodName := ⟨RX0, "countsSummed", "()I"⟩
abbrev cX0_limitsSummed : ByteArray := prog_2_method_15_code
def yX0_limitsSummed : MethodName := ⟨RX0, "limitsSummed", "()I"⟩
abbrev cX0_signsSummed : ByteArray := prog_2_method_16_code
def yX0_signsSummed : MethodName := ⟨RX0, "signsSummed", "()I"⟩
def RX1 : String := "WatchDogs$Sheets"
def TX1 : u_T := fun k => match k with
  | 0 => ("WatchDogs$Sheets", "cells", "[[I", true)
  | 1 => ("WatchDogs$Sheets", "laneOf", "[I", true)
  | _ => ("WatchDogs$Sheets", "sizeOf", "[I", true)
def tyX1 : Nat → FieldType := fun k => match k with
  | 0 => .array (.array .int)
  | 1 => .array .int
  | _ => .array .int
abbrev wsX10 : List Cond := u_ws RX1 TX1 3
theorem nmX1 : ∀ a, a < 3 → ∀ b, b < 3 → a ≠ b → (TX1 a).2.1 ≠ (TX1 b).2.1 := by decide +kernel
theorem tyX1_ok : ∀ k, k < 3 → parseFieldDescriptor (TX1 k).2.2.1 = some (tyX1 k) := by decide +kernel
abbrev cX1_init : ByteArray := prog_3_method_1_code
def yX1_init : MethodName := ⟨RX1, "<init>", "()V"⟩
abbrev cX1_renew : ByteArray := prog_3_method_2_code
def yX1_renew : MethodName := ⟨RX1, "renew", "(III)V"⟩
abbrev cX1_write : ByteArray := prog_3_method_3_code
def yX1_write : MethodName := ⟨RX1, "write", "(III)V"⟩
abbrev cX1_faultOf : ByteArray := prog_3_method_4_code
def yX1_faultOf : MethodName := ⟨RX1, "faultOf", "(III)I"⟩
abbrev cX1_faultOfPair : ByteArray := prog_3_method_5_code
def yX1_faultOfPair : MethodName := ⟨RX1, "faultOfPair", "(III)I"⟩
def RX2 : String := "WatchDogs$Tape"
def TX2 : u_T := fun k => match k with
  | 0 => ("WatchDogs$Tape", "bytes", "[B", true)
  | 1 => ("WatchDogs$Tape", "draft", "LWatchDogs$Pack;", true)
  | 2 => ("WatchDogs$Tape", "length", "I", false)
  | 3 => ("WatchDogs$Tape", "fault", "I", false)
  | 4 => ("WatchDogs$Tape", "faultAt", "I", false)
  | 5 => ("WatchDogs$Tape", "lines", "I", false)
  | 6 => ("WatchDogs$Tape", "next", "I", false)
  | 7 => ("WatchDogs$Tape", "token", "I", false)
  | 8 => ("WatchDogs$Tape", "tokenAt", "I", false)
  | _ => ("WatchDogs$Tape", "value", "I", false)
def tyX2 : Nat → FieldType := fun k => match k with
  | 0 => .array .byte
  | 1 => .object "WatchDogs$Pack"
  | 2 => .int
  | 3 => .int
  | 4 => .int
  | 5 => .int
  | 6 => .int
  | 7 => .int
  | 8 => .int
  | _ => .int
abbrev wsX20 : List Cond := u_ws RX2 TX2 10
theorem nmX2 : ∀ a, a < 10 → ∀ b, b < 10 → a ≠ b → (TX2 a).2.1 ≠ (TX2 b).2.1 := by decide +kernel
theorem tyX2_ok : ∀ k, k < 10 → parseFieldDescriptor (TX2 k).2.2.1 = some (tyX2 k) := by decide +kernel
abbrev cX2_init : ByteArray := prog_4_method_1_code
def yX2_init : MethodName := ⟨RX2, "<init>", "()V"⟩
abbrev cX2_begin : ByteArray := prog_4_method_2_code
def yX2_begin : MethodName := ⟨RX2, "begin", "()V"⟩
abbrev cX2_hasLine : ByteArray := prog_4_method_3_code
def yX2_hasLine : MethodName := ⟨RX2, "hasLine", "()Z"⟩
abbrev cX2_readLine : ByteArray := prog_4_method_4_code
def yX2_readLine : MethodName := ⟨RX2, "readLine", "()V"⟩
abbrev cX2_readDog : ByteArray := prog_4_method_5_code
def yX2_readDog : MethodName := ⟨RX2, "readDog", "(I)V"⟩
abbrev cX2_readSigns : ByteArray := prog_4_method_6_code
def yX2_readSigns : MethodName := ⟨RX2, "readSigns", "()V"⟩
abbrev cX2_readJam : ByteArray := prog_4_method_7_code
def yX2_readJam : MethodName := ⟨RX2, "readJam", "()V"⟩
abbrev cX2_takeNumber : ByteArray := prog_4_method_8_code
def yX2_takeNumber : MethodName := ⟨RX2, "takeNumber", "(II)I"⟩
abbrev cX2_takeSemicolon : ByteArray := prog_4_method_9_code
def yX2_takeSemicolon : MethodName := ⟨RX2, "takeSemicolon", "()V"⟩
abbrev cX2_refuse : ByteArray := prog_4_method_10_code
def yX2_refuse : MethodName := ⟨RX2, "refuse", "(I)V"⟩
abbrev cX2_readToken : ByteArray := prog_4_method_11_code
def yX2_readToken : MethodName := ⟨RX2, "readToken", "()V"⟩
abbrev cX2_readName : ByteArray := prog_4_method_12_code
def yX2_readName : MethodName := ⟨RX2, "readName", "()V"⟩
abbrev cX2_readNumber : ByteArray := prog_4_method_13_code
def yX2_readNumber : MethodName := ⟨RX2, "readNumber", "()V"⟩
abbrev cX2_isName : ByteArray := prog_4_method_14_code
def yX2_isName : MethodName := ⟨RX2, "isName", "(Ljava/lang/String;)Z"⟩
abbrev cX2_isLetter : ByteArray := prog_4_method_15_code
def yX2_isLetter : MethodName := ⟨RX2, "isLetter", "(B)Z"⟩
abbrev cX2_isFigure : ByteArray := prog_4_method_16_code
def yX2_isFigure : MethodName := ⟨RX2, "isFigure", "(B)Z"⟩
def RX3 : String := "WatchDogs$Trial"
def TX3 : u_T := fun k => match k with
  | 0 => ("WatchDogs$Trial", "pack", "LWatchDogs$Pack;", true)
  | 1 => ("WatchDogs$Trial", "bitesOf", "[I", true)
  | 2 => ("WatchDogs$Trial", "resetsByLimit", "[I", true)
  | 3 => ("WatchDogs$Trial", "resets", "I", false)
  | 4 => ("WatchDogs$Trial", "stuckTicks", "I", false)
  | 5 => ("WatchDogs$Trial", "barks", "I", false)
  | 6 => ("WatchDogs$Trial", "meals", "I", false)
  | _ => ("WatchDogs$Trial", "sleeper", "I", false)
def tyX3 : Nat → FieldType := fun k => match k with
  | 0 => .object "WatchDogs$Pack"
  | 1 => .array .int
  | 2 => .array .int
  | 3 => .int
  | 4 => .int
  | 5 => .int
  | 6 => .int
  | _ => .int
abbrev wsX30 : List Cond := u_ws RX3 TX3 8
theorem nmX3 : ∀ a, a < 8 → ∀ b, b < 8 → a ≠ b → (TX3 a).2.1 ≠ (TX3 b).2.1 := by decide +kernel
theorem tyX3_ok : ∀ k, k < 8 → parseFieldDescriptor (TX3 k).2.2.1 = some (tyX3 k) := by decide +kernel
abbrev cX3_init : ByteArray := prog_5_method_1_code
def yX3_init : MethodName := ⟨RX3, "<init>", "()V"⟩
abbrev cX3_begin : ByteArray := prog_5_method_2_code
def yX3_begin : MethodName := ⟨RX3, "begin", "(LWatchDogs$Pack;)V"⟩
abbrev cX3_step : ByteArray := prog_5_method_3_code
def yX3_step : MethodName := ⟨RX3, "step", "(I)Z"⟩
abbrev cX3_bitesIn : ByteArray := prog_5_method_4_code
def yX3_bitesIn : MethodName := ⟨RX3, "bitesIn", "(IZ)Z"⟩
abbrev cX3_walk : ByteArray := prog_5_method_5_code
def yX3_walk : MethodName := ⟨RX3, "walk", "(I)V"⟩
abbrev cX3_resetsBelow : ByteArray := prog_5_method_6_code
def yX3_resetsBelow : MethodName := ⟨RX3, "resetsBelow", "(II)I"⟩
abbrev cX3_resetBits : ByteArray := prog_5_method_7_code
def yX3_resetBits : MethodName := ⟨RX3, "resetBits", "()J"⟩
abbrev cX3_gatherLimits : ByteArray := prog_5_method_8_code
def yX3_gatherLimits : MethodName := ⟨RX3, "gatherLimits", "(LWatchDogs$Pack;I)I"⟩
def RX4 : String := "WatchDogs"
def TX4 : u_T := fun k => match k with
  | 0 => ("WatchDogs", "now", "LWatchDogs$Pack;", true)
  | 1 => ("WatchDogs", "trial", "LWatchDogs$Trial;", true)
  | 2 => ("WatchDogs", "tape", "LWatchDogs$Tape;", true)
  | 3 => ("WatchDogs", "sheets", "LWatchDogs$Sheets;", true)
  | 4 => ("WatchDogs", "images", "[LWatchDogs$Pack;", true)
  | 5 => ("WatchDogs", "kept", "[Z", true)
  | _ => ("WatchDogs", "torn", "I", false)
def tyX4 : Nat → FieldType := fun k => match k with
  | 0 => .object "WatchDogs$Pack"
  | 1 => .object "WatchDogs$Trial"
  | 2 => .object "WatchDogs$Tape"
  | 3 => .object "WatchDogs$Sheets"
  | 4 => .array (.object "WatchDogs$Pack")
  | 5 => .array .boolean
  | _ => .int
abbrev wsX40 : List Cond := u_ws RX4 TX4 7
theorem nmX4 : ∀ a, a < 7 → ∀ b, b < 7 → a ≠ b → (TX4 a).2.1 ≠ (TX4 b).2.1 := by decide +kernel
theorem tyX4_ok : ∀ k, k < 7 → parseFieldDescriptor (TX4 k).2.2.1 = some (tyX4 k) := by decide +kernel
abbrev cX4_init : ByteArray := prog_1_method_1_code
def yX4_init : MethodName := ⟨RX4, "<init>", "()V"⟩
abbrev cX4_feed : ByteArray := prog_1_method_2_code
def yX4_feed : MethodName := ⟨RX4, "feed", "(I)I"⟩
abbrev cX4_end : ByteArray := prog_1_method_3_code
def yX4_end : MethodName := ⟨RX4, "end", "(I)I"⟩
abbrev cX4_text : ByteArray := prog_1_method_4_code
def yX4_text : MethodName := ⟨RX4, "text", "()I"⟩
abbrev cX4_fault : ByteArray := prog_1_method_5_code
def yX4_fault : MethodName := ⟨RX4, "fault", "()I"⟩
abbrev cX4_rule : ByteArray := prog_1_method_6_code
def yX4_rule : MethodName := ⟨RX4, "rule", "(I)I"⟩
abbrev cX4_dog : ByteArray := prog_1_method_7_code
def yX4_dog : MethodName := ⟨RX4, "dog", "(II)I"⟩
abbrev cX4_sign : ByteArray := prog_1_method_8_code
def yX4_sign : MethodName := ⟨RX4, "sign", "(I)I"⟩
abbrev cX4_jam : ByteArray := prog_1_method_9_code
def yX4_jam : MethodName := ⟨RX4, "jam", "(II)I"⟩
abbrev cX4_alter : ByteArray := prog_1_method_10_code
def yX4_alter : MethodName := ⟨RX4, "alter", "(III)I"⟩
abbrev cX4_alterKind : ByteArray := prog_1_method_11_code
def yX4_alterKind : MethodName := ⟨RX4, "alterKind", "(II)I"⟩
abbrev cX4_alterLimit : ByteArray := prog_1_method_12_code
def yX4_alterLimit : MethodName := ⟨RX4, "alterLimit", "(II)I"⟩
abbrev cX4_set : ByteArray := prog_1_method_13_code
def yX4_set : MethodName := ⟨RX4, "set", "(II)I"⟩
abbrev cX4_add : ByteArray := prog_1_method_14_code
def yX4_add : MethodName := ⟨RX4, "add", "(I)I"⟩
abbrev cX4_cut : ByteArray := prog_1_method_15_code
def yX4_cut : MethodName := ⟨RX4, "cut", "(I)I"⟩
abbrev cX4_stick : ByteArray := prog_1_method_16_code
def yX4_stick : MethodName := ⟨RX4, "stick", "(II)I"⟩
abbrev cX4_clear : ByteArray := prog_1_method_17_code
def yX4_clear : MethodName := ⟨RX4, "clear", "(I)I"⟩
abbrev cX4_bone : ByteArray := prog_1_method_18_code
def yX4_bone : MethodName := ⟨RX4, "bone", "(I)I"⟩
abbrev cX4_ticks : ByteArray := prog_1_method_19_code
def yX4_ticks : MethodName := ⟨RX4, "ticks", "(I)I"⟩
abbrev cX4_runs : ByteArray := prog_1_method_20_code
def yX4_runs : MethodName := ⟨RX4, "runs", "(II)I"⟩
abbrev cX4_ahead : ByteArray := prog_1_method_21_code
def yX4_ahead : MethodName := ⟨RX4, "ahead", "(III)I"⟩
abbrev cX4_when : ByteArray := prog_1_method_22_code
def yX4_when : MethodName := ⟨RX4, "when", "()I"⟩
abbrev cX4_need : ByteArray := prog_1_method_23_code
def yX4_need : MethodName := ⟨RX4, "need", "(II)I"⟩
abbrev cX4_most : ByteArray := prog_1_method_24_code
def yX4_most : MethodName := ⟨RX4, "most", "(II)I"⟩
abbrev cX4_bitesWithin : ByteArray := prog_1_method_25_code
def yX4_bitesWithin : MethodName := ⟨RX4, "bitesWithin", "(III)Z"⟩
abbrev cX4_kind : ByteArray := prog_1_method_26_code
def yX4_kind : MethodName := ⟨RX4, "kind", "(III)I"⟩
abbrev cX4_swap : ByteArray := prog_1_method_27_code
def yX4_swap : MethodName := ⟨RX4, "swap", "(II)I"⟩
abbrev cX4_resetsSwapped : ByteArray := prog_1_method_28_code
def yX4_resetsSwapped : MethodName := ⟨RX4, "resetsSwapped", "(IIII)I"⟩
abbrev cX4_sleep : ByteArray := prog_1_method_29_code
def yX4_sleep : MethodName := ⟨RX4, "sleep", "(II)I"⟩
abbrev cX4_resetsAsItIs : ByteArray := prog_1_method_30_code
def yX4_resetsAsItIs : MethodName := ⟨RX4, "resetsAsItIs", "(I)I"⟩
abbrev cX4_luck : ByteArray := prog_1_method_31_code
def yX4_luck : MethodName := ⟨RX4, "luck", "(III)J"⟩
abbrev cX4_mean : ByteArray := prog_1_method_32_code
def yX4_mean : MethodName := ⟨RX4, "mean", "(III)J"⟩
abbrev cX4_weightOf : ByteArray := prog_1_method_33_code
def yX4_weightOf : MethodName := ⟨RX4, "weightOf", "(III)J"⟩
abbrev cX4_resetsLosing : ByteArray := prog_1_method_34_code
def yX4_resetsLosing : MethodName := ⟨RX4, "resetsLosing", "(II)I"⟩
abbrev cX4_power : ByteArray := prog_1_method_35_code
def yX4_power : MethodName := ⟨RX4, "power", "(II)J"⟩
abbrev cX4_partOfFraction : ByteArray := prog_1_method_36_code
def yX4_partOfFraction : MethodName := ⟨RX4, "partOfFraction", "(JJI)J"⟩
abbrev cX4_commonDivisor : ByteArray := prog_1_method_37_code
def yX4_commonDivisor : MethodName := ⟨RX4, "commonDivisor", "(JJ)J"⟩
abbrev cX4_see : ByteArray := prog_1_method_38_code
def yX4_see : MethodName := ⟨RX4, "see", "(II)I"⟩
abbrev cX4_forget : ByteArray := prog_1_method_39_code
def yX4_forget : MethodName := ⟨RX4, "forget", "(I)I"⟩
abbrev cX4_kinds : ByteArray := prog_1_method_40_code
def yX4_kinds : MethodName := ⟨RX4, "kinds", "(I)I"⟩
abbrev cX4_limits : ByteArray := prog_1_method_41_code
def yX4_limits : MethodName := ⟨RX4, "limits", "(I)I"⟩
abbrev cX4_resetBitsByLimit : ByteArray := prog_1_method_42_code
def yX4_resetBitsByLimit : MethodName := ⟨RX4, "resetBitsByLimit", "(II)J"⟩
abbrev cX4_ask : ByteArray := prog_1_method_43_code
def yX4_ask : MethodName := ⟨RX4, "ask", "(II)I"⟩
abbrev cX4_drift : ByteArray := prog_1_method_44_code
def yX4_drift : MethodName := ⟨RX4, "drift", "(III)I"⟩
abbrev cX4_keep : ByteArray := prog_1_method_45_code
def yX4_keep : MethodName := ⟨RX4, "keep", "(I)I"⟩
abbrev cX4_back : ByteArray := prog_1_method_46_code
def yX4_back : MethodName := ⟨RX4, "back", "(I)I"⟩
abbrev cX4_sheet : ByteArray := prog_1_method_47_code
def yX4_sheet : MethodName := ⟨RX4, "sheet", "(III)I"⟩
abbrev cX4_lay : ByteArray := prog_1_method_48_code
def yX4_lay : MethodName := ⟨RX4, "lay", "(III)I"⟩
abbrev cX4_read : ByteArray := prog_1_method_49_code
def yX4_read : MethodName := ⟨RX4, "read", "(IIII)I"⟩
abbrev cX4_torn : ByteArray := prog_1_method_50_code
def yX4_torn : MethodName := ⟨RX4, "torn", "()I"⟩
abbrev cX4_count : ByteArray := prog_1_method_51_code
def yX4_count : MethodName := ⟨RX4, "count", "(I)I"⟩
abbrev cX4_noDog : ByteArray := prog_1_method_52_code
def yX4_noDog : MethodName := ⟨RX4, "noDog", "(I)Z"⟩
abbrev cX4_noSign : ByteArray := prog_1_method_53_code
def yX4_noSign : MethodName := ⟨RX4, "noSign", "(I)Z"⟩
abbrev cX4_noSheet : ByteArray := prog_1_method_54_code
def yX4_noSheet : MethodName := ⟨RX4, "noSheet", "(I)Z"⟩
abbrev cX4_noLane : ByteArray := prog_1_method_55_code
def yX4_noLane : MethodName := ⟨RX4, "noLane", "(I)Z"⟩
abbrev cX4_outside : ByteArray := prog_1_method_56_code
def yX4_outside : MethodName := ⟨RX4, "outside", "(III)Z"⟩
def RX5 : String := "WatchDogsModel"
def TX5 : u_T := fun k => match k with
  | 0 => ("WatchDogsModel", "st", "[I", true)
  | 1 => ("WatchDogsModel", "now", "[I", true)
  | 2 => ("WatchDogsModel", "isKept", "[Z", true)
  | 3 => ("WatchDogsModel", "draft", "[I", true)
  | 4 => ("WatchDogsModel", "hasSigns", "Z", false)
  | 5 => ("WatchDogsModel", "tape", "[I", true)
  | 6 => ("WatchDogsModel", "taped", "I", false)
  | 7 => ("WatchDogsModel", "pos", "I", false)
  | 8 => ("WatchDogsModel", "begun", "I", false)
  | 9 => ("WatchDogsModel", "sort", "I", false)
  | 10 => ("WatchDogsModel", "value", "I", false)
  | 11 => ("WatchDogsModel", "fault", "I", false)
  | 12 => ("WatchDogsModel", "wrongAt", "I", false)
  | 13 => ("WatchDogsModel", "asleep", "I", false)
  | 14 => ("WatchDogsModel", "resetMany", "I", false)
  | 15 => ("WatchDogsModel", "stuckMany", "I", false)
  | 16 => ("WatchDogsModel", "barkMany", "I", false)
  | 17 => ("WatchDogsModel", "fedMany", "I", false)
  | 18 => ("WatchDogsModel", "isReset", "Z", false)
  | 19 => ("WatchDogsModel", "bitten", "[I", true)
  | 20 => ("WatchDogsModel", "bestCode", "I", false)
  | 21 => ("WatchDogsModel", "bestMuch", "I", false)
  | 22 => ("WatchDogsModel", "quietSum", "J", false)
  | 23 => ("WatchDogsModel", "resetSum", "J", false)
  | 24 => ("WatchDogsModel", "allWays", "J", false)
  | 25 => ("WatchDogsModel", "anew", "[I", true)
  | 26 => ("WatchDogsModel", "anewBy", "[I", true)
  | 27 => ("WatchDogsModel", "lanes", "[I", true)
  | 28 => ("WatchDogsModel", "sizes", "[I", true)
  | 29 => ("WatchDogsModel", "cells", "[I", true)
  | 30 => ("WatchDogsModel", "torn", "I", false)
  | _ => ("WatchDogsModel", "before", "[I", true)
def tyX5 : Nat → FieldType := fun k => match k with
  | 0 => .array .int
  | 1 => .array .int
  | 2 => .array .boolean
  | 3 => .array .int
  | 4 => .boolean
  | 5 => .array .int
  | 6 => .int
  | 7 => .int
  | 8 => .int
  | 9 => .int
  | 10 => .int
  | 11 => .int
  | 12 => .int
  | 13 => .int
  | 14 => .int
  | 15 => .int
  | 16 => .int
  | 17 => .int
  | 18 => .boolean
  | 19 => .array .int
  | 20 => .int
  | 21 => .int
  | 22 => .long
  | 23 => .long
  | 24 => .long
  | 25 => .array .int
  | 26 => .array .int
  | 27 => .array .int
  | 28 => .array .int
  | 29 => .array .int
  | 30 => .int
  | _ => .array .int
abbrev wsX50 : List Cond := u_ws RX5 TX5 32
theorem nmX5 : ∀ a, a < 32 → ∀ b, b < 32 → a ≠ b → (TX5 a).2.1 ≠ (TX5 b).2.1 := by decide +kernel
theorem tyX5_ok : ∀ k, k < 32 → parseFieldDescriptor (TX5 k).2.2.1 = some (tyX5 k) := by decide +kernel
abbrev cX5_init : ByteArray := prog_7_method_1_code
def yX5_init : MethodName := ⟨RX5, "<init>", "()V"⟩
abbrev cX5_in : ByteArray := prog_7_method_3_code
def yX5_in : MethodName := ⟨RX5, "in", "(JJJ)Z"⟩
abbrev cX5_flag : ByteArray := prog_7_method_4_code
def yX5_flag : MethodName := ⟨RX5, "flag", "(Z)I"⟩
abbrev cX5_firstDraft : ByteArray := prog_7_method_5_code
def yX5_firstDraft : MethodName := ⟨RX5, "firstDraft", "()V"⟩
abbrev cX5_keepDraft : ByteArray := prog_7_method_6_code
def yX5_keepDraft : MethodName := ⟨RX5, "keepDraft", "()V"⟩
abbrev cX5_feed : ByteArray := prog_7_method_7_code
def yX5_feed : MethodName := ⟨RX5, "feed", "(I)I"⟩
abbrev cX5_end : ByteArray := prog_7_method_8_code
def yX5_end : MethodName := ⟨RX5, "end", "(I)I"⟩
abbrev cX5_requires : ByteArray := prog_7_method_9_code
def yX5_requires : MethodName := ⟨RX5, "requires", "(ZI)V"⟩
abbrev cX5_byteAt : ByteArray := prog_7_method_10_code
def yX5_byteAt : MethodName := ⟨RX5, "byteAt", "(I)I"⟩
abbrev cX5_is : ByteArray := prog_7_method_11_code
def yX5_is : MethodName := ⟨RX5, "is", "(IIII)Z"⟩
abbrev cX5_endsIn : ByteArray := prog_7_method_12_code
def yX5_endsIn : MethodName := ⟨RX5, "endsIn", "(III)Z"⟩
abbrev cX5_lineNow : ByteArray := prog_7_method_13_code
def yX5_lineNow : MethodName := ⟨RX5, "lineNow", "()I"⟩
abbrev cX5_reads : ByteArray := prog_7_method_14_code
def yX5_reads : MethodName := ⟨RX5, "reads", "()V"⟩
abbrev cX5_readNumber : ByteArray := prog_7_method_15_code
def yX5_readNumber : MethodName := ⟨RX5, "readNumber", "(II)I"⟩
abbrev cX5_readSigns : ByteArray := prog_7_method_16_code
def yX5_readSigns : MethodName := ⟨RX5, "readSigns", "()V"⟩
abbrev cX5_readLineOf : ByteArray := prog_7_method_17_code
def yX5_readLineOf : MethodName := ⟨RX5, "readLineOf", "(I)V"⟩
abbrev cX5_readLine : ByteArray := prog_7_method_18_code
def yX5_readLine : MethodName := ⟨RX5, "readLine", "()V"⟩
abbrev cX5_text : ByteArray := prog_7_method_19_code
def yX5_text : MethodName := ⟨RX5, "text", "()I"⟩
abbrev cX5_fault : ByteArray := prog_7_method_20_code
def yX5_fault : MethodName := ⟨RX5, "fault", "()I"⟩
abbrev cX5_isDog : ByteArray := prog_7_method_21_code
def yX5_isDog : MethodName := ⟨RX5, "isDog", "(I)Z"⟩
abbrev cX5_isSign : ByteArray := prog_7_method_22_code
def yX5_isSign : MethodName := ⟨RX5, "isSign", "(I)Z"⟩
abbrev cX5_isPart : ByteArray := prog_7_method_23_code
def yX5_isPart : MethodName := ⟨RX5, "isPart", "(I)Z"⟩
abbrev cX5_starts : ByteArray := prog_7_method_24_code
def yX5_starts : MethodName := ⟨RX5, "starts", "()V"⟩
abbrev cX5_settles : ByteArray := prog_7_method_25_code
def yX5_settles : MethodName := ⟨RX5, "settles", "()V"⟩
abbrev cX5_of : ByteArray := prog_7_method_26_code
def yX5_of : MethodName := ⟨RX5, "of", "(II)I"⟩
abbrev cX5_becomesOf : ByteArray := prog_7_method_27_code
def yX5_becomesOf : MethodName := ⟨RX5, "becomesOf", "(III)V"⟩
abbrev cX5_isStuck : ByteArray := prog_7_method_28_code
def yX5_isStuck : MethodName := ⟨RX5, "isStuck", "()Z"⟩
abbrev cX5_bitesFed : ByteArray := prog_7_method_29_code
def yX5_bitesFed : MethodName := ⟨RX5, "bitesFed", "(I)Z"⟩
abbrev cX5_bitesLate : ByteArray := prog_7_method_30_code
def yX5_bitesLate : MethodName := ⟨RX5, "bitesLate", "(I)Z"⟩
abbrev cX5_bitesUnfed : ByteArray := prog_7_method_31_code
def yX5_bitesUnfed : MethodName := ⟨RX5, "bitesUnfed", "(I)Z"⟩
abbrev cX5_resets : ByteArray := prog_7_method_32_code
def yX5_resets : MethodName := ⟨RX5, "resets", "(II)V"⟩
abbrev cX5_dogsGo : ByteArray := prog_7_method_33_code
def yX5_dogsGo : MethodName := ⟨RX5, "dogsGo", "(I)V"⟩
abbrev cX5_tickGoes : ByteArray := prog_7_method_34_code
def yX5_tickGoes : MethodName := ⟨RX5, "tickGoes", "(Z)V"⟩
abbrev cX5_ticksGo : ByteArray := prog_7_method_35_code
def yX5_ticksGo : MethodName := ⟨RX5, "ticksGo", "(I)V"⟩
abbrev cX5_resetsIn : ByteArray := prog_7_method_36_code
def yX5_resetsIn : MethodName := ⟨RX5, "resetsIn", "(I)I"⟩
abbrev cX5_rule : ByteArray := prog_7_method_37_code
def yX5_rule : MethodName := ⟨RX5, "rule", "(I)I"⟩
abbrev cX5_dog : ByteArray := prog_7_method_38_code
def yX5_dog : MethodName := ⟨RX5, "dog", "(II)I"⟩
abbrev cX5_sign : ByteArray := prog_7_method_39_code
def yX5_sign : MethodName := ⟨RX5, "sign", "(I)I"⟩
abbrev cX5_jam : ByteArray := prog_7_method_40_code
def yX5_jam : MethodName := ⟨RX5, "jam", "(II)I"⟩
abbrev cX5_becomes : ByteArray := prog_7_method_41_code
def yX5_becomes : MethodName := ⟨RX5, "becomes", "(II)I"⟩
abbrev cX5_alter : ByteArray := prog_7_method_42_code
def yX5_alter : MethodName := ⟨RX5, "alter", "(III)I"⟩
abbrev cX5_set : ByteArray := prog_7_method_43_code
def yX5_set : MethodName := ⟨RX5, "set", "(II)I"⟩
abbrev cX5_add : ByteArray := prog_7_method_44_code
def yX5_add : MethodName := ⟨RX5, "add", "(I)I"⟩
abbrev cX5_cut : ByteArray := prog_7_method_45_code
def yX5_cut : MethodName := ⟨RX5, "cut", "(I)I"⟩
abbrev cX5_stick : ByteArray := prog_7_method_46_code
def yX5_stick : MethodName := ⟨RX5, "stick", "(II)I"⟩
abbrev cX5_clear : ByteArray := prog_7_method_47_code
def yX5_clear : MethodName := ⟨RX5, "clear", "(I)I"⟩
abbrev cX5_bone : ByteArray := prog_7_method_48_code
def yX5_bone : MethodName := ⟨RX5, "bone", "(I)I"⟩
abbrev cX5_ticks : ByteArray := prog_7_method_49_code
def yX5_ticks : MethodName := ⟨RX5, "ticks", "(I)I"⟩
abbrev cX5_isFar : ByteArray := prog_7_method_50_code
def yX5_isFar : MethodName := ⟨RX5, "isFar", "(I)Z"⟩
abbrev cX5_runs : ByteArray := prog_7_method_51_code
def yX5_runs : MethodName := ⟨RX5, "runs", "(II)I"⟩
abbrev cX5_ahead : ByteArray := prog_7_method_52_code
def yX5_ahead : MethodName := ⟨RX5, "ahead", "(III)I"⟩
abbrev cX5_when : ByteArray := prog_7_method_53_code
def yX5_when : MethodName := ⟨RX5, "when", "()I"⟩
abbrev cX5_bitesBy : ByteArray := prog_7_method_54_code
def yX5_bitesBy : MethodName := ⟨RX5, "bitesBy", "(III)Z"⟩
abbrev cX5_need : ByteArray := prog_7_method_55_code
def yX5_need : MethodName := ⟨RX5, "need", "(II)I"⟩
abbrev cX5_most : ByteArray := prog_7_method_56_code
def yX5_most : MethodName := ⟨RX5, "most", "(II)I"⟩
abbrev cX5_startsJudging : ByteArray := prog_7_method_57_code
def yX5_startsJudging : MethodName := ⟨RX5, "startsJudging", "(I)V"⟩
abbrev cX5_judges : ByteArray := prog_7_method_58_code
def yX5_judges : MethodName := ⟨RX5, "judges", "(II)V"⟩
abbrev cX5_judged : ByteArray := prog_7_method_59_code
def yX5_judged : MethodName := ⟨RX5, "judged", "(I)I"⟩
abbrev cX5_kind : ByteArray := prog_7_method_60_code
def yX5_kind : MethodName := ⟨RX5, "kind", "(III)I"⟩
abbrev cX5_swap : ByteArray := prog_7_method_61_code
def yX5_swap : MethodName := ⟨RX5, "swap", "(II)I"⟩
abbrev cX5_sleep : ByteArray := prog_7_method_62_code
def yX5_sleep : MethodName := ⟨RX5, "sleep", "(II)I"⟩
abbrev cX5_common : ByteArray := prog_7_method_63_code
def yX5_common : MethodName := ⟨RX5, "common", "(JJ)J"⟩
abbrev cX5_lowest : ByteArray := prog_7_method_64_code
def yX5_lowest : MethodName := ⟨RX5, "lowest", "(JJI)J"⟩
abbrev cX5_findOdds : ByteArray := prog_7_method_65_code
def yX5_findOdds : MethodName := ⟨RX5, "findOdds", "(II)V"⟩
abbrev cX5_luck : ByteArray := prog_7_method_66_code
def yX5_luck : MethodName := ⟨RX5, "luck", "(III)J"⟩
abbrev cX5_mean : ByteArray := prog_7_method_67_code
def yX5_mean : MethodName := ⟨RX5, "mean", "(III)J"⟩
abbrev cX5_see : ByteArray := prog_7_method_68_code
def yX5_see : MethodName := ⟨RX5, "see", "(II)I"⟩
abbrev cX5_forget : ByteArray := prog_7_method_69_code
def yX5_forget : MethodName := ⟨RX5, "forget", "(I)I"⟩
abbrev cX5_isSoWith : ByteArray := prog_7_method_70_code
def yX5_isSoWith : MethodName := ⟨RX5, "isSoWith", "(III)Z"⟩
abbrev cX5_which : ByteArray := prog_7_method_71_code
def yX5_which : MethodName := ⟨RX5, "which", "(IIII)I"⟩
abbrev cX5_kinds : ByteArray := prog_7_method_72_code
def yX5_kinds : MethodName := ⟨RX5, "kinds", "(I)I"⟩
abbrev cX5_limits : ByteArray := prog_7_method_73_code
def yX5_limits : MethodName := ⟨RX5, "limits", "(I)I"⟩
abbrev cX5_ask : ByteArray := prog_7_method_74_code
def yX5_ask : MethodName := ⟨RX5, "ask", "(II)I"⟩
abbrev cX5_drift : ByteArray := prog_7_method_75_code
def yX5_drift : MethodName := ⟨RX5, "drift", "(III)I"⟩
abbrev cX5_copies : ByteArray := prog_7_method_76_code
def yX5_copies : MethodName := ⟨RX5, "copies", "(II)V"⟩
abbrev cX5_keep : ByteArray := prog_7_method_77_code
def yX5_keep : MethodName := ⟨RX5, "keep", "(I)I"⟩
abbrev cX5_back : ByteArray := prog_7_method_78_code
def yX5_back : MethodName := ⟨RX5, "back", "(I)I"⟩
abbrev cX5_isSheet : ByteArray := prog_7_method_79_code
def yX5_isSheet : MethodName := ⟨RX5, "isSheet", "(II)Z"⟩
abbrev cX5_sheet : ByteArray := prog_7_method_80_code
def yX5_sheet : MethodName := ⟨RX5, "sheet", "(III)I"⟩
abbrev cX5_lay : ByteArray := prog_7_method_81_code
def yX5_lay : MethodName := ⟨RX5, "lay", "(III)I"⟩
abbrev cX5_read : ByteArray := prog_7_method_82_code
def yX5_read : MethodName := ⟨RX5, "read", "(IIII)I"⟩
abbrev cX5_torn : ByteArray := prog_7_method_83_code
def yX5_torn : MethodName := ⟨RX5, "torn", "()I"⟩
abbrev cX5_count : ByteArray := prog_7_method_84_code
def yX5_count : MethodName := ⟨RX5, "count", "(I)I"⟩
def RJx145de : String := "java/io/Serializable"
def TJx145de : u_T := fun k => match k with
  | _ => ("", "", "", false)
def tyJx145de : Nat → FieldType := fun k => match k with
  | _ => .int
abbrev wsJx145de0 : List Cond := u_ws RJx145de TJx145de 0
theorem nmJx145de : ∀ a, a < 0 → ∀ b, b < 0 → a ≠ b → (TJx145de a).2.1 ≠ (TJx145de b).2.1 := by decide +kernel
theorem tyJx145de_ok : ∀ k, k < 0 → parseFieldDescriptor (TJx145de k).2.2.1 = some (tyJx145de k) := by decide +kernel
def RJx9f9b0 : String := "java/lang/CharSequence"
def TJx9f9b0 : u_T := fun k => match k with
  | _ => ("", "", "", false)
def tyJx9f9b0 : Nat → FieldType := fun k => match k with
  | _ => .int
abbrev wsJx9f9b00 : List Cond := u_ws RJx9f9b0 TJx9f9b0 0
theorem nmJx9f9b0 : ∀ a, a < 0 → ∀ b, b < 0 → a ≠ b → (TJx9f9b0 a).2.1 ≠ (TJx9f9b0 b).2.1 := by decide +kernel
theorem tyJx9f9b0_ok : ∀ k, k < 0 → parseFieldDescriptor (TJx9f9b0 k).2.2.1 = some (tyJx9f9b0 k) := by decide +kernel
def RJxb160c : String := "java/lang/Comparable"
def TJxb160c : u_T := fun k => match k with
  | _ => ("", "", "", false)
def tyJxb160c : Nat → FieldType := fun k => match k with
  | _ => .int
abbrev wsJxb160c0 : List Cond := u_ws RJxb160c TJxb160c 0
theorem nmJxb160c : ∀ a, a < 0 → ∀ b, b < 0 → a ≠ b → (TJxb160c a).2.1 ≠ (TJxb160c b).2.1 := by decide +kernel
theorem tyJxb160c_ok : ∀ k, k < 0 → parseFieldDescriptor (TJxb160c k).2.2.1 = some (tyJxb160c k) := by decide +kernel
def RJ6 : String := "java/lang/Integer"
def TJ6 : u_T := fun k => match k with
  | _ => ("", "", "", false)
def tyJ6 : Nat → FieldType := fun k => match k with
  | _ => .int
abbrev wsJ60 : List Cond := u_ws RJ6 TJ6 0
theorem nmJ6 : ∀ a, a < 0 → ∀ b, b < 0 → a ≠ b → (TJ6 a).2.1 ≠ (TJ6 b).2.1 := by decide +kernel
theorem tyJ6_ok : ∀ k, k < 0 → parseFieldDescriptor (TJ6 k).2.2.1 = some (tyJ6 k) := by decide +kernel
abbrev cJ6_bitCount_0f7a4 : ByteArray := prog_8_method_49_code
def yJ6_bitCount_0f7a4 : MethodName := ⟨RJ6, "bitCount", "(I)I"⟩
def RJ9 : String := "java/lang/Math"
def TJ9 : u_T := fun k => match k with
  | _ => ("", "", "", false)
def tyJ9 : Nat → FieldType := fun k => match k with
  | _ => .int
abbrev wsJ90 : List Cond := u_ws RJ9 TJ9 0
theorem nmJ9 : ∀ a, a < 0 → ∀ b, b < 0 → a ≠ b → (TJ9 a).2.1 ≠ (TJ9 b).2.1 := by decide +kernel
theorem tyJ9_ok : ∀ k, k < 0 → parseFieldDescriptor (TJ9 k).2.2.1 = some (tyJ9 k) := by decide +kernel
abbrev cJ9_max_7cf53 : ByteArray := prog_9_method_65_code
def yJ9_max_7cf53 : MethodName := ⟨RJ9, "max", "(II)I"⟩
abbrev cJ9_min_7cf53 : ByteArray := prog_9_method_69_code
def yJ9_min_7cf53 : MethodName := ⟨RJ9, "min", "(II)I"⟩
def RJ0 : String := "java/lang/String"
def TJ0 : u_T := fun k => match k with
  | _ => ("", "", "", false)
def tyJ0 : Nat → FieldType := fun k => match k with
  | _ => .int
abbrev wsJ00 : List Cond := u_ws RJ0 TJ0 0
theorem nmJ0 : ∀ a, a < 0 → ∀ b, b < 0 → a ≠ b → (TJ0 a).2.1 ≠ (TJ0 b).2.1 := by decide +kernel
theorem tyJ0_ok : ∀ k, k < 0 → parseFieldDescriptor (TJ0 k).2.2.1 = some (tyJ0 k) := by decide +kernel
abbrev cJ0_length_8abf5 : ByteArray := prog_10_method_54_code
def yJ0_length_8abf5 : MethodName := ⟨RJ0, "length", "()I"⟩
abbrev cJ0_charAt_5068e : ByteArray := prog_10_method_56_code
def yJ0_charAt_5068e : MethodName := ⟨RJ0, "charAt", "(I)C"⟩
abbrev cJ0_coder_7d493 : ByteArray := prog_10_method_152_code
def yJ0_coder_7d493 : MethodName := ⟨RJ0, "coder", "()B"⟩
abbrev cJ0_isLatin1_aae02 : ByteArray := prog_10_method_154_code
def yJ0_isLatin1_aae02 : MethodName := ⟨RJ0, "isLatin1", "()Z"⟩
abbrev cJ0_checkIndex_df160 : ByteArray := prog_10_method_155_code
def yJ0_checkIndex_df160 : MethodName := ⟨RJ0, "checkIndex", "(II)V"⟩
def RJ1 : String := "java/lang/StringLatin1"
def TJ1 : u_T := fun k => match k with
  | _ => ("", "", "", false)
def tyJ1 : Nat → FieldType := fun k => match k with
  | _ => .int
abbrev wsJ10 : List Cond := u_ws RJ1 TJ1 0
theorem nmJ1 : ∀ a, a < 0 → ∀ b, b < 0 → a ≠ b → (TJ1 a).2.1 ≠ (TJ1 b).2.1 := by decide +kernel
theorem tyJ1_ok : ∀ k, k < 0 → parseFieldDescriptor (TJ1 k).2.2.1 = some (tyJ1 k) := by decide +kernel
abbrev cJ1_charAt_3b067 : ByteArray := prog_11_method_2_code
def yJ1_charAt_3b067 : MethodName := ⟨RJ1, "charAt", "([BI)C"⟩
def RJ2 : String := "java/lang/StringUTF16"
def TJ2 : u_T := fun k => match k with
  | _ => ("", "", "", false)
def tyJ2 : Nat → FieldType := fun k => match k with
  | _ => .int
abbrev wsJ20 : List Cond := u_ws RJ2 TJ2 0
theorem nmJ2 : ∀ a, a < 0 → ∀ b, b < 0 → a ≠ b → (TJ2 a).2.1 ≠ (TJ2 b).2.1 := by decide +kernel
theorem tyJ2_ok : ∀ k, k < 0 → parseFieldDescriptor (TJ2 k).2.2.1 = some (tyJ2 k) := by decide +kernel
abbrev cJ2_getChar_3b067 : ByteArray := prog_12_method_5_code
def yJ2_getChar_3b067 : MethodName := ⟨RJ2, "getChar", "([BI)C"⟩
abbrev cJ2_length_9d52b : ByteArray := prog_12_method_6_code
def yJ2_length_9d52b : MethodName := ⟨RJ2, "length", "([B)I"⟩
abbrev cJ2_charAt_3b067 : ByteArray := prog_12_method_83_code
def yJ2_charAt_3b067 : MethodName := ⟨RJ2, "charAt", "([BI)C"⟩
abbrev cJ2_checkIndex_2214a : ByteArray := prog_12_method_91_code
def yJ2_checkIndex_2214a : MethodName := ⟨RJ2, "checkIndex", "(I[B)V"⟩
def RJ10 : String := "java/lang/System"
def TJ10 : u_T := fun k => match k with
  | _ => ("", "", "", false)
def tyJ10 : Nat → FieldType := fun k => match k with
  | _ => .int
abbrev wsJ100 : List Cond := u_ws RJ10 TJ10 0
theorem nmJ10 : ∀ a, a < 0 → ∀ b, b < 0 → a ≠ b → (TJ10 a).2.1 ≠ (TJ10 b).2.1 := by decide +kernel
theorem tyJ10_ok : ∀ k, k < 0 → parseFieldDescriptor (TJ10 k).2.2.1 = some (tyJ10 k) := by decide +kernel
def RJxfd54e : String := "java/lang/constant/Constable"
def TJxfd54e : u_T := fun k => match k with
  | _ => ("", "", "", false)
def tyJxfd54e : Nat → FieldType := fun k => match k with
  | _ => .int
abbrev wsJxfd54e0 : List Cond := u_ws RJxfd54e TJxfd54e 0
theorem nmJxfd54e : ∀ a, a < 0 → ∀ b, b < 0 → a ≠ b → (TJxfd54e a).2.1 ≠ (TJxfd54e b).2.1 := by decide +kernel
theorem tyJxfd54e_ok : ∀ k, k < 0 → parseFieldDescriptor (TJxfd54e k).2.2.1 = some (tyJxfd54e k) := by decide +kernel
def RJx3cf43 : String := "java/lang/constant/ConstantDesc"
def TJx3cf43 : u_T := fun k => match k with
  | _ => ("", "", "", false)
def tyJx3cf43 : Nat → FieldType := fun k => match k with
  | _ => .int
abbrev wsJx3cf430 : List Cond := u_ws RJx3cf43 TJx3cf43 0
theorem nmJx3cf43 : ∀ a, a < 0 → ∀ b, b < 0 → a ≠ b → (TJx3cf43 a).2.1 ≠ (TJx3cf43 b).2.1 := by decide +kernel
theorem tyJx3cf43_ok : ∀ k, k < 0 → parseFieldDescriptor (TJx3cf43 k).2.2.1 = some (tyJx3cf43 k) := by decide +kernel
def RJ7 : String := "java/util/Arrays"
def TJ7 : u_T := fun k => match k with
  | _ => ("", "", "", false)
def tyJ7 : Nat → FieldType := fun k => match k with
  | _ => .int
abbrev wsJ70 : List Cond := u_ws RJ7 TJ7 0
theorem nmJ7 : ∀ a, a < 0 → ∀ b, b < 0 → a ≠ b → (TJ7 a).2.1 ≠ (TJ7 b).2.1 := by decide +kernel
theorem tyJ7_ok : ∀ k, k < 0 → parseFieldDescriptor (TJ7 k).2.2.1 = some (tyJ7 k) := by decide +kernel
abbrev cJ7_fill_53178 : ByteArray := prog_14_method_103_code
def yJ7_fill_53178 : MethodName := ⟨RJ7, "fill", "([II)V"⟩
def RJ3 : String := "jdk/internal/util/Preconditions"
def TJ3 : u_T := fun k => match k with
  | _ => ("", "", "", false)
def tyJ3 : Nat → FieldType := fun k => match k with
  | _ => .int
abbrev wsJ30 : List Cond := u_ws RJ3 TJ3 0
theorem nmJ3 : ∀ a, a < 0 → ∀ b, b < 0 → a ≠ b → (TJ3 a).2.1 ≠ (TJ3 b).2.1 := by decide +kernel
theorem tyJ3_ok : ∀ k, k < 0 → parseFieldDescriptor (TJ3 k).2.2.1 = some (tyJ3 k) := by decide +kernel
abbrev cJ3_checkIndex_8e157 : ByteArray := prog_15_method_11_code
def yJ3_checkIndex_8e157 : MethodName := ⟨RJ3, "checkIndex", "(IILjava/util/function/BiFunction;)I"⟩
def RL : String := "WatchDogsLaw"
abbrev cL_law : ByteArray := code
def yL_law : MethodName := ⟨RL, "law", "([I)Z"⟩
abbrev vwCl : List vw_C := [(RX0, TX0, 18), (RX1, TX1, 3), (RX2, TX2, 10), (RX3, TX3, 8), (RX4, TX4, 7), (RX5, TX5, 32)]
end
