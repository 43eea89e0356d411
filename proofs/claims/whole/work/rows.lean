section
-- ===== PART A: goes FIRST, ahead of the names: the tables' words, and 'selects' of the private methods out of them =====
/-- a private method of a class that the tables say can be made, by its rows of tables_1 -/
def lw_okq (q : MethodName × Nat) : Prop := (q.1.cls ≠ "java/lang/invoke/MethodHandle" ∧ q.1.cls ≠ "java/lang/invoke/VarHandle") ∧ Cond.instantiable q.1.cls q.2 ∈ tables_1 ∧ Cond.privateMethod q.1 ∈ tables_1 ∧ Cond.instanceMethod q.1 ∈ tables_1
theorem lw_p0 : lw_okq (⟨"WatchDogs$Tape", "readToken", "()V"⟩, 10) := ⟨⟨by decide +kernel, by decide +kernel⟩, List.mem_of_getElem? (i := 150) (by decide +kernel), List.mem_of_getElem? (i := 267) (by decide +kernel), List.mem_of_getElem? (i := 268) (by decide +kernel)⟩
theorem lw_p1 : lw_okq (⟨"WatchDogs$Tape", "readName", "()V"⟩, 10) := ⟨⟨by decide +kernel, by decide +kernel⟩, List.mem_of_getElem? (i := 150) (by decide +kernel), List.mem_of_getElem? (i := 274) (by decide +kernel), List.mem_of_getElem? (i := 275) (by decide +kernel)⟩
theorem lw_p2 : lw_okq (⟨"WatchDogs$Tape", "readNumber", "()V"⟩, 10) := ⟨⟨by decide +kernel, by decide +kernel⟩, List.mem_of_getElem? (i := 150) (by decide +kernel), List.mem_of_getElem? (i := 281) (by decide +kernel), List.mem_of_getElem? (i := 282) (by decide +kernel)⟩
theorem lw_p3 : lw_okq (⟨"WatchDogs$Tape", "refuse", "(I)V"⟩, 10) := ⟨⟨by decide +kernel, by decide +kernel⟩, List.mem_of_getElem? (i := 150) (by decide +kernel), List.mem_of_getElem? (i := 285) (by decide +kernel), List.mem_of_getElem? (i := 286) (by decide +kernel)⟩
theorem lw_p4 : lw_okq (⟨"WatchDogs$Tape", "isName", "(Ljava/lang/String;)Z"⟩, 10) := ⟨⟨by decide +kernel, by decide +kernel⟩, List.mem_of_getElem? (i := 150) (by decide +kernel), List.mem_of_getElem? (i := 298) (by decide +kernel), List.mem_of_getElem? (i := 299) (by decide +kernel)⟩
theorem lw_p5 : lw_okq (⟨"WatchDogs$Tape", "readDog", "(I)V"⟩, 10) := ⟨⟨by decide +kernel, by decide +kernel⟩, List.mem_of_getElem? (i := 150) (by decide +kernel), List.mem_of_getElem? (i := 350) (by decide +kernel), List.mem_of_getElem? (i := 351) (by decide +kernel)⟩
theorem lw_p6 : lw_okq (⟨"WatchDogs$Tape", "takeNumber", "(II)I"⟩, 10) := ⟨⟨by decide +kernel, by decide +kernel⟩, List.mem_of_getElem? (i := 150) (by decide +kernel), List.mem_of_getElem? (i := 354) (by decide +kernel), List.mem_of_getElem? (i := 355) (by decide +kernel)⟩
theorem lw_p7 : lw_okq (⟨"WatchDogs$Tape", "readSigns", "()V"⟩, 10) := ⟨⟨by decide +kernel, by decide +kernel⟩, List.mem_of_getElem? (i := 150) (by decide +kernel), List.mem_of_getElem? (i := 367) (by decide +kernel), List.mem_of_getElem? (i := 368) (by decide +kernel)⟩
theorem lw_p8 : lw_okq (⟨"WatchDogs$Tape", "readJam", "()V"⟩, 10) := ⟨⟨by decide +kernel, by decide +kernel⟩, List.mem_of_getElem? (i := 150) (by decide +kernel), List.mem_of_getElem? (i := 376) (by decide +kernel), List.mem_of_getElem? (i := 377) (by decide +kernel)⟩
theorem lw_p9 : lw_okq (⟨"WatchDogs$Tape", "takeSemicolon", "()V"⟩, 10) := ⟨⟨by decide +kernel, by decide +kernel⟩, List.mem_of_getElem? (i := 150) (by decide +kernel), List.mem_of_getElem? (i := 384) (by decide +kernel), List.mem_of_getElem? (i := 385) (by decide +kernel)⟩
theorem lw_p10 : lw_okq (⟨"WatchDogs", "noDog", "(I)Z"⟩, 7) := ⟨⟨by decide +kernel, by decide +kernel⟩, List.mem_of_getElem? (i := 16) (by decide +kernel), List.mem_of_getElem? (i := 411) (by decide +kernel), List.mem_of_getElem? (i := 412) (by decide +kernel)⟩
theorem lw_p11 : lw_okq (⟨"WatchDogs", "noSign", "(I)Z"⟩, 7) := ⟨⟨by decide +kernel, by decide +kernel⟩, List.mem_of_getElem? (i := 16) (by decide +kernel), List.mem_of_getElem? (i := 419) (by decide +kernel), List.mem_of_getElem? (i := 420) (by decide +kernel)⟩
theorem lw_p12 : lw_okq (⟨"WatchDogs", "alterKind", "(II)I"⟩, 7) := ⟨⟨by decide +kernel, by decide +kernel⟩, List.mem_of_getElem? (i := 16) (by decide +kernel), List.mem_of_getElem? (i := 431) (by decide +kernel), List.mem_of_getElem? (i := 432) (by decide +kernel)⟩
theorem lw_p13 : lw_okq (⟨"WatchDogs", "alterLimit", "(II)I"⟩, 7) := ⟨⟨by decide +kernel, by decide +kernel⟩, List.mem_of_getElem? (i := 16) (by decide +kernel), List.mem_of_getElem? (i := 435) (by decide +kernel), List.mem_of_getElem? (i := 436) (by decide +kernel)⟩
theorem lw_p14 : lw_okq (⟨"WatchDogs$Trial", "bitesIn", "(IZ)Z"⟩, 8) := ⟨⟨by decide +kernel, by decide +kernel⟩, List.mem_of_getElem? (i := 109) (by decide +kernel), List.mem_of_getElem? (i := 501) (by decide +kernel), List.mem_of_getElem? (i := 502) (by decide +kernel)⟩
theorem lw_p15 : lw_okq (⟨"WatchDogs", "bitesWithin", "(III)Z"⟩, 7) := ⟨⟨by decide +kernel, by decide +kernel⟩, List.mem_of_getElem? (i := 16) (by decide +kernel), List.mem_of_getElem? (i := 529) (by decide +kernel), List.mem_of_getElem? (i := 530) (by decide +kernel)⟩
def lw_privs_1 : List (MethodName × Nat) := [(⟨"WatchDogs$Tape", "readToken", "()V"⟩, 10), (⟨"WatchDogs$Tape", "readName", "()V"⟩, 10), (⟨"WatchDogs$Tape", "readNumber", "()V"⟩, 10), (⟨"WatchDogs$Tape", "refuse", "(I)V"⟩, 10), (⟨"WatchDogs$Tape", "isName", "(Ljava/lang/String;)Z"⟩, 10), (⟨"WatchDogs$Tape", "readDog", "(I)V"⟩, 10), (⟨"WatchDogs$Tape", "takeNumber", "(II)I"⟩, 10), (⟨"WatchDogs$Tape", "readSigns", "()V"⟩, 10), (⟨"WatchDogs$Tape", "readJam", "()V"⟩, 10), (⟨"WatchDogs$Tape", "takeSemicolon", "()V"⟩, 10), (⟨"WatchDogs", "noDog", "(I)Z"⟩, 7), (⟨"WatchDogs", "noSign", "(I)Z"⟩, 7), (⟨"WatchDogs", "alterKind", "(II)I"⟩, 7), (⟨"WatchDogs", "alterLimit", "(II)I"⟩, 7), (⟨"WatchDogs$Trial", "bitesIn", "(IZ)Z"⟩, 8), (⟨"WatchDogs", "bitesWithin", "(III)Z"⟩, 7)]
theorem lw_r1 : ∀ q ∈ lw_privs_1, lw_okq q := List.forall_mem_cons.mpr ⟨lw_p0, List.forall_mem_cons.mpr ⟨lw_p1, List.forall_mem_cons.mpr ⟨lw_p2, List.forall_mem_cons.mpr ⟨lw_p3, List.forall_mem_cons.mpr ⟨lw_p4, List.forall_mem_cons.mpr ⟨lw_p5, List.forall_mem_cons.mpr ⟨lw_p6, List.forall_mem_cons.mpr ⟨lw_p7, List.forall_mem_cons.mpr ⟨lw_p8, List.forall_mem_cons.mpr ⟨lw_p9, List.forall_mem_cons.mpr ⟨lw_p10, List.forall_mem_cons.mpr ⟨lw_p11, List.forall_mem_cons.mpr ⟨lw_p12, List.forall_mem_cons.mpr ⟨lw_p13, List.forall_mem_cons.mpr ⟨lw_p14, List.forall_mem_cons.mpr ⟨lw_p15, fun _ h => absurd h List.not_mem_nil⟩⟩⟩⟩⟩⟩⟩⟩⟩⟩⟩⟩⟩⟩⟩⟩
theorem lw_p16 : lw_okq (⟨"WatchDogs", "resetsAsItIs", "(I)I"⟩, 7) := ⟨⟨by decide +kernel, by decide +kernel⟩, List.mem_of_getElem? (i := 16) (by decide +kernel), List.mem_of_getElem? (i := 549) (by decide +kernel), List.mem_of_getElem? (i := 550) (by decide +kernel)⟩
theorem lw_p17 : lw_okq (⟨"WatchDogs", "resetsSwapped", "(IIII)I"⟩, 7) := ⟨⟨by decide +kernel, by decide +kernel⟩, List.mem_of_getElem? (i := 16) (by decide +kernel), List.mem_of_getElem? (i := 553) (by decide +kernel), List.mem_of_getElem? (i := 554) (by decide +kernel)⟩
theorem lw_p18 : lw_okq (⟨"WatchDogs", "resetsLosing", "(II)I"⟩, 7) := ⟨⟨by decide +kernel, by decide +kernel⟩, List.mem_of_getElem? (i := 16) (by decide +kernel), List.mem_of_getElem? (i := 578) (by decide +kernel), List.mem_of_getElem? (i := 579) (by decide +kernel)⟩
theorem lw_p19 : lw_okq (⟨"WatchDogs", "resetBitsByLimit", "(II)J"⟩, 7) := ⟨⟨by decide +kernel, by decide +kernel⟩, List.mem_of_getElem? (i := 16) (by decide +kernel), List.mem_of_getElem? (i := 620) (by decide +kernel), List.mem_of_getElem? (i := 621) (by decide +kernel)⟩
theorem lw_p20 : lw_okq (⟨"WatchDogsModel", "firstDraft", "()V"⟩, 32) := ⟨⟨by decide +kernel, by decide +kernel⟩, List.mem_of_getElem? (i := 708) (by decide +kernel), List.mem_of_getElem? (i := 714) (by decide +kernel), List.mem_of_getElem? (i := 715) (by decide +kernel)⟩
theorem lw_p21 : lw_okq (⟨"WatchDogsModel", "keepDraft", "()V"⟩, 32) := ⟨⟨by decide +kernel, by decide +kernel⟩, List.mem_of_getElem? (i := 708) (by decide +kernel), List.mem_of_getElem? (i := 718) (by decide +kernel), List.mem_of_getElem? (i := 719) (by decide +kernel)⟩
theorem lw_p22 : lw_okq (⟨"WatchDogsModel", "reads", "()V"⟩, 32) := ⟨⟨by decide +kernel, by decide +kernel⟩, List.mem_of_getElem? (i := 708) (by decide +kernel), List.mem_of_getElem? (i := 835) (by decide +kernel), List.mem_of_getElem? (i := 836) (by decide +kernel)⟩
theorem lw_p23 : lw_okq (⟨"WatchDogsModel", "byteAt", "(I)I"⟩, 32) := ⟨⟨by decide +kernel, by decide +kernel⟩, List.mem_of_getElem? (i := 708) (by decide +kernel), List.mem_of_getElem? (i := 839) (by decide +kernel), List.mem_of_getElem? (i := 840) (by decide +kernel)⟩
theorem lw_p24 : lw_okq (⟨"WatchDogsModel", "requires", "(ZI)V"⟩, 32) := ⟨⟨by decide +kernel, by decide +kernel⟩, List.mem_of_getElem? (i := 708) (by decide +kernel), List.mem_of_getElem? (i := 847) (by decide +kernel), List.mem_of_getElem? (i := 848) (by decide +kernel)⟩
theorem lw_p25 : lw_okq (⟨"WatchDogsModel", "readLine", "()V"⟩, 32) := ⟨⟨by decide +kernel, by decide +kernel⟩, List.mem_of_getElem? (i := 708) (by decide +kernel), List.mem_of_getElem? (i := 851) (by decide +kernel), List.mem_of_getElem? (i := 852) (by decide +kernel)⟩
theorem lw_p26 : lw_okq (⟨"WatchDogsModel", "lineNow", "()I"⟩, 32) := ⟨⟨by decide +kernel, by decide +kernel⟩, List.mem_of_getElem? (i := 708) (by decide +kernel), List.mem_of_getElem? (i := 855) (by decide +kernel), List.mem_of_getElem? (i := 856) (by decide +kernel)⟩
theorem lw_p27 : lw_okq (⟨"WatchDogsModel", "is", "(IIII)Z"⟩, 32) := ⟨⟨by decide +kernel, by decide +kernel⟩, List.mem_of_getElem? (i := 708) (by decide +kernel), List.mem_of_getElem? (i := 859) (by decide +kernel), List.mem_of_getElem? (i := 860) (by decide +kernel)⟩
theorem lw_p28 : lw_okq (⟨"WatchDogsModel", "endsIn", "(III)Z"⟩, 32) := ⟨⟨by decide +kernel, by decide +kernel⟩, List.mem_of_getElem? (i := 708) (by decide +kernel), List.mem_of_getElem? (i := 863) (by decide +kernel), List.mem_of_getElem? (i := 864) (by decide +kernel)⟩
theorem lw_p29 : lw_okq (⟨"WatchDogsModel", "readLineOf", "(I)V"⟩, 32) := ⟨⟨by decide +kernel, by decide +kernel⟩, List.mem_of_getElem? (i := 708) (by decide +kernel), List.mem_of_getElem? (i := 867) (by decide +kernel), List.mem_of_getElem? (i := 868) (by decide +kernel)⟩
theorem lw_p30 : lw_okq (⟨"WatchDogsModel", "readSigns", "()V"⟩, 32) := ⟨⟨by decide +kernel, by decide +kernel⟩, List.mem_of_getElem? (i := 708) (by decide +kernel), List.mem_of_getElem? (i := 871) (by decide +kernel), List.mem_of_getElem? (i := 872) (by decide +kernel)⟩
theorem lw_p31 : lw_okq (⟨"WatchDogsModel", "readNumber", "(II)I"⟩, 32) := ⟨⟨by decide +kernel, by decide +kernel⟩, List.mem_of_getElem? (i := 708) (by decide +kernel), List.mem_of_getElem? (i := 875) (by decide +kernel), List.mem_of_getElem? (i := 876) (by decide +kernel)⟩
def lw_privs_2 : List (MethodName × Nat) := [(⟨"WatchDogs", "resetsAsItIs", "(I)I"⟩, 7), (⟨"WatchDogs", "resetsSwapped", "(IIII)I"⟩, 7), (⟨"WatchDogs", "resetsLosing", "(II)I"⟩, 7), (⟨"WatchDogs", "resetBitsByLimit", "(II)J"⟩, 7), (⟨"WatchDogsModel", "firstDraft", "()V"⟩, 32), (⟨"WatchDogsModel", "keepDraft", "()V"⟩, 32), (⟨"WatchDogsModel", "reads", "()V"⟩, 32), (⟨"WatchDogsModel", "byteAt", "(I)I"⟩, 32), (⟨"WatchDogsModel", "requires", "(ZI)V"⟩, 32), (⟨"WatchDogsModel", "readLine", "()V"⟩, 32), (⟨"WatchDogsModel", "lineNow", "()I"⟩, 32), (⟨"WatchDogsModel", "is", "(IIII)Z"⟩, 32), (⟨"WatchDogsModel", "endsIn", "(III)Z"⟩, 32), (⟨"WatchDogsModel", "readLineOf", "(I)V"⟩, 32), (⟨"WatchDogsModel", "readSigns", "()V"⟩, 32), (⟨"WatchDogsModel", "readNumber", "(II)I"⟩, 32)]
theorem lw_r2 : ∀ q ∈ lw_privs_2, lw_okq q := List.forall_mem_cons.mpr ⟨lw_p16, List.forall_mem_cons.mpr ⟨lw_p17, List.forall_mem_cons.mpr ⟨lw_p18, List.forall_mem_cons.mpr ⟨lw_p19, List.forall_mem_cons.mpr ⟨lw_p20, List.forall_mem_cons.mpr ⟨lw_p21, List.forall_mem_cons.mpr ⟨lw_p22, List.forall_mem_cons.mpr ⟨lw_p23, List.forall_mem_cons.mpr ⟨lw_p24, List.forall_mem_cons.mpr ⟨lw_p25, List.forall_mem_cons.mpr ⟨lw_p26, List.forall_mem_cons.mpr ⟨lw_p27, List.forall_mem_cons.mpr ⟨lw_p28, List.forall_mem_cons.mpr ⟨lw_p29, List.forall_mem_cons.mpr ⟨lw_p30, List.forall_mem_cons.mpr ⟨lw_p31, fun _ h => absurd h List.not_mem_nil⟩⟩⟩⟩⟩⟩⟩⟩⟩⟩⟩⟩⟩⟩⟩⟩
theorem lw_p32 : lw_okq (⟨"WatchDogsModel", "starts", "()V"⟩, 32) := ⟨⟨by decide +kernel, by decide +kernel⟩, List.mem_of_getElem? (i := 708) (by decide +kernel), List.mem_of_getElem? (i := 887) (by decide +kernel), List.mem_of_getElem? (i := 888) (by decide +kernel)⟩
theorem lw_p33 : lw_okq (⟨"WatchDogsModel", "isStuck", "()Z"⟩, 32) := ⟨⟨by decide +kernel, by decide +kernel⟩, List.mem_of_getElem? (i := 708) (by decide +kernel), List.mem_of_getElem? (i := 891) (by decide +kernel), List.mem_of_getElem? (i := 892) (by decide +kernel)⟩
theorem lw_p34 : lw_okq (⟨"WatchDogsModel", "isDog", "(I)Z"⟩, 32) := ⟨⟨by decide +kernel, by decide +kernel⟩, List.mem_of_getElem? (i := 708) (by decide +kernel), List.mem_of_getElem? (i := 902) (by decide +kernel), List.mem_of_getElem? (i := 903) (by decide +kernel)⟩
theorem lw_p35 : lw_okq (⟨"WatchDogsModel", "isSign", "(I)Z"⟩, 32) := ⟨⟨by decide +kernel, by decide +kernel⟩, List.mem_of_getElem? (i := 708) (by decide +kernel), List.mem_of_getElem? (i := 911) (by decide +kernel), List.mem_of_getElem? (i := 912) (by decide +kernel)⟩
theorem lw_p36 : lw_okq (⟨"WatchDogsModel", "becomes", "(II)I"⟩, 32) := ⟨⟨by decide +kernel, by decide +kernel⟩, List.mem_of_getElem? (i := 708) (by decide +kernel), List.mem_of_getElem? (i := 927) (by decide +kernel), List.mem_of_getElem? (i := 928) (by decide +kernel)⟩
theorem lw_p37 : lw_okq (⟨"WatchDogsModel", "bitesFed", "(I)Z"⟩, 32) := ⟨⟨by decide +kernel, by decide +kernel⟩, List.mem_of_getElem? (i := 708) (by decide +kernel), List.mem_of_getElem? (i := 958) (by decide +kernel), List.mem_of_getElem? (i := 959) (by decide +kernel)⟩
theorem lw_p38 : lw_okq (⟨"WatchDogsModel", "of", "(II)I"⟩, 32) := ⟨⟨by decide +kernel, by decide +kernel⟩, List.mem_of_getElem? (i := 708) (by decide +kernel), List.mem_of_getElem? (i := 962) (by decide +kernel), List.mem_of_getElem? (i := 963) (by decide +kernel)⟩
theorem lw_p39 : lw_okq (⟨"WatchDogsModel", "becomesOf", "(III)V"⟩, 32) := ⟨⟨by decide +kernel, by decide +kernel⟩, List.mem_of_getElem? (i := 708) (by decide +kernel), List.mem_of_getElem? (i := 966) (by decide +kernel), List.mem_of_getElem? (i := 967) (by decide +kernel)⟩
theorem lw_p40 : lw_okq (⟨"WatchDogsModel", "resets", "(II)V"⟩, 32) := ⟨⟨by decide +kernel, by decide +kernel⟩, List.mem_of_getElem? (i := 708) (by decide +kernel), List.mem_of_getElem? (i := 970) (by decide +kernel), List.mem_of_getElem? (i := 971) (by decide +kernel)⟩
theorem lw_p41 : lw_okq (⟨"WatchDogsModel", "settles", "()V"⟩, 32) := ⟨⟨by decide +kernel, by decide +kernel⟩, List.mem_of_getElem? (i := 708) (by decide +kernel), List.mem_of_getElem? (i := 974) (by decide +kernel), List.mem_of_getElem? (i := 975) (by decide +kernel)⟩
theorem lw_p42 : lw_okq (⟨"WatchDogsModel", "ticksGo", "(I)V"⟩, 32) := ⟨⟨by decide +kernel, by decide +kernel⟩, List.mem_of_getElem? (i := 708) (by decide +kernel), List.mem_of_getElem? (i := 983) (by decide +kernel), List.mem_of_getElem? (i := 984) (by decide +kernel)⟩
theorem lw_p43 : lw_okq (⟨"WatchDogsModel", "tickGoes", "(Z)V"⟩, 32) := ⟨⟨by decide +kernel, by decide +kernel⟩, List.mem_of_getElem? (i := 708) (by decide +kernel), List.mem_of_getElem? (i := 987) (by decide +kernel), List.mem_of_getElem? (i := 988) (by decide +kernel)⟩
theorem lw_p44 : lw_okq (⟨"WatchDogsModel", "dogsGo", "(I)V"⟩, 32) := ⟨⟨by decide +kernel, by decide +kernel⟩, List.mem_of_getElem? (i := 708) (by decide +kernel), List.mem_of_getElem? (i := 991) (by decide +kernel), List.mem_of_getElem? (i := 992) (by decide +kernel)⟩
theorem lw_p45 : lw_okq (⟨"WatchDogsModel", "bitesUnfed", "(I)Z"⟩, 32) := ⟨⟨by decide +kernel, by decide +kernel⟩, List.mem_of_getElem? (i := 708) (by decide +kernel), List.mem_of_getElem? (i := 995) (by decide +kernel), List.mem_of_getElem? (i := 996) (by decide +kernel)⟩
theorem lw_p46 : lw_okq (⟨"WatchDogsModel", "bitesLate", "(I)Z"⟩, 32) := ⟨⟨by decide +kernel, by decide +kernel⟩, List.mem_of_getElem? (i := 708) (by decide +kernel), List.mem_of_getElem? (i := 999) (by decide +kernel), List.mem_of_getElem? (i := 1000) (by decide +kernel)⟩
theorem lw_p47 : lw_okq (⟨"WatchDogsModel", "bitesBy", "(III)Z"⟩, 32) := ⟨⟨by decide +kernel, by decide +kernel⟩, List.mem_of_getElem? (i := 708) (by decide +kernel), List.mem_of_getElem? (i := 1024) (by decide +kernel), List.mem_of_getElem? (i := 1025) (by decide +kernel)⟩
def lw_privs_3 : List (MethodName × Nat) := [(⟨"WatchDogsModel", "starts", "()V"⟩, 32), (⟨"WatchDogsModel", "isStuck", "()Z"⟩, 32), (⟨"WatchDogsModel", "isDog", "(I)Z"⟩, 32), (⟨"WatchDogsModel", "isSign", "(I)Z"⟩, 32), (⟨"WatchDogsModel", "becomes", "(II)I"⟩, 32), (⟨"WatchDogsModel", "bitesFed", "(I)Z"⟩, 32), (⟨"WatchDogsModel", "of", "(II)I"⟩, 32), (⟨"WatchDogsModel", "becomesOf", "(III)V"⟩, 32), (⟨"WatchDogsModel", "resets", "(II)V"⟩, 32), (⟨"WatchDogsModel", "settles", "()V"⟩, 32), (⟨"WatchDogsModel", "ticksGo", "(I)V"⟩, 32), (⟨"WatchDogsModel", "tickGoes", "(Z)V"⟩, 32), (⟨"WatchDogsModel", "dogsGo", "(I)V"⟩, 32), (⟨"WatchDogsModel", "bitesUnfed", "(I)Z"⟩, 32), (⟨"WatchDogsModel", "bitesLate", "(I)Z"⟩, 32), (⟨"WatchDogsModel", "bitesBy", "(III)Z"⟩, 32)]
theorem lw_r3 : ∀ q ∈ lw_privs_3, lw_okq q := List.forall_mem_cons.mpr ⟨lw_p32, List.forall_mem_cons.mpr ⟨lw_p33, List.forall_mem_cons.mpr ⟨lw_p34, List.forall_mem_cons.mpr ⟨lw_p35, List.forall_mem_cons.mpr ⟨lw_p36, List.forall_mem_cons.mpr ⟨lw_p37, List.forall_mem_cons.mpr ⟨lw_p38, List.forall_mem_cons.mpr ⟨lw_p39, List.forall_mem_cons.mpr ⟨lw_p40, List.forall_mem_cons.mpr ⟨lw_p41, List.forall_mem_cons.mpr ⟨lw_p42, List.forall_mem_cons.mpr ⟨lw_p43, List.forall_mem_cons.mpr ⟨lw_p44, List.forall_mem_cons.mpr ⟨lw_p45, List.forall_mem_cons.mpr ⟨lw_p46, List.forall_mem_cons.mpr ⟨lw_p47, fun _ h => absurd h List.not_mem_nil⟩⟩⟩⟩⟩⟩⟩⟩⟩⟩⟩⟩⟩⟩⟩⟩
theorem lw_p48 : lw_okq (⟨"WatchDogsModel", "startsJudging", "(I)V"⟩, 32) := ⟨⟨by decide +kernel, by decide +kernel⟩, List.mem_of_getElem? (i := 708) (by decide +kernel), List.mem_of_getElem? (i := 1037) (by decide +kernel), List.mem_of_getElem? (i := 1038) (by decide +kernel)⟩
theorem lw_p49 : lw_okq (⟨"WatchDogsModel", "resetsIn", "(I)I"⟩, 32) := ⟨⟨by decide +kernel, by decide +kernel⟩, List.mem_of_getElem? (i := 708) (by decide +kernel), List.mem_of_getElem? (i := 1041) (by decide +kernel), List.mem_of_getElem? (i := 1042) (by decide +kernel)⟩
theorem lw_p50 : lw_okq (⟨"WatchDogsModel", "judges", "(II)V"⟩, 32) := ⟨⟨by decide +kernel, by decide +kernel⟩, List.mem_of_getElem? (i := 708) (by decide +kernel), List.mem_of_getElem? (i := 1045) (by decide +kernel), List.mem_of_getElem? (i := 1046) (by decide +kernel)⟩
theorem lw_p51 : lw_okq (⟨"WatchDogsModel", "judged", "(I)I"⟩, 32) := ⟨⟨by decide +kernel, by decide +kernel⟩, List.mem_of_getElem? (i := 708) (by decide +kernel), List.mem_of_getElem? (i := 1049) (by decide +kernel), List.mem_of_getElem? (i := 1050) (by decide +kernel)⟩
theorem lw_p52 : lw_okq (⟨"WatchDogsModel", "findOdds", "(II)V"⟩, 32) := ⟨⟨by decide +kernel, by decide +kernel⟩, List.mem_of_getElem? (i := 708) (by decide +kernel), List.mem_of_getElem? (i := 1068) (by decide +kernel), List.mem_of_getElem? (i := 1069) (by decide +kernel)⟩
theorem lw_p53 : lw_okq (⟨"WatchDogsModel", "which", "(IIII)I"⟩, 32) := ⟨⟨by decide +kernel, by decide +kernel⟩, List.mem_of_getElem? (i := 708) (by decide +kernel), List.mem_of_getElem? (i := 1094) (by decide +kernel), List.mem_of_getElem? (i := 1095) (by decide +kernel)⟩
theorem lw_p54 : lw_okq (⟨"WatchDogsModel", "isSoWith", "(III)Z"⟩, 32) := ⟨⟨by decide +kernel, by decide +kernel⟩, List.mem_of_getElem? (i := 708) (by decide +kernel), List.mem_of_getElem? (i := 1098) (by decide +kernel), List.mem_of_getElem? (i := 1099) (by decide +kernel)⟩
theorem lw_p55 : lw_okq (⟨"WatchDogsModel", "copies", "(II)V"⟩, 32) := ⟨⟨by decide +kernel, by decide +kernel⟩, List.mem_of_getElem? (i := 708) (by decide +kernel), List.mem_of_getElem? (i := 1119) (by decide +kernel), List.mem_of_getElem? (i := 1120) (by decide +kernel)⟩
def lw_privs_4 : List (MethodName × Nat) := [(⟨"WatchDogsModel", "startsJudging", "(I)V"⟩, 32), (⟨"WatchDogsModel", "resetsIn", "(I)I"⟩, 32), (⟨"WatchDogsModel", "judges", "(II)V"⟩, 32), (⟨"WatchDogsModel", "judged", "(I)I"⟩, 32), (⟨"WatchDogsModel", "findOdds", "(II)V"⟩, 32), (⟨"WatchDogsModel", "which", "(IIII)I"⟩, 32), (⟨"WatchDogsModel", "isSoWith", "(III)Z"⟩, 32), (⟨"WatchDogsModel", "copies", "(II)V"⟩, 32)]
theorem lw_r4 : ∀ q ∈ lw_privs_4, lw_okq q := List.forall_mem_cons.mpr ⟨lw_p48, List.forall_mem_cons.mpr ⟨lw_p49, List.forall_mem_cons.mpr ⟨lw_p50, List.forall_mem_cons.mpr ⟨lw_p51, List.forall_mem_cons.mpr ⟨lw_p52, List.forall_mem_cons.mpr ⟨lw_p53, List.forall_mem_cons.mpr ⟨lw_p54, List.forall_mem_cons.mpr ⟨lw_p55, fun _ h => absurd h List.not_mem_nil⟩⟩⟩⟩⟩⟩⟩⟩
def lw_privs : List (MethodName × Nat) := lw_privs_1 ++ (lw_privs_2 ++ (lw_privs_3 ++ (lw_privs_4)))
def lw_tbl : List Cond := k2_sels lw_privs ++ tables_1
theorem lw_privs_ok : ∀ q ∈ lw_privs, lw_okq q := by
  show ∀ q ∈ lw_privs_1 ++ (lw_privs_2 ++ (lw_privs_3 ++ (lw_privs_4))), lw_okq q
  exact List.forall_mem_append.mpr ⟨lw_r1, List.forall_mem_append.mpr ⟨lw_r2, List.forall_mem_append.mpr ⟨lw_r3, lw_r4⟩⟩⟩
end
section
def RX0 : String := "WatchDogs$Pack"
def TX0 : u_T := fun k => match k with
  | 0 => ("WatchDogs$Pack", "kindOf", "[I", true)
  | 1 => ("WatchDogs$Pack", "limitOf", "[I", true)
  | 2 => ("WatchDogs$Pack", "countOf", "[I", true)
  | 3 => ("WatchDogs$Pack", "barksOf", "[I", true)
  | 4 => ("WatchDogs$Pack", "signAt", "[I", true)
  | 5 => ("WatchDogs$Pack", "jamFrom", "[I", true)
  | 6 => ("WatchDogs$Pack", "jamFor", "[I", true)
  | 7 => ("WatchDogs$Pack", "seenTick", "[I", true)
  | 8 => ("WatchDogs$Pack", "seenReset", "[I", true)
  | 9 => ("WatchDogs$Pack", "dogs", "I", false)
  | 10 => ("WatchDogs$Pack", "signs", "I", false)
  | 11 => ("WatchDogs$Pack", "jams", "I", false)
  | 12 => ("WatchDogs$Pack", "seen", "I", false)
  | 13 => ("WatchDogs$Pack", "place", "I", false)
  | 14 => ("WatchDogs$Pack", "tick", "I", false)
  | 15 => ("WatchDogs$Pack", "resets", "I", false)
  | 16 => ("WatchDogs$Pack", "free", "I", false)
  | _ => ("WatchDogs$Pack", "last", "I", false)
def tyX0 : Nat → FieldType := fun k => match k with
  | 0 => .array .int
  | 1 => .array .int
  | 2 => .array .int
  | 3 => .array .int
  | 4 => .array .int
  | 5 => .array .int
  | 6 => .array .int
  | 7 => .array .int
  | 8 => .array .int
  | 9 => .int
  | 10 => .int
  | 11 => .int
  | 12 => .int
  | 13 => .int
  | 14 => .int
  | 15 => .int
  | 16 => .int
  | _ => .int
abbrev wsX00 : List Cond := u_ws RX0 TX0 18
theorem nmX0 : ∀ a, a < 18 → ∀ b, b < 18 → a ≠ b → (TX0 a).2.1 ≠ (TX0 b).2.1 := by decide +kernel
theorem tyX0_ok : ∀ k, k < 18 → parseFieldDescriptor (TX0 k).2.2.1 = some (tyX0 k) := by decide +kernel
abbrev cX0_init : ByteArray := prog_2_method_1_code
def yX0_init : MethodName := ⟨RX0, "<init>", "()V"⟩
abbrev cX0_copyOf : ByteArray := prog_2_method_2_code
def yX0_copyOf : MethodName := ⟨RX0, "copyOf", "(LWatchDogs$Pack;)V"⟩
abbrev cX0_empty : ByteArray := prog_2_method_3_code
def yX0_empty : MethodName := ⟨RX0, "empty", "()V"⟩
abbrev cX0_addDog : ByteArray := prog_2_method_4_code
def yX0_addDog : MethodName := ⟨RX0, "addDog", "(II)V"⟩
abbrev cX0_addSign : ByteArray := prog_2_method_5_code
def yX0_addSign : MethodName := ⟨RX0, "addSign", "(I)V"⟩
abbrev cX0_addJam : ByteArray := prog_2_method_6_code
def yX0_addJam : MethodName := ⟨RX0, "addJam", "(II)V"⟩
abbrev cX0_addSeen : ByteArray := prog_2_method_7_code
def yX0_addSeen : MethodName := ⟨RX0, "addSeen", "(II)V"⟩
abbrev cX0_isStuck : ByteArray := prog_2_method_8_code
def yX0_isStuck : MethodName := ⟨RX0, "isStuck", "()Z"⟩
abbrev cX0_nextSign : ByteArray := prog_2_method_9_code
def yX0_nextSign : MethodName := ⟨RX0, "nextSign", "()I"⟩
abbrev cX0_bitesFed : ByteArray := prog_2_method_10_code
def yX0_bitesFed : MethodName := ⟨RX0, "bitesFed", "(I)Z"⟩
abbrev cX0_bitesUnfed : ByteArray := prog_2_method_11_code
def yX0_bitesUnfed : MethodName := ⟨RX0, "bitesUnfed", "(I)Z"⟩
abbrev cX0_beginAnew : ByteArray := prog_2_method_12_code
def yX0_beginAnew : MethodName := ⟨RX0, "beginAnew", "(II)V"⟩
abbrev cX0_isAsSeen : ByteArray := prog_2_method_13_code
def yX0_isAsSeen : MethodName := ⟨RX0, "isAsSeen", "(J)Z"⟩
abbrev cX0_countsSummed : ByteArray := prog_2_method_14_code
def yX0_countsSummed : MethodName := ⟨RX0, "countsSummed", "()I"⟩
abbrev cX0_limitsSummed : ByteArray := prog_2_method_15_code
def yX0_limitsSummed : MethodName := ⟨RX0, "limitsSummed", "()I"⟩
abbrev cX0_signsSummed : ByteArray := prog_2_method_16_code
def yX0_signsSummed : MethodName := ⟨RX0, "signsSummed", "()I"⟩
def RX1 : String := "WatchDogs$Sheets"
def TX1 : u_T := fun k => match k with
  | 0 => ("WatchDogs$Sheets", "cells", "[[I", true)
  | 1 => ("WatchDogs$Sheets", "laneOf", "[I", true)
  | _ => ("WatchDogs$Sheets", "sizeOf", "[I", true)
def tyX1 : Nat → FieldType := fun k => match k with
  | 0 => .array (.array .int)
  | 1 => .array .int
  | _ => .array .int
abbrev wsX10 : List Cond := u_ws RX1 TX1 3
theorem nmX1 : ∀ a, a < 3 → ∀ b, b < 3 → a ≠ b → (TX1 a).2.1 ≠ (TX1 b).2.1 := by decide +kernel
theorem tyX1_ok : ∀ k, k < 3 → parseFieldDescriptor (TX1 k).2.2.1 = some (tyX1 k) := by decide +kernel
abbrev cX1_init : ByteArray := prog_3_method_1_code
def yX1_init : MethodName := ⟨RX1, "<init>", "()V"⟩
abbrev cX1_renew : ByteArray := prog_3_method_2_code
def yX1_renew : MethodName := ⟨RX1, "renew", "(III)V"⟩
abbrev cX1_write : ByteArray := prog_3_method_3_code
def yX1_write : MethodName := ⟨RX1, "write", "(III)V"⟩
abbrev cX1_faultOf : ByteArray := prog_3_method_4_code
def yX1_faultOf : MethodName := ⟨RX1, "faultOf", "(III)I"⟩
abbrev cX1_faultOfPair : ByteArray := prog_3_method_5_code
def yX1_faultOfPair : MethodName := ⟨RX1, "faultOfPair", "(III)I"⟩
def RX2 : String := "WatchDogs$Tape"
def TX2 : u_T := fun k => match k with
  | 0 => ("WatchDogs$Tape", "bytes", "[B", true)
  | 1 => ("WatchDogs$Tape", "draft", "LWatchDogs$Pack;", true)
  | 2 => ("WatchDogs$Tape", "length", "I", false)
  | 3 => ("WatchDogs$Tape", "fault", "I", false)
  | 4 => ("WatchDogs$Tape", "faultAt", "I", false)
  | 5 => ("WatchDogs$Tape", "lines", "I", false)
  | 6 => ("WatchDogs$Tape", "next", "I", false)
  | 7 => ("WatchDogs$Tape", "token", "I", false)
  | 8 => ("WatchDogs$Tape", "tokenAt", "I", false)
  | _ => ("WatchDogs$Tape", "value", "I", false)
def tyX2 : Nat → FieldType := fun k => match k with
  | 0 => .array .byte
  | 1 => .object "WatchDogs$Pack"
  | 2 => .int
  | 3 => .int
  | 4 => .int
  | 5 => .int
  | 6 => .int
  | 7 => .int
  | 8 => .int
  | _ => .int
abbrev wsX20 : List Cond := u_ws RX2 TX2 10
theorem nmX2 : ∀ a, a < 10 → ∀ b, b < 10 → a ≠ b → (TX2 a).2.1 ≠ (TX2 b).2.1 := by decide +kernel
theorem tyX2_ok : ∀ k, k < 10 → parseFieldDescriptor (TX2 k).2.2.1 = some (tyX2 k) := by decide +kernel
abbrev cX2_init : ByteArray := prog_4_method_1_code
def yX2_init : MethodName := ⟨RX2, "<init>", "()V"⟩
abbrev cX2_begin : ByteArray := prog_4_method_2_code
def yX2_begin : MethodName := ⟨RX2, "begin", "()V"⟩
abbrev cX2_hasLine : ByteArray := prog_4_method_3_code
def yX2_hasLine : MethodName := ⟨RX2, "hasLine", "()Z"⟩
abbrev cX2_readLine : ByteArray := prog_4_method_4_code
def yX2_readLine : MethodName := ⟨RX2, "readLine", "()V"⟩
abbrev cX2_readDog : ByteArray := prog_4_method_5_code
def yX2_readDog : MethodName := ⟨RX2, "readDog", "(I)V"⟩
abbrev cX2_readSigns : ByteArray := prog_4_method_6_code
def yX2_readSigns : MethodName := ⟨RX2, "readSigns", "()V"⟩
abbrev cX2_readJam : ByteArray := prog_4_method_7_code
def yX2_readJam : MethodName := ⟨RX2, "readJam", "()V"⟩
abbrev cX2_takeNumber : ByteArray := prog_4_method_8_code
def yX2_takeNumber : MethodName := ⟨RX2, "takeNumber", "(II)I"⟩
abbrev cX2_takeSemicolon : ByteArray := prog_4_method_9_code
def yX2_takeSemicolon : MethodName := ⟨RX2, "takeSemicolon", "()V"⟩
abbrev cX2_refuse : ByteArray := prog_4_method_10_code
def yX2_refuse : MethodName := ⟨RX2, "refuse", "(I)V"⟩
abbrev cX2_readToken : ByteArray := prog_4_method_11_code
def yX2_readToken : MethodName := ⟨RX2, "readToken", "()V"⟩
abbrev cX2_readName : ByteArray := prog_4_method_12_code
def yX2_readName : MethodName := ⟨RX2, "readName", "()V"⟩
abbrev cX2_readNumber : ByteArray := prog_4_method_13_code
def yX2_readNumber : MethodName := ⟨RX2, "readNumber", "()V"⟩
abbrev cX2_isName : ByteArray := prog_4_method_14_code
def yX2_isName : MethodName := ⟨RX2, "isName", "(Ljava/lang/String;)Z"⟩
abbrev cX2_isLetter : ByteArray := prog_4_method_15_code
def yX2_isLetter : MethodName := ⟨RX2, "isLetter", "(B)Z"⟩
abbrev cX2_isFigure : ByteArray := prog_4_method_16_code
def yX2_isFigure : MethodName := ⟨RX2, "isFigure", "(B)Z"⟩
def RX3 : String := "WatchDogs$Trial"
def TX3 : u_T := fun k => match k with
  | 0 => ("WatchDogs$Trial", "pack", "LWatchDogs$Pack;", true)
  | 1 => ("WatchDogs$Trial", "bitesOf", "[I", true)
  | 2 => ("WatchDogs$Trial", "resetsByLimit", "[I", true)
  | 3 => ("WatchDogs$Trial", "resets", "I", false)
  | 4 => ("WatchDogs$Trial", "stuckTicks", "I", false)
  | 5 => ("WatchDogs$Trial", "barks", "I", false)
  | 6 => ("WatchDogs$Trial", "meals", "I", false)
  | _ => ("WatchDogs$Trial", "sleeper", "I", false)
def tyX3 : Nat → FieldType := fun k => match k with
  | 0 => .object "WatchDogs$Pack"
  | 1 => .array .int
  | 2 => .array .int
  | 3 => .int
  | 4 => .int
  | 5 => .int
  | 6 => .int
  | _ => .int
abbrev wsX30 : List Cond := u_ws RX3 TX3 8
theorem nmX3 : ∀ a, a < 8 → ∀ b, b < 8 → a ≠ b → (TX3 a).2.1 ≠ (TX3 b).2.1 := by decide +kernel
theorem tyX3_ok : ∀ k, k < 8 → parseFieldDescriptor (TX3 k).2.2.1 = some (tyX3 k) := by decide +kernel
abbrev cX3_init : ByteArray := prog_5_method_1_code
def yX3_init : MethodName := ⟨RX3, "<init>", "()V"⟩
abbrev cX3_begin : ByteArray := prog_5_method_2_code
def yX3_begin : MethodName := ⟨RX3, "begin", "(LWatchDogs$Pack;)V"⟩
abbrev cX3_step : ByteArray := prog_5_method_3_code
def yX3_step : MethodName := ⟨RX3, "step", "(I)Z"⟩
abbrev cX3_bitesIn : ByteArray := prog_5_method_4_code
def yX3_bitesIn : MethodName := ⟨RX3, "bitesIn", "(IZ)Z"⟩
abbrev cX3_walk : ByteArray := prog_5_method_5_code
def yX3_walk : MethodName := ⟨RX3, "walk", "(I)V"⟩
abbrev cX3_resetsBelow : ByteArray := prog_5_method_6_code
def yX3_resetsBelow : MethodName := ⟨RX3, "resetsBelow", "(II)I"⟩
abbrev cX3_resetBits : ByteArray := prog_5_method_7_code
def yX3_resetBits : MethodName := ⟨RX3, "resetBits", "()J"⟩
abbrev cX3_gatherLimits : ByteArray := prog_5_method_8_code
def yX3_gatherLimits : MethodName := ⟨RX3, "gatherLimits", "(LWatchDogs$Pack;I)I"⟩
def RX4 : String := "WatchDogs"
def TX4 : u_T := fun k => match k with
  | 0 => ("WatchDogs", "now", "LWatchDogs$Pack;", true)
  | 1 => ("WatchDogs", "trial", "LWatchDogs$Trial;", true)
  | 2 => ("WatchDogs", "tape", "LWatchDogs$Tape;", true)
  | 3 => ("WatchDogs", "sheets", "LWatchDogs$Sheets;", true)
  | 4 => ("WatchDogs", "images", "[LWatchDogs$Pack;", true)
  | 5 => ("WatchDogs", "kept", "[Z", true)
  | _ => ("WatchDogs", "torn", "I", false)
def tyX4 : Nat → FieldType := fun k => match k with
  | 0 => .object "WatchDogs$Pack"
  | 1 => .object "WatchDogs$Trial"
  | 2 => .object "WatchDogs$Tape"
  | 3 => .object "WatchDogs$Sheets"
  | 4 => .array (.object "WatchDogs$Pack")
  | 5 => .array .boolean
  | _ => .int
abbrev wsX40 : List Cond := u_ws RX4 TX4 7
theorem nmX4 : ∀ a, a < 7 → ∀ b, b < 7 → a ≠ b → (TX4 a).2.1 ≠ (TX4 b).2.1 := by decide +kernel
theorem tyX4_ok : ∀ k, k < 7 → parseFieldDescriptor (TX4 k).2.2.1 = some (tyX4 k) := by decide +kernel
abbrev cX4_init : ByteArray := prog_1_method_1_code
def yX4_init : MethodName := ⟨RX4, "<init>", "()V"⟩
abbrev cX4_feed : ByteArray := prog_1_method_2_code
def yX4_feed : MethodName := ⟨RX4, "feed", "(I)I"⟩
abbrev cX4_end : ByteArray := prog_1_method_3_code
def yX4_end : MethodName := ⟨RX4, "end", "(I)I"⟩
abbrev cX4_text : ByteArray := prog_1_method_4_code
def yX4_text : MethodName := ⟨RX4, "text", "()I"⟩
abbrev cX4_fault : ByteArray := prog_1_method_5_code
def yX4_fault : MethodName := ⟨RX4, "fault", "()I"⟩
abbrev cX4_rule : ByteArray := prog_1_method_6_code
def yX4_rule : MethodName := ⟨RX4, "rule", "(I)I"⟩
abbrev cX4_dog : ByteArray := prog_1_method_7_code
def yX4_dog : MethodName := ⟨RX4, "dog", "(II)I"⟩
abbrev cX4_sign : ByteArray := prog_1_method_8_code
def yX4_sign : MethodName := ⟨RX4, "sign", "(I)I"⟩
abbrev cX4_jam : ByteArray := prog_1_method_9_code
def yX4_jam : MethodName := ⟨RX4, "jam", "(II)I"⟩
abbrev cX4_alter : ByteArray := prog_1_method_10_code
def yX4_alter : MethodName := ⟨RX4, "alter", "(III)I"⟩
abbrev cX4_alterKind : ByteArray := prog_1_method_11_code
def yX4_alterKind : MethodName := ⟨RX4, "alterKind", "(II)I"⟩
abbrev cX4_alterLimit : ByteArray := prog_1_method_12_code
def yX4_alterLimit : MethodName := ⟨RX4, "alterLimit", "(II)I"⟩
abbrev cX4_set : ByteArray := prog_1_method_13_code
def yX4_set : MethodName := ⟨RX4, "set", "(II)I"⟩
abbrev cX4_add : ByteArray := prog_1_method_14_code
def yX4_add : MethodName := ⟨RX4, "add", "(I)I"⟩
abbrev cX4_cut : ByteArray := prog_1_method_15_code
def yX4_cut : MethodName := ⟨RX4, "cut", "(I)I"⟩
abbrev cX4_stick : ByteArray := prog_1_method_16_code
def yX4_stick : MethodName := ⟨RX4, "stick", "(II)I"⟩
abbrev cX4_clear : ByteArray := prog_1_method_17_code
def yX4_clear : MethodName := ⟨RX4, "clear", "(I)I"⟩
abbrev cX4_bone : ByteArray := prog_1_method_18_code
def yX4_bone : MethodName := ⟨RX4, "bone", "(I)I"⟩
abbrev cX4_ticks : ByteArray := prog_1_method_19_code
def yX4_ticks : MethodName := ⟨RX4, "ticks", "(I)I"⟩
abbrev cX4_runs : ByteArray := prog_1_method_20_code
def yX4_runs : MethodName := ⟨RX4, "runs", "(II)I"⟩
abbrev cX4_ahead : ByteArray := prog_1_method_21_code
def yX4_ahead : MethodName := ⟨RX4, "ahead", "(III)I"⟩
abbrev cX4_when : ByteArray := prog_1_method_22_code
def yX4_when : MethodName := ⟨RX4, "when", "()I"⟩
abbrev cX4_need : ByteArray := prog_1_method_23_code
def yX4_need : MethodName := ⟨RX4, "need", "(II)I"⟩
abbrev cX4_most : ByteArray := prog_1_method_24_code
def yX4_most : MethodName := ⟨RX4, "most", "(II)I"⟩
abbrev cX4_bitesWithin : ByteArray := prog_1_method_25_code
def yX4_bitesWithin : MethodName := ⟨RX4, "bitesWithin", "(III)Z"⟩
abbrev cX4_kind : ByteArray := prog_1_method_26_code
def yX4_kind : MethodName := ⟨RX4, "kind", "(III)I"⟩
abbrev cX4_swap : ByteArray := prog_1_method_27_code
def yX4_swap : MethodName := ⟨RX4, "swap", "(II)I"⟩
abbrev cX4_resetsSwapped : ByteArray := prog_1_method_28_code
def yX4_resetsSwapped : MethodName := ⟨RX4, "resetsSwapped", "(IIII)I"⟩
abbrev cX4_sleep : ByteArray := prog_1_method_29_code
def yX4_sleep : MethodName := ⟨RX4, "sleep", "(II)I"⟩
abbrev cX4_resetsAsItIs : ByteArray := prog_1_method_30_code
def yX4_resetsAsItIs : MethodName := ⟨RX4, "resetsAsItIs", "(I)I"⟩
abbrev cX4_luck : ByteArray := prog_1_method_31_code
def yX4_luck : MethodName := ⟨RX4, "luck", "(III)J"⟩
abbrev cX4_mean : ByteArray := prog_1_method_32_code
def yX4_mean : MethodName := ⟨RX4, "mean", "(III)J"⟩
abbrev cX4_weightOf : ByteArray := prog_1_method_33_code
def yX4_weightOf : MethodName := ⟨RX4, "weightOf", "(III)J"⟩
abbrev cX4_resetsLosing : ByteArray := prog_1_method_34_code
def yX4_resetsLosing : MethodName := ⟨RX4, "resetsLosing", "(II)I"⟩
abbrev cX4_power : ByteArray := prog_1_method_35_code
def yX4_power : MethodName := ⟨RX4, "power", "(II)J"⟩
abbrev cX4_partOfFraction : ByteArray := prog_1_method_36_code
def yX4_partOfFraction : MethodName := ⟨RX4, "partOfFraction", "(JJI)J"⟩
abbrev cX4_commonDivisor : ByteArray := prog_1_method_37_code
def yX4_commonDivisor : MethodName := ⟨RX4, "commonDivisor", "(JJ)J"⟩
abbrev cX4_see : ByteArray := prog_1_method_38_code
def yX4_see : MethodName := ⟨RX4, "see", "(II)I"⟩
abbrev cX4_forget : ByteArray := prog_1_method_39_code
def yX4_forget : MethodName := ⟨RX4, "forget", "(I)I"⟩
abbrev cX4_kinds : ByteArray := prog_1_method_40_code
def yX4_kinds : MethodName := ⟨RX4, "kinds", "(I)I"⟩
abbrev cX4_limits : ByteArray := prog_1_method_41_code
def yX4_limits : MethodName := ⟨RX4, "limits", "(I)I"⟩
abbrev cX4_resetBitsByLimit : ByteArray := prog_1_method_42_code
def yX4_resetBitsByLimit : MethodName := ⟨RX4, "resetBitsByLimit", "(II)J"⟩
abbrev cX4_ask : ByteArray := prog_1_method_43_code
def yX4_ask : MethodName := ⟨RX4, "ask", "(II)I"⟩
abbrev cX4_drift : ByteArray := prog_1_method_44_code
def yX4_drift : MethodName := ⟨RX4, "drift", "(III)I"⟩
abbrev cX4_keep : ByteArray := prog_1_method_45_code
def yX4_keep : MethodName := ⟨RX4, "keep", "(I)I"⟩
abbrev cX4_back : ByteArray := prog_1_method_46_code
def yX4_back : MethodName := ⟨RX4, "back", "(I)I"⟩
abbrev cX4_sheet : ByteArray := prog_1_method_47_code
def yX4_sheet : MethodName := ⟨RX4, "sheet", "(III)I"⟩
abbrev cX4_lay : ByteArray := prog_1_method_48_code
def yX4_lay : MethodName := ⟨RX4, "lay", "(III)I"⟩
abbrev cX4_read : ByteArray := prog_1_method_49_code
def yX4_read : MethodName := ⟨RX4, "read", "(IIII)I"⟩
abbrev cX4_torn : ByteArray := prog_1_method_50_code
def yX4_torn : MethodName := ⟨RX4, "torn", "()I"⟩
abbrev cX4_count : ByteArray := prog_1_method_51_code
def yX4_count : MethodName := ⟨RX4, "count", "(I)I"⟩
abbrev cX4_noDog : ByteArray := prog_1_method_52_code
def yX4_noDog : MethodName := ⟨RX4, "noDog", "(I)Z"⟩
abbrev cX4_noSign : ByteArray := prog_1_method_53_code
def yX4_noSign : MethodName := ⟨RX4, "noSign", "(I)Z"⟩
abbrev cX4_noSheet : ByteArray := prog_1_method_54_code
def yX4_noSheet : MethodName := ⟨RX4, "noSheet", "(I)Z"⟩
abbrev cX4_noLane : ByteArray := prog_1_method_55_code
def yX4_noLane : MethodName := ⟨RX4, "noLane", "(I)Z"⟩
abbrev cX4_outside : ByteArray := prog_1_method_56_code
def yX4_outside : MethodName := ⟨RX4, "outside", "(III)Z"⟩
def RX5 : String := "WatchDogsModel"
def TX5 : u_T := fun k => match k with
  | 0 => ("WatchDogsModel", "st", "[I", true)
  | 1 => ("WatchDogsModel", "now", "[I", true)
  | 2 => ("WatchDogsModel", "isKept", "[Z", true)
  | 3 => ("WatchDogsModel", "draft", "[I", true)
  | 4 => ("WatchDogsModel", "hasSigns", "Z", false)
  | 5 => ("WatchDogsModel", "tape", "[I", true)
  | 6 => ("WatchDogsModel", "taped", "I", false)
  | 7 => ("WatchDogsModel", "pos", "I", false)
  | 8 => ("WatchDogsModel", "begun", "I", false)
  | 9 => ("WatchDogsModel", "sort", "I", false)
  | 10 => ("WatchDogsModel", "value", "I", false)
  | 11 => ("WatchDogsModel", "fault", "I", false)
  | 12 => ("WatchDogsModel", "wrongAt", "I", false)
  | 13 => ("WatchDogsModel", "asleep", "I", false)
  | 14 => ("WatchDogsModel", "resetMany", "I", false)
  | 15 => ("WatchDogsModel", "stuckMany", "I", false)
  | 16 => ("WatchDogsModel", "barkMany", "I", false)
  | 17 => ("WatchDogsModel", "fedMany", "I", false)
  | 18 => ("WatchDogsModel", "isReset", "Z", false)
  | 19 => ("WatchDogsModel", "bitten", "[I", true)
  | 20 => ("WatchDogsModel", "bestCode", "I", false)
  | 21 => ("WatchDogsModel", "bestMuch", "I", false)
  | 22 => ("WatchDogsModel", "quietSum", "J", false)
  | 23 => ("WatchDogsModel", "resetSum", "J", false)
  | 24 => ("WatchDogsModel", "allWays", "J", false)
  | 25 => ("WatchDogsModel", "anew", "[I", true)
  | 26 => ("WatchDogsModel", "anewBy", "[I", true)
  | 27 => ("WatchDogsModel", "lanes", "[I", true)
  | 28 => ("WatchDogsModel", "sizes", "[I", true)
  | 29 => ("WatchDogsModel", "cells", "[I", true)
  | 30 => ("WatchDogsModel", "torn", "I", false)
  | _ => ("WatchDogsModel", "before", "[I", true)
def tyX5 : Nat → FieldType := fun k => match k with
  | 0 => .array .int
  | 1 => .array .int
  | 2 => .array .boolean
  | 3 => .array .int
  | 4 => .boolean
  | 5 => .array .int
  | 6 => .int
  | 7 => .int
  | 8 => .int
  | 9 => .int
  | 10 => .int
  | 11 => .int
  | 12 => .int
  | 13 => .int
  | 14 => .int
  | 15 => .int
  | 16 => .int
  | 17 => .int
  | 18 => .boolean
  | 19 => .array .int
  | 20 => .int
  | 21 => .int
  | 22 => .long
  | 23 => .long
  | 24 => .long
  | 25 => .array .int
  | 26 => .array .int
  | 27 => .array .int
  | 28 => .array .int
  | 29 => .array .int
  | 30 => .int
  | _ => .array .int
abbrev wsX50 : List Cond := u_ws RX5 TX5 32
theorem nmX5 : ∀ a, a < 32 → ∀ b, b < 32 → a ≠ b → (TX5 a).2.1 ≠ (TX5 b).2.1 := by decide +kernel
theorem tyX5_ok : ∀ k, k < 32 → parseFieldDescriptor (TX5 k).2.2.1 = some (tyX5 k) := by decide +kernel
abbrev cX5_init : ByteArray := prog_7_method_1_code
def yX5_init : MethodName := ⟨RX5, "<init>", "()V"⟩
abbrev cX5_in : ByteArray := prog_7_method_3_code
def yX5_in : MethodName := ⟨RX5, "in", "(JJJ)Z"⟩
abbrev cX5_flag : ByteArray := prog_7_method_4_code
def yX5_flag : MethodName := ⟨RX5, "flag", "(Z)I"⟩
abbrev cX5_firstDraft : ByteArray := prog_7_method_5_code
def yX5_firstDraft : MethodName := ⟨RX5, "firstDraft", "()V"⟩
abbrev cX5_keepDraft : ByteArray := prog_7_method_6_code
def yX5_keepDraft : MethodName := ⟨RX5, "keepDraft", "()V"⟩
abbrev cX5_feed : ByteArray := prog_7_method_7_code
def yX5_feed : MethodName := ⟨RX5, "feed", "(I)I"⟩
abbrev cX5_end : ByteArray := prog_7_method_8_code
def yX5_end : MethodName := ⟨RX5, "end", "(I)I"⟩
abbrev cX5_requires : ByteArray := prog_7_method_9_code
def yX5_requires : MethodName := ⟨RX5, "requires", "(ZI)V"⟩
abbrev cX5_byteAt : ByteArray := prog_7_method_10_code
def yX5_byteAt : MethodName := ⟨RX5, "byteAt", "(I)I"⟩
abbrev cX5_is : ByteArray := prog_7_method_11_code
def yX5_is : MethodName := ⟨RX5, "is", "(IIII)Z"⟩
abbrev cX5_endsIn : ByteArray := prog_7_method_12_code
def yX5_endsIn : MethodName := ⟨RX5, "endsIn", "(III)Z"⟩
abbrev cX5_lineNow : ByteArray := prog_7_method_13_code
def yX5_lineNow : MethodName := ⟨RX5, "lineNow", "()I"⟩
abbrev cX5_reads : ByteArray := prog_7_method_14_code
def yX5_reads : MethodName := ⟨RX5, "reads", "()V"⟩
abbrev cX5_readNumber : ByteArray := prog_7_method_15_code
def yX5_readNumber : MethodName := ⟨RX5, "readNumber", "(II)I"⟩
abbrev cX5_readSigns : ByteArray := prog_7_method_16_code
def yX5_readSigns : MethodName := ⟨RX5, "readSigns", "()V"⟩
abbrev cX5_readLineOf : ByteArray := prog_7_method_17_code
def yX5_readLineOf : MethodName := ⟨RX5, "readLineOf", "(I)V"⟩
abbrev cX5_readLine : ByteArray := prog_7_method_18_code
def yX5_readLine : MethodName := ⟨RX5, "readLine", "()V"⟩
abbrev cX5_text : ByteArray := prog_7_method_19_code
def yX5_text : MethodName := ⟨RX5, "text", "()I"⟩
abbrev cX5_fault : ByteArray := prog_7_method_20_code
def yX5_fault : MethodName := ⟨RX5, "fault", "()I"⟩
abbrev cX5_isDog : ByteArray := prog_7_method_21_code
def yX5_isDog : MethodName := ⟨RX5, "isDog", "(I)Z"⟩
abbrev cX5_isSign : ByteArray := prog_7_method_22_code
def yX5_isSign : MethodName := ⟨RX5, "isSign", "(I)Z"⟩
abbrev cX5_isPart : ByteArray := prog_7_method_23_code
def yX5_isPart : MethodName := ⟨RX5, "isPart", "(I)Z"⟩
abbrev cX5_starts : ByteArray := prog_7_method_24_code
def yX5_starts : MethodName := ⟨RX5, "starts", "()V"⟩
abbrev cX5_settles : ByteArray := prog_7_method_25_code
def yX5_settles : MethodName := ⟨RX5, "settles", "()V"⟩
abbrev cX5_of : ByteArray := prog_7_method_26_code
def yX5_of : MethodName := ⟨RX5, "of", "(II)I"⟩
abbrev cX5_becomesOf : ByteArray := prog_7_method_27_code
def yX5_becomesOf : MethodName := ⟨RX5, "becomesOf", "(III)V"⟩
abbrev cX5_isStuck : ByteArray := prog_7_method_28_code
def yX5_isStuck : MethodName := ⟨RX5, "isStuck", "()Z"⟩
abbrev cX5_bitesFed : ByteArray := prog_7_method_29_code
def yX5_bitesFed : MethodName := ⟨RX5, "bitesFed", "(I)Z"⟩
abbrev cX5_bitesLate : ByteArray := prog_7_method_30_code
def yX5_bitesLate : MethodName := ⟨RX5, "bitesLate", "(I)Z"⟩
abbrev cX5_bitesUnfed : ByteArray := prog_7_method_31_code
def yX5_bitesUnfed : MethodName := ⟨RX5, "bitesUnfed", "(I)Z"⟩
abbrev cX5_resets : ByteArray := prog_7_method_32_code
def yX5_resets : MethodName := ⟨RX5, "resets", "(II)V"⟩
abbrev cX5_dogsGo : ByteArray := prog_7_method_33_code
def yX5_dogsGo : MethodName := ⟨RX5, "dogsGo", "(I)V"⟩
abbrev cX5_tickGoes : ByteArray := prog_7_method_34_code
def yX5_tickGoes : MethodName := ⟨RX5, "tickGoes", "(Z)V"⟩
abbrev cX5_ticksGo : ByteArray := prog_7_method_35_code
def yX5_ticksGo : MethodName := ⟨RX5, "ticksGo", "(I)V"⟩
abbrev cX5_resetsIn : ByteArray := prog_7_method_36_code
def yX5_resetsIn : MethodName := ⟨RX5, "resetsIn", "(I)I"⟩
abbrev cX5_rule : ByteArray := prog_7_method_37_code
def yX5_rule : MethodName := ⟨RX5, "rule", "(I)I"⟩
abbrev cX5_dog : ByteArray := prog_7_method_38_code
def yX5_dog : MethodName := ⟨RX5, "dog", "(II)I"⟩
abbrev cX5_sign : ByteArray := prog_7_method_39_code
def yX5_sign : MethodName := ⟨RX5, "sign", "(I)I"⟩
abbrev cX5_jam : ByteArray := prog_7_method_40_code
def yX5_jam : MethodName := ⟨RX5, "jam", "(II)I"⟩
abbrev cX5_becomes : ByteArray := prog_7_method_41_code
def yX5_becomes : MethodName := ⟨RX5, "becomes", "(II)I"⟩
abbrev cX5_alter : ByteArray := prog_7_method_42_code
def yX5_alter : MethodName := ⟨RX5, "alter", "(III)I"⟩
abbrev cX5_set : ByteArray := prog_7_method_43_code
def yX5_set : MethodName := ⟨RX5, "set", "(II)I"⟩
abbrev cX5_add : ByteArray := prog_7_method_44_code
def yX5_add : MethodName := ⟨RX5, "add", "(I)I"⟩
abbrev cX5_cut : ByteArray := prog_7_method_45_code
def yX5_cut : MethodName := ⟨RX5, "cut", "(I)I"⟩
abbrev cX5_stick : ByteArray := prog_7_method_46_code
def yX5_stick : MethodName := ⟨RX5, "stick", "(II)I"⟩
abbrev cX5_clear : ByteArray := prog_7_method_47_code
def yX5_clear : MethodName := ⟨RX5, "clear", "(I)I"⟩
abbrev cX5_bone : ByteArray := prog_7_method_48_code
def yX5_bone : MethodName := ⟨RX5, "bone", "(I)I"⟩
abbrev cX5_ticks : ByteArray := prog_7_method_49_code
def yX5_ticks : MethodName := ⟨RX5, "ticks", "(I)I"⟩
abbrev cX5_isFar : ByteArray := prog_7_method_50_code
def yX5_isFar : MethodName := ⟨RX5, "isFar", "(I)Z"⟩
abbrev cX5_runs : ByteArray := prog_7_method_51_code
def yX5_runs : MethodName := ⟨RX5, "runs", "(II)I"⟩
abbrev cX5_ahead : ByteArray := prog_7_method_52_code
def yX5_ahead : MethodName := ⟨RX5, "ahead", "(III)I"⟩
abbrev cX5_when : ByteArray := prog_7_method_53_code
def yX5_when : MethodName := ⟨RX5, "when", "()I"⟩
abbrev cX5_bitesBy : ByteArray := prog_7_method_54_code
def yX5_bitesBy : MethodName := ⟨RX5, "bitesBy", "(III)Z"⟩
abbrev cX5_need : ByteArray := prog_7_method_55_code
def yX5_need : MethodName := ⟨RX5, "need", "(II)I"⟩
abbrev cX5_most : ByteArray := prog_7_method_56_code
def yX5_most : MethodName := ⟨RX5, "most", "(II)I"⟩
abbrev cX5_startsJudging : ByteArray := prog_7_method_57_code
def yX5_startsJudging : MethodName := ⟨RX5, "startsJudging", "(I)V"⟩
abbrev cX5_judges : ByteArray := prog_7_method_58_code
def yX5_judges : MethodName := ⟨RX5, "judges", "(II)V"⟩
abbrev cX5_judged : ByteArray := prog_7_method_59_code
def yX5_judged : MethodName := ⟨RX5, "judged", "(I)I"⟩
abbrev cX5_kind : ByteArray := prog_7_method_60_code
def yX5_kind : MethodName := ⟨RX5, "kind", "(III)I"⟩
abbrev cX5_swap : ByteArray := prog_7_method_61_code
def yX5_swap : MethodName := ⟨RX5, "swap", "(II)I"⟩
abbrev cX5_sleep : ByteArray := prog_7_method_62_code
def yX5_sleep : MethodName := ⟨RX5, "sleep", "(II)I"⟩
abbrev cX5_common : ByteArray := prog_7_method_63_code
def yX5_common : MethodName := ⟨RX5, "common", "(JJ)J"⟩
abbrev cX5_lowest : ByteArray := prog_7_method_64_code
def yX5_lowest : MethodName := ⟨RX5, "lowest", "(JJI)J"⟩
abbrev cX5_findOdds : ByteArray := prog_7_method_65_code
def yX5_findOdds : MethodName := ⟨RX5, "findOdds", "(II)V"⟩
abbrev cX5_luck : ByteArray := prog_7_method_66_code
def yX5_luck : MethodName := ⟨RX5, "luck", "(III)J"⟩
abbrev cX5_mean : ByteArray := prog_7_method_67_code
def yX5_mean : MethodName := ⟨RX5, "mean", "(III)J"⟩
abbrev cX5_see : ByteArray := prog_7_method_68_code
def yX5_see : MethodName := ⟨RX5, "see", "(II)I"⟩
abbrev cX5_forget : ByteArray := prog_7_method_69_code
def yX5_forget : MethodName := ⟨RX5, "forget", "(I)I"⟩
abbrev cX5_isSoWith : ByteArray := prog_7_method_70_code
def yX5_isSoWith : MethodName := ⟨RX5, "isSoWith", "(III)Z"⟩
abbrev cX5_which : ByteArray := prog_7_method_71_code
def yX5_which : MethodName := ⟨RX5, "which", "(IIII)I"⟩
abbrev cX5_kinds : ByteArray := prog_7_method_72_code
def yX5_kinds : MethodName := ⟨RX5, "kinds", "(I)I"⟩
abbrev cX5_limits : ByteArray := prog_7_method_73_code
def yX5_limits : MethodName := ⟨RX5, "limits", "(I)I"⟩
abbrev cX5_ask : ByteArray := prog_7_method_74_code
def yX5_ask : MethodName := ⟨RX5, "ask", "(II)I"⟩
abbrev cX5_drift : ByteArray := prog_7_method_75_code
def yX5_drift : MethodName := ⟨RX5, "drift", "(III)I"⟩
abbrev cX5_copies : ByteArray := prog_7_method_76_code
def yX5_copies : MethodName := ⟨RX5, "copies", "(II)V"⟩
abbrev cX5_keep : ByteArray := prog_7_method_77_code
def yX5_keep : MethodName := ⟨RX5, "keep", "(I)I"⟩
abbrev cX5_back : ByteArray := prog_7_method_78_code
def yX5_back : MethodName := ⟨RX5, "back", "(I)I"⟩
abbrev cX5_isSheet : ByteArray := prog_7_method_79_code
def yX5_isSheet : MethodName := ⟨RX5, "isSheet", "(II)Z"⟩
abbrev cX5_sheet : ByteArray := prog_7_method_80_code
def yX5_sheet : MethodName := ⟨RX5, "sheet", "(III)I"⟩
abbrev cX5_lay : ByteArray := prog_7_method_81_code
def yX5_lay : MethodName := ⟨RX5, "lay", "(III)I"⟩
abbrev cX5_read : ByteArray := prog_7_method_82_code
def yX5_read : MethodName := ⟨RX5, "read", "(IIII)I"⟩
abbrev cX5_torn : ByteArray := prog_7_method_83_code
def yX5_torn : MethodName := ⟨RX5, "torn", "()I"⟩
abbrev cX5_count : ByteArray := prog_7_method_84_code
def yX5_count : MethodName := ⟨RX5, "count", "(I)I"⟩
def RJx145de : String := "java/io/Serializable"
def TJx145de : u_T := fun k => match k with
  | _ => ("", "", "", false)
def tyJx145de : Nat → FieldType := fun k => match k with
  | _ => .int
abbrev wsJx145de0 : List Cond := u_ws RJx145de TJx145de 0
theorem nmJx145de : ∀ a, a < 0 → ∀ b, b < 0 → a ≠ b → (TJx145de a).2.1 ≠ (TJx145de b).2.1 := by decide +kernel
theorem tyJx145de_ok : ∀ k, k < 0 → parseFieldDescriptor (TJx145de k).2.2.1 = some (tyJx145de k) := by decide +kernel
def RJx9f9b0 : String := "java/lang/CharSequence"
def TJx9f9b0 : u_T := fun k => match k with
  | _ => ("", "", "", false)
def tyJx9f9b0 : Nat → FieldType := fun k => match k with
  | _ => .int
abbrev wsJx9f9b00 : List Cond := u_ws RJx9f9b0 TJx9f9b0 0
theorem nmJx9f9b0 : ∀ a, a < 0 → ∀ b, b < 0 → a ≠ b → (TJx9f9b0 a).2.1 ≠ (TJx9f9b0 b).2.1 := by decide +kernel
theorem tyJx9f9b0_ok : ∀ k, k < 0 → parseFieldDescriptor (TJx9f9b0 k).2.2.1 = some (tyJx9f9b0 k) := by decide +kernel
def RJxb160c : String := "java/lang/Comparable"
def TJxb160c : u_T := fun k => match k with
  | _ => ("", "", "", false)
def tyJxb160c : Nat → FieldType := fun k => match k with
  | _ => .int
abbrev wsJxb160c0 : List Cond := u_ws RJxb160c TJxb160c 0
theorem nmJxb160c : ∀ a, a < 0 → ∀ b, b < 0 → a ≠ b → (TJxb160c a).2.1 ≠ (TJxb160c b).2.1 := by decide +kernel
theorem tyJxb160c_ok : ∀ k, k < 0 → parseFieldDescriptor (TJxb160c k).2.2.1 = some (tyJxb160c k) := by decide +kernel
def RJ6 : String := "java/lang/Integer"
def TJ6 : u_T := fun k => match k with
  | _ => ("", "", "", false)
def tyJ6 : Nat → FieldType := fun k => match k with
  | _ => .int
abbrev wsJ60 : List Cond := u_ws RJ6 TJ6 0
theorem nmJ6 : ∀ a, a < 0 → ∀ b, b < 0 → a ≠ b → (TJ6 a).2.1 ≠ (TJ6 b).2.1 := by decide +kernel
theorem tyJ6_ok : ∀ k, k < 0 → parseFieldDescriptor (TJ6 k).2.2.1 = some (tyJ6 k) := by decide +kernel
abbrev cJ6_bitCount_0f7a4 : ByteArray := prog_8_method_49_code
def yJ6_bitCount_0f7a4 : MethodName := ⟨RJ6, "bitCount", "(I)I"⟩
def RJ9 : String := "java/lang/Math"
def TJ9 : u_T := fun k => match k with
  | _ => ("", "", "", false)
def tyJ9 : Nat → FieldType := fun k => match k with
  | _ => .int
abbrev wsJ90 : List Cond := u_ws RJ9 TJ9 0
theorem nmJ9 : ∀ a, a < 0 → ∀ b, b < 0 → a ≠ b → (TJ9 a).2.1 ≠ (TJ9 b).2.1 := by decide +kernel
theorem tyJ9_ok : ∀ k, k < 0 → parseFieldDescriptor (TJ9 k).2.2.1 = some (tyJ9 k) := by decide +kernel
abbrev cJ9_max_7cf53 : ByteArray := prog_9_method_65_code
def yJ9_max_7cf53 : MethodName := ⟨RJ9, "max", "(II)I"⟩
abbrev cJ9_min_7cf53 : ByteArray := prog_9_method_69_code
def yJ9_min_7cf53 : MethodName := ⟨RJ9, "min", "(II)I"⟩
def RJ0 : String := "java/lang/String"
def TJ0 : u_T := fun k => match k with
  | _ => ("", "", "", false)
def tyJ0 : Nat → FieldType := fun k => match k with
  | _ => .int
abbrev wsJ00 : List Cond := u_ws RJ0 TJ0 0
theorem nmJ0 : ∀ a, a < 0 → ∀ b, b < 0 → a ≠ b → (TJ0 a).2.1 ≠ (TJ0 b).2.1 := by decide +kernel
theorem tyJ0_ok : ∀ k, k < 0 → parseFieldDescriptor (TJ0 k).2.2.1 = some (tyJ0 k) := by decide +kernel
abbrev cJ0_length_8abf5 : ByteArray := prog_10_method_54_code
def yJ0_length_8abf5 : MethodName := ⟨RJ0, "length", "()I"⟩
abbrev cJ0_charAt_5068e : ByteArray := prog_10_method_56_code
def yJ0_charAt_5068e : MethodName := ⟨RJ0, "charAt", "(I)C"⟩
abbrev cJ0_coder_7d493 : ByteArray := prog_10_method_152_code
def yJ0_coder_7d493 : MethodName := ⟨RJ0, "coder", "()B"⟩
abbrev cJ0_isLatin1_aae02 : ByteArray := prog_10_method_154_code
def yJ0_isLatin1_aae02 : MethodName := ⟨RJ0, "isLatin1", "()Z"⟩
abbrev cJ0_checkIndex_df160 : ByteArray := prog_10_method_155_code
def yJ0_checkIndex_df160 : MethodName := ⟨RJ0, "checkIndex", "(II)V"⟩
def RJ1 : String := "java/lang/StringLatin1"
def TJ1 : u_T := fun k => match k with
  | _ => ("", "", "", false)
def tyJ1 : Nat → FieldType := fun k => match k with
  | _ => .int
abbrev wsJ10 : List Cond := u_ws RJ1 TJ1 0
theorem nmJ1 : ∀ a, a < 0 → ∀ b, b < 0 → a ≠ b → (TJ1 a).2.1 ≠ (TJ1 b).2.1 := by decide +kernel
theorem tyJ1_ok : ∀ k, k < 0 → parseFieldDescriptor (TJ1 k).2.2.1 = some (tyJ1 k) := by decide +kernel
abbrev cJ1_charAt_3b067 : ByteArray := prog_11_method_2_code
def yJ1_charAt_3b067 : MethodName := ⟨RJ1, "charAt", "([BI)C"⟩
def RJ2 : String := "java/lang/StringUTF16"
def TJ2 : u_T := fun k => match k with
  | _ => ("", "", "", false)
def tyJ2 : Nat → FieldType := fun k => match k with
  | _ => .int
abbrev wsJ20 : List Cond := u_ws RJ2 TJ2 0
theorem nmJ2 : ∀ a, a < 0 → ∀ b, b < 0 → a ≠ b → (TJ2 a).2.1 ≠ (TJ2 b).2.1 := by decide +kernel
theorem tyJ2_ok : ∀ k, k < 0 → parseFieldDescriptor (TJ2 k).2.2.1 = some (tyJ2 k) := by decide +kernel
abbrev cJ2_getChar_3b067 : ByteArray := prog_12_method_5_code
def yJ2_getChar_3b067 : MethodName := ⟨RJ2, "getChar", "([BI)C"⟩
abbrev cJ2_length_9d52b : ByteArray := prog_12_method_6_code
def yJ2_length_9d52b : MethodName := ⟨RJ2, "length", "([B)I"⟩
abbrev cJ2_charAt_3b067 : ByteArray := prog_12_method_83_code
def yJ2_charAt_3b067 : MethodName := ⟨RJ2, "charAt", "([BI)C"⟩
abbrev cJ2_checkIndex_2214a : ByteArray := prog_12_method_91_code
def yJ2_checkIndex_2214a : MethodName := ⟨RJ2, "checkIndex", "(I[B)V"⟩
def RJ10 : String := "java/lang/System"
def TJ10 : u_T := fun k => match k with
  | _ => ("", "", "", false)
def tyJ10 : Nat → FieldType := fun k => match k with
  | _ => .int
abbrev wsJ100 : List Cond := u_ws RJ10 TJ10 0
theorem nmJ10 : ∀ a, a < 0 → ∀ b, b < 0 → a ≠ b → (TJ10 a).2.1 ≠ (TJ10 b).2.1 := by decide +kernel
theorem tyJ10_ok : ∀ k, k < 0 → parseFieldDescriptor (TJ10 k).2.2.1 = some (tyJ10 k) := by decide +kernel
def RJxfd54e : String := "java/lang/constant/Constable"
def TJxfd54e : u_T := fun k => match k with
  | _ => ("", "", "", false)
def tyJxfd54e : Nat → FieldType := fun k => match k with
  | _ => .int
abbrev wsJxfd54e0 : List Cond := u_ws RJxfd54e TJxfd54e 0
theorem nmJxfd54e : ∀ a, a < 0 → ∀ b, b < 0 → a ≠ b → (TJxfd54e a).2.1 ≠ (TJxfd54e b).2.1 := by decide +kernel
theorem tyJxfd54e_ok : ∀ k, k < 0 → parseFieldDescriptor (TJxfd54e k).2.2.1 = some (tyJxfd54e k) := by decide +kernel
def RJx3cf43 : String := "java/lang/constant/ConstantDesc"
def TJx3cf43 : u_T := fun k => match k with
  | _ => ("", "", "", false)
def tyJx3cf43 : Nat → FieldType := fun k => match k with
  | _ => .int
abbrev wsJx3cf430 : List Cond := u_ws RJx3cf43 TJx3cf43 0
theorem nmJx3cf43 : ∀ a, a < 0 → ∀ b, b < 0 → a ≠ b → (TJx3cf43 a).2.1 ≠ (TJx3cf43 b).2.1 := by decide +kernel
theorem tyJx3cf43_ok : ∀ k, k < 0 → parseFieldDescriptor (TJx3cf43 k).2.2.1 = some (tyJx3cf43 k) := by decide +kernel
def RJ7 : String := "java/util/Arrays"
def TJ7 : u_T := fun k => match k with
  | _ => ("", "", "", false)
def tyJ7 : Nat → FieldType := fun k => match k with
  | _ => .int
abbrev wsJ70 : List Cond := u_ws RJ7 TJ7 0
theorem nmJ7 : ∀ a, a < 0 → ∀ b, b < 0 → a ≠ b → (TJ7 a).2.1 ≠ (TJ7 b).2.1 := by decide +kernel
theorem tyJ7_ok : ∀ k, k < 0 → parseFieldDescriptor (TJ7 k).2.2.1 = some (tyJ7 k) := by decide +kernel
abbrev cJ7_fill_53178 : ByteArray := prog_14_method_103_code
def yJ7_fill_53178 : MethodName := ⟨RJ7, "fill", "([II)V"⟩
def RJ3 : String := "jdk/internal/util/Preconditions"
def TJ3 : u_T := fun k => match k with
  | _ => ("", "", "", false)
def tyJ3 : Nat → FieldType := fun k => match k with
  | _ => .int
abbrev wsJ30 : List Cond := u_ws RJ3 TJ3 0
theorem nmJ3 : ∀ a, a < 0 → ∀ b, b < 0 → a ≠ b → (TJ3 a).2.1 ≠ (TJ3 b).2.1 := by decide +kernel
theorem tyJ3_ok : ∀ k, k < 0 → parseFieldDescriptor (TJ3 k).2.2.1 = some (tyJ3 k) := by decide +kernel
abbrev cJ3_checkIndex_8e157 : ByteArray := prog_15_method_11_code
def yJ3_checkIndex_8e157 : MethodName := ⟨RJ3, "checkIndex", "(IILjava/util/function/BiFunction;)I"⟩
def RL : String := "WatchDogsLaw"
abbrev cL_law : ByteArray := code
def yL_law : MethodName := ⟨RL, "law", "([I)Z"⟩
abbrev vwCl : List vw_C := [(RX0, TX0, 18), (RX1, TX1, 3), (RX2, TX2, 10), (RX3, TX3, 8), (RX4, TX4, 7), (RX5, TX5, 32)]
end
section
/-! THE LOGIC, part 1: a world of numbered cells. A cell's ints are a function of its number and the place; references never change. -/
abbrev wd_Sh : Type := (FieldType × Nat) ⊕ ((FieldType × List Nat) ⊕ Nat)
abbrev wd_Wd : Type := Nat × (Nat → wd_Sh) × (Nat → Nat → Option Nat)
abbrev wd_G : Type := va_G × (Nat → Nat) × (Nat → ClassId)
abbrev wd_S : Type := Nat → Nat → Int32
abbrev wd_T : Type := Nat → Nat → Int64
abbrev wd_L : Type := List (Option Value)
abbrev wd_Lf : Type := Nat × Nat × List Nat × Int32 × Int64
abbrev wd_M : Type := (MethodName × ByteArray × Nat × Option FieldType) × (Nat × Nat) × Nat × (Nat → wd_Lf)
abbrev wd_P : Type := Option Value → wd_S → wd_T → Prop
def wv (a : Nat → Nat) (v : Value) : Value := match v with
  | .ref c => .ref (a c)
  | x => x
/-- the good words of the tables -/
def wd_gw : List Cond := lw_tbl.filter goodWord
def wd_at (p : Nat) (w : Cond) : Bool := decide (lw_tbl[p]? = some w) && goodWord w
theorem wd_at_mem {p : Nat} {w : Cond} (h : wd_at p w = true) : w ∈ wd_gw := by
  simp only [wd_at, Bool.and_eq_true, decide_eq_true_eq] at h
  exact List.mem_filter.mpr ⟨List.mem_of_getElem? h.1, h.2⟩
theorem wd_good {y : MethodName} {b : ByteArray} {n : Nat} {r : Option FieldType} (h : Cond.code y b n r ∈ wd_gw) : GoodIn wd_gw (.code y b n r :: wd_gw) := by
  intro w hw
  have h1 : w ∈ wd_gw := by
    rcases List.mem_cons.mp hw with rfl | hw
    · exact h
    · exact hw
  exact ⟨h1, good_of_word (List.mem_filter.mp h1).2⟩
/-- all of these are words of the tables, at these places -/
def wd_ats : List Nat → List Cond → Bool
  | _, [] => true
  | [], _ :: _ => false
  | p :: ps, w :: ws => wd_at p w && wd_ats ps ws
theorem wd_ats_mem : ∀ {ps : List Nat} {ws : List Cond}, wd_ats ps ws = true → ∀ w ∈ ws, w ∈ wd_gw
  | _, [], _, w, h => by cases h
  | [], _ :: _, h0, _, _ => by cases h0
  | p :: ps, w0 :: ws, h0, w, h => by
    simp only [wd_ats, Bool.and_eq_true] at h0
    rcases List.mem_cons.mp h with rfl | h
    · exact wd_at_mem h0.1
    · exact wd_ats_mem h0.2 w h
/-! fields: which are longs, which booleans -/
def wd_lg (ci k : Nat) : Bool := Nat.beq ci 5 && (Nat.beq k 22 || (Nat.beq k 23 || Nat.beq k 24))
def wd_bo (ci k : Nat) : Bool := Nat.beq ci 5 && (Nat.beq k 4 || Nat.beq k 18)
def wd_cl (ci : Nat) : vw_C := vwCl.getD ci (RX0, TX0, 0)
def wd_nf (ci : Nat) : Nat := (wd_cl ci).2.2
def wd_ty (ci : Nat) : Nat → FieldType := match ci with
  | 0 => tyX0
  | 1 => tyX1
  | 2 => tyX2
  | 3 => tyX3
  | 4 => tyX4
  | _ => tyX5
def wd_fv (w : wd_Wd) (σ : wd_S) (τ : wd_T) (ci c k : Nat) : Value := match w.2.2 c k with
  | some r => .ref r
  | none => cond (wd_lg ci k) (.long (τ c k)) (.int (σ c k))
def wd_cell (w : wd_Wd) (G : wd_G) (σ : wd_S) (τ : wd_T) (c : Nat) : va_E := match w.2.1 c with
  | .inl x => .inl (G.2.2 c, x.2, .inl (σ c))
  | .inr (.inl x) => .inl (G.2.2 c, x.2.length, .inr (.inr (.inr (.inr (fun i => (x.2[i]?).map G.2.1)))))
  | .inr (.inr ci) => .inr (ci, (List.range (wd_nf ci)).map (fun k => wv G.2.1 (wd_fv w σ τ ci c k)))
def wd_ws (w : wd_Wd) (G : wd_G) (σ : wd_S) (τ : wd_T) : va_W := (List.range w.1).map (fun c => (G.2.1 c, wd_cell w G σ τ c))
def wd_A (w : wd_Wd) (G : wd_G) : Nat → Prop := fun q => ∃ c, c < w.1 ∧ q = G.2.1 c
def wd_uc {α : Type} (σ : Nat → α) (c : Nat) (f : α) : Nat → α := fun c' => if c' = c then f else σ c'
theorem wd_ws_at {w : wd_Wd} {G : wd_G} {σ : wd_S} {τ : wd_T} {c : Nat} (h : c < w.1) : (wd_ws w G σ τ)[c]? = some (G.2.1 c, wd_cell w G σ τ c) := by
  simp [wd_ws, h]
theorem wd_ws_set {w : wd_Wd} {G : wd_G} {σ σ' : wd_S} {τ τ' : wd_T} {c : Nat} (ho : ∀ c', c' ≠ c → wd_cell w G σ' τ' c' = wd_cell w G σ τ c') : (wd_ws w G σ τ).set c (G.2.1 c, wd_cell w G σ' τ' c) = wd_ws w G σ' τ' := by
  apply List.ext_getElem?
  intro i
  by_cases hi : i < w.1
  · rw [wd_ws_at hi]
    by_cases hc : i = c
    · subst hc
      rw [List.getElem?_set_self (by simp [wd_ws, hi])]
    · rw [List.getElem?_set_ne (Ne.symm hc), wd_ws_at hi, ho i hc]
  · have e1 : (wd_ws w G σ' τ')[i]? = none := List.getElem?_eq_none (by simp [wd_ws]; omega)
    have e2 : ((wd_ws w G σ τ).set c (G.2.1 c, wd_cell w G σ' τ' c))[i]? = none := List.getElem?_eq_none (by simp [wd_ws]; omega)
    rw [e1, e2]
theorem wd_cell_ne {w : wd_Wd} {G : wd_G} {σ : wd_S} {τ : wd_T} {c : Nat} {f : Nat → Int32} : ∀ c', c' ≠ c → wd_cell w G (wd_uc σ c f) τ c' = wd_cell w G σ τ c' := by
  intro c' h
  have e : wd_uc σ c f c' = σ c' := if_neg h
  unfold wd_cell wd_fv
  simp only [e]
theorem wd_cell_neT {w : wd_Wd} {G : wd_G} {σ : wd_S} {τ : wd_T} {c : Nat} {f : Nat → Int64} : ∀ c', c' ≠ c → wd_cell w G σ (wd_uc τ c f) c' = wd_cell w G σ τ c' := by
  intro c' h
  have e : wd_uc τ c f c' = τ c' := if_neg h
  unfold wd_cell wd_fv
  simp only [e]
/-- the addresses are apart -/
def wd_inj (w : wd_Wd) (G : wd_G) : Prop := ∀ i j, i < w.1 → j < w.1 → G.2.1 i = G.2.1 j → i = j
theorem wd_D {w : wd_Wd} {G : wd_G} {σ : wd_S} {τ : wd_T} (h : wd_inj w G) : va_D (wd_A w G) (wd_ws w G σ τ) := by
  have key : ∀ (k : Nat) (q : Nat × va_E), (wd_ws w G σ τ)[k]? = some q → k < w.1 ∧ q.1 = G.2.1 k := by
    intro k q hk
    have hl : k < w.1 := by
      have := (List.getElem?_eq_some_iff.mp hk).1
      simpa [wd_ws] using this
    rw [wd_ws_at hl] at hk
    cases hk
    exact ⟨hl, rfl⟩
  refine ⟨fun i j p q hi hj e => ?_, fun k q hk => ?_⟩
  · obtain ⟨h1, h2⟩ := key i p hi
    obtain ⟨h3, h4⟩ := key j q hj
    exact h i j h1 h3 (by rw [← h2, ← h4, e])
  · obtain ⟨h1, h2⟩ := key k q hk
    exact ⟨k, h1, h2⟩
/-! String constants and statics, which nothing changes -/
def wd_len : List Nat := [5, 6, 5, 4, 5, 3]
def wd_byt : List (List Int32) := [[112, 108, 97, 105, 110], [119, 105, 110, 100, 111, 119], [116, 119, 105, 99, 101], [104, 97, 108, 102], [115, 105, 103, 110, 115], [106, 97, 109]]
def wd_six : List (Nat × String) := [(41, "plain"), (51, "window"), (53, "twice"), (55, "half"), (57, "signs"), (62, "jam")]
def wd_nest : List Cond := lw_tbl.filter (fun c => match c with
  | .methodLinkNest _ _ _ _ => true
  | _ => false)
def wd_X (G : wd_G) (A : Nat → Prop) (U : State) (H : Heap) : Prop :=
  vk_S 6 wd_len wd_byt (fun i => G.2.1 (1000 + i)) (fun i => G.2.1 (1100 + i)) A U H ∧ (∀ i : Nat, i < 6 → vk_R RX2 (wd_six.getD i (0, "")).1 (wd_six.getD i (0, "")).2 (G.2.1 (1000 + i)) U) ∧ va_Z "java/lang/String" "COMPACT_STRINGS" "Z" (.int 1) A U H ∧ va_Zq "jdk/internal/util/Preconditions" "SIOOBE_FORMATTER" "Ljava/util/function/BiFunction;" A U H
theorem wd_X.kept {G : wd_G} {A : Nat → Prop} {U : State} {H H1 : Heap} (h : wd_X G A U H) (hq : ∀ a : Nat, a < H.size → ¬ A a → H1[a]? = H[a]?) : wd_X G A U H1 :=
  ⟨h.1.kept hq, h.2.1, h.2.2.1.kept hq, h.2.2.2.kept hq⟩
theorem wd_X.warm {G : wd_G} {A : Nat → Prop} {s U : State} {H : Heap} (hW : s.WarmedH U.vm) (h : wd_X G A s H) : wd_X G A U H :=
  ⟨h.1.moved hW.alike, fun i hi => (h.2.1 i hi).warm hW, h.2.2.1.moved hW.alike, h.2.2.2.moved hW.alike⟩
theorem wd_X.same {G : wd_G} {A : Nat → Prop} {s U : State} {H : Heap} (hv : U.vm = s.vm) (h : wd_X G A s H) : wd_X G A U H :=
  have ha : s.vm.Alike U.vm := by rw [hv]; exact Vm.Alike.refl s.vm
  ⟨h.1.moved ha, fun i hi => (h.2.1 i hi).same hv, h.2.2.1.moved ha, h.2.2.2.moved ha⟩
/-- what a method knows of the tables, beyond the good words -/
def wd_arr (x : wd_Sh) : Option FieldType := match x with
  | .inl y => some y.1
  | .inr (.inl y) => some y.1
  | .inr (.inr _) => none
def wd_K (w : wd_Wd) (G : wd_G) (A : Nat → Prop) (s : State) : Prop :=
  wd_inj w G ∧ va_K G.1 vwCl [] s ∧ (∀ (c : Nat) (ty : FieldType), c < w.1 → wd_arr (w.2.1 c) = some ty → ArrOfT s (G.2.2 c) ty ∧ va_RA s (G.2.2 c) ty) ∧ (∀ n ∈ wd_nest, va_Nw n s) ∧ wd_X G A s s.heap
theorem wd_nest_is {n : Cond} (h : n ∈ wd_nest) : ∃ a i x b, n = .methodLinkNest a i x b := by
  have h1 := (List.mem_filter.mp h).2
  cases n <;> first | exact ⟨_, _, _, _, rfl⟩ | exact absurd h1 (by simp)
theorem wd_K.warm {w : wd_Wd} {G : wd_G} {A : Nat → Prop} {s U : State} (hW : s.WarmedH U.vm) (hX : wd_X G A s U.heap) (h : wd_K w G A s) : wd_K w G A U := by
  refine ⟨h.1, h.2.1.moved hW.alike, fun c ty hc ht => ⟨arrOfT_moved hW.alike (h.2.2.1 c ty hc ht).1, (h.2.2.1 c ty hc ht).2.moved hW.alike⟩, fun n hn => ?_, hX.warm hW⟩
  have h1 := h.2.2.2.1 n hn
  obtain ⟨a, i, x, b, rfl⟩ := wd_nest_is hn
  exact va_Nw.warmM hW h1
theorem wd_K.same {w : wd_Wd} {G : wd_G} {A : Nat → Prop} {s U : State} (hv : U.vm = s.vm) (hh : U.heap = s.heap) (h : wd_K w G A s) : wd_K w G A U := by
  have ha : s.vm.Alike U.vm := by rw [hv]; exact Vm.Alike.refl s.vm
  refine ⟨h.1, h.2.1.moved ha, fun c ty hc ht => ⟨arrOfT_moved ha (h.2.2.1 c ty hc ht).1, (h.2.2.1 c ty hc ht).2.moved ha⟩, fun n hn => ?_, by rw [hh]; exact h.2.2.2.2.same hv⟩
  have h1 := h.2.2.2.1 n hn
  obtain ⟨a, i, x, b, rfl⟩ := wd_nest_is hn
  exact va_Nw.same rfl hv.symm h1
/-! locals by place -/
def wd_g : wd_L → Nat → Option Value
  | [], _ => none
  | x :: _, 0 => x
  | _ :: r, i + 1 => wd_g r i
theorem wd_g_at : ∀ {l : wd_L} {i : Nat} {v : Value}, wd_g l i = some v → l[i]? = some (some v)
  | [], _, _, h => by cases h
  | x :: _, 0, v, h => by simpa [wd_g] using h
  | _ :: r, i + 1, v, h => by simpa using wd_g_at (l := r) (i := i) (v := v) h
def wd_k (x : Option Value) (i : Nat) : Option Value := match i with
  | 0 => (match x with
    | some (.long _) => none
    | some (.double _) => none
    | y => y)
  | _ => x
def wd_s1 : wd_L → Nat → Value → wd_L
  | [], _, _ => []
  | _ :: r, 0, v => some v :: r
  | x :: r, i + 1, v => wd_k x i :: wd_s1 r i v
def wd_clr : wd_L → wd_L
  | [] => []
  | _ :: r => none :: r
def wd_s2 : wd_L → Nat → Value → wd_L
  | [], _, _ => []
  | _ :: r, 0, v => some v :: wd_clr r
  | x :: r, i + 1, v => wd_k x i :: wd_s2 r i v
theorem wd_k_at {x : Option Value} {i : Nat} {u : Value} (h : wd_k x i = some u) : x = some u ∧ ¬ (i = 0 ∧ u.category = 2) := by
  cases i with
  | zero =>
    cases x with
    | none => cases h
    | some y => cases y <;> simp [wd_k] at h <;> subst h <;> simp [Value.category]
  | succ n => exact ⟨h, fun z => by cases z.1⟩
theorem wd_s1_at : ∀ {l : wd_L} {i j : Nat} {v u : Value}, (wd_s1 l i v)[j]? = some (some u) → (j = i ∧ u = v) ∨ (j ≠ i ∧ l[j]? = some (some u) ∧ ¬ (j + 1 = i ∧ u.category = 2))
  | [], _, _, _, _, h => by simp [wd_s1] at h
  | x :: r, 0, 0, v, u, h => by
    simp [wd_s1] at h
    exact Or.inl ⟨rfl, h.symm⟩
  | x :: r, 0, j + 1, v, u, h => by
    simp [wd_s1] at h
    exact Or.inr ⟨by omega, by simpa using h, fun z => by omega⟩
  | x :: r, i + 1, 0, v, u, h => by
    simp [wd_s1] at h
    obtain ⟨h1, h2⟩ := wd_k_at h
    exact Or.inr ⟨by omega, by simp [h1], fun z => h2 ⟨by omega, z.2⟩⟩
  | x :: r, i + 1, j + 1, v, u, h => by
    simp [wd_s1] at h
    rcases wd_s1_at h with ⟨h1, h2⟩ | ⟨h1, h2, h3⟩
    · exact Or.inl ⟨by omega, h2⟩
    · exact Or.inr ⟨by omega, by simpa using h2, fun z => h3 ⟨by omega, z.2⟩⟩
theorem wd_clr_at {l : wd_L} {j : Nat} {u : Value} (h : (wd_clr l)[j]? = some (some u)) : j ≠ 0 ∧ l[j]? = some (some u) := by
  cases l with
  | nil => simp [wd_clr] at h
  | cons x r =>
    cases j with
    | zero => simp [wd_clr] at h
    | succ j =>
      simp [wd_clr] at h
      exact ⟨by omega, by simpa using h⟩
theorem wd_s2_at : ∀ {l : wd_L} {i j : Nat} {v u : Value}, (wd_s2 l i v)[j]? = some (some u) → (j = i ∧ u = v) ∨ (j ≠ i ∧ j ≠ i + 1 ∧ l[j]? = some (some u) ∧ ¬ (j + 1 = i ∧ u.category = 2))
  | [], _, _, _, _, h => by simp [wd_s2] at h
  | x :: r, 0, 0, v, u, h => by
    simp [wd_s2] at h
    exact Or.inl ⟨rfl, h.symm⟩
  | x :: r, 0, j + 1, v, u, h => by
    simp [wd_s2] at h
    obtain ⟨h1, h2⟩ := wd_clr_at h
    exact Or.inr ⟨by omega, by omega, by simpa using h2, fun z => by omega⟩
  | x :: r, i + 1, 0, v, u, h => by
    simp [wd_s2] at h
    obtain ⟨h1, h2⟩ := wd_k_at h
    exact Or.inr ⟨by omega, by omega, by simp [h1], fun z => h2 ⟨by omega, z.2⟩⟩
  | x :: r, i + 1, j + 1, v, u, h => by
    simp [wd_s2] at h
    rcases wd_s2_at h with ⟨h1, h2⟩ | ⟨h1, h2, h3, h4⟩
    · exact Or.inl ⟨by omega, h2⟩
    · exact Or.inr ⟨by omega, by omega, by simpa using h3, fun z => h4 ⟨by omega, z.2⟩⟩
/-- the frame's locals are these -/
def wd_lok (a : Nat → Nat) (ls : Array Slot) (n : Nat) (l : wd_L) : Prop := ls.size = n ∧ lv_wf ls ∧ ∀ (i : Nat) (v : Value), l[i]? = some (some v) → ls[i]? = some (.val (wv a v))
def wd_prs (a : Nat → Nat) (l : wd_L) : List (Nat × Value) := (List.range l.length).filterMap (fun j => match l[j]? with
  | some (some u) => some (j, wv a u)
  | _ => none)
theorem wd_prs_mem {a : Nat → Nat} {l : wd_L} {j : Nat} {u : Value} (h : l[j]? = some (some u)) : (j, wv a u) ∈ wd_prs a l := by
  refine List.mem_filterMap.mpr ⟨j, List.mem_range.mpr (List.getElem?_eq_some_iff.mp h).1, ?_⟩
  rw [h]
theorem wd_prs_has {a : Nat → Nat} {ls : Array Slot} {n : Nat} {l : wd_L} (h : wd_lok a ls n l) : lv_has ls n (wd_prs a l) := by
  refine ⟨h.1, h.2.1, fun q hq => ?_⟩
  obtain ⟨j, -, hj⟩ := List.mem_filterMap.mp hq
  split at hj
  · rename_i u hu
    cases hj
    exact h.2.2 j u hu
  · cases hj
theorem wv_cat (a : Nat → Nat) (v : Value) : (wv a v).category = v.category := by cases v <;> rfl
theorem wd_lok1 {a : Nat → Nat} {ls' : Array Slot} {n i : Nat} {l : wd_L} {v : Value} (h : lv_has ls' n ((i, wv a v) :: (wd_prs a l).filter (fun q => !(q.1 == i) && !(q.1 + 1 == i && q.2.category == 2)))) : wd_lok a ls' n (wd_s1 l i v) := by
  refine ⟨h.1, h.2.1, fun j u hj => ?_⟩
  rcases wd_s1_at hj with ⟨h1, h2⟩ | ⟨h1, h2, h3⟩
  · subst h1; subst h2
    exact h.2.2 _ List.mem_cons_self
  · refine h.2.2 (j, wv a u) (List.mem_cons_of_mem _ (List.mem_filter.mpr ⟨wd_prs_mem h2, ?_⟩))
    simp only [wv_cat]
    simp only [Bool.and_eq_true, Bool.not_eq_true', beq_eq_false_iff_ne, ne_eq, Bool.and_eq_false_iff]
    refine ⟨h1, ?_⟩
    by_cases hz : j + 1 = i
    · exact Or.inr (fun z => h3 ⟨hz, z⟩)
    · exact Or.inl hz
theorem wd_lok2 {a : Nat → Nat} {ls' : Array Slot} {n i : Nat} {l : wd_L} {v : Value} (h : lv_has ls' n ((i, wv a v) :: (wd_prs a l).filter (fun q => !(q.1 == i) && (!(q.1 == i + 1) && !(q.1 + 1 == i && q.2.category == 2))))) : wd_lok a ls' n (wd_s2 l i v) := by
  refine ⟨h.1, h.2.1, fun j u hj => ?_⟩
  rcases wd_s2_at hj with ⟨h1, h2⟩ | ⟨h1, h0, h2, h3⟩
  · subst h1; subst h2
    exact h.2.2 _ List.mem_cons_self
  · refine h.2.2 (j, wv a u) (List.mem_cons_of_mem _ (List.mem_filter.mpr ⟨wd_prs_mem h2, ?_⟩))
    simp only [wv_cat]
    simp only [Bool.and_eq_true, Bool.not_eq_true', beq_eq_false_iff_ne, ne_eq, Bool.and_eq_false_iff]
    refine ⟨h1, h0, ?_⟩
    by_cases hz : j + 1 = i
    · exact Or.inr (fun z => h3 ⟨hz, z⟩)
    · exact Or.inl hz
/-! THE JUDGEMENT -/
def wd_rm (M : wd_M) : Room := { frames := M.2.1.1, cells := 0, slots := 0, locals := M.2.1.2 }
def wd_wsM (M : wd_M) : List Cond := .code M.1.1 M.1.2.1 M.1.2.2.1 M.1.2.2.2 :: wd_gw
def wd_Cx (w : wd_Wd) (G : wd_G) (M : wd_M) (p : Program) (s : State) (m : MethodId) (args : Array Value) (meth : Method) (c : Code) : Prop :=
  p.tables.exec = Jvm.exec ∧ c.code = M.1.2.1 ∧ c.maxLocals = M.1.2.2.1 ∧ meth.sig.returnType = M.1.2.2.2 ∧ meth.locks = false ∧ s.vm.findClass M.1.1.cls = some m.cls ∧ (∀ w' ∈ wd_gw, w'.before args s = true) ∧ wd_K w G (wd_A w G) s
def wd_Qc (w : wd_Wd) (G : wd_G) (Q : wd_P) : Array Value → State → Outcome → State → Prop := fun _ st oc t =>
  ∃ (r : Option Value) (σ : wd_S) (τ : wd_T), oc = .returned (r.map (wv G.2.1)) ∧ Q r σ τ ∧ va_P G.1 vwCl (wd_ws w G σ τ) t.heap ∧ va_F (wd_A w G) st t
def Run (w : wd_Wd) (G : wd_G) (M : wd_M) (pc : Nat) (lv : wd_L) (st : List Value) (σ : wd_S) (τ : wd_T) (Q : wd_P) : Prop :=
  ∀ (p : Program) (l : Launch) (e : Env) (s : State) (m : MethodId) (args : Array Value) (below : List Frame) (meth : Method) (c : Code) (H : Heap) (locs : List Loc) (ls : Array Slot),
    wd_Cx w G M p s m args meth c → va_P G.1 vwCl (wd_ws w G σ τ) H → va_S (wd_A w G) s.heap H locs → wd_lok G.2.1 ls M.1.2.2.1 lv →
    W p l e (wd_rm M) s m args below meth c H locs 0 0 (MQ below (wd_Qc w G Q) args s 0 0 (wd_A w G)) (F0 m pc ls (st.map (wv G.2.1)))
end
section
/-! THE LOGIC, part 2: what an instruction does, by its kind -/
def wd_f4 (n : Nat) : Fin 4 := ⟨n % 4, Nat.mod_lt _ (by decide)⟩
def wd_f2 (n : Nat) : Fin 2 := ⟨n % 2, Nat.mod_lt _ (by decide)⟩
def wd_pr : List Nat → List (Nat × Nat)
  | a :: b :: r => (a, b) :: wd_pr r
  | _ => []
/-- the instruction of a kind, and its length; as: its numbers -/
def wd_ins (k : Nat) (as : List Nat) (v : Int32) (pc : Nat) : Instr × Nat := match k with
  | 0 => (.iconst v.toInt, 1)
  | 1 => (.bipush v.toInt, 2)
  | 2 => (.sipush v.toInt, 3)
  | 3 => (.lconst (wd_f2 (as.getD 0 0)), 1)
  | 4 => (.ldc (as.getD 0 0), 2)
  | 5 => (.ldc_w (as.getD 0 0), 3)
  | 6 => (.ldc2_w (as.getD 0 0), 3)
  | 7 => (.ldc (as.getD 0 0), 2)
  | 8 => (.iload_n (wd_f4 (as.getD 0 0)), 1)
  | 9 => (.iload (as.getD 0 0), 2)
  | 10 => (.lload_n (wd_f4 (as.getD 0 0)), 1)
  | 11 => (.lload (as.getD 0 0), 2)
  | 12 => (.aload_n (wd_f4 (as.getD 0 0)), 1)
  | 13 => (.aload (as.getD 0 0), 2)
  | 14 => (.istore_n (wd_f4 (as.getD 0 0)), 1)
  | 15 => (.istore (as.getD 0 0), 2)
  | 16 => (.lstore_n (wd_f4 (as.getD 0 0)), 1)
  | 17 => (.lstore (as.getD 0 0), 2)
  | 18 => (.astore_n (wd_f4 (as.getD 0 0)), 1)
  | 19 => (.astore (as.getD 0 0), 2)
  | 20 => (.iinc (as.getD 0 0) v.toInt, 3)
  | 21 => (.iadd, 1)
  | 22 => (.isub, 1)
  | 23 => (.imul, 1)
  | 24 => (.iand, 1)
  | 25 => (.ior, 1)
  | 26 => (.ishl, 1)
  | 27 => (.ishr, 1)
  | 28 => (.iushr, 1)
  | 29 => (.idiv, 1)
  | 30 => (.irem, 1)
  | 31 => (.ladd, 1)
  | 32 => (.lmul, 1)
  | 33 => (.land, 1)
  | 34 => (.lor, 1)
  | 35 => (.lshl, 1)
  | 36 => (.lshr, 1)
  | 37 => (.ldiv, 1)
  | 38 => (.lrem, 1)
  | 39 => (.lcmp, 1)
  | 40 => (.i2l, 1)
  | 41 => (.l2i, 1)
  | 42 => (.i2b, 1)
  | 43 => (.i2s, 1)
  | 44 => (.dup, 1)
  | 45 => (.dup2, 1)
  | 46 => (.pop, 1)
  | 47 => (.ifCond .eq ((as.getD 0 0 : Int) - pc), 3)
  | 48 => (.ifCond .ne ((as.getD 0 0 : Int) - pc), 3)
  | 49 => (.ifCond .lt ((as.getD 0 0 : Int) - pc), 3)
  | 50 => (.ifCond .ge ((as.getD 0 0 : Int) - pc), 3)
  | 51 => (.ifCond .gt ((as.getD 0 0 : Int) - pc), 3)
  | 52 => (.ifCond .le ((as.getD 0 0 : Int) - pc), 3)
  | 53 => (.if_icmp .eq ((as.getD 0 0 : Int) - pc), 3)
  | 54 => (.if_icmp .ne ((as.getD 0 0 : Int) - pc), 3)
  | 55 => (.if_icmp .lt ((as.getD 0 0 : Int) - pc), 3)
  | 56 => (.if_icmp .ge ((as.getD 0 0 : Int) - pc), 3)
  | 57 => (.if_icmp .gt ((as.getD 0 0 : Int) - pc), 3)
  | 58 => (.if_icmp .le ((as.getD 0 0 : Int) - pc), 3)
  | 59 => (.goto ((as.getD 0 0 : Int) - pc), 3)
  | 60 => (.tableswitch ((as.getD 0 0 : Int) - pc) (as.getD 1 0 : Int) ((as.getD 1 0 + (as.drop 3).length : Nat) - 1 : Int) ((as.drop 3).map (fun t : Nat => (t : Int) - (pc : Int))).toArray, as.getD 2 0)
  | 61 => (.lookupswitch ((as.getD 0 0 : Int) - pc) ((wd_pr (as.drop 2)).map (fun q : Nat × Nat => ((q.1 : Int), (q.2 : Int) - (pc : Int)))).toArray, as.getD 1 0)
  | 62 => (.ireturn, 1)
  | 63 => (.lreturn, 1)
  | 64 => (.return_, 1)
  | 65 => (.getfield (as.getD 2 0), 3)
  | 66 => (.putfield (as.getD 2 0), 3)
  | 67 => (.iaload, 1)
  | 68 => (.iastore, 1)
  | 69 => (.baload, 1)
  | 70 => (.bastore, 1)
  | 71 => (.aaload, 1)
  | 72 => (.arraylength, 1)
  | 73 => (.invokestatic (as.getD 0 0), 3)
  | 74 => (.invokestatic (as.getD 0 0), 3)
  | 75 => (.invokestatic (as.getD 0 0), 3)
  | _ => (.nop, 1)
/-- what else must hold of an instruction in a method of the class own -/
def wd_ex (own : String) (nL pc : Nat) (k : Nat) (as : List Nat) (v : Int32) (u : Int64) (rm : Nat × Nat) : Bool := match k with
  | 1 => decide ((Int8.ofInt v.toInt).toInt32 = v)
  | 2 => decide ((Int16.ofInt v.toInt).toInt32 = v)
  | 3 => decide (Int64.ofNat (wd_f2 (as.getD 0 0) : Nat) = u)
  | 4 => wd_at (as.getD 1 0) (.constant own (as.getD 0 0) v)
  | 5 => wd_at (as.getD 1 0) (.constant own (as.getD 0 0) v)
  | 6 => wd_at (as.getD 1 0) (.constantLong own (as.getD 0 0) u)
  | 7 => Nat.blt (as.getD 1 0) 6 && (decide ((wd_six.getD (as.getD 1 0) (0, "")).1 = as.getD 0 0) && decide (own = RX2))
  | 8 => Nat.blt (as.getD 0 0) 4
  | 10 => Nat.blt (as.getD 0 0) 4
  | 12 => Nat.blt (as.getD 0 0) 4
  | 14 => Nat.blt (as.getD 0 0) 4 && Nat.blt (as.getD 0 0) nL
  | 15 => Nat.blt (as.getD 0 0) nL
  | 16 => Nat.blt (as.getD 0 0) 4 && Nat.blt (as.getD 0 0 + 1) nL
  | 17 => Nat.blt (as.getD 0 0 + 1) nL
  | 18 => Nat.blt (as.getD 0 0) 4 && Nat.blt (as.getD 0 0) nL
  | 19 => Nat.blt (as.getD 0 0) nL
  | 20 => Nat.blt (as.getD 0 0) nL
  | 60 => Nat.blt (as.getD 1 0 + (as.drop 3).length) 2147483648
  | 61 => (((wd_pr (as.drop 2)).map (fun q : Nat × Nat => ((q.1 : Int), (q.2 : Int) - (pc : Int)))).zip (((wd_pr (as.drop 2)).map (fun q : Nat × Nat => ((q.1 : Int), (q.2 : Int) - (pc : Int)))).drop 1)).all (fun (a, next) => a.1 < next.1) && (wd_pr (as.drop 2)).all (fun q => Nat.blt q.1 2147483648)
  | 65 => Nat.blt (as.getD 0 0) 6 && (Nat.blt (as.getD 1 0) (wd_nf (as.getD 0 0)) && wd_at (as.getD 3 0) (.fieldLink own (as.getD 2 0) ((wd_cl (as.getD 0 0)).2.1 (as.getD 1 0)).1 ((wd_cl (as.getD 0 0)).2.1 (as.getD 1 0)).2.1 ((wd_cl (as.getD 0 0)).2.1 (as.getD 1 0)).2.2.1))
  | 66 => Nat.blt (as.getD 0 0) 6 && (Nat.blt (as.getD 1 0) (wd_nf (as.getD 0 0)) && (wd_at (as.getD 3 0) (.fieldLink own (as.getD 2 0) ((wd_cl (as.getD 0 0)).2.1 (as.getD 1 0)).1 ((wd_cl (as.getD 0 0)).2.1 (as.getD 1 0)).2.1 ((wd_cl (as.getD 0 0)).2.1 (as.getD 1 0)).2.2.1) &&
      (!((wd_cl (as.getD 0 0)).2.1 (as.getD 1 0)).2.2.2 && decide (wd_ty (as.getD 0 0) (as.getD 1 0) = cond (wd_lg (as.getD 0 0) (as.getD 1 0)) .long (cond (wd_bo (as.getD 0 0) (as.getD 1 0)) .boolean .int)))))
  | 73 => wd_at (as.getD 1 0) (.methodLink own (as.getD 0 0) Lib.Math.min.name) && (Nat.ble 1 rm.1 && Nat.ble 21 rm.2)
  | 74 => wd_at (as.getD 1 0) (.methodLink own (as.getD 0 0) Lib.Math.max.name) && (Nat.ble 1 rm.1 && Nat.ble 21 rm.2)
  | 75 => wd_at (as.getD 1 0) (.methodLink own (as.getD 0 0) arraycopyName) && (Nat.ble 1 rm.1 && Nat.ble (8 + (nativeFrameWords "java/lang/System" "arraycopy" 5 + 11)) rm.2)
  | _ => true
def wd_chk (M : wd_M) (pc : Nat) : Bool :=
  Nat.ble 90 (M.2.2.2 pc).1 || (decide (decode M.1.2.1 pc = .ok (wd_ins (M.2.2.2 pc).1 (M.2.2.2 pc).2.2.1 (M.2.2.2 pc).2.2.2.1 pc)) && (Nat.beq (M.2.2.2 pc).2.1 (pc + (wd_ins (M.2.2.2 pc).1 (M.2.2.2 pc).2.2.1 (M.2.2.2 pc).2.2.2.1 pc).2) &&
    wd_ex M.1.1.cls M.1.2.2.1 pc (M.2.2.2 pc).1 (M.2.2.2 pc).2.2.1 (M.2.2.2 pc).2.2.2.1 (M.2.2.2 pc).2.2.2.2 M.2.1))
/-- all instructions of a method are as its table says -/
def wd_ok (M : wd_M) : Prop := ∀ pc, pc < M.2.2.1 → wd_chk M pc = true
/-! the effect, to a continuation -/
abbrev wd_C : Type := Nat → wd_L → List Value → wd_S → wd_T → Prop
def wd_bit (x : Int32) : Prop := x = 0 ∨ x = 1
def wd_obj (w : wd_Wd) (c ci : Nat) : Bool := Nat.blt c w.1 && (match w.2.1 c with
  | .inr (.inr x) => Nat.beq x ci
  | _ => false)
def wd_pa (w : wd_Wd) (c : Nat) : Option (FieldType × Nat) := cond (Nat.blt c w.1) (match w.2.1 c with
  | .inl x => some x
  | _ => none) none
def wd_qa (w : wd_Wd) (c : Nat) : Option (List Nat) := cond (Nat.blt c w.1) (match w.2.1 c with
  | .inr (.inl x) => cond x.1.isReference (some x.2) none
  | _ => none) none
def wd_sw (x : Int32) (d : Prop) (K : Nat → Prop) : Nat → List Nat → Prop
  | _, [] => d
  | n, t :: r => (x = nI n → K t) ∧ (¬ x = nI n → wd_sw x d K (n + 1) r)
def wd_lw (x : Int32) (d : Prop) (K : Nat → Prop) : List (Nat × Nat) → Prop
  | [] => d
  | q :: r => (x = nI q.1 → K q.2) ∧ (¬ x = nI q.1 → wd_lw x d K r)
def wd_al (i : Int32) (K : Nat → Prop) : Nat → List Nat → Prop
  | _, [] => True
  | n, t :: r => (i = nI n → K t) ∧ wd_al i K (n + 1) r
def wd_a1 (as : List Nat) (f : Nat → Prop) : Prop := match as with
  | i :: _ => f i
  | [] => False
def wd_a2 (as : List Nat) (f : Nat → Nat → Prop) : Prop := match as with
  | i :: j :: _ => f i j
  | _ => False
def wd_a3 (as : List Nat) (f : Nat → Nat → List Nat → Prop) : Prop := match as with
  | d :: lo :: _ :: ts => f d lo ts
  | _ => False
def wd_a4 (as : List Nat) (f : Nat → List (Nat × Nat) → Prop) : Prop := match as with
  | d :: _ :: r => f d (wd_pr r)
  | _ => False
theorem wd_a1_of {as : List Nat} {f : Nat → Prop} (h : wd_a1 as f) : f (as.getD 0 0) := by
  cases as with
  | nil => exact h.elim
  | cons i r => exact h
theorem wd_a2_of {as : List Nat} {f : Nat → Nat → Prop} (h : wd_a2 as f) : f (as.getD 0 0) (as.getD 1 0) := by
  match as, h with
  | [], h => exact h.elim
  | [_], h => exact h.elim
  | i :: j :: r, h => exact h
theorem wd_a3_of {as : List Nat} {f : Nat → Nat → List Nat → Prop} (h : wd_a3 as f) : f (as.getD 0 0) (as.getD 1 0) (as.drop 3) := by
  match as, h with
  | [], h => exact h.elim
  | [_], h => exact h.elim
  | [_, _], h => exact h.elim
  | i :: j :: q :: r, h => exact h
theorem wd_a4_of {as : List Nat} {f : Nat → List (Nat × Nat) → Prop} (h : wd_a4 as f) : f (as.getD 0 0) (wd_pr (as.drop 2)) := by
  match as, h with
  | [], h => exact h.elim
  | [_], h => exact h.elim
  | i :: j :: r, h => exact h
/-- a list of locals, its spine in sight -/
def wd_fL : wd_L → (wd_L → Prop) → Prop
  | [], K => K []
  | none :: r, K => wd_fL r (fun r => K (none :: r))
  | some v :: r, K => wd_fL r (fun r => K (some v :: r))
theorem wd_fL_of : ∀ {l : wd_L} {K : wd_L → Prop}, wd_fL l K → K l
  | [], _, h => h
  | none :: r, K, h => wd_fL_of (l := r) (K := fun r => K (none :: r)) h
  | some v :: r, K, h => wd_fL_of (l := r) (K := fun r => K (some v :: r)) h
def wd_fvK (w : wd_Wd) (σ : wd_S) (τ : wd_T) (ci c k : Nat) (K : Value → Prop) : Prop := match w.2.2 c k with
  | some r => K (.ref r)
  | none => cond (wd_lg ci k) (K (.long (τ c k))) (K (.int (σ c k)))
theorem wd_fvK_of {w : wd_Wd} {σ : wd_S} {τ : wd_T} {ci c k : Nat} {K : Value → Prop} (h : wd_fvK w σ τ ci c k K) : K (wd_fv w σ τ ci c k) := by
  unfold wd_fvK at h
  unfold wd_fv
  cases hr : w.2.2 c k with
  | some r => rw [hr] at h; exact h
  | none =>
    rw [hr] at h
    cases hb : wd_lg ci k with
    | true => rw [hb] at h; exact h
    | false => rw [hb] at h; exact h
def wd_bin (st : List Value) (f : Int32 → Int32 → Int32) (K : List Value → Prop) : Prop := match st with
  | .int y :: .int x :: r => K (.int (f x y) :: r)
  | _ => False
def wd_binl (st : List Value) (f : Int64 → Int64 → Int64) (K : List Value → Prop) : Prop := match st with
  | .long y :: .long x :: r => K (.long (f x y) :: r)
  | _ => False
def wd_ld (l : wd_L) (i : Nat) (st : List Value) (K : List Value → Prop) : Prop := match wd_g l i with
  | some (.int x) => K (.int x :: st)
  | _ => False
def wd_ldl (l : wd_L) (i : Nat) (st : List Value) (K : List Value → Prop) : Prop := match wd_g l i with
  | some (.long x) => K (.long x :: st)
  | _ => False
def wd_lda (l : wd_L) (i : Nat) (st : List Value) (K : List Value → Prop) : Prop := match wd_g l i with
  | some (.ref x) => K (.ref x :: st)
  | _ => False
def wd_sti (l : wd_L) (i : Nat) (st : List Value) (K : wd_L → List Value → Prop) : Prop := match st with
  | .int x :: r => wd_fL (wd_s1 l i (.int x)) (fun l => K l r)
  | _ => False
def wd_stl (l : wd_L) (i : Nat) (st : List Value) (K : wd_L → List Value → Prop) : Prop := match st with
  | .long x :: r => wd_fL (wd_s2 l i (.long x)) (fun l => K l r)
  | _ => False
def wd_sta (l : wd_L) (i : Nat) (st : List Value) (K : wd_L → List Value → Prop) : Prop := match st with
  | .ref x :: r => wd_fL (wd_s1 l i (.ref x)) (fun l => K l r)
  | _ => False
def wd_un (st : List Value) (K : Int32 → List Value → Prop) : Prop := match st with
  | .int x :: r => K x r
  | _ => False
def wd_unl (st : List Value) (K : Int64 → List Value → Prop) : Prop := match st with
  | .long x :: r => K x r
  | _ => False
def wd_duo (st : List Value) (K : Int32 → Int32 → List Value → Prop) : Prop := match st with
  | .int y :: .int x :: r => K x y r
  | _ => False
def wd_get (w : wd_Wd) (ci k : Nat) (st : List Value) (σ : wd_S) (τ : wd_T) (K : List Value → Prop) : Prop := match st with
  | .ref c :: r => (match wd_obj w c ci with
    | true => wd_fvK w σ τ ci c k (fun v => K (v :: r))
    | false => False)
  | _ => False
def wd_put (w : wd_Wd) (ci k : Nat) (st : List Value) (σ : wd_S) (τ : wd_T) (K : List Value → wd_S → wd_T → Prop) : Prop := match st with
  | .int x :: .ref c :: r => (match wd_obj w c ci, w.2.2 c k, wd_lg ci k with
    | true, none, false => cond (wd_bo ci k) (wd_bit x ∧ K r (wd_uc σ c (upd (σ c) k x)) τ) (K r (wd_uc σ c (upd (σ c) k x)) τ)
    | _, _, _ => False)
  | .long x :: .ref c :: r => (match wd_obj w c ci, w.2.2 c k, wd_lg ci k with
    | true, none, true => K r σ (wd_uc τ c (vp_updL (τ c) k x))
    | _, _, _ => False)
  | _ => False
def wd_ia (w : wd_Wd) (st : List Value) (σ : wd_S) (K : List Value → Prop) : Prop := match st with
  | .int i :: .ref c :: r => (match wd_pa w c with
    | some (.int, n) => vp_in i n ∧ K (.int (σ c i.toNatClampNeg) :: r)
    | _ => False)
  | _ => False
def wd_ba (w : wd_Wd) (st : List Value) (σ : wd_S) (K : List Value → Prop) : Prop := match st with
  | .int i :: .ref c :: r => (match wd_pa w c with
    | some (.byte, n) => vp_in i n ∧ K (.int (σ c i.toNatClampNeg) :: r)
    | some (.boolean, n) => vp_in i n ∧ K (.int (σ c i.toNatClampNeg) :: r)
    | _ => False)
  | _ => False
def wd_is (w : wd_Wd) (st : List Value) (σ : wd_S) (K : List Value → wd_S → Prop) : Prop := match st with
  | .int x :: .int i :: .ref c :: r => (match wd_pa w c with
    | some (.int, n) => vp_in i n ∧ K r (wd_uc σ c (upd (σ c) i.toNatClampNeg x))
    | _ => False)
  | _ => False
def wd_bs (w : wd_Wd) (st : List Value) (σ : wd_S) (K : List Value → wd_S → Prop) : Prop := match st with
  | .int x :: .int i :: .ref c :: r => (match wd_pa w c with
    | some (.byte, n) => vp_in i n ∧ K r (wd_uc σ c (upd (σ c) i.toNatClampNeg (vp_nar .byte x)))
    | some (.boolean, n) => vp_in i n ∧ K r (wd_uc σ c (upd (σ c) i.toNatClampNeg (vp_nar .boolean x)))
    | _ => False)
  | _ => False
def wd_aa (w : wd_Wd) (st : List Value) (K : List Value → Prop) : Prop := match st with
  | .int i :: .ref c :: r => (match wd_qa w c with
    | some ids => vp_in i ids.length ∧ wd_al i (fun id => K (.ref id :: r)) 0 ids
    | _ => False)
  | _ => False
def wd_len_ (w : wd_Wd) (st : List Value) (K : List Value → Prop) : Prop := match st with
  | .ref c :: r => (match wd_pa w c with
    | some (_, n) => K (.int (nI n) :: r)
    | _ => False)
  | _ => False
def wd_sm (st : List Value) : Prop := (st.map fun v => v.category).sum ≤ 8
def wd_cp (w : wd_Wd) (st : List Value) (σ : wd_S) (K : List Value → wd_S → Prop) : Prop := match st with
  | .int n :: .int dp :: .ref c1 :: .int sp :: .ref c0 :: r => (match wd_pa w c0, wd_pa w c1 with
    | some (.int, n0), some (.int, n1) => wd_sm r ∧ ¬ sp < 0 ∧ ¬ dp < 0 ∧ ¬ n < 0 ∧ sp.toNatClampNeg + n.toNatClampNeg ≤ n0 ∧ dp.toNatClampNeg + n.toNatClampNeg ≤ n1 ∧ K r (wd_uc σ c1 (va_cpy (σ c0) (σ c1) sp.toNatClampNeg dp.toNatClampNeg n.toNatClampNeg))
    | _, _ => False)
  | _ => False
def wd_A1 (k nx : Nat) (as : List Nat) (v : Int32) (u : Int64) (K : wd_C) (lv : wd_L) (st : List Value) (σ : wd_S) (τ : wd_T) : Prop := match k with
  | 0 => K nx lv (.int v :: st) σ τ
  | 1 => K nx lv (.int v :: st) σ τ
  | 2 => K nx lv (.int v :: st) σ τ
  | 3 => K nx lv (.long u :: st) σ τ
  | 4 => K nx lv (.int v :: st) σ τ
  | 5 => K nx lv (.int v :: st) σ τ
  | 6 => K nx lv (.long u :: st) σ τ
  | 7 => wd_a2 as (fun _ j => K nx lv (.ref (1000 + j) :: st) σ τ)
  | 8 => wd_a1 as (fun i => wd_ld lv i st (fun st => K nx lv st σ τ))
  | 9 => wd_a1 as (fun i => wd_ld lv i st (fun st => K nx lv st σ τ))
  | 10 => wd_a1 as (fun i => wd_ldl lv i st (fun st => K nx lv st σ τ))
  | 11 => wd_a1 as (fun i => wd_ldl lv i st (fun st => K nx lv st σ τ))
  | 12 => wd_a1 as (fun i => wd_lda lv i st (fun st => K nx lv st σ τ))
  | 13 => wd_a1 as (fun i => wd_lda lv i st (fun st => K nx lv st σ τ))
  | _ => False
def wd_A2 (k nx : Nat) (as : List Nat) (v : Int32) (K : wd_C) (lv : wd_L) (st : List Value) (σ : wd_S) (τ : wd_T) : Prop := match k with
  | 14 => wd_a1 as (fun i => wd_sti lv i st (fun lv st => K nx lv st σ τ))
  | 15 => wd_a1 as (fun i => wd_sti lv i st (fun lv st => K nx lv st σ τ))
  | 16 => wd_a1 as (fun i => wd_stl lv i st (fun lv st => K nx lv st σ τ))
  | 17 => wd_a1 as (fun i => wd_stl lv i st (fun lv st => K nx lv st σ τ))
  | 18 => wd_a1 as (fun i => wd_sta lv i st (fun lv st => K nx lv st σ τ))
  | 19 => wd_a1 as (fun i => wd_sta lv i st (fun lv st => K nx lv st σ τ))
  | 20 => wd_a1 as (fun i => match wd_g lv i with
    | some (.int x) => wd_fL (wd_s1 lv i (.int (x + v))) (fun lv => K nx lv st σ τ)
    | _ => False)
  | 21 => wd_bin st (fun x y => x + y) (fun st => K nx lv st σ τ)
  | 22 => wd_bin st (fun x y => x - y) (fun st => K nx lv st σ τ)
  | 23 => wd_bin st (fun x y => x * y) (fun st => K nx lv st σ τ)
  | 24 => wd_bin st (fun x y => x &&& y) (fun st => K nx lv st σ τ)
  | 25 => wd_bin st (fun x y => x ||| y) (fun st => K nx lv st σ τ)
  | 26 => wd_bin st (fun x y => x <<< (y &&& 31)) (fun st => K nx lv st σ τ)
  | 27 => wd_bin st (fun x y => x >>> (y &&& 31)) (fun st => K nx lv st σ τ)
  | 28 => wd_bin st (fun x y => (x.toUInt32 >>> (y.toUInt32 &&& Int32.toUInt32 31)).toInt32) (fun st => K nx lv st σ τ)
  | 29 => wd_duo st (fun x y r => ¬ y = 0 ∧ K nx lv (.int (x / y) :: r) σ τ)
  | 30 => wd_duo st (fun x y r => ¬ y = 0 ∧ K nx lv (.int (x - x / y * y) :: r) σ τ)
  | _ => False
def wd_A3 (k nx : Nat) (K : wd_C) (lv : wd_L) (st : List Value) (σ : wd_S) (τ : wd_T) : Prop := match k with
  | 31 => wd_binl st (fun x y => x + y) (fun st => K nx lv st σ τ)
  | 32 => wd_binl st (fun x y => x * y) (fun st => K nx lv st σ τ)
  | 33 => wd_binl st (fun x y => x &&& y) (fun st => K nx lv st σ τ)
  | 34 => wd_binl st (fun x y => x ||| y) (fun st => K nx lv st σ τ)
  | 35 => (match st with
    | .int y :: .long x :: r => K nx lv (.long (x <<< (y.toInt64 &&& 63)) :: r) σ τ
    | _ => False)
  | 36 => (match st with
    | .int y :: .long x :: r => K nx lv (.long (x >>> (y.toInt64 &&& 63)) :: r) σ τ
    | _ => False)
  | 37 => (match st with
    | .long y :: .long x :: r => ¬ y = 0 ∧ K nx lv (.long (x / y) :: r) σ τ
    | _ => False)
  | 38 => (match st with
    | .long y :: .long x :: r => ¬ y = 0 ∧ K nx lv (.long (x - x / y * y) :: r) σ τ
    | _ => False)
  | 39 => (match st with
    | .long y :: .long x :: r => K nx lv (.int (lg_cmp x y) :: r) σ τ
    | _ => False)
  | 40 => wd_un st (fun x r => K nx lv (.long x.toInt64 :: r) σ τ)
  | 41 => wd_unl st (fun x r => K nx lv (.int x.toInt32 :: r) σ τ)
  | 42 => wd_un st (fun x r => K nx lv (.int x.toInt8.toInt32 :: r) σ τ)
  | 43 => wd_un st (fun x r => K nx lv (.int x.toInt16.toInt32 :: r) σ τ)
  | 44 => (match st with
    | .int x :: r => K nx lv (.int x :: .int x :: r) σ τ
    | .ref x :: r => K nx lv (.ref x :: .ref x :: r) σ τ
    | _ => False)
  | 45 => (match st with
    | .int x :: .int y :: r => K nx lv (.int x :: .int y :: .int x :: .int y :: r) σ τ
    | .int x :: .ref y :: r => K nx lv (.int x :: .ref y :: .int x :: .ref y :: r) σ τ
    | _ => False)
  | 46 => (match st with
    | .int _ :: r => K nx lv r σ τ
    | _ => False)
  | _ => False
def wd_A4 (k nx : Nat) (as : List Nat) (K : wd_C) (lv : wd_L) (st : List Value) (σ : wd_S) (τ : wd_T) : Prop := match k with
  | 47 => wd_a1 as (fun t => wd_un st (fun x r => (x = 0 → K t lv r σ τ) ∧ (¬ x = 0 → K nx lv r σ τ)))
  | 48 => wd_a1 as (fun t => wd_un st (fun x r => (¬ x = 0 → K t lv r σ τ) ∧ (x = 0 → K nx lv r σ τ)))
  | 49 => wd_a1 as (fun t => wd_un st (fun x r => (x < 0 → K t lv r σ τ) ∧ (¬ x < 0 → K nx lv r σ τ)))
  | 50 => wd_a1 as (fun t => wd_un st (fun x r => (0 ≤ x → K t lv r σ τ) ∧ (¬ 0 ≤ x → K nx lv r σ τ)))
  | 51 => wd_a1 as (fun t => wd_un st (fun x r => (0 < x → K t lv r σ τ) ∧ (¬ 0 < x → K nx lv r σ τ)))
  | 52 => wd_a1 as (fun t => wd_un st (fun x r => (x ≤ 0 → K t lv r σ τ) ∧ (¬ x ≤ 0 → K nx lv r σ τ)))
  | 53 => wd_a1 as (fun t => wd_duo st (fun x y r => (x = y → K t lv r σ τ) ∧ (¬ x = y → K nx lv r σ τ)))
  | 54 => wd_a1 as (fun t => wd_duo st (fun x y r => (¬ x = y → K t lv r σ τ) ∧ (x = y → K nx lv r σ τ)))
  | 55 => wd_a1 as (fun t => wd_duo st (fun x y r => (x < y → K t lv r σ τ) ∧ (¬ x < y → K nx lv r σ τ)))
  | 56 => wd_a1 as (fun t => wd_duo st (fun x y r => (y ≤ x → K t lv r σ τ) ∧ (¬ y ≤ x → K nx lv r σ τ)))
  | 57 => wd_a1 as (fun t => wd_duo st (fun x y r => (y < x → K t lv r σ τ) ∧ (¬ y < x → K nx lv r σ τ)))
  | 58 => wd_a1 as (fun t => wd_duo st (fun x y r => (x ≤ y → K t lv r σ τ) ∧ (¬ x ≤ y → K nx lv r σ τ)))
  | 59 => wd_a1 as (fun t => K t lv st σ τ)
  | 60 => wd_a3 as (fun d lo ts => wd_un st (fun x r => wd_sw x (K d lv r σ τ) (fun t => K t lv r σ τ) lo ts))
  | 61 => wd_a4 as (fun d ps => wd_un st (fun x r => wd_lw x (K d lv r σ τ) (fun t => K t lv r σ τ) ps))
  | _ => False
def wd_ret (ret : Option FieldType) (x : Int32) (q : Prop) : Prop := match ret with
  | some .int => q
  | some .boolean => wd_bit x ∧ q
  | _ => False
def wd_A5 (w : wd_Wd) (ret : Option FieldType) (k nx : Nat) (as : List Nat) (K : wd_C) (Q : wd_P) (lv : wd_L) (st : List Value) (σ : wd_S) (τ : wd_T) : Prop := match k with
  | 62 => (match st with
    | [.int x] => wd_ret ret x (Q (some (.int x)) σ τ)
    | _ => False)
  | 63 => (match st with
    | [.long x] => ret = some .long ∧ Q (some (.long x)) σ τ
    | _ => False)
  | 64 => (match st with
    | [] => ret = none ∧ Q none σ τ
    | _ => False)
  | 65 => wd_a2 as (fun ci k => wd_get w ci k st σ τ (fun st => K nx lv st σ τ))
  | 66 => wd_a2 as (fun ci k => wd_put w ci k st σ τ (fun st σ τ => K nx lv st σ τ))
  | 67 => wd_ia w st σ (fun st => K nx lv st σ τ)
  | 68 => wd_is w st σ (fun st σ => K nx lv st σ τ)
  | 69 => wd_ba w st σ (fun st => K nx lv st σ τ)
  | 70 => wd_bs w st σ (fun st σ => K nx lv st σ τ)
  | 71 => wd_aa w st (fun st => K nx lv st σ τ)
  | 72 => wd_len_ w st (fun st => K nx lv st σ τ)
  | 73 => wd_duo st (fun x y r => wd_sm r ∧ K nx lv (.int (if y < x then y else x) :: r) σ τ)
  | 74 => wd_duo st (fun x y r => wd_sm r ∧ K nx lv (.int (if x < y then y else x) :: r) σ τ)
  | 75 => wd_cp w st σ (fun st σ => K nx lv st σ τ)
  | _ => False
def wd_sem (w : wd_Wd) (ret : Option FieldType) (f : wd_Lf) (K : wd_C) (Q : wd_P) (lv : wd_L) (st : List Value) (σ : wd_S) (τ : wd_T) : Prop := match f with
  | (k, nx, as, v, u) => cond (Nat.ble k 13) (wd_A1 k nx as v u K lv st σ τ) (cond (Nat.ble k 46) (cond (Nat.ble k 30) (wd_A2 k nx as v K lv st σ τ) (wd_A3 k nx K lv st σ τ)) (cond (Nat.ble k 61) (wd_A4 k nx as K lv st σ τ) (wd_A5 w ret k nx as K Q lv st σ τ)))
/-- a stretch of at most n instructions: it stops ahead of the places S and of calls, with R -/
def wd_blk (w : wd_Wd) (M : wd_M) (S : List Nat) (Q : wd_P) (R : wd_C) : Nat → wd_C
  | 0, pc, lv, st, σ, τ => R pc lv st σ τ
  | n + 1, pc, lv, st, σ, τ => wd_sem w M.1.2.2.2 (M.2.2.2 pc) (fun pc lv st σ τ => cond (S.elem pc || Nat.ble 90 (M.2.2.2 pc).1) (R pc lv st σ τ) (wd_blk w M S Q R n pc lv st σ τ)) Q lv st σ τ
end
section
theorem wd_in0 : ∀ x ∈ u_ws RX0 TX0 18, x ∈ wd_gw := wd_ats_mem (ps := [126, 128, 130, 132, 134, 136, 138, 140, 142, 144, 146, 148, 150, 152, 154, 156, 158, 160]) (by decide +kernel)
theorem wd_in1 : ∀ x ∈ u_ws RX1 TX1 3, x ∈ wd_gw := wd_ats_mem (ps := [268, 270, 272]) (by decide +kernel)
theorem wd_in2 : ∀ x ∈ u_ws RX2 TX2 10, x ∈ wd_gw := wd_ats_mem (ps := [229, 231, 233, 235, 237, 239, 241, 243, 245, 247]) (by decide +kernel)
theorem wd_in3 : ∀ x ∈ u_ws RX3 TX3 8, x ∈ wd_gw := wd_ats_mem (ps := [188, 190, 192, 194, 196, 198, 200, 202]) (by decide +kernel)
theorem wd_in4 : ∀ x ∈ u_ws RX4 TX4 7, x ∈ wd_gw := wd_ats_mem (ps := [283, 285, 287, 289, 291, 293, 295]) (by decide +kernel)
theorem wd_in5 : ∀ x ∈ u_ws RX5 TX5 32, x ∈ wd_gw := wd_ats_mem (ps := [809, 811, 813, 815, 817, 819, 821, 823, 825, 827, 829, 831, 833, 835, 837, 839, 841, 843, 845, 847, 849, 851, 853, 855, 857, 859, 861, 863, 865, 867, 869, 871]) (by decide +kernel)
/-! THE LOGIC, part 3: what the kinds do is what the machine does -/
theorem wd_in {ci : Nat} (h : ci < 6) : ∀ x ∈ u_ws (wd_cl ci).1 (wd_cl ci).2.1 (wd_cl ci).2.2, x ∈ wd_gw := by
  match ci, h with
  | 0, _ => exact wd_in0
  | 1, _ => exact wd_in1
  | 2, _ => exact wd_in2
  | 3, _ => exact wd_in3
  | 4, _ => exact wd_in4
  | 5, _ => exact wd_in5
  | n + 6, h => exact absurd h (by omega)
theorem wd_cl_at {ci : Nat} (h : ci < 6) : vwCl[ci]? = some ((wd_cl ci).1, (wd_cl ci).2.1, (wd_cl ci).2.2) := by
  match ci, h with
  | 0, _ => rfl
  | 1, _ => rfl
  | 2, _ => rfl
  | 3, _ => rfl
  | 4, _ => rfl
  | 5, _ => rfl
  | n + 6, h => exact absurd h (by omega)
theorem wd_ty_ok {ci : Nat} (h : ci < 6) : ∀ k, k < (wd_cl ci).2.2 → parseFieldDescriptor ((wd_cl ci).2.1 k).2.2.1 = some (wd_ty ci k) := by
  match ci, h with
  | 0, _ => exact tyX0_ok
  | 1, _ => exact tyX1_ok
  | 2, _ => exact tyX2_ok
  | 3, _ => exact tyX3_ok
  | 4, _ => exact tyX4_ok
  | 5, _ => exact tyX5_ok
  | n + 6, h => exact absurd h (by omega)
theorem wd_nm_ok {ci : Nat} (h : ci < 6) : ∀ a, a < (wd_cl ci).2.2 → ∀ b, b < (wd_cl ci).2.2 → a ≠ b → ((wd_cl ci).2.1 a).2.1 ≠ ((wd_cl ci).2.1 b).2.1 := by
  match ci, h with
  | 0, _ => exact nmX0
  | 1, _ => exact nmX1
  | 2, _ => exact nmX2
  | 3, _ => exact nmX3
  | 4, _ => exact nmX4
  | 5, _ => exact nmX5
  | n + 6, h => exact absurd h (by omega)
theorem wd_obj_is {w : wd_Wd} {c ci : Nat} (h : wd_obj w c ci = true) : c < w.1 ∧ w.2.1 c = .inr (.inr ci) := by
  simp only [wd_obj, Bool.and_eq_true] at h
  refine ⟨Nat.lt_of_succ_le (Nat.le_of_ble_eq_true h.1), ?_⟩
  have h2 := h.2
  split at h2
  · rename_i x hx
    rw [hx, Nat.eq_of_beq_eq_true h2]
  · cases h2
theorem wd_pa_is {w : wd_Wd} {c : Nat} {x : FieldType × Nat} (h : wd_pa w c = some x) : c < w.1 ∧ w.2.1 c = .inl x := by
  simp only [wd_pa] at h
  cases hb : Nat.blt c w.1 with
  | false => rw [hb] at h; cases h
  | true =>
    rw [hb] at h
    refine ⟨Nat.lt_of_succ_le (Nat.le_of_ble_eq_true hb), ?_⟩
    simp only [cond_true] at h
    split at h
    · rename_i y hy
      cases h
      exact hy
    · cases h
theorem wd_qa_is {w : wd_Wd} {c : Nat} {x : List Nat} (h : wd_qa w c = some x) : c < w.1 ∧ ∃ ty : FieldType, ty.isReference = true ∧ w.2.1 c = .inr (.inl (ty, x)) := by
  simp only [wd_qa] at h
  cases hb : Nat.blt c w.1 with
  | false => rw [hb] at h; cases h
  | true =>
    rw [hb] at h
    refine ⟨Nat.lt_of_succ_le (Nat.le_of_ble_eq_true hb), ?_⟩
    simp only [cond_true] at h
    split at h
    · rename_i y hy
      cases hr : y.1.isReference with
      | false => rw [hr] at h; cases h
      | true =>
        rw [hr] at h
        cases h
        exact ⟨y.1, hr, hy⟩
    · cases h
theorem wd_cell_o {w : wd_Wd} {G : wd_G} {σ : wd_S} {τ : wd_T} {c ci : Nat} (h : w.2.1 c = .inr (.inr ci)) : wd_cell w G σ τ c = .inr (ci, (List.range (wd_nf ci)).map (fun k => wv G.2.1 (wd_fv w σ τ ci c k))) := by
  simp only [wd_cell, h]
theorem wd_cell_p {w : wd_Wd} {G : wd_G} {σ : wd_S} {τ : wd_T} {c n : Nat} {ty : FieldType} (h : w.2.1 c = .inl (ty, n)) : wd_cell w G σ τ c = .inl (G.2.2 c, n, .inl (σ c)) := by
  simp only [wd_cell, h]
theorem wd_cell_q {w : wd_Wd} {G : wd_G} {σ : wd_S} {τ : wd_T} {c : Nat} {ty : FieldType} {ids : List Nat} (h : w.2.1 c = .inr (.inl (ty, ids))) : wd_cell w G σ τ c = .inl (G.2.2 c, ids.length, .inr (.inr (.inr (.inr (fun i => (ids[i]?).map G.2.1))))) := by
  simp only [wd_cell, h]
theorem wd_fs_set {N k : Nat} {f f' : Nat → Value} {v : Value} (hk : f' k = v) (ho : ∀ j, j ≠ k → f' j = f j) : ((List.range N).map f).set k v = (List.range N).map f' := by
  apply List.ext_getElem?
  intro j
  by_cases hj : j < N
  · by_cases e : j = k
    · subst e
      rw [List.getElem?_set_self (by simpa using hj)]
      simp [hj, hk]
    · rw [List.getElem?_set_ne (Ne.symm e)]
      simp [hj, ho j e]
  · rw [List.getElem?_eq_none (by simpa using hj), List.getElem?_eq_none (by simpa using hj)]
theorem wd_K1 {w : wd_Wd} {G : wd_G} {A : Nat → Prop} {s : State} {c : Nat} {ty : FieldType} (h : wd_K w G A s) (hc : c < w.1) (ht : wd_arr (w.2.1 c) = some ty) : va_K G.1 vwCl [(G.2.2 c, ty)] s := by
  refine ⟨h.2.1.1, fun k q hk => ?_⟩
  cases k with
  | zero =>
    simp at hk
    subst hk
    exact h.2.2.1 c ty hc ht
  | succ k => simp at hk
theorem wd_K2 {w : wd_Wd} {G : wd_G} {A : Nat → Prop} {s : State} {c d : Nat} {ty : FieldType} (h : wd_K w G A s) (hc : c < w.1) (ht : wd_arr (w.2.1 c) = some ty) (hd : d < w.1) (hu : wd_arr (w.2.1 d) = some ty) : va_K G.1 vwCl [(G.2.2 c, ty), (G.2.2 d, ty)] s := by
  refine ⟨h.2.1.1, fun k q hk => ?_⟩
  match k, hk with
  | 0, hk =>
    simp at hk
    subst hk
    exact h.2.2.1 c ty hc ht
  | 1, hk =>
    simp at hk
    subst hk
    exact h.2.2.1 d ty hd hu
  | k + 2, hk => simp at hk
theorem wd_blt {a b : Nat} (h : Nat.blt a b = true) : a < b := Nat.lt_of_succ_le (Nat.le_of_ble_eq_true h)
theorem wd_f4_eq {n : Nat} (h : n < 4) : (wd_f4 n : Nat) = n := Nat.mod_eq_of_lt h
theorem wd_toInt (v : Int32) : Int32.ofInt v.toInt = v := by simp
theorem wd_cat8 {a : Nat → Nat} {r : List Value} : ((r.map (wv a)).map fun v => v.category).sum = (r.map fun v => v.category).sum := by
  rw [List.map_map]
  congr 1
  apply List.map_congr_left
  intro v _
  exact wv_cat a v
theorem wd_minw : ∀ x ∈ [Cond.static Lib.Math.min.name, Cond.initialized "java/lang/Math", Cond.code Lib.Math.min.name Lib.Math.min.code 2 (some .int)], x ∈ wd_gw := wd_ats_mem (ps := [529, 69, 530]) (by decide +kernel)
theorem wd_maxw : ∀ x ∈ [Cond.static Lib.Math.max.name, Cond.initialized "java/lang/Math", Cond.code Lib.Math.max.name Lib.Math.max.code 2 (some .int)], x ∈ wd_gw := wd_ats_mem (ps := [691, 69, 692]) (by decide +kernel)
theorem wd_copyw : ∀ x ∈ [Cond.static arraycopyName, Cond.initialized "java/lang/System", Cond.native arraycopyName], x ∈ wd_gw := wd_ats_mem (ps := [448, 68, 449]) (by decide +kernel)
end
section
/-! THE LOGIC, part 4: soundness, kind by kind -/
section WS
variable {w : wd_Wd} {G : wd_G} {M : wd_M} {Q : wd_P} {K : wd_C} {k nx pc : Nat} {as : List Nat} {v : Int32} {u : Int64} {lv : wd_L} {st : List Value} {σ : wd_S} {τ : wd_T}
set_option maxHeartbeats 4000000 in
theorem wd_sound1 (hd : decode M.1.2.1 pc = .ok (wd_ins k as v pc)) (hn : nx = pc + (wd_ins k as v pc).2) (hx : wd_ex M.1.1.cls M.1.2.2.1 pc k as v u M.2.1 = true) (hk : ∀ pc lv st σ τ, K pc lv st σ τ → Run w G M pc lv st σ τ Q) (h : wd_A1 k nx as v u K lv st σ τ) : Run w G M pc lv st σ τ Q := by
  unfold wd_A1 at h
  intro p l e s m args below meth c H locs ls hC hP hS hL
  split at h
  · subst hn
    exact lv_iconst hC.1 hC.2.1 hd (wd_toInt v) (hk _ _ _ _ _ h p l e s m args below meth c H locs ls hC hP hS hL)
  · subst hn
    exact lv_bipush hC.1 hC.2.1 hd (of_decide_eq_true hx) (hk _ _ _ _ _ h p l e s m args below meth c H locs ls hC hP hS hL)
  · subst hn
    exact lv_sipush hC.1 hC.2.1 hd (of_decide_eq_true hx) (hk _ _ _ _ _ h p l e s m args below meth c H locs ls hC hP hS hL)
  · subst hn
    exact lv_lconst hC.1 hC.2.1 hd (of_decide_eq_true hx) (hk _ _ _ _ _ h p l e s m args below meth c H locs ls hC hP hS hL)
  · subst hn
    exact lv_ldc hC.1 hC.2.1 hC.2.2.2.2.2.1 (hC.2.2.2.2.2.2.1 _ (wd_at_mem hx)) hd (hk _ _ _ _ _ h p l e s m args below meth c H locs ls hC hP hS hL)
  · subst hn
    exact lv_ldcw hC.1 hC.2.1 hC.2.2.2.2.2.1 (hC.2.2.2.2.2.2.1 _ (wd_at_mem hx)) hd (hk _ _ _ _ _ h p l e s m args below meth c H locs ls hC hP hS hL)
  · subst hn
    exact lv_ldc2 hC.1 hC.2.1 hC.2.2.2.2.2.1 (hC.2.2.2.2.2.2.1 _ (wd_at_mem hx)) hd (hk _ _ _ _ _ h p l e s m args below meth c H locs ls hC hP hS hL)
  · subst hn
    have hx' : Nat.blt (as.getD 1 0) 6 = true ∧ (wd_six.getD (as.getD 1 0) (0, "")).1 = as.getD 0 0 ∧ M.1.1.cls = RX2 := by
      simpa [wd_ex, Bool.and_eq_true, decide_eq_true_eq] using hx
    replace h := wd_a2_of h
    have hR := hC.2.2.2.2.2.2.2.2.2.2.2.2.1 _ (wd_blt hx'.1)
    rw [hx'.2.1] at hR
    have ho := hC.2.2.2.2.2.1
    rw [hx'.2.2] at ho
    exact va_ldcS hC.1 hC.2.1 ho hR hd (hk _ _ _ _ _ h p l e s m args below meth c H locs ls hC hP hS hL)
  · subst hn
    replace h := wd_a1_of h
    unfold wd_ld at h
    split at h
    · rename_i x hg
      exact lv_iload_n hC.1 hC.2.1 hd (wd_f4_eq (wd_blt hx)) (hL.2.2 _ _ (wd_g_at hg)) (hk _ _ _ _ _ h p l e s m args below meth c H locs ls hC hP hS hL)
    · exact h.elim
  · subst hn
    replace h := wd_a1_of h
    unfold wd_ld at h
    split at h
    · rename_i x hg
      exact lv_iload hC.1 hC.2.1 hd (hL.2.2 _ _ (wd_g_at hg)) (hk _ _ _ _ _ h p l e s m args below meth c H locs ls hC hP hS hL)
    · exact h.elim
  · subst hn
    replace h := wd_a1_of h
    unfold wd_ldl at h
    split at h
    · rename_i x hg
      exact lv_lload_n hC.1 hC.2.1 hd (wd_f4_eq (wd_blt hx)) (hL.2.2 _ _ (wd_g_at hg)) (hk _ _ _ _ _ h p l e s m args below meth c H locs ls hC hP hS hL)
    · exact h.elim
  · subst hn
    replace h := wd_a1_of h
    unfold wd_ldl at h
    split at h
    · rename_i x hg
      exact lv_lload hC.1 hC.2.1 hd (hL.2.2 _ _ (wd_g_at hg)) (hk _ _ _ _ _ h p l e s m args below meth c H locs ls hC hP hS hL)
    · exact h.elim
  · subst hn
    replace h := wd_a1_of h
    unfold wd_lda at h
    split at h
    · rename_i x hg
      exact lv_aload_n hC.1 hC.2.1 hd (wd_f4_eq (wd_blt hx)) (hL.2.2 _ _ (wd_g_at hg)) (hk _ _ _ _ _ h p l e s m args below meth c H locs ls hC hP hS hL)
    · exact h.elim
  · subst hn
    replace h := wd_a1_of h
    unfold wd_lda at h
    split at h
    · rename_i x hg
      exact lv_aload hC.1 hC.2.1 hd (hL.2.2 _ _ (wd_g_at hg)) (hk _ _ _ _ _ h p l e s m args below meth c H locs ls hC hP hS hL)
    · exact h.elim
  · exact h.elim
set_option maxHeartbeats 4000000 in
theorem wd_sound2 (hd : decode M.1.2.1 pc = .ok (wd_ins k as v pc)) (hn : nx = pc + (wd_ins k as v pc).2) (hx : wd_ex M.1.1.cls M.1.2.2.1 pc k as v u M.2.1 = true) (hk : ∀ pc lv st σ τ, K pc lv st σ τ → Run w G M pc lv st σ τ Q) (h : wd_A2 k nx as v K lv st σ τ) : Run w G M pc lv st σ τ Q := by
  unfold wd_A2 at h
  intro p l e s m args below meth c H locs ls hC hP hS hL
  split at h
  · subst hn
    have hx' : Nat.blt (as.getD 0 0) 4 = true ∧ Nat.blt (as.getD 0 0) M.1.2.2.1 = true := by simpa [wd_ex, Bool.and_eq_true] using hx
    replace h := wd_a1_of h
    unfold wd_sti at h
    split at h
    · rename_i x r
      replace h := wd_fL_of h
      exact lv_istore_n hC.1 hC.2.1 hd (wd_f4_eq (wd_blt hx'.1)) (wd_prs_has hL) (wd_blt hx'.2) rfl (fun ls' hl' => hk _ _ _ _ _ h p l e s m args below meth c H locs ls' hC hP hS (wd_lok1 hl'))
    · exact h.elim
  · subst hn
    replace h := wd_a1_of h
    unfold wd_sti at h
    split at h
    · rename_i x r
      replace h := wd_fL_of h
      exact lv_istore hC.1 hC.2.1 hd (wd_prs_has hL) (wd_blt hx) rfl (fun ls' hl' => hk _ _ _ _ _ h p l e s m args below meth c H locs ls' hC hP hS (wd_lok1 hl'))
    · exact h.elim
  · subst hn
    have hx' : Nat.blt (as.getD 0 0) 4 = true ∧ Nat.blt (as.getD 0 0 + 1) M.1.2.2.1 = true := by simpa [wd_ex, Bool.and_eq_true] using hx
    replace h := wd_a1_of h
    unfold wd_stl at h
    split at h
    · rename_i x r
      replace h := wd_fL_of h
      exact lv_lstore_n hC.1 hC.2.1 hd (wd_f4_eq (wd_blt hx'.1)) (wd_prs_has hL) (wd_blt hx'.2) rfl (fun ls' hl' => hk _ _ _ _ _ h p l e s m args below meth c H locs ls' hC hP hS (wd_lok2 hl'))
    · exact h.elim
  · subst hn
    replace h := wd_a1_of h
    unfold wd_stl at h
    split at h
    · rename_i x r
      replace h := wd_fL_of h
      exact lv_lstore hC.1 hC.2.1 hd (wd_prs_has hL) (wd_blt hx) rfl (fun ls' hl' => hk _ _ _ _ _ h p l e s m args below meth c H locs ls' hC hP hS (wd_lok2 hl'))
    · exact h.elim
  · subst hn
    have hx' : Nat.blt (as.getD 0 0) 4 = true ∧ Nat.blt (as.getD 0 0) M.1.2.2.1 = true := by simpa [wd_ex, Bool.and_eq_true] using hx
    replace h := wd_a1_of h
    unfold wd_sta at h
    split at h
    · rename_i x r
      replace h := wd_fL_of h
      exact lv_astore_n hC.1 hC.2.1 hd (wd_f4_eq (wd_blt hx'.1)) (wd_prs_has hL) (wd_blt hx'.2) rfl (fun ls' hl' => hk _ _ _ _ _ h p l e s m args below meth c H locs ls' hC hP hS (wd_lok1 (v := .ref x) hl'))
    · exact h.elim
  · subst hn
    replace h := wd_a1_of h
    unfold wd_sta at h
    split at h
    · rename_i x r
      replace h := wd_fL_of h
      exact lv_astore hC.1 hC.2.1 hd (wd_prs_has hL) (wd_blt hx) rfl (fun ls' hl' => hk _ _ _ _ _ h p l e s m args below meth c H locs ls' hC hP hS (wd_lok1 (v := .ref x) hl'))
    · exact h.elim
  · subst hn
    replace h := wd_a1_of h
    split at h
    · rename_i x hg
      replace h := wd_fL_of h
      obtain ⟨j, hj⟩ := List.getElem?_of_mem (wd_prs_mem (a := G.2.1) (wd_g_at hg))
      exact lv_iinc hC.1 hC.2.1 hd (wd_prs_has hL) hj (v := x + v) (by rw [wd_toInt]) (wd_blt hx) rfl (fun ls' hl' => hk _ _ _ _ _ h p l e s m args below meth c H locs ls' hC hP hS (wd_lok1 (v := .int (x + v)) hl'))
    · exact h.elim
  all_goals first
    | exact h.elim
    | (subst hn
       unfold wd_bin at h
       split at h
       · first
         | exact lv_iadd hC.1 hC.2.1 hd (hk _ _ _ _ _ h p l e s m args below meth c H locs ls hC hP hS hL)
         | exact lv_isub hC.1 hC.2.1 hd (hk _ _ _ _ _ h p l e s m args below meth c H locs ls hC hP hS hL)
         | exact lv_imul hC.1 hC.2.1 hd (hk _ _ _ _ _ h p l e s m args below meth c H locs ls hC hP hS hL)
         | exact lv_iand hC.1 hC.2.1 hd (hk _ _ _ _ _ h p l e s m args below meth c H locs ls hC hP hS hL)
         | exact lv_ior hC.1 hC.2.1 hd (hk _ _ _ _ _ h p l e s m args below meth c H locs ls hC hP hS hL)
         | exact lv_ishl hC.1 hC.2.1 hd (hk _ _ _ _ _ h p l e s m args below meth c H locs ls hC hP hS hL)
         | exact lv_ishr hC.1 hC.2.1 hd (hk _ _ _ _ _ h p l e s m args below meth c H locs ls hC hP hS hL)
         | exact lv_iushr hC.1 hC.2.1 hd rfl (hk _ _ _ _ _ h p l e s m args below meth c H locs ls hC hP hS hL)
       · exact h.elim)
    | (subst hn
       unfold wd_duo at h
       split at h
       · first
         | exact lv_idiv hC.1 hC.2.1 hd h.1 (hk _ _ _ _ _ h.2 p l e s m args below meth c H locs ls hC hP hS hL)
         | exact lv_irem hC.1 hC.2.1 hd h.1 (hk _ _ _ _ _ h.2 p l e s m args below meth c H locs ls hC hP hS hL)
       · exact h.elim)
set_option maxHeartbeats 4000000 in
theorem wd_sound3 (hd : decode M.1.2.1 pc = .ok (wd_ins k as v pc)) (hn : nx = pc + (wd_ins k as v pc).2) (hk : ∀ pc lv st σ τ, K pc lv st σ τ → Run w G M pc lv st σ τ Q) (h : wd_A3 k nx K lv st σ τ) : Run w G M pc lv st σ τ Q := by
  unfold wd_A3 at h
  intro p l e s m args below meth c H locs ls hC hP hS hL
  split at h
  all_goals first
    | exact h.elim
    | (subst hn
       unfold wd_binl at h
       split at h
       · first
         | exact lv_ladd hC.1 hC.2.1 hd (hk _ _ _ _ _ h p l e s m args below meth c H locs ls hC hP hS hL)
         | exact lv_lmul hC.1 hC.2.1 hd (hk _ _ _ _ _ h p l e s m args below meth c H locs ls hC hP hS hL)
         | exact lv_land hC.1 hC.2.1 hd (hk _ _ _ _ _ h p l e s m args below meth c H locs ls hC hP hS hL)
         | exact lv_lor hC.1 hC.2.1 hd (hk _ _ _ _ _ h p l e s m args below meth c H locs ls hC hP hS hL)
       · exact h.elim)
    | (subst hn
       unfold wd_un at h
       split at h
       · first
         | exact lv_i2l hC.1 hC.2.1 hd rfl (hk _ _ _ _ _ h p l e s m args below meth c H locs ls hC hP hS hL)
         | exact lv_i2b hC.1 hC.2.1 hd rfl (hk _ _ _ _ _ h p l e s m args below meth c H locs ls hC hP hS hL)
         | exact lv_i2s hC.1 hC.2.1 hd rfl (hk _ _ _ _ _ h p l e s m args below meth c H locs ls hC hP hS hL)
       · exact h.elim)
    | (subst hn
       unfold wd_unl at h
       split at h
       · exact lv_l2i hC.1 hC.2.1 hd rfl (hk _ _ _ _ _ h p l e s m args below meth c H locs ls hC hP hS hL)
       · exact h.elim)
    | (subst hn
       split at h
       · first
         | exact lv_lshl hC.1 hC.2.1 hd rfl (hk _ _ _ _ _ h p l e s m args below meth c H locs ls hC hP hS hL)
         | exact lv_lshr hC.1 hC.2.1 hd rfl (hk _ _ _ _ _ h p l e s m args below meth c H locs ls hC hP hS hL)
         | exact lv_ldiv hC.1 hC.2.1 hd h.1 (hk _ _ _ _ _ h.2 p l e s m args below meth c H locs ls hC hP hS hL)
         | exact lv_lrem hC.1 hC.2.1 hd h.1 (hk _ _ _ _ _ h.2 p l e s m args below meth c H locs ls hC hP hS hL)
         | exact W.lcmp hC.1 hC.2.1 hd (hk _ _ _ _ _ h p l e s m args below meth c H locs ls hC hP hS hL)
         | exact lv_pop hC.1 hC.2.1 hd rfl (hk _ _ _ _ _ h p l e s m args below meth c H locs ls hC hP hS hL)
       · exact h.elim)
    | (subst hn
       split at h
       · first
         | exact lv_dup hC.1 hC.2.1 hd rfl (hk _ _ _ _ _ h p l e s m args below meth c H locs ls hC hP hS hL)
         | exact lv_dup2_11 hC.1 hC.2.1 hd rfl rfl (hk _ _ _ _ _ h p l e s m args below meth c H locs ls hC hP hS hL)
       · first
         | exact lv_dup hC.1 hC.2.1 hd rfl (hk _ _ _ _ _ h p l e s m args below meth c H locs ls hC hP hS hL)
         | exact lv_dup2_11 hC.1 hC.2.1 hd rfl rfl (hk _ _ _ _ _ h p l e s m args below meth c H locs ls hC hP hS hL)
       · exact h.elim)
theorem wd_sw_of {x : Int32} {d : Nat} {Kt : Nat → Prop} {lo : Nat} {ts : List Nat} (hb : lo + ts.length < 2147483648) : ∀ (j : Nat), j ≤ ts.length → (∀ i, i < j → ¬ x = nI (lo + i)) → wd_sw x (Kt d) Kt (lo + j) (ts.drop j) →
    ((x.toInt < (lo : Int) ∨ ((lo + ts.length : Nat) - 1 : Int) < x.toInt) ∧ Kt d) ∨ ∃ t, (¬ x.toInt < (lo : Int) ∧ ¬ ((lo + ts.length : Nat) - 1 : Int) < x.toInt) ∧ ts[(x.toInt - (lo : Int)).toNat]? = some t ∧ Kt t := by
  intro j
  generalize hm : ts.length - j = n
  induction n generalizing j with
  | zero =>
    intro hj hne h
    have e : ts.drop j = [] := List.drop_eq_nil_iff.mpr (by omega)
    rw [e] at h
    refine Or.inl ⟨?_, h⟩
    by_cases hr : x.toInt < (lo : Int) ∨ ((lo + ts.length : Nat) - 1 : Int) < x.toInt
    · exact hr
    · exfalso
      have h1 : (lo : Int) ≤ x.toInt := by omega
      have h2 : x.toInt < (lo + ts.length : Nat) := by omega
      refine hne (x.toInt.toNat - lo) (by omega) ?_
      have e2 : lo + (x.toInt.toNat - lo) = x.toInt.toNat := by omega
      rw [e2]
      apply Int32.toInt_inj.mp
      rw [nI_toInt (by omega)]
      omega
  | succ n ih =>
    intro hj hne h
    have hlt : j < ts.length := by omega
    rw [List.drop_eq_getElem_cons hlt] at h
    by_cases e : x = nI (lo + j)
    · refine Or.inr ⟨ts[j], ?_, ?_, h.1 e⟩
      · have : x.toInt = ((lo + j : Nat) : Int) := by rw [e, nI_toInt (by omega)]
        constructor <;> omega
      · have : x.toInt = ((lo + j : Nat) : Int) := by rw [e, nI_toInt (by omega)]
        have e3 : (x.toInt - (lo : Int)).toNat = j := by omega
        rw [e3]
        simp [hlt]
    · refine ih (j + 1) (by omega) (by omega) (fun i hi => ?_) (h.2 e)
      by_cases hij : i = j
      · subst hij
        exact e
      · exact hne i (by omega)
theorem wd_lw_of {x : Int32} {d pc : Nat} {Kt : Nat → Prop} : ∀ {ps : List (Nat × Nat)}, (∀ q ∈ ps, q.1 < 2147483648) → wd_lw x (Kt d) Kt ps → ∃ t : Nat, Op.lookupswitch.offset (ps.map (fun q : Nat × Nat => ((q.1 : Int), (q.2 : Int) - (pc : Int)))) ((d : Int) - (pc : Int)) x.toInt = (t : Int) - (pc : Int) ∧ Kt t
  | [], _, h => ⟨d, rfl, h⟩
  | q :: r, hb, h => by
    rw [List.map_cons, Op.lookupswitch.offset_cons]
    by_cases e : x = nI q.1
    · refine ⟨q.2, ?_, h.1 e⟩
      rw [if_pos]
      rw [e, nI_toInt (hb q List.mem_cons_self)]
    · obtain ⟨t, h1, h2⟩ := wd_lw_of (pc := pc) (fun q hq => hb q (List.mem_cons_of_mem _ hq)) (h.2 e)
      refine ⟨t, ?_, h2⟩
      rw [if_neg]
      · exact h1
      · intro z
        apply e
        apply Int32.toInt_inj.mp
        rw [nI_toInt (hb q List.mem_cons_self)]
        exact z.symm
set_option maxHeartbeats 4000000 in
theorem wd_sound4 (hd : decode M.1.2.1 pc = .ok (wd_ins k as v pc)) (hn : nx = pc + (wd_ins k as v pc).2) (hx : wd_ex M.1.1.cls M.1.2.2.1 pc k as v u M.2.1 = true) (hk : ∀ pc lv st σ τ, K pc lv st σ τ → Run w G M pc lv st σ τ Q) (h : wd_A4 k nx as K lv st σ τ) : Run w G M pc lv st σ τ Q := by
  unfold wd_A4 at h
  intro p l e s m args below meth c H locs ls hC hP hS hL
  split at h
  all_goals first
    | exact h.elim
    | (subst hn
       first | replace h := wd_a1_of h | replace h := wd_a3_of h | replace h := wd_a4_of h
       unfold wd_un at h
       split at h
       · first
         | exact lv_if_eq (tgt := as.getD 0 0) hC.1 hC.2.1 hd (by omega) (fun hc => hk _ _ _ _ _ (h.1 hc) p l e s m args below meth c H locs ls hC hP hS hL) (fun hc => hk _ _ _ _ _ (h.2 hc) p l e s m args below meth c H locs ls hC hP hS hL)
         | exact lv_if_ne (tgt := as.getD 0 0) hC.1 hC.2.1 hd (by omega) (fun hc => hk _ _ _ _ _ (h.1 hc) p l e s m args below meth c H locs ls hC hP hS hL) (fun hc => hk _ _ _ _ _ (h.2 hc) p l e s m args below meth c H locs ls hC hP hS hL)
         | exact lv_if_lt (tgt := as.getD 0 0) hC.1 hC.2.1 hd (by omega) (fun hc => hk _ _ _ _ _ (h.1 hc) p l e s m args below meth c H locs ls hC hP hS hL) (fun hc => hk _ _ _ _ _ (h.2 hc) p l e s m args below meth c H locs ls hC hP hS hL)
         | exact lv_if_ge (tgt := as.getD 0 0) hC.1 hC.2.1 hd (by omega) (fun hc => hk _ _ _ _ _ (h.1 hc) p l e s m args below meth c H locs ls hC hP hS hL) (fun hc => hk _ _ _ _ _ (h.2 hc) p l e s m args below meth c H locs ls hC hP hS hL)
         | exact lv_if_gt (tgt := as.getD 0 0) hC.1 hC.2.1 hd (by omega) (fun hc => hk _ _ _ _ _ (h.1 hc) p l e s m args below meth c H locs ls hC hP hS hL) (fun hc => hk _ _ _ _ _ (h.2 hc) p l e s m args below meth c H locs ls hC hP hS hL)
         | exact lv_if_le (tgt := as.getD 0 0) hC.1 hC.2.1 hd (by omega) (fun hc => hk _ _ _ _ _ (h.1 hc) p l e s m args below meth c H locs ls hC hP hS hL) (fun hc => hk _ _ _ _ _ (h.2 hc) p l e s m args below meth c H locs ls hC hP hS hL)
         | (rename_i x r
            rcases wd_sw_of (x := x) (Kt := fun t => K t lv r σ τ) (wd_blt hx) 0 (Nat.zero_le _) (fun i hi => absurd hi (Nat.not_lt_zero i)) h with ⟨h1, h2⟩ | ⟨t, ⟨h1, h2⟩, h3, h4⟩
            · exact lv_tableOut (tgt := as.getD 0 0) hC.1 hC.2.1 hd h1 (by omega) (hk _ _ _ _ _ h2 p l e s m args below meth c H locs ls hC hP hS hL)
            · exact lv_tableIn (tgt := t) (off := (t : Int) - (pc : Int)) hC.1 hC.2.1 hd h1 h2 (by rw [List.getElem?_toArray, List.getElem?_map, h3]; rfl) (by omega) (hk _ _ _ _ _ h4 p l e s m args below meth c H locs ls hC hP hS hL))
         | (rename_i x r
            have hx' := Bool.and_eq_true_iff.mp hx
            obtain ⟨t, h1, h2⟩ := wd_lw_of (x := x) (pc := pc) (Kt := fun t => K t lv r σ τ) (fun q hq => wd_blt (List.all_eq_true.mp hx'.2 q hq)) h
            exact lv_lookup (tgt := t) (off := (t : Int) - (pc : Int)) hC.1 hC.2.1 hd hx'.1 h1 (by omega) (hk _ _ _ _ _ h2 p l e s m args below meth c H locs ls hC hP hS hL))
       · exact h.elim)
    | (subst hn
       replace h := wd_a1_of h
       unfold wd_duo at h
       split at h
       · first
         | exact lv_icmp_eq (tgt := as.getD 0 0) hC.1 hC.2.1 hd (by omega) (fun hc => hk _ _ _ _ _ (h.1 hc) p l e s m args below meth c H locs ls hC hP hS hL) (fun hc => hk _ _ _ _ _ (h.2 hc) p l e s m args below meth c H locs ls hC hP hS hL)
         | exact lv_icmp_ne (tgt := as.getD 0 0) hC.1 hC.2.1 hd (by omega) (fun hc => hk _ _ _ _ _ (h.1 hc) p l e s m args below meth c H locs ls hC hP hS hL) (fun hc => hk _ _ _ _ _ (h.2 hc) p l e s m args below meth c H locs ls hC hP hS hL)
         | exact lv_icmp_lt (tgt := as.getD 0 0) hC.1 hC.2.1 hd (by omega) (fun hc => hk _ _ _ _ _ (h.1 hc) p l e s m args below meth c H locs ls hC hP hS hL) (fun hc => hk _ _ _ _ _ (h.2 hc) p l e s m args below meth c H locs ls hC hP hS hL)
         | exact lv_icmp_ge (tgt := as.getD 0 0) hC.1 hC.2.1 hd (by omega) (fun hc => hk _ _ _ _ _ (h.1 hc) p l e s m args below meth c H locs ls hC hP hS hL) (fun hc => hk _ _ _ _ _ (h.2 hc) p l e s m args below meth c H locs ls hC hP hS hL)
         | exact lv_icmp_gt (tgt := as.getD 0 0) hC.1 hC.2.1 hd (by omega) (fun hc => hk _ _ _ _ _ (h.1 hc) p l e s m args below meth c H locs ls hC hP hS hL) (fun hc => hk _ _ _ _ _ (h.2 hc) p l e s m args below meth c H locs ls hC hP hS hL)
         | exact lv_icmp_le (tgt := as.getD 0 0) hC.1 hC.2.1 hd (by omega) (fun hc => hk _ _ _ _ _ (h.1 hc) p l e s m args below meth c H locs ls hC hP hS hL) (fun hc => hk _ _ _ _ _ (h.2 hc) p l e s m args below meth c H locs ls hC hP hS hL)
       · exact h.elim)
    | exact lv_goto (tgt := as.getD 0 0) hC.1 hC.2.1 hd (by omega) (hk _ _ _ _ _ (wd_a1_of h) p l e s m args below meth c H locs ls hC hP hS hL)
end WS
end
section
/-! THE LOGIC, part 5: returns, fields, arrays; stretches; calls -/
theorem wd_al_at {i : Int32} {K : Nat → Prop} : ∀ {n : Nat} {ids : List Nat} {j t : Nat}, wd_al i K n ids → ids[j]? = some t → i = nI (n + j) → K t
  | _, [], _, _, _, h, _ => by simp at h
  | n, x :: r, 0, t, h, h1, h2 => by
    simp at h1
    subst h1
    exact h.1 h2
  | n, x :: r, j + 1, t, h, h1, h2 => by
    refine wd_al_at (n := n + 1) (j := j) h.2 (by simpa using h1) ?_
    rw [h2]
    congr 1
    omega
theorem wd_fv_none {w : wd_Wd} {σ : wd_S} {τ : wd_T} {ci c k : Nat} (h : w.2.2 c k = none) : wd_fv w σ τ ci c k = cond (wd_lg ci k) (.long (τ c k)) (.int (σ c k)) := by
  simp only [wd_fv, h]
theorem wd_put_i {w : wd_Wd} {G : wd_G} {σ : wd_S} {τ : wd_T} {c ci k : Nat} {x : Int32} (h : w.2.1 c = .inr (.inr ci)) (hr : w.2.2 c k = none) (hl : wd_lg ci k = false) : (.inr (ci, ((List.range (wd_nf ci)).map (fun k => wv G.2.1 (wd_fv w σ τ ci c k))).set k (.int x)) : va_E) = wd_cell w G (wd_uc σ c (upd (σ c) k x)) τ c := by
  rw [wd_cell_o h]
  congr 2
  apply wd_fs_set
  · rw [wd_fv_none hr, hl]
    simp [wd_uc, upd, wv]
  · intro j hj
    cases hq : w.2.2 c j with
    | some r => simp only [wd_fv, hq]
    | none =>
      rw [wd_fv_none hq, wd_fv_none hq]
      simp [wd_uc, upd, hj]
theorem wd_put_l {w : wd_Wd} {G : wd_G} {σ : wd_S} {τ : wd_T} {c ci k : Nat} {x : Int64} (h : w.2.1 c = .inr (.inr ci)) (hr : w.2.2 c k = none) (hl : wd_lg ci k = true) : (.inr (ci, ((List.range (wd_nf ci)).map (fun k => wv G.2.1 (wd_fv w σ τ ci c k))).set k (.long x)) : va_E) = wd_cell w G σ (wd_uc τ c (vp_updL (τ c) k x)) c := by
  rw [wd_cell_o h]
  congr 2
  apply wd_fs_set
  · rw [wd_fv_none hr, hl]
    simp [wd_uc, vp_updL, wv]
  · intro j hj
    cases hq : w.2.2 c j with
    | some r => simp only [wd_fv, hq]
    | none =>
      rw [wd_fv_none hq, wd_fv_none hq]
      simp [wd_uc, vp_updL, hj]
theorem wd_st_a {w : wd_Wd} {G : wd_G} {σ : wd_S} {τ : wd_T} {c n : Nat} {ty : FieldType} {f : Nat → Int32} (h : w.2.1 c = .inl (ty, n)) : (.inl (G.2.2 c, n, .inl f) : va_E) = wd_cell w G (wd_uc σ c f) τ c := by
  rw [wd_cell_p h]
  simp [wd_uc]
theorem wd_bit_nar {x : Int32} (h : wd_bit x) : narrow .boolean (.int x) = .int x ∧ fits .boolean (.int x) = true := by
  rcases h with rfl | rfl <;> exact ⟨rfl, rfl⟩
section WS
variable {w : wd_Wd} {G : wd_G} {M : wd_M} {Q : wd_P} {K : wd_C} {k nx pc : Nat} {as : List Nat} {v : Int32} {u : Int64} {lv : wd_L} {st : List Value} {σ : wd_S} {τ : wd_T}
set_option maxHeartbeats 4000000 in
theorem wd_sound5 (hd : decode M.1.2.1 pc = .ok (wd_ins k as v pc)) (hn : nx = pc + (wd_ins k as v pc).2) (hx : wd_ex M.1.1.cls M.1.2.2.1 pc k as v u M.2.1 = true) (hk : ∀ pc lv st σ τ, K pc lv st σ τ → Run w G M pc lv st σ τ Q) (h : wd_A5 w M.1.2.2.2 k nx as K Q lv st σ τ) : Run w G M pc lv st σ τ Q := by
  unfold wd_A5 at h
  intro p l e s m args below meth c H locs ls hC hP hS hL
  have hI := hC.2.2.2.2.2.2.2.1
  split at h
  · split at h
    · rename_i x
      unfold wd_ret at h
      split at h
      · rename_i hr
        exact W.iret hC.1 hC.2.1 (hC.2.2.2.1.trans hr) (fun t ht hW => ⟨some (.int x), σ, τ, rfl, h, by rw [ht]; exact hP, hS.F ht⟩) hS.2.2 hd hC.2.2.2.2.1
      · rename_i hr
        exact W.zret hC.1 hC.2.1 (hC.2.2.2.1.trans hr) (wd_bit_nar h.1).1 (fun t ht hW => ⟨some (.int x), σ, τ, rfl, h.2, by rw [ht]; exact hP, hS.F ht⟩) hS.2.2 hd hC.2.2.2.2.1
      · exact h.elim
    · exact h.elim
  · split at h
    · rename_i x
      exact W.lret hC.1 hC.2.1 (hC.2.2.2.1.trans h.1) (fun t ht hW => ⟨some (.long x), σ, τ, rfl, h.2, by rw [ht]; exact hP, hS.F ht⟩) hS.2.2 hd hC.2.2.2.2.1
    · exact h.elim
  · split at h
    · exact W.vret hC.1 hC.2.1 (hC.2.2.2.1.trans h.1) (fun t ht hW => ⟨none, σ, τ, rfl, h.2, by rw [ht]; exact hP, hS.F ht⟩) hS.2.2 hd hC.2.2.2.2.1
    · exact h.elim
  · subst hn
    replace h := wd_a2_of h
    unfold wd_get at h
    split at h
    · rename_i d r
      split at h
      · rename_i ho
        obtain ⟨h1, h2⟩ := wd_obj_is ho
        have hx' := Bool.and_eq_true_iff.mp hx
        have hx2 := Bool.and_eq_true_iff.mp hx'.2
        replace h := wd_fvK_of h
        have he := wd_ws_at (G := G) (σ := σ) (τ := τ) h1
        rw [wd_cell_o h2] at he
        exact va_get (D := G.1) (cl := vwCl) (ci := as.getD 0 0) (v := wv G.2.1 (wd_fv w σ τ (as.getD 0 0) d (as.getD 1 0))) hC.1 hC.2.1 hC.2.2.2.2.2.2.1 (wd_in (wd_blt hx'.1)) hC.2.2.2.2.2.1 hC.2.2.2.2.2.2.2.2.1 hP d he (wd_cl_at (wd_blt hx'.1)) (as.getD 1 0) (wd_blt hx2.1) (hC.2.2.2.2.2.2.1 _ (wd_at_mem hx2.2)) (fun _ z => z) (by rw [List.getElem?_map, List.getElem?_range (wd_blt hx2.1)]; rfl) hd (hk _ _ _ _ _ h p l e s m args below meth c H locs ls hC hP hS hL)
      · exact h.elim
    · exact h.elim
  · subst hn
    have hx' := Bool.and_eq_true_iff.mp hx
    have hx2 := Bool.and_eq_true_iff.mp hx'.2
    have hx3 := Bool.and_eq_true_iff.mp hx2.2
    have hx4 := Bool.and_eq_true_iff.mp hx3.2
    have hfin : ((wd_cl (as.getD 0 0)).2.1 (as.getD 1 0)).2.2.2 = false := by simpa using hx4.1
    have hty := of_decide_eq_true hx4.2
    replace h := wd_a2_of h
    unfold wd_put at h
    split at h
    · rename_i x d r
      split at h
      · rename_i ho hr hl
        obtain ⟨h1, h2⟩ := wd_obj_is ho
        have he := wd_ws_at (G := G) (σ := σ) (τ := τ) h1
        rw [wd_cell_o h2] at he
        have hpd := wd_ty_ok (wd_blt hx'.1) _ (wd_blt hx2.1)
        have hnf : narrow (wd_ty (as.getD 0 0) (as.getD 1 0)) (.int x) = .int x ∧ fits (wd_ty (as.getD 0 0) (as.getD 1 0)) (.int x) = true ∧ K (pc + (wd_ins 66 as v pc).2) lv r (wd_uc σ d (upd (σ d) (as.getD 1 0) x)) τ := by
          rw [hty, hl]
          cases hb : wd_bo (as.getD 0 0) (as.getD 1 0) with
          | false =>
            rw [hb] at h
            exact ⟨rfl, rfl, h⟩
          | true =>
            rw [hb] at h
            exact ⟨(wd_bit_nar h.1).1, (wd_bit_nar h.1).2, h.2⟩
        refine va_put (D := G.1) (cl := vwCl) (A := wd_A w G) (ci := as.getD 0 0) (v := .int x) hC.1 hC.2.1 hC.2.2.2.2.2.2.1 (wd_in (wd_blt hx'.1)) _ (wd_ty_ok (wd_blt hx'.1)) (wd_nm_ok (wd_blt hx'.1)) hC.2.2.2.2.2.1 hC.2.2.2.2.2.2.2.2.1 hP (wd_D hI) hS d he (wd_cl_at (wd_blt hx'.1)) (as.getD 1 0) (wd_blt hx2.1) (hC.2.2.2.2.2.2.1 _ (wd_at_mem hx3.1)) (fun _ z => z) hfin hpd hnf.1 hnf.2.1 (by rw [List.length_map, List.length_range]; exact wd_blt hx2.1) hd (fun H1 locs1 hP1 _ hS1 => ?_)
        rw [wd_put_i h2 hr hl, wd_ws_set wd_cell_ne] at hP1
        exact hk _ _ _ _ _ hnf.2.2 p l e s m args below meth c H1 locs1 ls hC hP1 hS1 hL
      · exact h.elim
    · rename_i x d r
      split at h
      · rename_i ho hr hl
        obtain ⟨h1, h2⟩ := wd_obj_is ho
        have he := wd_ws_at (G := G) (σ := σ) (τ := τ) h1
        rw [wd_cell_o h2] at he
        have hpd := wd_ty_ok (wd_blt hx'.1) _ (wd_blt hx2.1)
        have hnf : narrow (wd_ty (as.getD 0 0) (as.getD 1 0)) (.long x) = .long x ∧ fits (wd_ty (as.getD 0 0) (as.getD 1 0)) (.long x) = true := by
          rw [hty, hl]
          exact ⟨rfl, rfl⟩
        refine va_put (D := G.1) (cl := vwCl) (A := wd_A w G) (ci := as.getD 0 0) (v := .long x) hC.1 hC.2.1 hC.2.2.2.2.2.2.1 (wd_in (wd_blt hx'.1)) _ (wd_ty_ok (wd_blt hx'.1)) (wd_nm_ok (wd_blt hx'.1)) hC.2.2.2.2.2.1 hC.2.2.2.2.2.2.2.2.1 hP (wd_D hI) hS d he (wd_cl_at (wd_blt hx'.1)) (as.getD 1 0) (wd_blt hx2.1) (hC.2.2.2.2.2.2.1 _ (wd_at_mem hx3.1)) (fun _ z => z) hfin hpd hnf.1 hnf.2 (by rw [List.length_map, List.length_range]; exact wd_blt hx2.1) hd (fun H1 locs1 hP1 _ hS1 => ?_)
        rw [wd_put_l h2 hr hl, wd_ws_set wd_cell_neT] at hP1
        exact hk _ _ _ _ _ h p l e s m args below meth c H1 locs1 ls hC hP1 hS1 hL
      · exact h.elim
    · exact h.elim
  · subst hn
    unfold wd_ia at h
    split at h
    · rename_i i d r
      split at h
      · rename_i n ho
        obtain ⟨h1, h2⟩ := wd_pa_is ho
        have he := wd_ws_at (G := G) (σ := σ) (τ := τ) h1
        rw [wd_cell_p h2] at he
        exact va_iald (D := G.1) (cl := vwCl) hC.1 hC.2.1 (wd_K1 hC.2.2.2.2.2.2.2 h1 (by rw [h2]; rfl)) hP d 0 he rfl h.1 hd (hk _ _ _ _ _ h.2 p l e s m args below meth c H locs ls hC hP hS hL)
      · exact h.elim
    · exact h.elim
  · subst hn
    unfold wd_is at h
    split at h
    · rename_i x i d r
      split at h
      · rename_i n ho
        obtain ⟨h1, h2⟩ := wd_pa_is ho
        have he := wd_ws_at (G := G) (σ := σ) (τ := τ) h1
        rw [wd_cell_p h2] at he
        refine va_iast (D := G.1) (cl := vwCl) (A := wd_A w G) hC.1 hC.2.1 (wd_K1 hC.2.2.2.2.2.2.2 h1 (by rw [h2]; rfl)) hP (wd_D hI) hS d 0 he rfl h.1 hd (fun H1 locs1 hP1 _ hS1 => ?_)
        rw [wd_st_a (τ := τ) (σ := σ) h2, wd_ws_set wd_cell_ne] at hP1
        exact hk _ _ _ _ _ h.2 p l e s m args below meth c H1 locs1 ls hC hP1 hS1 hL
      · exact h.elim
    · exact h.elim
  · subst hn
    unfold wd_ba at h
    split at h
    · rename_i i d r
      split at h
      · rename_i n ho
        obtain ⟨h1, h2⟩ := wd_pa_is ho
        have he := wd_ws_at (G := G) (σ := σ) (τ := τ) h1
        rw [wd_cell_p h2] at he
        exact va_bald (D := G.1) (cl := vwCl) hC.1 hC.2.1 (wd_K1 hC.2.2.2.2.2.2.2 h1 (by rw [h2]; rfl)) hP d 0 he rfl h.1 hd (hk _ _ _ _ _ h.2 p l e s m args below meth c H locs ls hC hP hS hL)
      · rename_i n ho
        obtain ⟨h1, h2⟩ := wd_pa_is ho
        have he := wd_ws_at (G := G) (σ := σ) (τ := τ) h1
        rw [wd_cell_p h2] at he
        exact va_zald (D := G.1) (cl := vwCl) hC.1 hC.2.1 (wd_K1 hC.2.2.2.2.2.2.2 h1 (by rw [h2]; rfl)) hP d 0 he rfl h.1 hd (hk _ _ _ _ _ h.2 p l e s m args below meth c H locs ls hC hP hS hL)
      · exact h.elim
    · exact h.elim
  · subst hn
    unfold wd_bs at h
    split at h
    · rename_i x i d r
      split at h
      · rename_i n ho
        obtain ⟨h1, h2⟩ := wd_pa_is ho
        have he := wd_ws_at (G := G) (σ := σ) (τ := τ) h1
        rw [wd_cell_p h2] at he
        refine va_bast (D := G.1) (cl := vwCl) (A := wd_A w G) hC.1 hC.2.1 (wd_K1 hC.2.2.2.2.2.2.2 h1 (by rw [h2]; rfl)) hP (wd_D hI) hS d 0 he rfl h.1 hd (fun H1 locs1 hP1 _ hS1 => ?_)
        rw [wd_st_a (τ := τ) (σ := σ) h2, wd_ws_set wd_cell_ne] at hP1
        exact hk _ _ _ _ _ h.2 p l e s m args below meth c H1 locs1 ls hC hP1 hS1 hL
      · rename_i n ho
        obtain ⟨h1, h2⟩ := wd_pa_is ho
        have he := wd_ws_at (G := G) (σ := σ) (τ := τ) h1
        rw [wd_cell_p h2] at he
        refine va_zast (D := G.1) (cl := vwCl) (A := wd_A w G) hC.1 hC.2.1 (wd_K1 hC.2.2.2.2.2.2.2 h1 (by rw [h2]; rfl)) hP (wd_D hI) hS d 0 he rfl h.1 hd (fun H1 locs1 hP1 _ hS1 => ?_)
        rw [wd_st_a (τ := τ) (σ := σ) h2, wd_ws_set wd_cell_ne] at hP1
        exact hk _ _ _ _ _ h.2 p l e s m args below meth c H1 locs1 ls hC hP1 hS1 hL
      · exact h.elim
    · exact h.elim
  · subst hn
    unfold wd_aa at h
    split at h
    · rename_i i d r
      split at h
      · rename_i ids ho
        obtain ⟨h1, ty, hty, h2⟩ := wd_qa_is ho
        have he := wd_ws_at (G := G) (σ := σ) (τ := τ) h1
        rw [wd_cell_q h2] at he
        have hin := h.1
        have hlt : i.toNatClampNeg < ids.length := Nat.not_le.mp fun q => hin (Or.inr q)
        obtain ⟨j, hj, rfl⟩ := nI_of (fun q => hin (Or.inl q))
        rw [nI_clamp hj] at hlt
        have hK1 := wd_K1 hC.2.2.2.2.2.2.2 h1 (ty := ty) (by rw [h2]; rfl)
        have hgo := hk _ _ _ _ _ (wd_al_at (j := j) (t := ids[j]) h.2 (by simp [hlt]) (by rw [Nat.zero_add])) p l e s m args below meth c H locs ls hC hP hS hL
        refine W.aald (v := .ref (G.2.1 ids[j])) (ty := ty) hC.1 hC.2.1 (hP d _ he) ((hK1.2 0 _ rfl).1 ids.length (fun j => va_rf ((ids[j]?).map G.2.1))) hty (fun q => by cases q) (by show ¬ (nI j < 0 ∨ (arrV _ _ _).slots.size ≤ _); rw [arrV_size]; exact hin) (by show (arrV _ _ _).slots[_]? = _; rw [nI_clamp hj, arrV_read _ _ hlt]; simp [hlt, va_rf]) rfl rfl hd hgo
      · exact h.elim
    · exact h.elim
  · subst hn
    unfold wd_len_ at h
    split at h
    · rename_i d r
      split at h
      · rename_i ty n ho
        obtain ⟨h1, h2⟩ := wd_pa_is ho
        have he := wd_ws_at (G := G) (σ := σ) (τ := τ) h1
        rw [wd_cell_p h2] at he
        exact va_alen (D := G.1) (cl := vwCl) (x := (n, .inl (σ d))) (v := nI n) hC.1 hC.2.1 (wd_K1 hC.2.2.2.2.2.2.2 h1 (ty := ty) (by rw [h2]; rfl)) hP d 0 he rfl rfl hd (hk _ _ _ _ _ h p l e s m args below meth c H locs ls hC hP hS hL)
      · exact h.elim
    · exact h.elim
  · subst hn
    have hx' := Bool.and_eq_true_iff.mp hx
    have hx2 := Bool.and_eq_true_iff.mp hx'.2
    unfold wd_duo at h
    split at h
    · rename_i y x r
      exact va_mmin hC.1 hC.2.1 (hC.2.2.1.trans hL.1.symm) hC.2.2.2.2.2.1 (hC.2.2.2.2.2.2.1 _ (wd_at_mem hx'.1)) (hC.2.2.2.2.2.2.1 _ (wd_minw _ (by simp))) (hC.2.2.2.2.2.2.1 _ (wd_minw _ (by simp))) (hC.2.2.2.2.2.2.1 _ (wd_minw _ (by simp))) (Nat.le_of_ble_eq_true hx2.1) (by
        have h1 : ((r.map fun v => v.category).sum) ≤ 8 := h.1
        have h2 := Nat.le_of_ble_eq_true hx2.2
        show ((r.map (wv G.2.1)).map fun v => v.category).sum + 13 ≤ M.2.1.2
        rw [wd_cat8]
        omega) (Nat.le_refl 0) (Nat.le_refl 0) hd (hk _ _ _ _ _ h.2 p l e s m args below meth c H locs ls hC hP hS hL)
    · exact h.elim
  · subst hn
    have hx' := Bool.and_eq_true_iff.mp hx
    have hx2 := Bool.and_eq_true_iff.mp hx'.2
    unfold wd_duo at h
    split at h
    · rename_i y x r
      exact va_mmax hC.1 hC.2.1 (hC.2.2.1.trans hL.1.symm) hC.2.2.2.2.2.1 (hC.2.2.2.2.2.2.1 _ (wd_at_mem hx'.1)) (hC.2.2.2.2.2.2.1 _ (wd_maxw _ (by simp))) (hC.2.2.2.2.2.2.1 _ (wd_maxw _ (by simp))) (hC.2.2.2.2.2.2.1 _ (wd_maxw _ (by simp))) (Nat.le_of_ble_eq_true hx2.1) (by
        have h1 : ((r.map fun v => v.category).sum) ≤ 8 := h.1
        have h2 := Nat.le_of_ble_eq_true hx2.2
        show ((r.map (wv G.2.1)).map fun v => v.category).sum + 13 ≤ M.2.1.2
        rw [wd_cat8]
        omega) (Nat.le_refl 0) (Nat.le_refl 0) hd (hk _ _ _ _ _ h.2 p l e s m args below meth c H locs ls hC hP hS hL)
    · exact h.elim
  · subst hn
    have hx' := Bool.and_eq_true_iff.mp hx
    have hx2 := Bool.and_eq_true_iff.mp hx'.2
    unfold wd_cp at h
    split at h
    · rename_i n dp c1 sp c0 r
      split at h
      · rename_i n0 n1 ho0 ho1
        obtain ⟨h1, h2⟩ := wd_pa_is ho0
        obtain ⟨h3, h4⟩ := wd_pa_is ho1
        have he0 := wd_ws_at (G := G) (σ := σ) (τ := τ) h1
        rw [wd_cell_p h2] at he0
        have he1 := wd_ws_at (G := G) (σ := σ) (τ := τ) h3
        rw [wd_cell_p h4] at he1
        refine va_copyi (D := G.1) (cl := vwCl) (A := wd_A w G) (ty := .int) hC.1 hC.2.1 (hC.2.2.1.trans hL.1.symm) hC.2.2.2.2.2.1 (hC.2.2.2.2.2.2.1 _ (wd_at_mem hx'.1)) (hC.2.2.2.2.2.2.1 _ (wd_copyw _ (by simp))) (hC.2.2.2.2.2.2.1 _ (wd_copyw _ (by simp))) (hC.2.2.2.2.2.2.1 _ (wd_copyw _ (by simp))) (wd_K2 hC.2.2.2.2.2.2.2 h1 (by rw [h2]; rfl) h3 (by rw [h4]; rfl)) hP (wd_D hI) hS c0 c1 0 1 he0 he1 rfl rfl rfl h.2.1 h.2.2.1 h.2.2.2.1 h.2.2.2.2.1 h.2.2.2.2.2.1 (fun _ _ => rfl) (Nat.le_of_ble_eq_true hx2.1) (by
          have h1 : ((r.map fun v => v.category).sum) ≤ 8 := h.1
          have h2 := Nat.le_of_ble_eq_true hx2.2
          show ((r.map (wv G.2.1)).map fun v => v.category).sum + _ ≤ M.2.1.2
          rw [wd_cat8]
          omega) hd (fun H1 locs1 hP1 _ hS1 => ?_)
        rw [wd_st_a (τ := τ) (σ := σ) h4, wd_ws_set wd_cell_ne] at hP1
        exact hk _ _ _ _ _ h.2.2.2.2.2.2 p l e s m args below meth c H1 locs1 ls hC hP1 hS1 hL
      · exact h.elim
    · exact h.elim
  · exact h.elim
end WS
end
section
/-! THE LOGIC, part 6: stretches and calls -/
section WS
variable {w : wd_Wd} {G : wd_G} {M : wd_M} {Q : wd_P} {K : wd_C} {pc : Nat} {lv : wd_L} {st : List Value} {σ : wd_S} {τ : wd_T}
theorem wd_sound (hok : wd_chk M pc = true) (hk : ∀ pc lv st σ τ, K pc lv st σ τ → Run w G M pc lv st σ τ Q) (h : wd_sem w M.1.2.2.2 (M.2.2.2 pc) K Q lv st σ τ) : Run w G M pc lv st σ τ Q := by
  unfold wd_chk at hok
  generalize hf : M.2.2.2 pc = f at hok h
  obtain ⟨k, nx, as, v, u⟩ := f
  rcases Bool.or_eq_true_iff.mp hok with hb | hok
  · have hk90 : 90 ≤ k := Nat.le_of_ble_eq_true hb
    have e13 : Nat.ble k 13 = false := by cases hh : Nat.ble k 13 with
      | false => rfl
      | true => exact absurd (Nat.le_of_ble_eq_true hh) (by omega)
    have e46 : Nat.ble k 46 = false := by cases hh : Nat.ble k 46 with
      | false => rfl
      | true => exact absurd (Nat.le_of_ble_eq_true hh) (by omega)
    have e61 : Nat.ble k 61 = false := by cases hh : Nat.ble k 61 with
      | false => rfl
      | true => exact absurd (Nat.le_of_ble_eq_true hh) (by omega)
    simp only [wd_sem, e13, e46, e61, cond_false] at h
    unfold wd_A5 at h
    split at h <;> first | exact h.elim | omega
  · obtain ⟨hd, hok⟩ := Bool.and_eq_true_iff.mp hok
    obtain ⟨hn, hx⟩ := Bool.and_eq_true_iff.mp hok
    have hd := of_decide_eq_true hd
    have hn := Nat.eq_of_beq_eq_true hn
    dsimp only at hd hn hx
    unfold wd_sem at h
    dsimp only at h
    cases e13 : Nat.ble k 13 with
    | true =>
      rw [e13] at h
      exact wd_sound1 (u := u) hd hn hx hk h
    | false =>
      rw [e13] at h
      cases e46 : Nat.ble k 46 with
      | true =>
        rw [e46] at h
        cases e30 : Nat.ble k 30 with
        | true =>
          rw [e30] at h
          exact wd_sound2 (u := u) hd hn hx hk h
        | false =>
          rw [e30] at h
          exact wd_sound3 hd hn hk h
      | false =>
        rw [e46] at h
        cases e61 : Nat.ble k 61 with
        | true =>
          rw [e61] at h
          exact wd_sound4 (u := u) hd hn hx hk h
        | false =>
          rw [e61] at h
          exact wd_sound5 (u := u) hd hn hx hk h
/-- every place of a method's table is as the code says -/
def wd_okA (M : wd_M) : Prop := ∀ pc, wd_chk M pc = true
theorem wd_okM {M : wd_M} {f : Nat → wd_Lf} (hM : ∀ pc, M.2.2.2 pc = cond (Nat.ble M.2.2.1 pc) (99, 0, [], 0, 0) (f pc)) (h : (List.range M.2.2.1).all (wd_chk M) = true) : wd_okA M := by
  intro pc
  by_cases hp : pc < M.2.2.1
  · exact List.all_eq_true.mp h pc (List.mem_range.mpr hp)
  · have e : Nat.ble M.2.2.1 pc = true := Nat.ble_eq_true_of_le (by omega)
    have e2 := hM pc
    rw [e] at e2
    unfold wd_chk
    rw [e2]
    rfl
theorem wd_run {R : wd_C} (hok : wd_okA M) (S : List Nat) (hR : ∀ pc lv st σ τ, R pc lv st σ τ → Run w G M pc lv st σ τ Q) : ∀ (n : Nat) {pc : Nat} {lv : wd_L} {st : List Value} {σ : wd_S} {τ : wd_T}, wd_blk w M S Q R n pc lv st σ τ → Run w G M pc lv st σ τ Q
  | 0, _, _, _, _, _, h => hR _ _ _ _ _ h
  | n + 1, pc, lv, st, σ, τ, h => by
    refine wd_sound (hok pc) (fun pc' lv' st' σ' τ' hh => ?_) h
    cases hb : (S.elem pc' || Nat.ble 90 (M.2.2.2 pc').1) with
    | true =>
      rw [hb] at hh
      exact hR _ _ _ _ _ hh
    | false =>
      rw [hb] at hh
      exact wd_run hok S hR n hh
/-- a stretch, its end any predicate that a run gives -/
theorem wd_go (hok : wd_okA M) (S : List Nat) (n : Nat) (h : ∀ R : wd_C, (∀ {pc lv st σ τ}, Run w G M pc lv st σ τ Q → R pc lv st σ τ) → wd_blk w M S Q R n pc lv st σ τ) : Run w G M pc lv st σ τ Q :=
  wd_run hok S (fun _ _ _ _ _ h => h) n (h (fun pc lv st σ τ => Run w G M pc lv st σ τ Q) (fun h => h))
/-! calls -/
def wd_en : List Value → wd_L
  | [] => []
  | .long x :: r => some (.long x) :: none :: wd_en r
  | .double x :: r => some (.double x) :: none :: wd_en r
  | v :: r => some v :: wd_en r
def wd_ent (vs : List Value) (n : Nat) : wd_L := wd_en vs ++ List.replicate (n - (wd_en vs).length) none
theorem wd_en_len (a : Nat → Nat) : ∀ vs : List Value, (lg_sl (vs.map (wv a))).length = (wd_en vs).length
  | [] => rfl
  | v :: r => by
    have ih := wd_en_len a r
    cases v <;> simp [lg_sl, wv, wd_en, Value.category] at ih ⊢ <;> omega
theorem wd_en_at (a : Nat → Nat) : ∀ {vs : List Value} {i j : Nat} {v : Value}, (wd_en vs)[i]? = some (some v) → (j + i, wv a v) ∈ lv_args j (vs.map (wv a))
  | [], i, j, v, h => by simp [wd_en] at h
  | x :: r, i, j, v, h => by
    by_cases hc : x.category = 2
    · have e : wd_en (x :: r) = some x :: none :: wd_en r := by cases x <;> first | rfl | exact absurd hc (by simp [Value.category])
      rw [e] at h
      have e2 : lv_args j ((x :: r).map (wv a)) = (j, wv a x) :: lv_args (j + 2) (r.map (wv a)) := by
        rw [List.map_cons, lv_args, wv_cat, if_pos hc]
      rw [e2]
      match i, h with
      | 0, h =>
        simp at h
        subst h
        exact List.mem_cons_self
      | 1, h => simp at h
      | i + 2, h =>
        have := wd_en_at a (j := j + 2) (i := i) (v := v) (vs := r) (by simpa using h)
        refine List.mem_cons_of_mem _ ?_
        rw [show j + (i + 2) = j + 2 + i by omega]
        exact this
    · have e : wd_en (x :: r) = some x :: wd_en r := by cases x <;> first | rfl | exact absurd rfl hc
      rw [e] at h
      have e2 : lv_args j ((x :: r).map (wv a)) = (j, wv a x) :: lv_args (j + 1) (r.map (wv a)) := by
        rw [List.map_cons, lv_args, wv_cat, if_neg hc]
      rw [e2]
      match i, h with
      | 0, h =>
        simp at h
        subst h
        exact List.mem_cons_self
      | i + 1, h =>
        have := wd_en_at a (j := j + 1) (i := i) (v := v) (vs := r) (by simpa using h)
        refine List.mem_cons_of_mem _ ?_
        rw [show j + (i + 1) = j + 1 + i by omega]
        exact this
theorem wd_ent_ok (a : Nat → Nat) {vs : List Value} {n : Nat} (h : (wd_en vs).length ≤ n) : wd_lok a ((lg_sl (vs.map (wv a)) ++ List.replicate (n - (lg_sl (vs.map (wv a))).length) Slot.unset).toArray) n (wd_ent vs n) := by
  have h1 := lv_entry (vs.map (wv a)) (n := n) (by rw [wd_en_len]; exact h)
  refine ⟨h1.1, h1.2.1, fun i v hv => ?_⟩
  have hi : (wd_en vs)[i]? = some (some v) := by
    unfold wd_ent at hv
    by_cases hl : i < (wd_en vs).length
    · rwa [List.getElem?_append_left hl] at hv
    · rw [List.getElem?_append_right (by omega)] at hv
      have := List.eq_of_mem_replicate (List.mem_of_getElem? hv)
      cases this
  have := wd_en_at a (j := 0) hi
  rw [Nat.zero_add] at this
  exact h1.2.2 _ this
set_option maxHeartbeats 4000000 in
theorem wd_met {l : Launch} {vs : List Value} (hy : plainName M.1.1.cls = true) (hfit : (wd_en vs).length ≤ M.1.2.2.1) (h : Run w G M 0 (wd_ent vs M.1.2.2.1) [] σ τ Q) :
    Met l M.1.1 (wd_wsM M) (wd_rm M) (va_Pc (vs.map (wv G.2.1)) (fun U => va_P G.1 vwCl (wd_ws w G σ τ) U.heap ∧ wd_K w G (wd_A w G) U)) (wd_Qc w G Q) 0 0 (wd_A w G) := by
  refine Met.ofW (cc := M.1.2.1) (maxL := M.1.2.2.1) (ret := M.1.2.2.2) hy rfl ?_
  intro p e s m args below meth c s₁ B hml hv
  obtain ⟨rfl, hP, hK⟩ := hv
  rw [lg_entry_eq]
  exact h p l e s m _ below meth c s.heap [] _ ⟨B.exec, B.bytes, hml, B.returns, B.notSynchronized, findClass_of_methodNamed B.named, fun x hx => atoms_spec (ws := wd_wsM M) B.pre x (List.mem_cons_of_mem _ hx), hK⟩ hP va_S.rf (wd_ent_ok G.2.1 hfit)
theorem wd_blind {vs : List Value} : FrameBlind (va_Pc (vs.map (wv G.2.1)) (fun U => va_P G.1 vwCl (wd_ws w G σ τ) U.heap ∧ wd_K w G (wd_A w G) U)) := by
  intro a U g mk q
  obtain ⟨q0, qP, qK⟩ := q
  exact ⟨q0, qP, wd_K.same (s := U) (U := U.calling g mk a) rfl rfl qK⟩
theorem wd_back {p : Program} {l : Launch} {e : Env} {R : Room} {s : State} {m : MethodId} {args : Array Value} {below : List Frame} {meth : Method} {c : Code} {H : Heap} {locs : List Loc} {Qf : State → Prop} {pc : Nat} {ls : Array Slot} {st0 rest : List Value} {a : Array Value}
    (hr : va_Run p l e R s m args below meth c H locs 0 0 0 0 (F0 m pc ls st0) rest (wd_Qc w G Q a) (wd_A w G)) (hS : va_S (wd_A w G) s.heap H locs)
    (kk : ∀ (r : Option Value) (σ' : wd_S) (τ' : wd_T) (H1 : Heap) (locs1 : List Loc), Q r σ' τ' → va_P G.1 vwCl (wd_ws w G σ' τ') H1 → va_S (wd_A w G) s.heap H1 locs1 → W p l e R s m args below meth c H1 locs1 0 0 Qf (F0 m (pc + 3) ls ((r.map (wv G.2.1)).toList ++ rest))) : W p l e R s m args below meth c H locs 0 0 Qf (F0 m pc ls st0) := by
  intro T hT X
  obtain ⟨v, st₀, t, T', L, h0, X', hL, e1, e2, ⟨r, σ', τ', hv, hq, hP', hz, hk⟩, st⟩ := hr T hT X
  have hv := Outcome.returned.inj hv
  subst hv
  rw [h0] at hz hk
  obtain ⟨t2, a1, b1⟩ := kk r σ' τ' T'.heap (locs ++ L) hq (by rw [e1]; exact hP') ⟨Nat.le_trans hS.1 (by rw [e1]; exact hz), fun q h1 h2 => by rw [e1, hk q (Nat.lt_of_lt_of_le h1 hS.1) h2]; exact hS.2.1 q h1 h2, fun q hq => by
      rcases List.mem_append.mp hq with h | h
      · exact hS.2.2 q h
      · exact hL q h⟩ T' rfl X'
  exact ⟨t2, st t2 a1, b1⟩
/-- what a call needs of the tables: its link's words aside, the callee's code and class, the room -/
def wd_cee (M M' : wd_M) (n : Nat) : Bool :=
  decide (M'.1.1.cls ≠ "java/lang/invoke/MethodHandle" ∧ M'.1.1.cls ≠ "java/lang/invoke/VarHandle" ∧ (parseMethodDescriptor M'.1.1.desc).map (fun d => d.parameters.length) = some n) && (plainName M'.1.1.cls && (Nat.ble (M'.2.1.1 + 1) M.2.1.1 && Nat.ble (8 + (M'.1.2.2.1 + 11) + M'.2.1.2) M.2.1.2))
def wd_lnkV (M M' : wd_M) (idx n : Nat) (ps : List Nat) : Bool :=
  wd_ats ps [.methodLink M.1.1.cls idx M'.1.1, .code M'.1.1 M'.1.2.1 M'.1.2.2.1 M'.1.2.2.2, .initialized M'.1.1.cls, .instanceMethod M'.1.1, .selects M'.1.1.cls M'.1.1 M'.1.1] && wd_cee M M' n
def wd_lnkS (M M' : wd_M) (idx n : Nat) (ps : List Nat) : Bool :=
  wd_ats ps [.methodLink M.1.1.cls idx M'.1.1, .code M'.1.1 M'.1.2.1 M'.1.2.2.1 M'.1.2.2.2, .initialized M'.1.1.cls, .static M'.1.1] && wd_cee M M' n
def wd_lnkN (M M' : wd_M) (idx n : Nat) (ps : List Nat) (q : Nat) (host : String) : Bool :=
  wd_ats ps [.code M'.1.1 M'.1.2.1 M'.1.2.2.1 M'.1.2.2.2, .initialized M'.1.1.cls, .static M'.1.1] && (decide (lw_tbl[q]? = some (.methodLinkNest M.1.1.cls idx M'.1.1 host)) && wd_cee M M' n)
set_option maxHeartbeats 4000000 in
/-- a call of a method of an object -/
theorem wd_callV {M' : wd_M} {idx n d ci : Nat} {ps : List Nat} {As : List Value} (hl : wd_lnkV M M' idx n ps = true) (hd : decode M.1.2.1 pc = .ok (.invokevirtual idx, 3)) (ho : wd_obj w d ci = true) (hci : (wd_cl ci).1 = M'.1.1.cls) (h6 : ci < 6) (hn : As.length = n) (hfit : (wd_en (.ref d :: As)).length ≤ M'.1.2.2.1) (hsm : wd_sm st)
    (h : Run w G M' 0 (wd_ent (.ref d :: As) M'.1.2.2.1) [] σ τ (fun r σ' τ' => Run w G M (pc + 3) lv (r.toList ++ st) σ' τ' Q)) : Run w G M pc lv (As.reverse ++ .ref d :: st) σ τ Q := by
  intro p l e s m args below meth c H locs ls hC hP hS hL
  have hl' := Bool.and_eq_true_iff.mp hl
  have hc' := Bool.and_eq_true_iff.mp hl'.2
  have hc2 := Bool.and_eq_true_iff.mp hc'.2
  have hc3 := Bool.and_eq_true_iff.mp hc2.2
  have hw := wd_ats_mem hl'.1
  have hwd := fun (x : Cond) hx => hC.2.2.2.2.2.2.1 x (hw x hx)
  have hcode : Cond.code M'.1.1 M'.1.2.1 M'.1.2.2.1 M'.1.2.2.2 ∈ wd_gw := hw _ (by simp)
  obtain ⟨h1, h2⟩ := wd_obj_is ho
  have he := wd_ws_at (G := G) (σ := σ) (τ := τ) h1
  rw [wd_cell_o h2] at he
  have hrec := va_recv hC.2.2.2.2.2.2.2.2.1 hP (wd_cl_at h6) he
  rw [hci] at hrec
  have cw : CallW (wd_rm M) s args M.1.1.cls M'.1.1.cls idx M'.1.1 M'.1.2.1 M'.1.2.2.1 M'.1.2.2.2 (wd_wsM M') (wd_rm M') 0 0 n :=
    ⟨callB_of n hC.2.2.2.2.2.2.1 (wd_good hcode) rfl rfl rfl (hwd _ (by simp)) (hwd _ (by simp)) (of_decide_eq_true hc'.1) ⟨Nat.le_of_ble_eq_true hc3.1, Nat.le_of_ble_eq_true hc3.2⟩, hwd _ (by simp), hwd _ (by simp)⟩
  have hm := wd_met (l := l) hc2.1 hfit h
  refine wd_back (va_runV (As := As.map (wv G.2.1)) (rest := st.map (wv G.2.1)) (b := G.2.1 d) ⟨hC.1, hC.2.1, hC.2.2.1, hC.2.2.2.2.2.1, hC.2.2.2.2.2.2.1⟩ hm cw ⟨wd_blind, hrec, fun U hU hW => ⟨rfl, by rw [hU]; exact hP, wd_K.warm hW (by rw [hU]; exact hC.2.2.2.2.2.2.2.2.2.2.2.kept hS.2.1) hC.2.2.2.2.2.2.2⟩⟩ rfl (by rw [List.length_map]; exact hn) hL.1 (by show (As.reverse ++ Value.ref d :: st).map (wv G.2.1) = _; rw [List.map_append, List.map_reverse]; rfl) (lv_room (by rw [wd_cat8]; exact hsm)) hd ⟨Nat.le_refl 0, Nat.le_refl 0⟩) hS ?_
  intro r σ' τ' H1 locs1 hq hP1 hS1
  have := hq p l e s m args below meth c H1 locs1 ls hC hP1 hS1 hL
  rw [List.map_append] at this
  cases r <;> exact this
set_option maxHeartbeats 4000000 in
/-- a call of a static method -/
theorem wd_callS {M' : wd_M} {idx n : Nat} {ps : List Nat} {As : List Value} (hl : wd_lnkS M M' idx n ps = true) (hd : decode M.1.2.1 pc = .ok (.invokestatic idx, 3)) (hn : As.length = n) (hfit : (wd_en As).length ≤ M'.1.2.2.1) (hsm : wd_sm st)
    (h : Run w G M' 0 (wd_ent As M'.1.2.2.1) [] σ τ (fun r σ' τ' => Run w G M (pc + 3) lv (r.toList ++ st) σ' τ' Q)) : Run w G M pc lv (As.reverse ++ st) σ τ Q := by
  intro p l e s m args below meth c H locs ls hC hP hS hL
  have hl' := Bool.and_eq_true_iff.mp hl
  have hc' := Bool.and_eq_true_iff.mp hl'.2
  have hc2 := Bool.and_eq_true_iff.mp hc'.2
  have hc3 := Bool.and_eq_true_iff.mp hc2.2
  have hw := wd_ats_mem hl'.1
  have hwd := fun (x : Cond) hx => hC.2.2.2.2.2.2.1 x (hw x hx)
  have hcode : Cond.code M'.1.1 M'.1.2.1 M'.1.2.2.1 M'.1.2.2.2 ∈ wd_gw := hw _ (by simp)
  have cw : CallB (wd_rm M) s args M.1.1.cls idx M'.1.1 M'.1.2.1 M'.1.2.2.1 M'.1.2.2.2 (wd_wsM M') (wd_rm M') 0 0 n ∧ (Cond.static M'.1.1).before args s = true :=
    ⟨callB_of n hC.2.2.2.2.2.2.1 (wd_good hcode) rfl rfl rfl (hwd _ (by simp)) (hwd _ (by simp)) (of_decide_eq_true hc'.1) ⟨Nat.le_of_ble_eq_true hc3.1, Nat.le_of_ble_eq_true hc3.2⟩, hwd _ (by simp)⟩
  have hm := wd_met (l := l) hc2.1 hfit h
  refine wd_back (va_runS (As := As.map (wv G.2.1)) (rest := st.map (wv G.2.1)) ⟨hC.1, hC.2.1, hC.2.2.1, hC.2.2.2.2.2.1, hC.2.2.2.2.2.2.1⟩ hm cw ⟨wd_blind, fun U hU hW => ⟨rfl, by rw [hU]; exact hP, wd_K.warm hW (by rw [hU]; exact hC.2.2.2.2.2.2.2.2.2.2.2.kept hS.2.1) hC.2.2.2.2.2.2.2⟩⟩ rfl (by rw [List.length_map]; exact hn) hL.1 (by show (As.reverse ++ st).map (wv G.2.1) = _; rw [List.map_append, List.map_reverse]) (lv_room (by rw [wd_cat8]; exact hsm)) hd ⟨Nat.le_refl 0, Nat.le_refl 0⟩) hS ?_
  intro r σ' τ' H1 locs1 hq hP1 hS1
  have := hq p l e s m args below meth c H1 locs1 ls hC hP1 hS1 hL
  rw [List.map_append] at this
  cases r <;> exact this
set_option maxHeartbeats 4000000 in
/-- a call of a nest mate's private static method -/
theorem wd_callN {M' : wd_M} {idx n q : Nat} {host : String} {ps : List Nat} {As : List Value} (hl : wd_lnkN M M' idx n ps q host = true) (hd : decode M.1.2.1 pc = .ok (.invokestatic idx, 3)) (hn : As.length = n) (hfit : (wd_en As).length ≤ M'.1.2.2.1) (hsm : wd_sm st)
    (h : Run w G M' 0 (wd_ent As M'.1.2.2.1) [] σ τ (fun r σ' τ' => Run w G M (pc + 3) lv (r.toList ++ st) σ' τ' Q)) : Run w G M pc lv (As.reverse ++ st) σ τ Q := by
  intro p l e s m args below meth c H locs ls hC hP hS hL
  have hl' := Bool.and_eq_true_iff.mp hl
  have hl2 := Bool.and_eq_true_iff.mp hl'.2
  have hc' := Bool.and_eq_true_iff.mp hl2.2
  have hc2 := Bool.and_eq_true_iff.mp hc'.2
  have hc3 := Bool.and_eq_true_iff.mp hc2.2
  have hw := wd_ats_mem hl'.1
  have hwd := fun (x : Cond) hx => hC.2.2.2.2.2.2.1 x (hw x hx)
  have hcode : Cond.code M'.1.1 M'.1.2.1 M'.1.2.2.1 M'.1.2.2.2 ∈ wd_gw := hw _ (by simp)
  have hnest : va_Nw (.methodLinkNest M.1.1.cls idx M'.1.1 host) s := hC.2.2.2.2.2.2.2.2.2.2.1 _ (List.mem_filter.mpr ⟨List.mem_of_getElem? (of_decide_eq_true hl2.1), rfl⟩)
  have cw : va_CN (wd_rm M) s args M.1.1.cls idx M'.1.1 host M'.1.2.1 M'.1.2.2.1 M'.1.2.2.2 (wd_wsM M') (wd_rm M') 0 0 n ∧ (Cond.static M'.1.1).before args s = true ∧ True :=
    ⟨va_cnB n hC.2.2.2.2.2.2.1 (wd_good hcode) rfl rfl rfl hnest (hwd _ (by simp)) (of_decide_eq_true hc'.1) ⟨Nat.le_of_ble_eq_true hc3.1, Nat.le_of_ble_eq_true hc3.2⟩, hwd _ (by simp), trivial⟩
  have hm := wd_met (l := l) hc2.1 hfit h
  refine wd_back (va_runSN (As := As.map (wv G.2.1)) (rest := st.map (wv G.2.1)) ⟨hC.1, hC.2.1, hC.2.2.1, hC.2.2.2.2.2.1, hC.2.2.2.2.2.2.1⟩ hm cw ⟨wd_blind, fun U hU hW => ⟨rfl, by rw [hU]; exact hP, wd_K.warm hW (by rw [hU]; exact hC.2.2.2.2.2.2.2.2.2.2.2.kept hS.2.1) hC.2.2.2.2.2.2.2⟩⟩ rfl (by rw [List.length_map]; exact hn) hL.1 (by show (As.reverse ++ st).map (wv G.2.1) = _; rw [List.map_append, List.map_reverse]) (lv_room (by rw [wd_cat8]; exact hsm)) hd ⟨Nat.le_refl 0, Nat.le_refl 0⟩) hS ?_
  intro r σ' τ' H1 locs1 hq hP1 hS1
  have := hq p l e s m args below meth c H1 locs1 ls hC hP1 hS1 hL
  rw [List.map_append] at this
  cases r <;> exact this
end WS
end
section
def wC_pk : List wd_Sh := [.inr (.inr 0), .inl (.int, 4), .inl (.int, 4), .inl (.int, 4), .inl (.int, 4), .inl (.int, 16), .inl (.int, 4), .inl (.int, 4), .inl (.int, 6), .inl (.int, 6)]
def wC_a : List wd_Sh := [.inr (.inr 4), .inr (.inr 3), .inl (.int, 4), .inl (.int, 41), .inr (.inr 2), .inl (.byte, 160), .inr (.inr 1), .inr (.inl (.array .int, [60, 61, 62, 63])), .inl (.int, 4), .inl (.int, 4)]
def wC_b : List wd_Sh := [.inl (.int, 40), .inl (.int, 40), .inl (.int, 40), .inl (.int, 40), .inr (.inl (.object "WatchDogs$Pack", [40, 50])), .inl (.boolean, 2)]
def wC_sh (c : Nat) : wd_Sh := cond (Nat.ble c 9) (wC_a.getD c (.inr (.inr 9))) (cond (Nat.ble c 59) (wC_pk.getD (c % 10) (.inr (.inr 9))) (wC_b.getD (c - 60) (.inr (.inr 9))))
def wC_rf (c k : Nat) : Option Nat := (cond (Nat.ble c 6) (cond (Nat.ble c 1) (cond (Nat.ble c 0) (cond (Nat.beq c 0) [some 10, some 1, some 4, some 6, some 64, some 65, none] []) (cond (Nat.beq c 1) [some 20, some 2, some 3, none, none, none, none, none] [])) (cond (Nat.ble c 4) (cond (Nat.beq c 4) [some 5, some 30, none, none, none, none, none, none, none, none] []) (cond (Nat.beq c 6) [some 7, some 8, some 9] []))) (cond (Nat.ble c 20) (cond (Nat.ble c 10) (cond (Nat.beq c 10) [some 11, some 12, some 13, some 14, some 15, some 16, some 17, some 18, some 19, none, none, none, none, none, none, none, none, none] []) (cond (Nat.beq c 20) [some 21, some 22, some 23, some 24, some 25, some 26, some 27, some 28, some 29, none, none, none, none, none, none, none, none, none] [])) (cond (Nat.ble c 30) (cond (Nat.beq c 30) [some 31, some 32, some 33, some 34, some 35, some 36, some 37, some 38, some 39, none, none, none, none, none, none, none, none, none] []) (cond (Nat.ble c 40) (cond (Nat.beq c 40) [some 41, some 42, some 43, some 44, some 45, some 46, some 47, some 48, some 49, none, none, none, none, none, none, none, none, none] []) (cond (Nat.beq c 50) [some 51, some 52, some 53, some 54, some 55, some 56, some 57, some 58, some 59, none, none, none, none, none, none, none, none, none] []))))).getD k none
def wC : wd_Wd := (66, wC_sh, wC_rf)
def wR_a : List wd_Sh := [.inr (.inr 5), .inl (.int, 183), .inl (.int, 61), .inl (.boolean, 2), .inl (.int, 61), .inl (.int, 160), .inl (.int, 4), .inl (.int, 41), .inl (.int, 41), .inl (.int, 4), .inl (.int, 4), .inl (.int, 160), .inl (.int, 61)]
def wR_rf (c k : Nat) : Option Nat := (cond (Nat.beq c 0) [some 1, some 2, some 3, some 4, none, some 5, none, none, none, none, none, none, none, none, none, none, none, none, none, some 6, none, none, none, none, none, some 7, some 8, some 9, some 10, some 11, none, some 12] []).getD k none
def wR : wd_Wd := (13, (fun c => wR_a.getD c (.inr (.inr 9))), wR_rf)
def M_P_addDog_t : Nat → wd_Lf := fun pc => cond (Nat.ble pc 18) (cond (Nat.ble pc 8) (cond (Nat.ble pc 1) (cond (Nat.ble pc 0) (cond (Nat.beq pc 0) (12, 1, [0], 0, 0) (99, 0, [], 0, 0)) (cond (Nat.beq pc 1) (65, 4, [0, 9, 49, 103], 0, 0) (99, 0, [], 0, 0))) (cond (Nat.ble pc 4) (cond (Nat.beq pc 4) (0, 5, [], 4, 0) (99, 0, [], 0, 0)) (cond (Nat.ble pc 5) (cond (Nat.beq pc 5) (56, 8, [38], 0, 0) (99, 0, [], 0, 0)) (cond (Nat.beq pc 8) (12, 9, [0], 0, 0) (99, 0, [], 0, 0))))) (cond (Nat.ble pc 13) (cond (Nat.ble pc 9) (cond (Nat.beq pc 9) (65, 12, [0, 0, 9, 85], 0, 0) (99, 0, [], 0, 0)) (cond (Nat.ble pc 12) (cond (Nat.beq pc 12) (12, 13, [0], 0, 0) (99, 0, [], 0, 0)) (cond (Nat.beq pc 13) (65, 16, [0, 9, 49, 103], 0, 0) (99, 0, [], 0, 0)))) (cond (Nat.ble pc 16) (cond (Nat.beq pc 16) (8, 17, [1], 0, 0) (99, 0, [], 0, 0)) (cond (Nat.ble pc 17) (cond (Nat.beq pc 17) (68, 18, [], 0, 0) (99, 0, [], 0, 0)) (cond (Nat.beq pc 18) (12, 19, [0], 0, 0) (99, 0, [], 0, 0)))))) (cond (Nat.ble pc 28) (cond (Nat.ble pc 23) (cond (Nat.ble pc 19) (cond (Nat.beq pc 19) (65, 22, [0, 1, 15, 87], 0, 0) (99, 0, [], 0, 0)) (cond (Nat.ble pc 22) (cond (Nat.beq pc 22) (12, 23, [0], 0, 0) (99, 0, [], 0, 0)) (cond (Nat.beq pc 23) (65, 26, [0, 9, 49, 103], 0, 0) (99, 0, [], 0, 0)))) (cond (Nat.ble pc 26) (cond (Nat.beq pc 26) (8, 27, [2], 0, 0) (99, 0, [], 0, 0)) (cond (Nat.ble pc 27) (cond (Nat.beq pc 27) (68, 28, [], 0, 0) (99, 0, [], 0, 0)) (cond (Nat.beq pc 28) (12, 29, [0], 0, 0) (99, 0, [], 0, 0))))) (cond (Nat.ble pc 33) (cond (Nat.ble pc 29) (cond (Nat.beq pc 29) (44, 30, [], 0, 0) (99, 0, [], 0, 0)) (cond (Nat.ble pc 30) (cond (Nat.beq pc 30) (65, 33, [0, 9, 49, 103], 0, 0) (99, 0, [], 0, 0)) (cond (Nat.beq pc 33) (0, 34, [], 1, 0) (99, 0, [], 0, 0)))) (cond (Nat.ble pc 34) (cond (Nat.beq pc 34) (21, 35, [], 0, 0) (99, 0, [], 0, 0)) (cond (Nat.ble pc 35) (cond (Nat.beq pc 35) (66, 38, [0, 9, 49, 103], 0, 0) (99, 0, [], 0, 0)) (cond (Nat.beq pc 38) (64, 39, [], 0, 0) (99, 0, [], 0, 0))))))
def M_P_addDog : wd_M := ((yX0_addDog, cX0_addDog, 3, none), (0, 0), 39, fun pc => cond (Nat.ble 39 pc) (99, 0, [], 0, 0) (M_P_addDog_t pc))
theorem ok_P_addDog : wd_okA M_P_addDog := wd_okM (f := M_P_addDog_t) (fun _ => rfl) (by decide +kernel)
def M_P_isStuck_t : Nat → wd_Lf := fun pc => cond (Nat.ble pc 30) (cond (Nat.ble pc 14) (cond (Nat.ble pc 3) (cond (Nat.ble pc 1) (cond (Nat.ble pc 0) (cond (Nat.beq pc 0) (0, 1, [], 0, 0) (99, 0, [], 0, 0)) (cond (Nat.beq pc 1) (14, 2, [1], 0, 0) (99, 0, [], 0, 0))) (cond (Nat.ble pc 2) (cond (Nat.beq pc 2) (8, 3, [1], 0, 0) (99, 0, [], 0, 0)) (cond (Nat.beq pc 3) (12, 4, [0], 0, 0) (99, 0, [], 0, 0)))) (cond (Nat.ble pc 7) (cond (Nat.ble pc 4) (cond (Nat.beq pc 4) (65, 7, [0, 11, 55, 110], 0, 0) (99, 0, [], 0, 0)) (cond (Nat.beq pc 7) (56, 10, [64], 0, 0) (99, 0, [], 0, 0))) (cond (Nat.ble pc 10) (cond (Nat.beq pc 10) (12, 11, [0], 0, 0) (99, 0, [], 0, 0)) (cond (Nat.ble pc 11) (cond (Nat.beq pc 11) (65, 14, [0, 14, 64, 117], 0, 0) (99, 0, [], 0, 0)) (cond (Nat.beq pc 14) (12, 15, [0], 0, 0) (99, 0, [], 0, 0)))))) (cond (Nat.ble pc 23) (cond (Nat.ble pc 18) (cond (Nat.ble pc 15) (cond (Nat.beq pc 15) (65, 18, [0, 5, 27, 97], 0, 0) (99, 0, [], 0, 0)) (cond (Nat.beq pc 18) (8, 19, [1], 0, 0) (99, 0, [], 0, 0))) (cond (Nat.ble pc 19) (cond (Nat.beq pc 19) (67, 20, [], 0, 0) (99, 0, [], 0, 0)) (cond (Nat.ble pc 20) (cond (Nat.beq pc 20) (55, 23, [58], 0, 0) (99, 0, [], 0, 0)) (cond (Nat.beq pc 23) (12, 24, [0], 0, 0) (99, 0, [], 0, 0))))) (cond (Nat.ble pc 27) (cond (Nat.ble pc 24) (cond (Nat.beq pc 24) (65, 27, [0, 5, 27, 97], 0, 0) (99, 0, [], 0, 0)) (cond (Nat.beq pc 27) (8, 28, [1], 0, 0) (99, 0, [], 0, 0))) (cond (Nat.ble pc 28) (cond (Nat.beq pc 28) (67, 29, [], 0, 0) (99, 0, [], 0, 0)) (cond (Nat.ble pc 29) (cond (Nat.beq pc 29) (12, 30, [0], 0, 0) (99, 0, [], 0, 0)) (cond (Nat.beq pc 30) (65, 33, [0, 16, 70, 122], 0, 0) (99, 0, [], 0, 0))))))) (cond (Nat.ble pc 47) (cond (Nat.ble pc 40) (cond (Nat.ble pc 36) (cond (Nat.ble pc 33) (cond (Nat.beq pc 33) (55, 36, [58], 0, 0) (99, 0, [], 0, 0)) (cond (Nat.beq pc 36) (12, 37, [0], 0, 0) (99, 0, [], 0, 0))) (cond (Nat.ble pc 37) (cond (Nat.beq pc 37) (65, 40, [0, 14, 64, 117], 0, 0) (99, 0, [], 0, 0)) (cond (Nat.beq pc 40) (12, 41, [0], 0, 0) (99, 0, [], 0, 0)))) (cond (Nat.ble pc 44) (cond (Nat.ble pc 41) (cond (Nat.beq pc 41) (65, 44, [0, 5, 27, 97], 0, 0) (99, 0, [], 0, 0)) (cond (Nat.beq pc 44) (8, 45, [1], 0, 0) (99, 0, [], 0, 0))) (cond (Nat.ble pc 45) (cond (Nat.beq pc 45) (67, 46, [], 0, 0) (99, 0, [], 0, 0)) (cond (Nat.ble pc 46) (cond (Nat.beq pc 46) (22, 47, [], 0, 0) (99, 0, [], 0, 0)) (cond (Nat.beq pc 47) (12, 48, [0], 0, 0) (99, 0, [], 0, 0)))))) (cond (Nat.ble pc 56) (cond (Nat.ble pc 51) (cond (Nat.ble pc 48) (cond (Nat.beq pc 48) (65, 51, [0, 6, 30, 99], 0, 0) (99, 0, [], 0, 0)) (cond (Nat.beq pc 51) (8, 52, [1], 0, 0) (99, 0, [], 0, 0))) (cond (Nat.ble pc 52) (cond (Nat.beq pc 52) (67, 53, [], 0, 0) (99, 0, [], 0, 0)) (cond (Nat.ble pc 53) (cond (Nat.beq pc 53) (56, 56, [58], 0, 0) (99, 0, [], 0, 0)) (cond (Nat.beq pc 56) (0, 57, [], 1, 0) (99, 0, [], 0, 0))))) (cond (Nat.ble pc 58) (cond (Nat.ble pc 57) (cond (Nat.beq pc 57) (62, 58, [], 0, 0) (99, 0, [], 0, 0)) (cond (Nat.beq pc 58) (20, 61, [1], 1, 0) (99, 0, [], 0, 0))) (cond (Nat.ble pc 61) (cond (Nat.beq pc 61) (59, 64, [2], 0, 0) (99, 0, [], 0, 0)) (cond (Nat.ble pc 64) (cond (Nat.beq pc 64) (0, 65, [], 0, 0) (99, 0, [], 0, 0)) (cond (Nat.beq pc 65) (62, 66, [], 0, 0) (99, 0, [], 0, 0)))))))
def M_P_isStuck : wd_M := ((yX0_isStuck, cX0_isStuck, 2, (some .boolean)), (0, 0), 66, fun pc => cond (Nat.ble 66 pc) (99, 0, [], 0, 0) (M_P_isStuck_t pc))
theorem ok_P_isStuck : wd_okA M_P_isStuck := wd_okM (f := M_P_isStuck_t) (fun _ => rfl) (by decide +kernel)
def M_P_nextSign_t : Nat → wd_Lf := fun pc => cond (Nat.ble pc 29) (cond (Nat.ble pc 15) (cond (Nat.ble pc 5) (cond (Nat.ble pc 1) (cond (Nat.ble pc 0) (cond (Nat.beq pc 0) (12, 1, [0], 0, 0) (99, 0, [], 0, 0)) (cond (Nat.beq pc 1) (65, 4, [0, 13, 61, 115], 0, 0) (99, 0, [], 0, 0))) (cond (Nat.ble pc 4) (cond (Nat.beq pc 4) (12, 5, [0], 0, 0) (99, 0, [], 0, 0)) (cond (Nat.beq pc 5) (65, 8, [0, 10, 52, 107], 0, 0) (99, 0, [], 0, 0)))) (cond (Nat.ble pc 11) (cond (Nat.ble pc 8) (cond (Nat.beq pc 8) (56, 11, [18], 0, 0) (99, 0, [], 0, 0)) (cond (Nat.beq pc 11) (12, 12, [0], 0, 0) (99, 0, [], 0, 0))) (cond (Nat.ble pc 12) (cond (Nat.beq pc 12) (91, 15, [73], 0, 0) (99, 0, [], 0, 0)) (cond (Nat.beq pc 15) (47, 18, [20], 0, 0) (99, 0, [], 0, 0))))) (cond (Nat.ble pc 21) (cond (Nat.ble pc 19) (cond (Nat.ble pc 18) (cond (Nat.beq pc 18) (0, 19, [], 0, 0) (99, 0, [], 0, 0)) (cond (Nat.beq pc 19) (62, 20, [], 0, 0) (99, 0, [], 0, 0))) (cond (Nat.ble pc 20) (cond (Nat.beq pc 20) (12, 21, [0], 0, 0) (99, 0, [], 0, 0)) (cond (Nat.beq pc 21) (65, 24, [0, 4, 24, 95], 0, 0) (99, 0, [], 0, 0)))) (cond (Nat.ble pc 25) (cond (Nat.ble pc 24) (cond (Nat.beq pc 24) (12, 25, [0], 0, 0) (99, 0, [], 0, 0)) (cond (Nat.beq pc 25) (65, 28, [0, 13, 61, 115], 0, 0) (99, 0, [], 0, 0))) (cond (Nat.ble pc 28) (cond (Nat.beq pc 28) (67, 29, [], 0, 0) (99, 0, [], 0, 0)) (cond (Nat.beq pc 29) (14, 30, [1], 0, 0) (99, 0, [], 0, 0)))))) (cond (Nat.ble pc 41) (cond (Nat.ble pc 35) (cond (Nat.ble pc 31) (cond (Nat.ble pc 30) (cond (Nat.beq pc 30) (12, 31, [0], 0, 0) (99, 0, [], 0, 0)) (cond (Nat.beq pc 31) (12, 32, [0], 0, 0) (99, 0, [], 0, 0))) (cond (Nat.ble pc 32) (cond (Nat.beq pc 32) (65, 35, [0, 13, 61, 115], 0, 0) (99, 0, [], 0, 0)) (cond (Nat.beq pc 35) (0, 36, [], 1, 0) (99, 0, [], 0, 0)))) (cond (Nat.ble pc 37) (cond (Nat.ble pc 36) (cond (Nat.beq pc 36) (21, 37, [], 0, 0) (99, 0, [], 0, 0)) (cond (Nat.beq pc 37) (12, 38, [0], 0, 0) (99, 0, [], 0, 0))) (cond (Nat.ble pc 38) (cond (Nat.beq pc 38) (65, 41, [0, 10, 52, 107], 0, 0) (99, 0, [], 0, 0)) (cond (Nat.beq pc 41) (56, 44, [53], 0, 0) (99, 0, [], 0, 0))))) (cond (Nat.ble pc 49) (cond (Nat.ble pc 45) (cond (Nat.ble pc 44) (cond (Nat.beq pc 44) (12, 45, [0], 0, 0) (99, 0, [], 0, 0)) (cond (Nat.beq pc 45) (65, 48, [0, 13, 61, 115], 0, 0) (99, 0, [], 0, 0))) (cond (Nat.ble pc 48) (cond (Nat.beq pc 48) (0, 49, [], 1, 0) (99, 0, [], 0, 0)) (cond (Nat.beq pc 49) (21, 50, [], 0, 0) (99, 0, [], 0, 0)))) (cond (Nat.ble pc 53) (cond (Nat.ble pc 50) (cond (Nat.beq pc 50) (59, 53, [54], 0, 0) (99, 0, [], 0, 0)) (cond (Nat.beq pc 53) (0, 54, [], 0, 0) (99, 0, [], 0, 0))) (cond (Nat.ble pc 54) (cond (Nat.beq pc 54) (66, 57, [0, 13, 61, 115], 0, 0) (99, 0, [], 0, 0)) (cond (Nat.ble pc 57) (cond (Nat.beq pc 57) (8, 58, [1], 0, 0) (99, 0, [], 0, 0)) (cond (Nat.beq pc 58) (62, 59, [], 0, 0) (99, 0, [], 0, 0)))))))
def M_P_nextSign : wd_M := ((yX0_nextSign, cX0_nextSign, 2, (some .int)), (1, 21), 59, fun pc => cond (Nat.ble 59 pc) (99, 0, [], 0, 0) (M_P_nextSign_t pc))
theorem ok_P_nextSign : wd_okA M_P_nextSign := wd_okM (f := M_P_nextSign_t) (fun _ => rfl) (by decide +kernel)
def M_D_outside_t : Nat → wd_Lf := fun pc => cond (Nat.ble pc 6) (cond (Nat.ble pc 1) (cond (Nat.ble pc 0) (cond (Nat.beq pc 0) (8, 1, [0], 0, 0) (99, 0, [], 0, 0)) (cond (Nat.beq pc 1) (8, 2, [1], 0, 0) (99, 0, [], 0, 0))) (cond (Nat.ble pc 2) (cond (Nat.beq pc 2) (55, 5, [10], 0, 0) (99, 0, [], 0, 0)) (cond (Nat.ble pc 5) (cond (Nat.beq pc 5) (8, 6, [0], 0, 0) (99, 0, [], 0, 0)) (cond (Nat.beq pc 6) (8, 7, [2], 0, 0) (99, 0, [], 0, 0))))) (cond (Nat.ble pc 10) (cond (Nat.ble pc 7) (cond (Nat.beq pc 7) (58, 10, [14], 0, 0) (99, 0, [], 0, 0)) (cond (Nat.beq pc 10) (0, 11, [], 1, 0) (99, 0, [], 0, 0))) (cond (Nat.ble pc 11) (cond (Nat.beq pc 11) (59, 14, [15], 0, 0) (99, 0, [], 0, 0)) (cond (Nat.ble pc 14) (cond (Nat.beq pc 14) (0, 15, [], 0, 0) (99, 0, [], 0, 0)) (cond (Nat.beq pc 15) (62, 16, [], 0, 0) (99, 0, [], 0, 0)))))
def M_D_outside : wd_M := ((yX4_outside, cX4_outside, 3, (some .boolean)), (0, 0), 16, fun pc => cond (Nat.ble 16 pc) (99, 0, [], 0, 0) (M_D_outside_t pc))
theorem ok_D_outside : wd_okA M_D_outside := wd_okM (f := M_D_outside_t) (fun _ => rfl) (by decide +kernel)
theorem k_P_nextSign_12 {w : wd_Wd} {G : wd_G} {lv : wd_L} {st : List Value} {σ : wd_S} {τ : wd_T} {Q : wd_P} {d : Nat} (hsm : wd_sm st) (ho : wd_obj w d 0 = true) (h : Run w G M_P_isStuck 0 [some (.ref d), none] [] σ τ (fun r σ τ => Run w G M_P_nextSign 15 lv (r.toList ++ st) σ τ Q)) : Run w G M_P_nextSign 12 lv (.ref d :: st) σ τ Q := wd_callV (M' := M_P_isStuck) (idx := 73) (n := 0) (ci := 0) (ps := [550, 461, 58, 459, 460]) (As := []) (by decide +kernel) (by decide +kernel) ho rfl (by decide) rfl (Nat.le_of_ble_eq_true rfl) hsm h

theorem t_outside {G : wd_G} {σ : wd_S} {τ : wd_T} {Q : wd_P} {x a b : Int32} (h : Q (some (.int (if x < a ∨ b < x then 1 else 0))) σ τ) : Run wC G M_D_outside 0 [some (.int x), some (.int a), some (.int b)] [] σ τ Q := by
  refine wd_go ok_D_outside [] 30 (fun R hR => ?_)
  conv => whnf
  trace_state
  sorry
theorem t_addDog {G : wd_G} {σ : wd_S} {τ : wd_T} {Q : wd_P} {x a : Int32} : Run wC G M_P_addDog 0 [some (.ref 30), some (.int x), some (.int a)] [] σ τ Q := by
  refine wd_go ok_P_addDog [] 60 (fun R hR => ?_)
  conv => whnf
  refine ⟨fun h => ?_, fun h => ?_⟩
  · conv => whnf
    trace_state
    sorry
  · conv => whnf
    trace_state
    refine ⟨?_, ?_⟩
    · sorry
    · conv => whnf
      trace_state
      sorry
theorem t_isStuck {G : wd_G} {σ : wd_S} {τ : wd_T} {Q : wd_P} : Run wC G M_P_isStuck 0 [some (.ref 20), none] [] σ τ Q := by
  refine wd_go ok_P_isStuck [2] 60 (fun R hR => ?_)
  conv => whnf
  trace_state
  refine hR ?_
  refine wd_go ok_P_isStuck [2] 60 (fun R hR => ?_)
  conv => whnf
  trace_state
  sorry
theorem t_nextSign {G : wd_G} {σ : wd_S} {τ : wd_T} {Q : wd_P} : Run wC G M_P_nextSign 0 [some (.ref 20), none] [] σ τ Q := by
  refine wd_go ok_P_nextSign [] 60 (fun R hR => ?_)
  conv => whnf
  trace_state
  sorry
end
