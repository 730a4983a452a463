section
-- ===== PART A: goes FIRST, ahead of the names: the tables' words, and 'selects' of the private methods out of them =====
/-- a private method of a class that the tables say can be made, by its rows of tables_1 -/
def lw_okq (q : MethodName × Nat) : Prop := (q.1.cls ≠ "java/lang/invoke/MethodHandle" ∧ q.1.cls ≠ "java/lang/invoke/VarHandle") ∧ Cond.instantiable q.1.cls q.2 ∈ tables_1 ∧ Cond.privateMethod q.1 ∈ tables_1 ∧ Cond.instanceMethod q.1 ∈ tables_1
theorem lw_p0 : lw_okq (⟨"CurtainHouse", "find", "(I)I"⟩, 8) := ⟨⟨by decide +kernel, by decide +kernel⟩, List.mem_of_getElem? (i := 15) (by decide +kernel), List.mem_of_getElem? (i := 186) (by decide +kernel), List.mem_of_getElem? (i := 187) (by decide +kernel)⟩
theorem lw_p1 : lw_okq (⟨"CurtainHouse", "isCurtain", "(I)Z"⟩, 8) := ⟨⟨by decide +kernel, by decide +kernel⟩, List.mem_of_getElem? (i := 15) (by decide +kernel), List.mem_of_getElem? (i := 225) (by decide +kernel), List.mem_of_getElem? (i := 226) (by decide +kernel)⟩
theorem lw_p2 : lw_okq (⟨"CurtainHouse$Curtain", "feel", "(I)V"⟩, 6) := ⟨⟨by decide +kernel, by decide +kernel⟩, List.mem_of_getElem? (i := 30) (by decide +kernel), List.mem_of_getElem? (i := 321) (by decide +kernel), List.mem_of_getElem? (i := 322) (by decide +kernel)⟩
theorem lw_p3 : lw_okq (⟨"CurtainHouse$Curtain", "comeDown", "(I)V"⟩, 6) := ⟨⟨by decide +kernel, by decide +kernel⟩, List.mem_of_getElem? (i := 30) (by decide +kernel), List.mem_of_getElem? (i := 325) (by decide +kernel), List.mem_of_getElem? (i := 326) (by decide +kernel)⟩
theorem lw_p4 : lw_okq (⟨"CurtainHouse$House", "tellDown", "()V"⟩, 9) := ⟨⟨by decide +kernel, by decide +kernel⟩, List.mem_of_getElem? (i := 23) (by decide +kernel), List.mem_of_getElem? (i := 329) (by decide +kernel), List.mem_of_getElem? (i := 330) (by decide +kernel)⟩
theorem lw_p5 : lw_okq (⟨"CurtainHouse", "passProbe", "(I)I"⟩, 8) := ⟨⟨by decide +kernel, by decide +kernel⟩, List.mem_of_getElem? (i := 15) (by decide +kernel), List.mem_of_getElem? (i := 362) (by decide +kernel), List.mem_of_getElem? (i := 363) (by decide +kernel)⟩
theorem lw_p6 : lw_okq (⟨"CurtainHouse", "beatsUntil", "(IIII)I"⟩, 8) := ⟨⟨by decide +kernel, by decide +kernel⟩, List.mem_of_getElem? (i := 15) (by decide +kernel), List.mem_of_getElem? (i := 383) (by decide +kernel), List.mem_of_getElem? (i := 384) (by decide +kernel)⟩
theorem lw_p7 : lw_okq (⟨"CurtainHouse", "findingForTold", "(II)I"⟩, 8) := ⟨⟨by decide +kernel, by decide +kernel⟩, List.mem_of_getElem? (i := 15) (by decide +kernel), List.mem_of_getElem? (i := 434) (by decide +kernel), List.mem_of_getElem? (i := 435) (by decide +kernel)⟩
theorem lw_p8 : lw_okq (⟨"CurtainHouse", "isProbeAsTold", "(LCurtainHouse$Sheet;)Z"⟩, 8) := ⟨⟨by decide +kernel, by decide +kernel⟩, List.mem_of_getElem? (i := 15) (by decide +kernel), List.mem_of_getElem? (i := 446) (by decide +kernel), List.mem_of_getElem? (i := 447) (by decide +kernel)⟩
theorem lw_p9 : lw_okq (⟨"CurtainHouse$Tape", "step", "()V"⟩, 6) := ⟨⟨by decide +kernel, by decide +kernel⟩, List.mem_of_getElem? (i := 107) (by decide +kernel), List.mem_of_getElem? (i := 494) (by decide +kernel), List.mem_of_getElem? (i := 495) (by decide +kernel)⟩
theorem lw_p10 : lw_okq (⟨"CurtainHouse$Tape", "valueAtHand", "()I"⟩, 6) := ⟨⟨by decide +kernel, by decide +kernel⟩, List.mem_of_getElem? (i := 107) (by decide +kernel), List.mem_of_getElem? (i := 502) (by decide +kernel), List.mem_of_getElem? (i := 503) (by decide +kernel)⟩
theorem lw_p11 : lw_okq (⟨"CurtainHouse$Tape", "kindAtHand", "()I"⟩, 6) := ⟨⟨by decide +kernel, by decide +kernel⟩, List.mem_of_getElem? (i := 107) (by decide +kernel), List.mem_of_getElem? (i := 506) (by decide +kernel), List.mem_of_getElem? (i := 507) (by decide +kernel)⟩
theorem lw_p12 : lw_okq (⟨"CurtainHouse$Tape", "isWord", "(Ljava/lang/String;)Z"⟩, 6) := ⟨⟨by decide +kernel, by decide +kernel⟩, List.mem_of_getElem? (i := 107) (by decide +kernel), List.mem_of_getElem? (i := 511) (by decide +kernel), List.mem_of_getElem? (i := 512) (by decide +kernel)⟩
theorem lw_p13 : lw_okq (⟨"CurtainHouse$Tape", "readOther", "(LCurtainHouse$House;)Z"⟩, 6) := ⟨⟨by decide +kernel, by decide +kernel⟩, List.mem_of_getElem? (i := 107) (by decide +kernel), List.mem_of_getElem? (i := 569) (by decide +kernel), List.mem_of_getElem? (i := 570) (by decide +kernel)⟩
theorem lw_p14 : lw_okq (⟨"CurtainHouse$Tape", "takeWord", "(Ljava/lang/String;)Z"⟩, 6) := ⟨⟨by decide +kernel, by decide +kernel⟩, List.mem_of_getElem? (i := 107) (by decide +kernel), List.mem_of_getElem? (i := 574) (by decide +kernel), List.mem_of_getElem? (i := 575) (by decide +kernel)⟩
theorem lw_p15 : lw_okq (⟨"CurtainHouse$Tape", "readScene", "(LCurtainHouse$House;)Z"⟩, 6) := ⟨⟨by decide +kernel, by decide +kernel⟩, List.mem_of_getElem? (i := 107) (by decide +kernel), List.mem_of_getElem? (i := 578) (by decide +kernel), List.mem_of_getElem? (i := 579) (by decide +kernel)⟩
def lw_privs_1 : List (MethodName × Nat) := [(⟨"CurtainHouse", "find", "(I)I"⟩, 8), (⟨"CurtainHouse", "isCurtain", "(I)Z"⟩, 8), (⟨"CurtainHouse$Curtain", "feel", "(I)V"⟩, 6), (⟨"CurtainHouse$Curtain", "comeDown", "(I)V"⟩, 6), (⟨"CurtainHouse$House", "tellDown", "()V"⟩, 9), (⟨"CurtainHouse", "passProbe", "(I)I"⟩, 8), (⟨"CurtainHouse", "beatsUntil", "(IIII)I"⟩, 8), (⟨"CurtainHouse", "findingForTold", "(II)I"⟩, 8), (⟨"CurtainHouse", "isProbeAsTold", "(LCurtainHouse$Sheet;)Z"⟩, 8), (⟨"CurtainHouse$Tape", "step", "()V"⟩, 6), (⟨"CurtainHouse$Tape", "valueAtHand", "()I"⟩, 6), (⟨"CurtainHouse$Tape", "kindAtHand", "()I"⟩, 6), (⟨"CurtainHouse$Tape", "isWord", "(Ljava/lang/String;)Z"⟩, 6), (⟨"CurtainHouse$Tape", "readOther", "(LCurtainHouse$House;)Z"⟩, 6), (⟨"CurtainHouse$Tape", "takeWord", "(Ljava/lang/String;)Z"⟩, 6), (⟨"CurtainHouse$Tape", "readScene", "(LCurtainHouse$House;)Z"⟩, 6)]
theorem lw_r1 : ∀ q ∈ lw_privs_1, lw_okq q := List.forall_mem_cons.mpr ⟨lw_p0, List.forall_mem_cons.mpr ⟨lw_p1, List.forall_mem_cons.mpr ⟨lw_p2, List.forall_mem_cons.mpr ⟨lw_p3, List.forall_mem_cons.mpr ⟨lw_p4, List.forall_mem_cons.mpr ⟨lw_p5, List.forall_mem_cons.mpr ⟨lw_p6, List.forall_mem_cons.mpr ⟨lw_p7, List.forall_mem_cons.mpr ⟨lw_p8, List.forall_mem_cons.mpr ⟨lw_p9, List.forall_mem_cons.mpr ⟨lw_p10, List.forall_mem_cons.mpr ⟨lw_p11, List.forall_mem_cons.mpr ⟨lw_p12, List.forall_mem_cons.mpr ⟨lw_p13, List.forall_mem_cons.mpr ⟨lw_p14, List.forall_mem_cons.mpr ⟨lw_p15, fun _ h => absurd h List.not_mem_nil⟩⟩⟩⟩⟩⟩⟩⟩⟩⟩⟩⟩⟩⟩⟩⟩
theorem lw_p16 : lw_okq (⟨"CurtainHouse$Tape", "takeNumber", "(I)I"⟩, 6) := ⟨⟨by decide +kernel, by decide +kernel⟩, List.mem_of_getElem? (i := 107) (by decide +kernel), List.mem_of_getElem? (i := 582) (by decide +kernel), List.mem_of_getElem? (i := 583) (by decide +kernel)⟩
theorem lw_p17 : lw_okq (⟨"CurtainHouse$Tape", "readCurtain", "(LCurtainHouse$House;I)Z"⟩, 6) := ⟨⟨by decide +kernel, by decide +kernel⟩, List.mem_of_getElem? (i := 107) (by decide +kernel), List.mem_of_getElem? (i := 588) (by decide +kernel), List.mem_of_getElem? (i := 589) (by decide +kernel)⟩
theorem lw_p18 : lw_okq (⟨"CurtainHouse$Tape", "readPart", "(LCurtainHouse$Curtain;Ljava/lang/String;I)Z"⟩, 6) := ⟨⟨by decide +kernel, by decide +kernel⟩, List.mem_of_getElem? (i := 107) (by decide +kernel), List.mem_of_getElem? (i := 595) (by decide +kernel), List.mem_of_getElem? (i := 596) (by decide +kernel)⟩
theorem lw_p19 : lw_okq (⟨"CurtainHouseModel", "become", "(II)I"⟩, 20) := ⟨⟨by decide +kernel, by decide +kernel⟩, List.mem_of_getElem? (i := 678) (by decide +kernel), List.mem_of_getElem? (i := 761) (by decide +kernel), List.mem_of_getElem? (i := 762) (by decide +kernel)⟩
theorem lw_p20 : lw_okq (⟨"CurtainHouseModel", "finding", "(I)I"⟩, 20) := ⟨⟨by decide +kernel, by decide +kernel⟩, List.mem_of_getElem? (i := 678) (by decide +kernel), List.mem_of_getElem? (i := 766) (by decide +kernel), List.mem_of_getElem? (i := 767) (by decide +kernel)⟩
theorem lw_p21 : lw_okq (⟨"CurtainHouseModel", "comes", "(II)I"⟩, 20) := ⟨⟨by decide +kernel, by decide +kernel⟩, List.mem_of_getElem? (i := 678) (by decide +kernel), List.mem_of_getElem? (i := 795) (by decide +kernel), List.mem_of_getElem? (i := 796) (by decide +kernel)⟩
theorem lw_p22 : lw_okq (⟨"CurtainHouseModel", "isCurtain", "(I)Z"⟩, 20) := ⟨⟨by decide +kernel, by decide +kernel⟩, List.mem_of_getElem? (i := 678) (by decide +kernel), List.mem_of_getElem? (i := 806) (by decide +kernel), List.mem_of_getElem? (i := 807) (by decide +kernel)⟩
theorem lw_p23 : lw_okq (⟨"CurtainHouseModel", "told", "(II)I"⟩, 20) := ⟨⟨by decide +kernel, by decide +kernel⟩, List.mem_of_getElem? (i := 678) (by decide +kernel), List.mem_of_getElem? (i := 810) (by decide +kernel), List.mem_of_getElem? (i := 811) (by decide +kernel)⟩
theorem lw_p24 : lw_okq (⟨"CurtainHouseModel", "gladdens", "(I)I"⟩, 20) := ⟨⟨by decide +kernel, by decide +kernel⟩, List.mem_of_getElem? (i := 678) (by decide +kernel), List.mem_of_getElem? (i := 814) (by decide +kernel), List.mem_of_getElem? (i := 815) (by decide +kernel)⟩
theorem lw_p25 : lw_okq (⟨"CurtainHouseModel", "curtainIs", "(II)I"⟩, 20) := ⟨⟨by decide +kernel, by decide +kernel⟩, List.mem_of_getElem? (i := 678) (by decide +kernel), List.mem_of_getElem? (i := 818) (by decide +kernel), List.mem_of_getElem? (i := 819) (by decide +kernel)⟩
theorem lw_p26 : lw_okq (⟨"CurtainHouseModel", "placeNow", "()I"⟩, 20) := ⟨⟨by decide +kernel, by decide +kernel⟩, List.mem_of_getElem? (i := 678) (by decide +kernel), List.mem_of_getElem? (i := 825) (by decide +kernel), List.mem_of_getElem? (i := 826) (by decide +kernel)⟩
theorem lw_p27 : lw_okq (⟨"CurtainHouseModel", "tires", "(II)I"⟩, 20) := ⟨⟨by decide +kernel, by decide +kernel⟩, List.mem_of_getElem? (i := 678) (by decide +kernel), List.mem_of_getElem? (i := 829) (by decide +kernel), List.mem_of_getElem? (i := 830) (by decide +kernel)⟩
theorem lw_p28 : lw_okq (⟨"CurtainHouseModel", "bears", "(I)I"⟩, 20) := ⟨⟨by decide +kernel, by decide +kernel⟩, List.mem_of_getElem? (i := 678) (by decide +kernel), List.mem_of_getElem? (i := 833) (by decide +kernel), List.mem_of_getElem? (i := 834) (by decide +kernel)⟩
theorem lw_p29 : lw_okq (⟨"CurtainHouseModel", "falls", "(I)I"⟩, 20) := ⟨⟨by decide +kernel, by decide +kernel⟩, List.mem_of_getElem? (i := 678) (by decide +kernel), List.mem_of_getElem? (i := 837) (by decide +kernel), List.mem_of_getElem? (i := 838) (by decide +kernel)⟩
theorem lw_p30 : lw_okq (⟨"CurtainHouseModel", "rises", "(I)I"⟩, 20) := ⟨⟨by decide +kernel, by decide +kernel⟩, List.mem_of_getElem? (i := 678) (by decide +kernel), List.mem_of_getElem? (i := 841) (by decide +kernel), List.mem_of_getElem? (i := 842) (by decide +kernel)⟩
theorem lw_p31 : lw_okq (⟨"CurtainHouseModel", "isTied", "(I)Z"⟩, 20) := ⟨⟨by decide +kernel, by decide +kernel⟩, List.mem_of_getElem? (i := 678) (by decide +kernel), List.mem_of_getElem? (i := 856) (by decide +kernel), List.mem_of_getElem? (i := 857) (by decide +kernel)⟩
def lw_privs_2 : List (MethodName × Nat) := [(⟨"CurtainHouse$Tape", "takeNumber", "(I)I"⟩, 6), (⟨"CurtainHouse$Tape", "readCurtain", "(LCurtainHouse$House;I)Z"⟩, 6), (⟨"CurtainHouse$Tape", "readPart", "(LCurtainHouse$Curtain;Ljava/lang/String;I)Z"⟩, 6), (⟨"CurtainHouseModel", "become", "(II)I"⟩, 20), (⟨"CurtainHouseModel", "finding", "(I)I"⟩, 20), (⟨"CurtainHouseModel", "comes", "(II)I"⟩, 20), (⟨"CurtainHouseModel", "isCurtain", "(I)Z"⟩, 20), (⟨"CurtainHouseModel", "told", "(II)I"⟩, 20), (⟨"CurtainHouseModel", "gladdens", "(I)I"⟩, 20), (⟨"CurtainHouseModel", "curtainIs", "(II)I"⟩, 20), (⟨"CurtainHouseModel", "placeNow", "()I"⟩, 20), (⟨"CurtainHouseModel", "tires", "(II)I"⟩, 20), (⟨"CurtainHouseModel", "bears", "(I)I"⟩, 20), (⟨"CurtainHouseModel", "falls", "(I)I"⟩, 20), (⟨"CurtainHouseModel", "rises", "(I)I"⟩, 20), (⟨"CurtainHouseModel", "isTied", "(I)Z"⟩, 20)]
theorem lw_r2 : ∀ q ∈ lw_privs_2, lw_okq q := List.forall_mem_cons.mpr ⟨lw_p16, List.forall_mem_cons.mpr ⟨lw_p17, List.forall_mem_cons.mpr ⟨lw_p18, List.forall_mem_cons.mpr ⟨lw_p19, List.forall_mem_cons.mpr ⟨lw_p20, List.forall_mem_cons.mpr ⟨lw_p21, List.forall_mem_cons.mpr ⟨lw_p22, List.forall_mem_cons.mpr ⟨lw_p23, List.forall_mem_cons.mpr ⟨lw_p24, List.forall_mem_cons.mpr ⟨lw_p25, List.forall_mem_cons.mpr ⟨lw_p26, List.forall_mem_cons.mpr ⟨lw_p27, List.forall_mem_cons.mpr ⟨lw_p28, List.forall_mem_cons.mpr ⟨lw_p29, List.forall_mem_cons.mpr ⟨lw_p30, List.forall_mem_cons.mpr ⟨lw_p31, fun _ h => absurd h List.not_mem_nil⟩⟩⟩⟩⟩⟩⟩⟩⟩⟩⟩⟩⟩⟩⟩⟩
theorem lw_p32 : lw_okq (⟨"CurtainHouseModel", "pulled", "(II)I"⟩, 20) := ⟨⟨by decide +kernel, by decide +kernel⟩, List.mem_of_getElem? (i := 678) (by decide +kernel), List.mem_of_getElem? (i := 861) (by decide +kernel), List.mem_of_getElem? (i := 862) (by decide +kernel)⟩
theorem lw_p33 : lw_okq (⟨"CurtainHouseModel", "more", "(III)V"⟩, 20) := ⟨⟨by decide +kernel, by decide +kernel⟩, List.mem_of_getElem? (i := 678) (by decide +kernel), List.mem_of_getElem? (i := 865) (by decide +kernel), List.mem_of_getElem? (i := 866) (by decide +kernel)⟩
theorem lw_p34 : lw_okq (⟨"CurtainHouseModel", "less", "(II)V"⟩, 20) := ⟨⟨by decide +kernel, by decide +kernel⟩, List.mem_of_getElem? (i := 678) (by decide +kernel), List.mem_of_getElem? (i := 870) (by decide +kernel), List.mem_of_getElem? (i := 871) (by decide +kernel)⟩
theorem lw_p35 : lw_okq (⟨"CurtainHouseModel", "beatsGo", "(I)V"⟩, 20) := ⟨⟨by decide +kernel, by decide +kernel⟩, List.mem_of_getElem? (i := 678) (by decide +kernel), List.mem_of_getElem? (i := 880) (by decide +kernel), List.mem_of_getElem? (i := 881) (by decide +kernel)⟩
theorem lw_p36 : lw_okq (⟨"CurtainHouseModel", "beat", "()V"⟩, 20) := ⟨⟨by decide +kernel, by decide +kernel⟩, List.mem_of_getElem? (i := 678) (by decide +kernel), List.mem_of_getElem? (i := 884) (by decide +kernel), List.mem_of_getElem? (i := 885) (by decide +kernel)⟩
theorem lw_p37 : lw_okq (⟨"CurtainHouseModel", "plays", "(II)V"⟩, 20) := ⟨⟨by decide +kernel, by decide +kernel⟩, List.mem_of_getElem? (i := 678) (by decide +kernel), List.mem_of_getElem? (i := 888) (by decide +kernel), List.mem_of_getElem? (i := 889) (by decide +kernel)⟩
theorem lw_p38 : lw_okq (⟨"CurtainHouseModel", "comesDown", "(I)V"⟩, 20) := ⟨⟨by decide +kernel, by decide +kernel⟩, List.mem_of_getElem? (i := 678) (by decide +kernel), List.mem_of_getElem? (i := 892) (by decide +kernel), List.mem_of_getElem? (i := 893) (by decide +kernel)⟩
theorem lw_p39 : lw_okq (⟨"CurtainHouseModel", "downOnes", "()I"⟩, 20) := ⟨⟨by decide +kernel, by decide +kernel⟩, List.mem_of_getElem? (i := 678) (by decide +kernel), List.mem_of_getElem? (i := 900) (by decide +kernel), List.mem_of_getElem? (i := 901) (by decide +kernel)⟩
theorem lw_p40 : lw_okq (⟨"CurtainHouseModel", "wearyOnes", "()I"⟩, 20) := ⟨⟨by decide +kernel, by decide +kernel⟩, List.mem_of_getElem? (i := 678) (by decide +kernel), List.mem_of_getElem? (i := 904) (by decide +kernel), List.mem_of_getElem? (i := 905) (by decide +kernel)⟩
theorem lw_p41 : lw_okq (⟨"CurtainHouseModel", "moods", "()I"⟩, 20) := ⟨⟨by decide +kernel, by decide +kernel⟩, List.mem_of_getElem? (i := 678) (by decide +kernel), List.mem_of_getElem? (i := 908) (by decide +kernel), List.mem_of_getElem? (i := 909) (by decide +kernel)⟩
theorem lw_p42 : lw_okq (⟨"CurtainHouseModel", "liked", "()I"⟩, 20) := ⟨⟨by decide +kernel, by decide +kernel⟩, List.mem_of_getElem? (i := 678) (by decide +kernel), List.mem_of_getElem? (i := 912) (by decide +kernel), List.mem_of_getElem? (i := 913) (by decide +kernel)⟩
theorem lw_p43 : lw_okq (⟨"CurtainHouseModel", "putBack", "(I)I"⟩, 20) := ⟨⟨by decide +kernel, by decide +kernel⟩, List.mem_of_getElem? (i := 678) (by decide +kernel), List.mem_of_getElem? (i := 923) (by decide +kernel), List.mem_of_getElem? (i := 924) (by decide +kernel)⟩
theorem lw_p44 : lw_okq (⟨"CurtainHouseModel", "behind", "(II)I"⟩, 20) := ⟨⟨by decide +kernel, by decide +kernel⟩, List.mem_of_getElem? (i := 678) (by decide +kernel), List.mem_of_getElem? (i := 931) (by decide +kernel), List.mem_of_getElem? (i := 932) (by decide +kernel)⟩
theorem lw_p45 : lw_okq (⟨"CurtainHouseModel", "beatsTo", "(III)I"⟩, 20) := ⟨⟨by decide +kernel, by decide +kernel⟩, List.mem_of_getElem? (i := 678) (by decide +kernel), List.mem_of_getElem? (i := 939) (by decide +kernel), List.mem_of_getElem? (i := 940) (by decide +kernel)⟩
theorem lw_p46 : lw_okq (⟨"CurtainHouseModel", "orNone", "(I)I"⟩, 20) := ⟨⟨by decide +kernel, by decide +kernel⟩, List.mem_of_getElem? (i := 678) (by decide +kernel), List.mem_of_getElem? (i := 943) (by decide +kernel), List.mem_of_getElem? (i := 944) (by decide +kernel)⟩
theorem lw_p47 : lw_okq (⟨"CurtainHouseModel", "staysUp", "(III)Z"⟩, 20) := ⟨⟨by decide +kernel, by decide +kernel⟩, List.mem_of_getElem? (i := 678) (by decide +kernel), List.mem_of_getElem? (i := 980) (by decide +kernel), List.mem_of_getElem? (i := 981) (by decide +kernel)⟩
def lw_privs_3 : List (MethodName × Nat) := [(⟨"CurtainHouseModel", "pulled", "(II)I"⟩, 20), (⟨"CurtainHouseModel", "more", "(III)V"⟩, 20), (⟨"CurtainHouseModel", "less", "(II)V"⟩, 20), (⟨"CurtainHouseModel", "beatsGo", "(I)V"⟩, 20), (⟨"CurtainHouseModel", "beat", "()V"⟩, 20), (⟨"CurtainHouseModel", "plays", "(II)V"⟩, 20), (⟨"CurtainHouseModel", "comesDown", "(I)V"⟩, 20), (⟨"CurtainHouseModel", "downOnes", "()I"⟩, 20), (⟨"CurtainHouseModel", "wearyOnes", "()I"⟩, 20), (⟨"CurtainHouseModel", "moods", "()I"⟩, 20), (⟨"CurtainHouseModel", "liked", "()I"⟩, 20), (⟨"CurtainHouseModel", "putBack", "(I)I"⟩, 20), (⟨"CurtainHouseModel", "behind", "(II)I"⟩, 20), (⟨"CurtainHouseModel", "beatsTo", "(III)I"⟩, 20), (⟨"CurtainHouseModel", "orNone", "(I)I"⟩, 20), (⟨"CurtainHouseModel", "staysUp", "(III)Z"⟩, 20)]
theorem lw_r3 : ∀ q ∈ lw_privs_3, lw_okq q := List.forall_mem_cons.mpr ⟨lw_p32, List.forall_mem_cons.mpr ⟨lw_p33, List.forall_mem_cons.mpr ⟨lw_p34, List.forall_mem_cons.mpr ⟨lw_p35, List.forall_mem_cons.mpr ⟨lw_p36, List.forall_mem_cons.mpr ⟨lw_p37, List.forall_mem_cons.mpr ⟨lw_p38, List.forall_mem_cons.mpr ⟨lw_p39, List.forall_mem_cons.mpr ⟨lw_p40, List.forall_mem_cons.mpr ⟨lw_p41, List.forall_mem_cons.mpr ⟨lw_p42, List.forall_mem_cons.mpr ⟨lw_p43, List.forall_mem_cons.mpr ⟨lw_p44, List.forall_mem_cons.mpr ⟨lw_p45, List.forall_mem_cons.mpr ⟨lw_p46, List.forall_mem_cons.mpr ⟨lw_p47, fun _ h => absurd h List.not_mem_nil⟩⟩⟩⟩⟩⟩⟩⟩⟩⟩⟩⟩⟩⟩⟩⟩
theorem lw_p48 : lw_okq (⟨"CurtainHouseModel", "nothingIsCut", "(II)Z"⟩, 20) := ⟨⟨by decide +kernel, by decide +kernel⟩, List.mem_of_getElem? (i := 678) (by decide +kernel), List.mem_of_getElem? (i := 988) (by decide +kernel), List.mem_of_getElem? (i := 989) (by decide +kernel)⟩
theorem lw_p49 : lw_okq (⟨"CurtainHouseModel", "pleases", "(I)Z"⟩, 20) := ⟨⟨by decide +kernel, by decide +kernel⟩, List.mem_of_getElem? (i := 678) (by decide +kernel), List.mem_of_getElem? (i := 996) (by decide +kernel), List.mem_of_getElem? (i := 997) (by decide +kernel)⟩
theorem lw_p50 : lw_okq (⟨"CurtainHouseModel", "lacks", "(IZ)I"⟩, 20) := ⟨⟨by decide +kernel, by decide +kernel⟩, List.mem_of_getElem? (i := 678) (by decide +kernel), List.mem_of_getElem? (i := 1004) (by decide +kernel), List.mem_of_getElem? (i := 1005) (by decide +kernel)⟩
theorem lw_p51 : lw_okq (⟨"CurtainHouseModel", "fitting", "(IIII)I"⟩, 20) := ⟨⟨by decide +kernel, by decide +kernel⟩, List.mem_of_getElem? (i := 678) (by decide +kernel), List.mem_of_getElem? (i := 1012) (by decide +kernel), List.mem_of_getElem? (i := 1013) (by decide +kernel)⟩
theorem lw_p52 : lw_okq (⟨"CurtainHouseModel", "isSo", "(II)Z"⟩, 20) := ⟨⟨by decide +kernel, by decide +kernel⟩, List.mem_of_getElem? (i := 678) (by decide +kernel), List.mem_of_getElem? (i := 1016) (by decide +kernel), List.mem_of_getElem? (i := 1017) (by decide +kernel)⟩
theorem lw_p53 : lw_okq (⟨"CurtainHouseModel", "drawn", "()I"⟩, 20) := ⟨⟨by decide +kernel, by decide +kernel⟩, List.mem_of_getElem? (i := 678) (by decide +kernel), List.mem_of_getElem? (i := 1028) (by decide +kernel), List.mem_of_getElem? (i := 1029) (by decide +kernel)⟩
theorem lw_p54 : lw_okq (⟨"CurtainHouseModel", "token", "()V"⟩, 20) := ⟨⟨by decide +kernel, by decide +kernel⟩, List.mem_of_getElem? (i := 678) (by decide +kernel), List.mem_of_getElem? (i := 1053) (by decide +kernel), List.mem_of_getElem? (i := 1054) (by decide +kernel)⟩
theorem lw_p55 : lw_okq (⟨"CurtainHouseModel", "byteAt", "(I)I"⟩, 20) := ⟨⟨by decide +kernel, by decide +kernel⟩, List.mem_of_getElem? (i := 678) (by decide +kernel), List.mem_of_getElem? (i := 1057) (by decide +kernel), List.mem_of_getElem? (i := 1058) (by decide +kernel)⟩
theorem lw_p56 : lw_okq (⟨"CurtainHouseModel", "readItem", "()V"⟩, 20) := ⟨⟨by decide +kernel, by decide +kernel⟩, List.mem_of_getElem? (i := 678) (by decide +kernel), List.mem_of_getElem? (i := 1061) (by decide +kernel), List.mem_of_getElem? (i := 1062) (by decide +kernel)⟩
theorem lw_p57 : lw_okq (⟨"CurtainHouseModel", "isWord", "(Ljava/lang/String;)Z"⟩, 20) := ⟨⟨by decide +kernel, by decide +kernel⟩, List.mem_of_getElem? (i := 678) (by decide +kernel), List.mem_of_getElem? (i := 1065) (by decide +kernel), List.mem_of_getElem? (i := 1066) (by decide +kernel)⟩
theorem lw_p58 : lw_okq (⟨"CurtainHouseModel", "readCurtain", "(I)V"⟩, 20) := ⟨⟨by decide +kernel, by decide +kernel⟩, List.mem_of_getElem? (i := 678) (by decide +kernel), List.mem_of_getElem? (i := 1071) (by decide +kernel), List.mem_of_getElem? (i := 1072) (by decide +kernel)⟩
theorem lw_p59 : lw_okq (⟨"CurtainHouseModel", "must", "(Z)V"⟩, 20) := ⟨⟨by decide +kernel, by decide +kernel⟩, List.mem_of_getElem? (i := 678) (by decide +kernel), List.mem_of_getElem? (i := 1075) (by decide +kernel), List.mem_of_getElem? (i := 1076) (by decide +kernel)⟩
theorem lw_p60 : lw_okq (⟨"CurtainHouseModel", "takesWord", "(Ljava/lang/String;)Z"⟩, 20) := ⟨⟨by decide +kernel, by decide +kernel⟩, List.mem_of_getElem? (i := 678) (by decide +kernel), List.mem_of_getElem? (i := 1080) (by decide +kernel), List.mem_of_getElem? (i := 1081) (by decide +kernel)⟩
theorem lw_p61 : lw_okq (⟨"CurtainHouseModel", "number", "(II)I"⟩, 20) := ⟨⟨by decide +kernel, by decide +kernel⟩, List.mem_of_getElem? (i := 678) (by decide +kernel), List.mem_of_getElem? (i := 1084) (by decide +kernel), List.mem_of_getElem? (i := 1085) (by decide +kernel)⟩
theorem lw_p62 : lw_okq (⟨"CurtainHouseModel", "addItem", "(IIIII)V"⟩, 20) := ⟨⟨by decide +kernel, by decide +kernel⟩, List.mem_of_getElem? (i := 678) (by decide +kernel), List.mem_of_getElem? (i := 1091) (by decide +kernel), List.mem_of_getElem? (i := 1092) (by decide +kernel)⟩
theorem lw_p63 : lw_okq (⟨"CurtainHouseModel", "isToldSo", "(I)V"⟩, 20) := ⟨⟨by decide +kernel, by decide +kernel⟩, List.mem_of_getElem? (i := 678) (by decide +kernel), List.mem_of_getElem? (i := 1098) (by decide +kernel), List.mem_of_getElem? (i := 1099) (by decide +kernel)⟩
def lw_privs_4 : List (MethodName × Nat) := [(⟨"CurtainHouseModel", "nothingIsCut", "(II)Z"⟩, 20), (⟨"CurtainHouseModel", "pleases", "(I)Z"⟩, 20), (⟨"CurtainHouseModel", "lacks", "(IZ)I"⟩, 20), (⟨"CurtainHouseModel", "fitting", "(IIII)I"⟩, 20), (⟨"CurtainHouseModel", "isSo", "(II)Z"⟩, 20), (⟨"CurtainHouseModel", "drawn", "()I"⟩, 20), (⟨"CurtainHouseModel", "token", "()V"⟩, 20), (⟨"CurtainHouseModel", "byteAt", "(I)I"⟩, 20), (⟨"CurtainHouseModel", "readItem", "()V"⟩, 20), (⟨"CurtainHouseModel", "isWord", "(Ljava/lang/String;)Z"⟩, 20), (⟨"CurtainHouseModel", "readCurtain", "(I)V"⟩, 20), (⟨"CurtainHouseModel", "must", "(Z)V"⟩, 20), (⟨"CurtainHouseModel", "takesWord", "(Ljava/lang/String;)Z"⟩, 20), (⟨"CurtainHouseModel", "number", "(II)I"⟩, 20), (⟨"CurtainHouseModel", "addItem", "(IIIII)V"⟩, 20), (⟨"CurtainHouseModel", "isToldSo", "(I)V"⟩, 20)]
theorem lw_r4 : ∀ q ∈ lw_privs_4, lw_okq q := List.forall_mem_cons.mpr ⟨lw_p48, List.forall_mem_cons.mpr ⟨lw_p49, List.forall_mem_cons.mpr ⟨lw_p50, List.forall_mem_cons.mpr ⟨lw_p51, List.forall_mem_cons.mpr ⟨lw_p52, List.forall_mem_cons.mpr ⟨lw_p53, List.forall_mem_cons.mpr ⟨lw_p54, List.forall_mem_cons.mpr ⟨lw_p55, List.forall_mem_cons.mpr ⟨lw_p56, List.forall_mem_cons.mpr ⟨lw_p57, List.forall_mem_cons.mpr ⟨lw_p58, List.forall_mem_cons.mpr ⟨lw_p59, List.forall_mem_cons.mpr ⟨lw_p60, List.forall_mem_cons.mpr ⟨lw_p61, List.forall_mem_cons.mpr ⟨lw_p62, List.forall_mem_cons.mpr ⟨lw_p63, fun _ h => absurd h List.not_mem_nil⟩⟩⟩⟩⟩⟩⟩⟩⟩⟩⟩⟩⟩⟩⟩⟩
def lw_privs : List (MethodName × Nat) := lw_privs_1 ++ (lw_privs_2 ++ (lw_privs_3 ++ (lw_privs_4)))
def lw_tbl : List Cond := k2_sels lw_privs ++ tables_1
theorem lw_privs_ok : ∀ q ∈ lw_privs, lw_okq q := by
  show ∀ q ∈ lw_privs_1 ++ (lw_privs_2 ++ (lw_privs_3 ++ (lw_privs_4))), lw_okq q
  exact List.forall_mem_append.mpr ⟨lw_r1, List.forall_mem_append.mpr ⟨lw_r2, List.forall_mem_append.mpr ⟨lw_r3, lw_r4⟩⟩⟩
end
section
def RX0 : String := "CurtainHouse$Curtain"
def TX0 : u_T := fun k => match k with
  | 0 => ("CurtainHouse$Curtain", "kind", "I", false)
  | 1 => ("CurtainHouse$Curtain", "mood", "I", false)
  | 2 => ("CurtainHouse$Curtain", "likes", "I", false)
  | 3 => ("CurtainHouse$Curtain", "high", "I", false)
  | 4 => ("CurtainHouse$Curtain", "tied", "I", false)
  | _ => ("CurtainHouse$Curtain", "downs", "I", false)
def tyX0 : Nat → FieldType := fun k => match k with
  | 0 => .int
  | 1 => .int
  | 2 => .int
  | 3 => .int
  | 4 => .int
  | _ => .int
theorem nmX0 : ∀ a, a < 6 → ∀ b, b < 6 → a ≠ b → (TX0 a).2.1 ≠ (TX0 b).2.1 := by decide +kernel
theorem tyX0_ok : ∀ k, k < 6 → parseFieldDescriptor (TX0 k).2.2.1 = some (tyX0 k) := by decide +kernel
abbrev cX0_init : ByteArray := prog_2_method_1_code
def yX0_init : MethodName := ⟨RX0, "<init>", "()V"⟩
abbrev cX0_beNew : ByteArray := prog_2_method_2_code
def yX0_beNew : MethodName := ⟨RX0, "beNew", "(I)V"⟩
abbrev cX0_take : ByteArray := prog_2_method_3_code
def yX0_take : MethodName := ⟨RX0, "take", "(LCurtainHouse$Curtain;)V"⟩
abbrev cX0_tell : ByteArray := prog_2_method_4_code
def yX0_tell : MethodName := ⟨RX0, "tell", "(III)I"⟩
abbrev cX0_set : ByteArray := prog_2_method_5_code
def yX0_set : MethodName := ⟨RX0, "set", "(II)V"⟩
abbrev cX0_countsAs : ByteArray := prog_2_method_6_code
def yX0_countsAs : MethodName := ⟨RX0, "countsAs", "(I)Z"⟩
abbrev cX0_gladdens : ByteArray := prog_2_method_7_code
def yX0_gladdens : MethodName := ⟨RX0, "gladdens", "()I"⟩
abbrev cX0_tires : ByteArray := prog_2_method_8_code
def yX0_tires : MethodName := ⟨RX0, "tires", "(I)I"⟩
abbrev cX0_bears : ByteArray := prog_2_method_9_code
def yX0_bears : MethodName := ⟨RX0, "bears", "()I"⟩
abbrev cX0_falls : ByteArray := prog_2_method_10_code
def yX0_falls : MethodName := ⟨RX0, "falls", "(I)I"⟩
abbrev cX0_rises : ByteArray := prog_2_method_11_code
def yX0_rises : MethodName := ⟨RX0, "rises", "()I"⟩
abbrev cX0_getPulled : ByteArray := prog_2_method_12_code
def yX0_getPulled : MethodName := ⟨RX0, "getPulled", "(I)V"⟩
abbrev cX0_passBeat : ByteArray := prog_2_method_13_code
def yX0_passBeat : MethodName := ⟨RX0, "passBeat", "(II)Z"⟩
abbrev cX0_feel : ByteArray := prog_2_method_14_code
def yX0_feel : MethodName := ⟨RX0, "feel", "(I)V"⟩
abbrev cX0_comeDown : ByteArray := prog_2_method_15_code
def yX0_comeDown : MethodName := ⟨RX0, "comeDown", "(I)V"⟩
def RX1 : String := "CurtainHouse$House"
def TX1 : u_T := fun k => match k with
  | 0 => ("CurtainHouse$House", "fire", "I", false)
  | 1 => ("CurtainHouse$House", "cut", "I", false)
  | 2 => ("CurtainHouse$House", "saved", "I", false)
  | 3 => ("CurtainHouse$House", "beat", "I", false)
  | 4 => ("CurtainHouse$House", "z", "I", false)
  | 5 => ("CurtainHouse$House", "hung", "I", false)
  | 6 => ("CurtainHouse$House", "list", "[I", true)
  | 7 => ("CurtainHouse$House", "spots", "[I", true)
  | _ => ("CurtainHouse$House", "curtains", "[LCurtainHouse$Curtain;", true)
def tyX1 : Nat → FieldType := fun k => match k with
  | 0 => .int
  | 1 => .int
  | 2 => .int
  | 3 => .int
  | 4 => .int
  | 5 => .int
  | 6 => .array .int
  | 7 => .array .int
  | _ => .array (.object "CurtainHouse$Curtain")
theorem nmX1 : ∀ a, a < 9 → ∀ b, b < 9 → a ≠ b → (TX1 a).2.1 ≠ (TX1 b).2.1 := by decide +kernel
theorem tyX1_ok : ∀ k, k < 9 → parseFieldDescriptor (TX1 k).2.2.1 = some (tyX1 k) := by decide +kernel
abbrev cX1_init : ByteArray := prog_3_method_1_code
def yX1_init : MethodName := ⟨RX1, "<init>", "()V"⟩
abbrev cX1_take : ByteArray := prog_3_method_2_code
def yX1_take : MethodName := ⟨RX1, "take", "(LCurtainHouse$House;)V"⟩
abbrev cX1_isFull : ByteArray := prog_3_method_3_code
def yX1_isFull : MethodName := ⟨RX1, "isFull", "()Z"⟩
abbrev cX1_hang : ByteArray := prog_3_method_4_code
def yX1_hang : MethodName := ⟨RX1, "hang", "(I)LCurtainHouse$Curtain;"⟩
abbrev cX1_placeIn : ByteArray := prog_3_method_5_code
def yX1_placeIn : MethodName := ⟨RX1, "placeIn", "(I)I"⟩
abbrev cX1_sceneIn : ByteArray := prog_3_method_6_code
def yX1_sceneIn : MethodName := ⟨RX1, "sceneIn", "(I)I"⟩
abbrev cX1_passBeats : ByteArray := prog_3_method_7_code
def yX1_passBeats : MethodName := ⟨RX1, "passBeats", "(I)V"⟩
abbrev cX1_passBeat : ByteArray := prog_3_method_8_code
def yX1_passBeat : MethodName := ⟨RX1, "passBeat", "()V"⟩
abbrev cX1_tellDown : ByteArray := prog_3_method_9_code
def yX1_tellDown : MethodName := ⟨RX1, "tellDown", "()V"⟩
abbrev cX1_draw : ByteArray := prog_3_method_10_code
def yX1_draw : MethodName := ⟨RX1, "draw", "()I"⟩
abbrev cX1_thoseDown : ByteArray := prog_3_method_11_code
def yX1_thoseDown : MethodName := ⟨RX1, "thoseDown", "()I"⟩
abbrev cX1_thoseWeary : ByteArray := prog_3_method_12_code
def yX1_thoseWeary : MethodName := ⟨RX1, "thoseWeary", "()I"⟩
abbrev cX1_allMoods : ByteArray := prog_3_method_13_code
def yX1_allMoods : MethodName := ⟨RX1, "allMoods", "()I"⟩
abbrev cX1_allLikes : ByteArray := prog_3_method_14_code
def yX1_allLikes : MethodName := ⟨RX1, "allLikes", "()I"⟩
abbrev cX1_isPleasedBy : ByteArray := prog_3_method_15_code
def yX1_isPleasedBy : MethodName := ⟨RX1, "isPleasedBy", "(I)Z"⟩
abbrev cX1_heldSpots : ByteArray := prog_3_method_16_code
def yX1_heldSpots : MethodName := ⟨RX1, "heldSpots", "()I"⟩
def RX2 : String := "CurtainHouse$Sheet"
def TX2 : u_T := fun k => match k with
  | 0 => ("CurtainHouse$Sheet", "bits", "I", false)
  | 1 => ("CurtainHouse$Sheet", "length", "I", false)
  | _ => ("CurtainHouse$Sheet", "numbers", "[I", true)
def tyX2 : Nat → FieldType := fun k => match k with
  | 0 => .int
  | 1 => .int
  | _ => .array .int
theorem nmX2 : ∀ a, a < 3 → ∀ b, b < 3 → a ≠ b → (TX2 a).2.1 ≠ (TX2 b).2.1 := by decide +kernel
theorem tyX2_ok : ∀ k, k < 3 → parseFieldDescriptor (TX2 k).2.2.1 = some (tyX2 k) := by decide +kernel
abbrev cX2_init : ByteArray := prog_4_method_1_code
def yX2_init : MethodName := ⟨RX2, "<init>", "()V"⟩
abbrev cX2_isMissing : ByteArray := prog_4_method_2_code
def yX2_isMissing : MethodName := ⟨RX2, "isMissing", "()Z"⟩
abbrev cX2_lay : ByteArray := prog_4_method_3_code
def yX2_lay : MethodName := ⟨RX2, "lay", "(II)V"⟩
abbrev cX2_put : ByteArray := prog_4_method_4_code
def yX2_put : MethodName := ⟨RX2, "put", "(II)V"⟩
abbrev cX2_has : ByteArray := prog_4_method_5_code
def yX2_has : MethodName := ⟨RX2, "has", "(II)Z"⟩
def RX3 : String := "CurtainHouse$Tape"
def TX3 : u_T := fun k => match k with
  | 0 => ("CurtainHouse$Tape", "bytes", "[B", true)
  | 1 => ("CurtainHouse$Tape", "length", "I", false)
  | 2 => ("CurtainHouse$Tape", "token", "I", false)
  | 3 => ("CurtainHouse$Tape", "begin", "I", false)
  | 4 => ("CurtainHouse$Tape", "end", "I", false)
  | _ => ("CurtainHouse$Tape", "value", "I", false)
def tyX3 : Nat → FieldType := fun k => match k with
  | 0 => .array .byte
  | 1 => .int
  | 2 => .int
  | 3 => .int
  | 4 => .int
  | _ => .int
theorem nmX3 : ∀ a, a < 6 → ∀ b, b < 6 → a ≠ b → (TX3 a).2.1 ≠ (TX3 b).2.1 := by decide +kernel
theorem tyX3_ok : ∀ k, k < 6 → parseFieldDescriptor (TX3 k).2.2.1 = some (tyX3 k) := by decide +kernel
abbrev cX3_init : ByteArray := prog_5_method_1_code
def yX3_init : MethodName := ⟨RX3, "<init>", "()V"⟩
abbrev cX3_add : ByteArray := prog_5_method_2_code
def yX3_add : MethodName := ⟨RX3, "add", "(B)V"⟩
abbrev cX3_readInto : ByteArray := prog_5_method_3_code
def yX3_readInto : MethodName := ⟨RX3, "readInto", "(LCurtainHouse$House;)I"⟩
abbrev cX3_readOther : ByteArray := prog_5_method_4_code
def yX3_readOther : MethodName := ⟨RX3, "readOther", "(LCurtainHouse$House;)Z"⟩
abbrev cX3_readCurtain : ByteArray := prog_5_method_5_code
def yX3_readCurtain : MethodName := ⟨RX3, "readCurtain", "(LCurtainHouse$House;I)Z"⟩
abbrev cX3_readPart : ByteArray := prog_5_method_6_code
def yX3_readPart : MethodName := ⟨RX3, "readPart", "(LCurtainHouse$Curtain;Ljava/lang/String;I)Z"⟩
abbrev cX3_readScene : ByteArray := prog_5_method_7_code
def yX3_readScene : MethodName := ⟨RX3, "readScene", "(LCurtainHouse$House;)Z"⟩
abbrev cX3_kindAtHand : ByteArray := prog_5_method_8_code
def yX3_kindAtHand : MethodName := ⟨RX3, "kindAtHand", "()I"⟩
abbrev cX3_isWord : ByteArray := prog_5_method_9_code
def yX3_isWord : MethodName := ⟨RX3, "isWord", "(Ljava/lang/String;)Z"⟩
abbrev cX3_takeWord : ByteArray := prog_5_method_10_code
def yX3_takeWord : MethodName := ⟨RX3, "takeWord", "(Ljava/lang/String;)Z"⟩
abbrev cX3_takeNumber : ByteArray := prog_5_method_11_code
def yX3_takeNumber : MethodName := ⟨RX3, "takeNumber", "(I)I"⟩
abbrev cX3_step : ByteArray := prog_5_method_12_code
def yX3_step : MethodName := ⟨RX3, "step", "()V"⟩
abbrev cX3_tokenBegunBy : ByteArray := prog_5_method_13_code
def yX3_tokenBegunBy : MethodName := ⟨RX3, "tokenBegunBy", "(B)I"⟩
abbrev cX3_valueAtHand : ByteArray := prog_5_method_14_code
def yX3_valueAtHand : MethodName := ⟨RX3, "valueAtHand", "()I"⟩
def RX4 : String := "CurtainHouse"
def TX4 : u_T := fun k => match k with
  | 0 => ("CurtainHouse", "house", "LCurtainHouse$House;", true)
  | 1 => ("CurtainHouse", "kept", "LCurtainHouse$House;", true)
  | 2 => ("CurtainHouse", "isKept", "Z", false)
  | 3 => ("CurtainHouse", "trial", "LCurtainHouse$House;", true)
  | 4 => ("CurtainHouse", "probe", "LCurtainHouse$Curtain;", true)
  | 5 => ("CurtainHouse", "tape", "LCurtainHouse$Tape;", true)
  | 6 => ("CurtainHouse", "sheets", "[LCurtainHouse$Sheet;", true)
  | _ => ("CurtainHouse", "found", "[I", true)
def tyX4 : Nat → FieldType := fun k => match k with
  | 0 => .object "CurtainHouse$House"
  | 1 => .object "CurtainHouse$House"
  | 2 => .boolean
  | 3 => .object "CurtainHouse$House"
  | 4 => .object "CurtainHouse$Curtain"
  | 5 => .object "CurtainHouse$Tape"
  | 6 => .array (.object "CurtainHouse$Sheet")
  | _ => .array .int
theorem nmX4 : ∀ a, a < 8 → ∀ b, b < 8 → a ≠ b → (TX4 a).2.1 ≠ (TX4 b).2.1 := by decide +kernel
theorem tyX4_ok : ∀ k, k < 8 → parseFieldDescriptor (TX4 k).2.2.1 = some (tyX4 k) := by decide +kernel
abbrev cX4_init : ByteArray := prog_1_method_1_code
def yX4_init : MethodName := ⟨RX4, "<init>", "()V"⟩
abbrev cX4_fire : ByteArray := prog_1_method_2_code
def yX4_fire : MethodName := ⟨RX4, "fire", "(I)I"⟩
abbrev cX4_scene : ByteArray := prog_1_method_3_code
def yX4_scene : MethodName := ⟨RX4, "scene", "(II)I"⟩
abbrev cX4_listed : ByteArray := prog_1_method_4_code
def yX4_listed : MethodName := ⟨RX4, "listed", "(I)I"⟩
abbrev cX4_curtain : ByteArray := prog_1_method_5_code
def yX4_curtain : MethodName := ⟨RX4, "curtain", "(II)I"⟩
abbrev cX4_of : ByteArray := prog_1_method_6_code
def yX4_of : MethodName := ⟨RX4, "of", "(II)I"⟩
abbrev cX4_change : ByteArray := prog_1_method_7_code
def yX4_change : MethodName := ⟨RX4, "change", "(III)I"⟩
abbrev cX4_pull : ByteArray := prog_1_method_8_code
def yX4_pull : MethodName := ⟨RX4, "pull", "(II)I"⟩
abbrev cX4_go : ByteArray := prog_1_method_9_code
def yX4_go : MethodName := ⟨RX4, "go", "(I)I"⟩
abbrev cX4_now : ByteArray := prog_1_method_10_code
def yX4_now : MethodName := ⟨RX4, "now", "(I)I"⟩
abbrev cX4_ahead : ByteArray := prog_1_method_11_code
def yX4_ahead : MethodName := ⟨RX4, "ahead", "(III)I"⟩
abbrev cX4_cut : ByteArray := prog_1_method_12_code
def yX4_cut : MethodName := ⟨RX4, "cut", "(I)I"⟩
abbrev cX4_down : ByteArray := prog_1_method_13_code
def yX4_down : MethodName := ⟨RX4, "down", "(I)I"⟩
abbrev cX4_up : ByteArray := prog_1_method_14_code
def yX4_up : MethodName := ⟨RX4, "up", "(I)I"⟩
abbrev cX4_weary : ByteArray := prog_1_method_15_code
def yX4_weary : MethodName := ⟨RX4, "weary", "(II)I"⟩
abbrev cX4_saved : ByteArray := prog_1_method_16_code
def yX4_saved : MethodName := ⟨RX4, "saved", "(I)I"⟩
abbrev cX4_sceneFor : ByteArray := prog_1_method_17_code
def yX4_sceneFor : MethodName := ⟨RX4, "sceneFor", "(II)I"⟩
abbrev cX4_kindFor : ByteArray := prog_1_method_18_code
def yX4_kindFor : MethodName := ⟨RX4, "kindFor", "(II)I"⟩
abbrev cX4_moodFor : ByteArray := prog_1_method_19_code
def yX4_moodFor : MethodName := ⟨RX4, "moodFor", "(II)I"⟩
abbrev cX4_handsFor : ByteArray := prog_1_method_20_code
def yX4_handsFor : MethodName := ⟨RX4, "handsFor", "(II)I"⟩
abbrev cX4_tie : ByteArray := prog_1_method_21_code
def yX4_tie : MethodName := ⟨RX4, "tie", "(I)I"⟩
abbrev cX4_please : ByteArray := prog_1_method_22_code
def yX4_please : MethodName := ⟨RX4, "please", "()I"⟩
abbrev cX4_fits : ByteArray := prog_1_method_23_code
def yX4_fits : MethodName := ⟨RX4, "fits", "(II)I"⟩
abbrev cX4_kinds : ByteArray := prog_1_method_24_code
def yX4_kinds : MethodName := ⟨RX4, "kinds", "(II)I"⟩
abbrev cX4_evening : ByteArray := prog_1_method_25_code
def yX4_evening : MethodName := ⟨RX4, "evening", "(I)I"⟩
abbrev cX4_odds : ByteArray := prog_1_method_26_code
def yX4_odds : MethodName := ⟨RX4, "odds", "(III)J"⟩
abbrev cX4_seed : ByteArray := prog_1_method_27_code
def yX4_seed : MethodName := ⟨RX4, "seed", "(I)I"⟩
abbrev cX4_feed : ByteArray := prog_1_method_28_code
def yX4_feed : MethodName := ⟨RX4, "feed", "(II)I"⟩
abbrev cX4_wipe : ByteArray := prog_1_method_29_code
def yX4_wipe : MethodName := ⟨RX4, "wipe", "()I"⟩
abbrev cX4_text : ByteArray := prog_1_method_30_code
def yX4_text : MethodName := ⟨RX4, "text", "()I"⟩
abbrev cX4_hold : ByteArray := prog_1_method_31_code
def yX4_hold : MethodName := ⟨RX4, "hold", "(II)I"⟩
abbrev cX4_as : ByteArray := prog_1_method_32_code
def yX4_as : MethodName := ⟨RX4, "as", "(II)I"⟩
abbrev cX4_sheet : ByteArray := prog_1_method_33_code
def yX4_sheet : MethodName := ⟨RX4, "sheet", "(III)I"⟩
abbrev cX4_write : ByteArray := prog_1_method_34_code
def yX4_write : MethodName := ⟨RX4, "write", "(III)I"⟩
abbrev cX4_copy : ByteArray := prog_1_method_35_code
def yX4_copy : MethodName := ⟨RX4, "copy", "(IIIII)I"⟩
abbrev cX4_load : ByteArray := prog_1_method_36_code
def yX4_load : MethodName := ⟨RX4, "load", "(I)I"⟩
abbrev cX4_judge : ByteArray := prog_1_method_37_code
def yX4_judge : MethodName := ⟨RX4, "judge", "(I)I"⟩
abbrev cX4_image : ByteArray := prog_1_method_38_code
def yX4_image : MethodName := ⟨RX4, "image", "()I"⟩
abbrev cX4_undo : ByteArray := prog_1_method_39_code
def yX4_undo : MethodName := ⟨RX4, "undo", "()I"⟩
abbrev cX4_tear : ByteArray := prog_1_method_40_code
def yX4_tear : MethodName := ⟨RX4, "tear", "()I"⟩
abbrev cX4_count : ByteArray := prog_1_method_41_code
def yX4_count : MethodName := ⟨RX4, "count", "(I)I"⟩
abbrev cX4_status : ByteArray := prog_1_method_42_code
def yX4_status : MethodName := ⟨RX4, "status", "(I)I"⟩
abbrev cX4_find : ByteArray := prog_1_method_43_code
def yX4_find : MethodName := ⟨RX4, "find", "(I)I"⟩
abbrev cX4_isWithin : ByteArray := prog_1_method_44_code
def yX4_isWithin : MethodName := ⟨RX4, "isWithin", "(III)Z"⟩
abbrev cX4_isKind : ByteArray := prog_1_method_45_code
def yX4_isKind : MethodName := ⟨RX4, "isKind", "(I)Z"⟩
abbrev cX4_isPlace : ByteArray := prog_1_method_46_code
def yX4_isPlace : MethodName := ⟨RX4, "isPlace", "(I)Z"⟩
abbrev cX4_isSpot : ByteArray := prog_1_method_47_code
def yX4_isSpot : MethodName := ⟨RX4, "isSpot", "(I)Z"⟩
abbrev cX4_isSheet : ByteArray := prog_1_method_48_code
def yX4_isSheet : MethodName := ⟨RX4, "isSheet", "(I)Z"⟩
abbrev cX4_isCurtain : ByteArray := prog_1_method_49_code
def yX4_isCurtain : MethodName := ⟨RX4, "isCurtain", "(I)Z"⟩
abbrev cX4_passProbe : ByteArray := prog_1_method_50_code
def yX4_passProbe : MethodName := ⟨RX4, "passProbe", "(I)I"⟩
abbrev cX4_beatsUntil : ByteArray := prog_1_method_51_code
def yX4_beatsUntil : MethodName := ⟨RX4, "beatsUntil", "(IIII)I"⟩
abbrev cX4_findingForTold : ByteArray := prog_1_method_52_code
def yX4_findingForTold : MethodName := ⟨RX4, "findingForTold", "(II)I"⟩
abbrev cX4_isProbeAsTold : ByteArray := prog_1_method_53_code
def yX4_isProbeAsTold : MethodName := ⟨RX4, "isProbeAsTold", "(LCurtainHouse$Sheet;)Z"⟩
abbrev cX4_commonDivisorWithScenes : ByteArray := prog_1_method_54_code
def yX4_commonDivisorWithScenes : MethodName := ⟨RX4, "commonDivisorWithScenes", "(I)I"⟩
def RX5 : String := "CurtainHouseModel"
def TX5 : u_T := fun k => match k with
  | 0 => ("CurtainHouseModel", "now", "[I", true)
  | 1 => ("CurtainHouseModel", "kept", "[I", true)
  | 2 => ("CurtainHouseModel", "aside", "[I", true)
  | 3 => ("CurtainHouseModel", "isKept", "Z", false)
  | 4 => ("CurtainHouseModel", "found", "[I", true)
  | 5 => ("CurtainHouseModel", "tape", "[I", true)
  | 6 => ("CurtainHouseModel", "taped", "I", false)
  | 7 => ("CurtainHouseModel", "begins", "I", false)
  | 8 => ("CurtainHouseModel", "ends", "I", false)
  | 9 => ("CurtainHouseModel", "sort", "I", false)
  | 10 => ("CurtainHouseModel", "value", "I", false)
  | 11 => ("CurtainHouseModel", "isWrong", "Z", false)
  | 12 => ("CurtainHouseModel", "kindNames", "[Ljava/lang/String;", true)
  | 13 => ("CurtainHouseModel", "items", "[I", true)
  | 14 => ("CurtainHouseModel", "itemMany", "I", false)
  | 15 => ("CurtainHouseModel", "curtainsThen", "I", false)
  | 16 => ("CurtainHouseModel", "widths", "[I", true)
  | 17 => ("CurtainHouseModel", "sizes", "[I", true)
  | 18 => ("CurtainHouseModel", "numbers", "[I", true)
  | _ => ("CurtainHouseModel", "moved", "[I", true)
def tyX5 : Nat → FieldType := fun k => match k with
  | 0 => .array .int
  | 1 => .array .int
  | 2 => .array .int
  | 3 => .boolean
  | 4 => .array .int
  | 5 => .array .int
  | 6 => .int
  | 7 => .int
  | 8 => .int
  | 9 => .int
  | 10 => .int
  | 11 => .boolean
  | 12 => .array (.object "java/lang/String")
  | 13 => .array .int
  | 14 => .int
  | 15 => .int
  | 16 => .array .int
  | 17 => .array .int
  | 18 => .array .int
  | _ => .array .int
theorem nmX5 : ∀ a, a < 20 → ∀ b, b < 20 → a ≠ b → (TX5 a).2.1 ≠ (TX5 b).2.1 := by decide +kernel
theorem tyX5_ok : ∀ k, k < 20 → parseFieldDescriptor (TX5 k).2.2.1 = some (tyX5 k) := by decide +kernel
abbrev cX5_init : ByteArray := prog_7_method_1_code
def yX5_init : MethodName := ⟨RX5, "<init>", "()V"⟩
abbrev cX5_finding : ByteArray := prog_7_method_2_code
def yX5_finding : MethodName := ⟨RX5, "finding", "(I)I"⟩
abbrev cX5_within : ByteArray := prog_7_method_3_code
def yX5_within : MethodName := ⟨RX5, "within", "(III)Z"⟩
abbrev cX5_become : ByteArray := prog_7_method_4_code
def yX5_become : MethodName := ⟨RX5, "become", "(II)I"⟩
abbrev cX5_copyRow : ByteArray := prog_7_method_5_code
def yX5_copyRow : MethodName := ⟨RX5, "copyRow", "([I[I)V"⟩
abbrev cX5_putBack : ByteArray := prog_7_method_6_code
def yX5_putBack : MethodName := ⟨RX5, "putBack", "(I)I"⟩
abbrev cX5_orNone : ByteArray := prog_7_method_7_code
def yX5_orNone : MethodName := ⟨RX5, "orNone", "(I)I"⟩
abbrev cX5_bits : ByteArray := prog_7_method_8_code
def yX5_bits : MethodName := ⟨RX5, "bits", "(I)I"⟩
abbrev cX5_isSet : ByteArray := prog_7_method_9_code
def yX5_isSet : MethodName := ⟨RX5, "isSet", "(I)Z"⟩
abbrev cX5_isScene : ByteArray := prog_7_method_10_code
def yX5_isScene : MethodName := ⟨RX5, "isScene", "(I)Z"⟩
abbrev cX5_fire : ByteArray := prog_7_method_11_code
def yX5_fire : MethodName := ⟨RX5, "fire", "(I)I"⟩
abbrev cX5_isPlace : ByteArray := prog_7_method_12_code
def yX5_isPlace : MethodName := ⟨RX5, "isPlace", "(I)Z"⟩
abbrev cX5_scene : ByteArray := prog_7_method_13_code
def yX5_scene : MethodName := ⟨RX5, "scene", "(II)I"⟩
abbrev cX5_listed : ByteArray := prog_7_method_14_code
def yX5_listed : MethodName := ⟨RX5, "listed", "(I)I"⟩
abbrev cX5_placeNow : ByteArray := prog_7_method_15_code
def yX5_placeNow : MethodName := ⟨RX5, "placeNow", "()I"⟩
abbrev cX5_curtainAt : ByteArray := prog_7_method_16_code
def yX5_curtainAt : MethodName := ⟨RX5, "curtainAt", "(II)I"⟩
abbrev cX5_curtainIs : ByteArray := prog_7_method_17_code
def yX5_curtainIs : MethodName := ⟨RX5, "curtainIs", "(II)I"⟩
abbrev cX5_isCurtain : ByteArray := prog_7_method_18_code
def yX5_isCurtain : MethodName := ⟨RX5, "isCurtain", "(I)Z"⟩
abbrev cX5_isKind : ByteArray := prog_7_method_19_code
def yX5_isKind : MethodName := ⟨RX5, "isKind", "(I)Z"⟩
abbrev cX5_comes : ByteArray := prog_7_method_20_code
def yX5_comes : MethodName := ⟨RX5, "comes", "(II)I"⟩
abbrev cX5_curtain : ByteArray := prog_7_method_21_code
def yX5_curtain : MethodName := ⟨RX5, "curtain", "(II)I"⟩
abbrev cX5_gladdens : ByteArray := prog_7_method_22_code
def yX5_gladdens : MethodName := ⟨RX5, "gladdens", "(I)I"⟩
abbrev cX5_tires : ByteArray := prog_7_method_23_code
def yX5_tires : MethodName := ⟨RX5, "tires", "(II)I"⟩
abbrev cX5_bears : ByteArray := prog_7_method_24_code
def yX5_bears : MethodName := ⟨RX5, "bears", "(I)I"⟩
abbrev cX5_falls : ByteArray := prog_7_method_25_code
def yX5_falls : MethodName := ⟨RX5, "falls", "(I)I"⟩
abbrev cX5_rises : ByteArray := prog_7_method_26_code
def yX5_rises : MethodName := ⟨RX5, "rises", "(I)I"⟩
abbrev cX5_told : ByteArray := prog_7_method_27_code
def yX5_told : MethodName := ⟨RX5, "told", "(II)I"⟩
abbrev cX5_of : ByteArray := prog_7_method_28_code
def yX5_of : MethodName := ⟨RX5, "of", "(II)I"⟩
abbrev cX5_isField : ByteArray := prog_7_method_29_code
def yX5_isField : MethodName := ⟨RX5, "isField", "(II)Z"⟩
abbrev cX5_change : ByteArray := prog_7_method_30_code
def yX5_change : MethodName := ⟨RX5, "change", "(III)I"⟩
abbrev cX5_more : ByteArray := prog_7_method_31_code
def yX5_more : MethodName := ⟨RX5, "more", "(III)V"⟩
abbrev cX5_less : ByteArray := prog_7_method_32_code
def yX5_less : MethodName := ⟨RX5, "less", "(II)V"⟩
abbrev cX5_pulled : ByteArray := prog_7_method_33_code
def yX5_pulled : MethodName := ⟨RX5, "pulled", "(II)I"⟩
abbrev cX5_isTied : ByteArray := prog_7_method_34_code
def yX5_isTied : MethodName := ⟨RX5, "isTied", "(I)Z"⟩
abbrev cX5_pull : ByteArray := prog_7_method_35_code
def yX5_pull : MethodName := ⟨RX5, "pull", "(II)I"⟩
abbrev cX5_comesDown : ByteArray := prog_7_method_36_code
def yX5_comesDown : MethodName := ⟨RX5, "comesDown", "(I)V"⟩
abbrev cX5_plays : ByteArray := prog_7_method_37_code
def yX5_plays : MethodName := ⟨RX5, "plays", "(II)V"⟩
abbrev cX5_beat : ByteArray := prog_7_method_38_code
def yX5_beat : MethodName := ⟨RX5, "beat", "()V"⟩
abbrev cX5_beatsGo : ByteArray := prog_7_method_39_code
def yX5_beatsGo : MethodName := ⟨RX5, "beatsGo", "(I)V"⟩
abbrev cX5_go : ByteArray := prog_7_method_40_code
def yX5_go : MethodName := ⟨RX5, "go", "(I)I"⟩
abbrev cX5_downOnes : ByteArray := prog_7_method_41_code
def yX5_downOnes : MethodName := ⟨RX5, "downOnes", "()I"⟩
abbrev cX5_wearyOnes : ByteArray := prog_7_method_42_code
def yX5_wearyOnes : MethodName := ⟨RX5, "wearyOnes", "()I"⟩
abbrev cX5_moods : ByteArray := prog_7_method_43_code
def yX5_moods : MethodName := ⟨RX5, "moods", "()I"⟩
abbrev cX5_liked : ByteArray := prog_7_method_44_code
def yX5_liked : MethodName := ⟨RX5, "liked", "()I"⟩
abbrev cX5_now : ByteArray := prog_7_method_45_code
def yX5_now : MethodName := ⟨RX5, "now", "(I)I"⟩
abbrev cX5_behind : ByteArray := prog_7_method_46_code
def yX5_behind : MethodName := ⟨RX5, "behind", "(II)I"⟩
abbrev cX5_ahead : ByteArray := prog_7_method_47_code
def yX5_ahead : MethodName := ⟨RX5, "ahead", "(III)I"⟩
abbrev cX5_cut : ByteArray := prog_7_method_48_code
def yX5_cut : MethodName := ⟨RX5, "cut", "(I)I"⟩
abbrev cX5_beatsTo : ByteArray := prog_7_method_49_code
def yX5_beatsTo : MethodName := ⟨RX5, "beatsTo", "(III)I"⟩
abbrev cX5_down : ByteArray := prog_7_method_50_code
def yX5_down : MethodName := ⟨RX5, "down", "(I)I"⟩
abbrev cX5_up : ByteArray := prog_7_method_51_code
def yX5_up : MethodName := ⟨RX5, "up", "(I)I"⟩
abbrev cX5_weary : ByteArray := prog_7_method_52_code
def yX5_weary : MethodName := ⟨RX5, "weary", "(II)I"⟩
abbrev cX5_saved : ByteArray := prog_7_method_53_code
def yX5_saved : MethodName := ⟨RX5, "saved", "(I)I"⟩
abbrev cX5_isThought : ByteArray := prog_7_method_54_code
def yX5_isThought : MethodName := ⟨RX5, "isThought", "(I)Z"⟩
abbrev cX5_sceneFor : ByteArray := prog_7_method_55_code
def yX5_sceneFor : MethodName := ⟨RX5, "sceneFor", "(II)I"⟩
abbrev cX5_kindFor : ByteArray := prog_7_method_56_code
def yX5_kindFor : MethodName := ⟨RX5, "kindFor", "(II)I"⟩
abbrev cX5_moodFor : ByteArray := prog_7_method_57_code
def yX5_moodFor : MethodName := ⟨RX5, "moodFor", "(II)I"⟩
abbrev cX5_staysUp : ByteArray := prog_7_method_58_code
def yX5_staysUp : MethodName := ⟨RX5, "staysUp", "(III)Z"⟩
abbrev cX5_handsFor : ByteArray := prog_7_method_59_code
def yX5_handsFor : MethodName := ⟨RX5, "handsFor", "(II)I"⟩
abbrev cX5_nothingIsCut : ByteArray := prog_7_method_60_code
def yX5_nothingIsCut : MethodName := ⟨RX5, "nothingIsCut", "(II)Z"⟩
abbrev cX5_tie : ByteArray := prog_7_method_61_code
def yX5_tie : MethodName := ⟨RX5, "tie", "(I)I"⟩
abbrev cX5_pleases : ByteArray := prog_7_method_62_code
def yX5_pleases : MethodName := ⟨RX5, "pleases", "(I)Z"⟩
abbrev cX5_please : ByteArray := prog_7_method_63_code
def yX5_please : MethodName := ⟨RX5, "please", "()I"⟩
abbrev cX5_lacks : ByteArray := prog_7_method_64_code
def yX5_lacks : MethodName := ⟨RX5, "lacks", "(IZ)I"⟩
abbrev cX5_isSo : ByteArray := prog_7_method_65_code
def yX5_isSo : MethodName := ⟨RX5, "isSo", "(II)Z"⟩
abbrev cX5_fitting : ByteArray := prog_7_method_66_code
def yX5_fitting : MethodName := ⟨RX5, "fitting", "(IIII)I"⟩
abbrev cX5_fits : ByteArray := prog_7_method_67_code
def yX5_fits : MethodName := ⟨RX5, "fits", "(II)I"⟩
abbrev cX5_kinds : ByteArray := prog_7_method_68_code
def yX5_kinds : MethodName := ⟨RX5, "kinds", "(II)I"⟩
abbrev cX5_drawn : ByteArray := prog_7_method_69_code
def yX5_drawn : MethodName := ⟨RX5, "drawn", "()I"⟩
abbrev cX5_evening : ByteArray := prog_7_method_70_code
def yX5_evening : MethodName := ⟨RX5, "evening", "(I)I"⟩
abbrev cX5_odds : ByteArray := prog_7_method_71_code
def yX5_odds : MethodName := ⟨RX5, "odds", "(III)J"⟩
abbrev cX5_seed : ByteArray := prog_7_method_72_code
def yX5_seed : MethodName := ⟨RX5, "seed", "(I)I"⟩
abbrev cX5_feed : ByteArray := prog_7_method_73_code
def yX5_feed : MethodName := ⟨RX5, "feed", "(II)I"⟩
abbrev cX5_wipe : ByteArray := prog_7_method_74_code
def yX5_wipe : MethodName := ⟨RX5, "wipe", "()I"⟩
abbrev cX5_byteAt : ByteArray := prog_7_method_75_code
def yX5_byteAt : MethodName := ⟨RX5, "byteAt", "(I)I"⟩
abbrev cX5_token : ByteArray := prog_7_method_76_code
def yX5_token : MethodName := ⟨RX5, "token", "()V"⟩
abbrev cX5_isWord : ByteArray := prog_7_method_77_code
def yX5_isWord : MethodName := ⟨RX5, "isWord", "(Ljava/lang/String;)Z"⟩
abbrev cX5_must : ByteArray := prog_7_method_78_code
def yX5_must : MethodName := ⟨RX5, "must", "(Z)V"⟩
abbrev cX5_number : ByteArray := prog_7_method_79_code
def yX5_number : MethodName := ⟨RX5, "number", "(II)I"⟩
abbrev cX5_addItem : ByteArray := prog_7_method_80_code
def yX5_addItem : MethodName := ⟨RX5, "addItem", "(IIIII)V"⟩
abbrev cX5_takesWord : ByteArray := prog_7_method_81_code
def yX5_takesWord : MethodName := ⟨RX5, "takesWord", "(Ljava/lang/String;)Z"⟩
abbrev cX5_readCurtain : ByteArray := prog_7_method_82_code
def yX5_readCurtain : MethodName := ⟨RX5, "readCurtain", "(I)V"⟩
abbrev cX5_readItem : ByteArray := prog_7_method_83_code
def yX5_readItem : MethodName := ⟨RX5, "readItem", "()V"⟩
abbrev cX5_isToldSo : ByteArray := prog_7_method_84_code
def yX5_isToldSo : MethodName := ⟨RX5, "isToldSo", "(I)V"⟩
abbrev cX5_text : ByteArray := prog_7_method_85_code
def yX5_text : MethodName := ⟨RX5, "text", "()I"⟩
abbrev cX5_isSpot : ByteArray := prog_7_method_86_code
def yX5_isSpot : MethodName := ⟨RX5, "isSpot", "(I)Z"⟩
abbrev cX5_hold : ByteArray := prog_7_method_87_code
def yX5_hold : MethodName := ⟨RX5, "hold", "(II)I"⟩
abbrev cX5_as : ByteArray := prog_7_method_88_code
def yX5_as : MethodName := ⟨RX5, "as", "(II)I"⟩
abbrev cX5_isSheet : ByteArray := prog_7_method_89_code
def yX5_isSheet : MethodName := ⟨RX5, "isSheet", "(I)Z"⟩
abbrev cX5_cutTo : ByteArray := prog_7_method_90_code
def yX5_cutTo : MethodName := ⟨RX5, "cutTo", "(II)I"⟩
abbrev cX5_sheet : ByteArray := prog_7_method_91_code
def yX5_sheet : MethodName := ⟨RX5, "sheet", "(III)I"⟩
abbrev cX5_write : ByteArray := prog_7_method_92_code
def yX5_write : MethodName := ⟨RX5, "write", "(III)I"⟩
abbrev cX5_copy : ByteArray := prog_7_method_93_code
def yX5_copy : MethodName := ⟨RX5, "copy", "(IIIII)I"⟩
abbrev cX5_above : ByteArray := prog_7_method_94_code
def yX5_above : MethodName := ⟨RX5, "above", "(I)I"⟩
abbrev cX5_isUnder : ByteArray := prog_7_method_95_code
def yX5_isUnder : MethodName := ⟨RX5, "isUnder", "(II)Z"⟩
abbrev cX5_load : ByteArray := prog_7_method_96_code
def yX5_load : MethodName := ⟨RX5, "load", "(I)I"⟩
abbrev cX5_judge : ByteArray := prog_7_method_97_code
def yX5_judge : MethodName := ⟨RX5, "judge", "(I)I"⟩
abbrev cX5_image : ByteArray := prog_7_method_98_code
def yX5_image : MethodName := ⟨RX5, "image", "()I"⟩
abbrev cX5_undo : ByteArray := prog_7_method_99_code
def yX5_undo : MethodName := ⟨RX5, "undo", "()I"⟩
abbrev cX5_tear : ByteArray := prog_7_method_100_code
def yX5_tear : MethodName := ⟨RX5, "tear", "()I"⟩
abbrev cX5_count : ByteArray := prog_7_method_101_code
def yX5_count : MethodName := ⟨RX5, "count", "(I)I"⟩
abbrev cX5_status : ByteArray := prog_7_method_102_code
def yX5_status : MethodName := ⟨RX5, "status", "(I)I"⟩
def RJ6 : String := "java/lang/Integer"
abbrev cJ6_bitCount_0f7a4 : ByteArray := prog_8_method_49_code
def yJ6_bitCount_0f7a4 : MethodName := ⟨RJ6, "bitCount", "(I)I"⟩
def RJ9 : String := "java/lang/Math"
abbrev cJ9_max_7cf53 : ByteArray := prog_9_method_65_code
def yJ9_max_7cf53 : MethodName := ⟨RJ9, "max", "(II)I"⟩
abbrev cJ9_min_7cf53 : ByteArray := prog_9_method_69_code
def yJ9_min_7cf53 : MethodName := ⟨RJ9, "min", "(II)I"⟩
def RJ0 : String := "java/lang/String"
abbrev cJ0_length_8abf5 : ByteArray := prog_10_method_54_code
def yJ0_length_8abf5 : MethodName := ⟨RJ0, "length", "()I"⟩
abbrev cJ0_charAt_5068e : ByteArray := prog_10_method_56_code
def yJ0_charAt_5068e : MethodName := ⟨RJ0, "charAt", "(I)C"⟩
abbrev cJ0_coder_7d493 : ByteArray := prog_10_method_152_code
def yJ0_coder_7d493 : MethodName := ⟨RJ0, "coder", "()B"⟩
abbrev cJ0_isLatin1_aae02 : ByteArray := prog_10_method_154_code
def yJ0_isLatin1_aae02 : MethodName := ⟨RJ0, "isLatin1", "()Z"⟩
abbrev cJ0_checkIndex_df160 : ByteArray := prog_10_method_155_code
def yJ0_checkIndex_df160 : MethodName := ⟨RJ0, "checkIndex", "(II)V"⟩
def RJ1 : String := "java/lang/StringLatin1"
abbrev cJ1_charAt_3b067 : ByteArray := prog_11_method_2_code
def yJ1_charAt_3b067 : MethodName := ⟨RJ1, "charAt", "([BI)C"⟩
def RJ2 : String := "java/lang/StringUTF16"
abbrev cJ2_getChar_3b067 : ByteArray := prog_12_method_5_code
def yJ2_getChar_3b067 : MethodName := ⟨RJ2, "getChar", "([BI)C"⟩
abbrev cJ2_length_9d52b : ByteArray := prog_12_method_6_code
def yJ2_length_9d52b : MethodName := ⟨RJ2, "length", "([B)I"⟩
abbrev cJ2_charAt_3b067 : ByteArray := prog_12_method_83_code
def yJ2_charAt_3b067 : MethodName := ⟨RJ2, "charAt", "([BI)C"⟩
abbrev cJ2_checkIndex_2214a : ByteArray := prog_12_method_91_code
def yJ2_checkIndex_2214a : MethodName := ⟨RJ2, "checkIndex", "(I[B)V"⟩
def RJ10 : String := "java/lang/System"
def RJ3 : String := "jdk/internal/util/Preconditions"
abbrev cJ3_checkIndex_8e157 : ByteArray := prog_14_method_11_code
def yJ3_checkIndex_8e157 : MethodName := ⟨RJ3, "checkIndex", "(IILjava/util/function/BiFunction;)I"⟩
def RL : String := "CurtainHouseLaw"
abbrev cL_law : ByteArray := code
def yL_law : MethodName := ⟨RL, "law", "([I)Z"⟩
abbrev vwCl : List vw_C := [(RX0, TX0, 6), (RX1, TX1, 9), (RX2, TX2, 3), (RX3, TX3, 6), (RX4, TX4, 8), (RX5, TX5, 20)]

def wt : List Cond := lw_tbl.filter goodWord
theorem wt_good : ∀ w ∈ wt, goodWord w = true := fun _ h => (List.mem_filter.mp h).2
theorem wt_t {w : Cond} (i : Nat) (h : tables_1[i]? = some w) (g : goodWord w = true) : w ∈ wt := List.mem_filter.mpr ⟨List.mem_append_right _ (List.mem_of_getElem? h), g⟩
theorem wt_p {w : Cond} (i : Nat) (h : (k2_sels lw_privs)[i]? = some w) (g : goodWord w = true) : w ∈ wt := List.mem_filter.mpr ⟨List.mem_append_left _ (List.mem_of_getElem? h), g⟩
theorem wt_all (ws : List Cond) (h : ws.all (fun w => decide (w ∈ tables_1) && goodWord w) = true) : ∀ w ∈ ws, w ∈ wt := by
  intro w hw
  have h1 := List.all_eq_true.mp h w hw
  simp only [Bool.and_eq_true, decide_eq_true_eq] at h1
  exact List.mem_filter.mpr ⟨List.mem_append_right _ h1.1, h1.2⟩
theorem in_X0 : ∀ w ∈ u_ws RX0 TX0 6, w ∈ wt := wt_all _ (by decide +kernel)
theorem in_X1 : ∀ w ∈ u_ws RX1 TX1 9, w ∈ wt := wt_all _ (by decide +kernel)
theorem in_X2 : ∀ w ∈ u_ws RX2 TX2 3, w ∈ wt := wt_all _ (by decide +kernel)
theorem in_X3 : ∀ w ∈ u_ws RX3 TX3 6, w ∈ wt := wt_all _ (by decide +kernel)
theorem in_X4 : ∀ w ∈ u_ws RX4 TX4 8, w ∈ wt := wt_all _ (by decide +kernel)
theorem in_X5 : ∀ w ∈ u_ws RX5 TX5 20, w ∈ wt := wt_all _ (by decide +kernel)
end
section
theorem lk_X4_10 : Cond.fieldLink RX4 10 "CurtainHouse" "house" "LCurtainHouse$House;" ∈ wt := wt_t 153 (by decide +kernel) (by decide +kernel)
theorem lk_X4_16 : Cond.fieldLink RX4 16 "CurtainHouse" "kept" "LCurtainHouse$House;" ∈ wt := wt_t 154 (by decide +kernel) (by decide +kernel)
theorem lk_X4_19 : Cond.fieldLink RX4 19 "CurtainHouse" "trial" "LCurtainHouse$House;" ∈ wt := wt_t 156 (by decide +kernel) (by decide +kernel)
theorem lk_X4_25 : Cond.fieldLink RX4 25 "CurtainHouse" "probe" "LCurtainHouse$Curtain;" ∈ wt := wt_t 157 (by decide +kernel) (by decide +kernel)
theorem lk_X4_32 : Cond.fieldLink RX4 32 "CurtainHouse" "tape" "LCurtainHouse$Tape;" ∈ wt := wt_t 158 (by decide +kernel) (by decide +kernel)
theorem lk_X4_38 : Cond.fieldLink RX4 38 "CurtainHouse" "sheets" "[LCurtainHouse$Sheet;" ∈ wt := wt_t 159 (by decide +kernel) (by decide +kernel)
theorem lk_X4_42 : Cond.fieldLink RX4 42 "CurtainHouse" "found" "[I" ∈ wt := wt_t 160 (by decide +kernel) (by decide +kernel)
theorem lk_X4_55 : Cond.fieldLink RX4 55 "CurtainHouse$House" "fire" "I" ∈ wt := wt_t 66 (by decide +kernel) (by decide +kernel)
theorem lk_X4_63 : Cond.fieldLink RX4 63 "CurtainHouse$House" "list" "[I" ∈ wt := wt_t 79 (by decide +kernel) (by decide +kernel)
theorem lk_X4_77 : Cond.fieldLink RX4 77 "CurtainHouse$Curtain" "likes" "I" ∈ wt := wt_t 41 (by decide +kernel) (by decide +kernel)
theorem lk_X4_80 : Cond.fieldLink RX4 80 "CurtainHouse$House" "hung" "I" ∈ wt := wt_t 77 (by decide +kernel) (by decide +kernel)
theorem lk_X4_86 : Cond.fieldLink RX4 86 "CurtainHouse$House" "curtains" "[LCurtainHouse$Curtain;" ∈ wt := wt_t 84 (by decide +kernel) (by decide +kernel)
theorem lk_X4_97 : Cond.fieldLink RX4 97 "CurtainHouse" "MOST_OF" "[I" ∈ wt := wt_t 284 (by decide +kernel) (by decide +kernel)
theorem lk_X4_104 : Cond.fieldLink RX4 104 "CurtainHouse$Curtain" "tied" "I" ∈ wt := wt_t 48 (by decide +kernel) (by decide +kernel)
theorem lk_X4_111 : Cond.fieldLink RX4 111 "CurtainHouse$Curtain" "high" "I" ∈ wt := wt_t 44 (by decide +kernel) (by decide +kernel)
theorem lk_X4_114 : Cond.fieldLink RX4 114 "CurtainHouse$House" "beat" "I" ∈ wt := wt_t 73 (by decide +kernel) (by decide +kernel)
theorem lk_X4_121 : Cond.fieldLink RX4 121 "CurtainHouse$House" "cut" "I" ∈ wt := wt_t 69 (by decide +kernel) (by decide +kernel)
theorem lk_X4_124 : Cond.fieldLink RX4 124 "CurtainHouse$House" "saved" "I" ∈ wt := wt_t 71 (by decide +kernel) (by decide +kernel)
theorem lk_X4_158 : Cond.fieldLink RX4 158 "CurtainHouse$Curtain" "kind" "I" ∈ wt := wt_t 36 (by decide +kernel) (by decide +kernel)
theorem lk_X4_161 : Cond.fieldLink RX4 161 "CurtainHouse$Curtain" "mood" "I" ∈ wt := wt_t 39 (by decide +kernel) (by decide +kernel)
theorem lk_X4_164 : Cond.fieldLink RX4 164 "CurtainHouse$Curtain" "downs" "I" ∈ wt := wt_t 50 (by decide +kernel) (by decide +kernel)
theorem lk_X4_192 : Cond.fieldLink RX4 192 "CurtainHouse$House" "z" "I" ∈ wt := wt_t 75 (by decide +kernel) (by decide +kernel)
theorem lk_X4_195 : Cond.fieldLink RX4 195 "CurtainHouse$Tape" "length" "I" ∈ wt := wt_t 114 (by decide +kernel) (by decide +kernel)
theorem lk_X4_209 : Cond.fieldLink RX4 209 "CurtainHouse$House" "spots" "[I" ∈ wt := wt_t 82 (by decide +kernel) (by decide +kernel)
theorem lk_X4_221 : Cond.fieldLink RX4 221 "CurtainHouse$Sheet" "length" "I" ∈ wt := wt_t 143 (by decide +kernel) (by decide +kernel)
theorem lk_X4_228 : Cond.fieldLink RX4 228 "CurtainHouse$Sheet" "bits" "I" ∈ wt := wt_t 141 (by decide +kernel) (by decide +kernel)
theorem lk_X4_235 : Cond.fieldLink RX4 235 "CurtainHouse$Sheet" "numbers" "[I" ∈ wt := wt_t 145 (by decide +kernel) (by decide +kernel)
theorem lk_X4_244 : Cond.fieldLink RX4 244 "CurtainHouse" "isKept" "Z" ∈ wt := wt_t 155 (by decide +kernel) (by decide +kernel)
theorem lk_X0_9 : Cond.fieldLink RX0 9 "CurtainHouse$Curtain" "kind" "I" ∈ wt := wt_t 35 (by decide +kernel) (by decide +kernel)
theorem lk_X0_15 : Cond.fieldLink RX0 15 "CurtainHouse$Curtain" "mood" "I" ∈ wt := wt_t 37 (by decide +kernel) (by decide +kernel)
theorem lk_X0_18 : Cond.fieldLink RX0 18 "CurtainHouse$Curtain" "likes" "I" ∈ wt := wt_t 40 (by decide +kernel) (by decide +kernel)
theorem lk_X0_21 : Cond.fieldLink RX0 21 "CurtainHouse$Curtain" "high" "I" ∈ wt := wt_t 43 (by decide +kernel) (by decide +kernel)
theorem lk_X0_24 : Cond.fieldLink RX0 24 "CurtainHouse$Curtain" "tied" "I" ∈ wt := wt_t 46 (by decide +kernel) (by decide +kernel)
theorem lk_X0_27 : Cond.fieldLink RX0 27 "CurtainHouse$Curtain" "downs" "I" ∈ wt := wt_t 49 (by decide +kernel) (by decide +kernel)
theorem lk_X1_9 : Cond.fieldLink RX1 9 "CurtainHouse$House" "z" "I" ∈ wt := wt_t 74 (by decide +kernel) (by decide +kernel)
theorem lk_X1_15 : Cond.fieldLink RX1 15 "CurtainHouse$House" "list" "[I" ∈ wt := wt_t 78 (by decide +kernel) (by decide +kernel)
theorem lk_X1_19 : Cond.fieldLink RX1 19 "CurtainHouse$House" "spots" "[I" ∈ wt := wt_t 81 (by decide +kernel) (by decide +kernel)
theorem lk_X1_24 : Cond.fieldLink RX1 24 "CurtainHouse$House" "curtains" "[LCurtainHouse$Curtain;" ∈ wt := wt_t 83 (by decide +kernel) (by decide +kernel)
theorem lk_X1_29 : Cond.fieldLink RX1 29 "CurtainHouse$House" "fire" "I" ∈ wt := wt_t 65 (by decide +kernel) (by decide +kernel)
theorem lk_X1_32 : Cond.fieldLink RX1 32 "CurtainHouse$House" "cut" "I" ∈ wt := wt_t 68 (by decide +kernel) (by decide +kernel)
theorem lk_X1_35 : Cond.fieldLink RX1 35 "CurtainHouse$House" "saved" "I" ∈ wt := wt_t 70 (by decide +kernel) (by decide +kernel)
theorem lk_X1_38 : Cond.fieldLink RX1 38 "CurtainHouse$House" "beat" "I" ∈ wt := wt_t 72 (by decide +kernel) (by decide +kernel)
theorem lk_X1_41 : Cond.fieldLink RX1 41 "CurtainHouse$House" "hung" "I" ∈ wt := wt_t 76 (by decide +kernel) (by decide +kernel)
theorem lk_X1_82 : Cond.fieldLink RX1 82 "CurtainHouse$Curtain" "high" "I" ∈ wt := wt_t 45 (by decide +kernel) (by decide +kernel)
theorem lk_X1_85 : Cond.fieldLink RX1 85 "CurtainHouse$Curtain" "mood" "I" ∈ wt := wt_t 38 (by decide +kernel) (by decide +kernel)
theorem lk_X1_92 : Cond.fieldLink RX1 92 "CurtainHouse$Curtain" "likes" "I" ∈ wt := wt_t 42 (by decide +kernel) (by decide +kernel)
theorem lk_X2_9 : Cond.fieldLink RX2 9 "CurtainHouse$Sheet" "numbers" "[I" ∈ wt := wt_t 144 (by decide +kernel) (by decide +kernel)
theorem lk_X2_15 : Cond.fieldLink RX2 15 "CurtainHouse$Sheet" "bits" "I" ∈ wt := wt_t 140 (by decide +kernel) (by decide +kernel)
theorem lk_X2_19 : Cond.fieldLink RX2 19 "CurtainHouse$Sheet" "length" "I" ∈ wt := wt_t 142 (by decide +kernel) (by decide +kernel)
theorem lk_X3_9 : Cond.fieldLink RX3 9 "CurtainHouse$Tape" "bytes" "[B" ∈ wt := wt_t 112 (by decide +kernel) (by decide +kernel)
theorem lk_X3_15 : Cond.fieldLink RX3 15 "CurtainHouse$Tape" "length" "I" ∈ wt := wt_t 113 (by decide +kernel) (by decide +kernel)
theorem lk_X3_19 : Cond.fieldLink RX3 19 "CurtainHouse$Tape" "end" "I" ∈ wt := wt_t 117 (by decide +kernel) (by decide +kernel)
theorem lk_X3_37 : Cond.fieldLink RX3 37 "CurtainHouse$Tape" "token" "I" ∈ wt := wt_t 115 (by decide +kernel) (by decide +kernel)
theorem lk_X3_40 : Cond.fieldLink RX3 40 "CurtainHouse$Tape" "begin" "I" ∈ wt := wt_t 116 (by decide +kernel) (by decide +kernel)
theorem lk_X3_54 : Cond.fieldLink RX3 54 "CurtainHouse$House" "fire" "I" ∈ wt := wt_t 67 (by decide +kernel) (by decide +kernel)
theorem lk_X3_80 : Cond.fieldLink RX3 80 "CurtainHouse$Curtain" "tied" "I" ∈ wt := wt_t 47 (by decide +kernel) (by decide +kernel)
theorem lk_X3_96 : Cond.fieldLink RX3 96 "CurtainHouse$House" "list" "[I" ∈ wt := wt_t 80 (by decide +kernel) (by decide +kernel)
theorem lk_X3_124 : Cond.fieldLink RX3 124 "CurtainHouse$Tape" "value" "I" ∈ wt := wt_t 118 (by decide +kernel) (by decide +kernel)
theorem lk_X5_9 : Cond.fieldLink RX5 9 "CurtainHouseModel" "now" "[I" ∈ wt := wt_t 692 (by decide +kernel) (by decide +kernel)
theorem lk_X5_13 : Cond.fieldLink RX5 13 "CurtainHouseModel" "kept" "[I" ∈ wt := wt_t 693 (by decide +kernel) (by decide +kernel)
theorem lk_X5_16 : Cond.fieldLink RX5 16 "CurtainHouseModel" "aside" "[I" ∈ wt := wt_t 694 (by decide +kernel) (by decide +kernel)
theorem lk_X5_19 : Cond.fieldLink RX5 19 "CurtainHouseModel" "found" "[I" ∈ wt := wt_t 696 (by decide +kernel) (by decide +kernel)
theorem lk_X5_22 : Cond.fieldLink RX5 22 "CurtainHouseModel" "tape" "[I" ∈ wt := wt_t 697 (by decide +kernel) (by decide +kernel)
theorem lk_X5_41 : Cond.fieldLink RX5 41 "CurtainHouseModel" "kindNames" "[Ljava/lang/String;" ∈ wt := wt_t 704 (by decide +kernel) (by decide +kernel)
theorem lk_X5_45 : Cond.fieldLink RX5 45 "CurtainHouseModel" "items" "[I" ∈ wt := wt_t 705 (by decide +kernel) (by decide +kernel)
theorem lk_X5_48 : Cond.fieldLink RX5 48 "CurtainHouseModel" "widths" "[I" ∈ wt := wt_t 708 (by decide +kernel) (by decide +kernel)
theorem lk_X5_51 : Cond.fieldLink RX5 51 "CurtainHouseModel" "sizes" "[I" ∈ wt := wt_t 709 (by decide +kernel) (by decide +kernel)
theorem lk_X5_54 : Cond.fieldLink RX5 54 "CurtainHouseModel" "numbers" "[I" ∈ wt := wt_t 710 (by decide +kernel) (by decide +kernel)
theorem lk_X5_57 : Cond.fieldLink RX5 57 "CurtainHouseModel" "moved" "[I" ∈ wt := wt_t 711 (by decide +kernel) (by decide +kernel)
theorem lk_X5_227 : Cond.fieldLink RX5 227 "CurtainHouseModel" "taped" "I" ∈ wt := wt_t 698 (by decide +kernel) (by decide +kernel)
theorem lk_X5_231 : Cond.fieldLink RX5 231 "CurtainHouseModel" "ends" "I" ∈ wt := wt_t 700 (by decide +kernel) (by decide +kernel)
theorem lk_X5_234 : Cond.fieldLink RX5 234 "CurtainHouseModel" "begins" "I" ∈ wt := wt_t 699 (by decide +kernel) (by decide +kernel)
theorem lk_X5_240 : Cond.fieldLink RX5 240 "CurtainHouseModel" "value" "I" ∈ wt := wt_t 702 (by decide +kernel) (by decide +kernel)
theorem lk_X5_243 : Cond.fieldLink RX5 243 "CurtainHouseModel" "sort" "I" ∈ wt := wt_t 701 (by decide +kernel) (by decide +kernel)
theorem lk_X5_253 : Cond.fieldLink RX5 253 "CurtainHouseModel" "isWrong" "Z" ∈ wt := wt_t 703 (by decide +kernel) (by decide +kernel)
theorem lk_X5_264 : Cond.fieldLink RX5 264 "CurtainHouseModel" "itemMany" "I" ∈ wt := wt_t 706 (by decide +kernel) (by decide +kernel)
theorem lk_X5_271 : Cond.fieldLink RX5 271 "CurtainHouseModel" "curtainsThen" "I" ∈ wt := wt_t 707 (by decide +kernel) (by decide +kernel)
theorem lk_X5_321 : Cond.fieldLink RX5 321 "CurtainHouseModel" "isKept" "Z" ∈ wt := wt_t 695 (by decide +kernel) (by decide +kernel)
theorem lk_J0_9 : Cond.fieldLink RJ0 9 "java/lang/String" "value" "[B" ∈ wt := wt_t 1163 (by decide +kernel) (by decide +kernel)
theorem lk_J0_15 : Cond.fieldLink RJ0 15 "java/lang/String" "coder" "B" ∈ wt := wt_t 1164 (by decide +kernel) (by decide +kernel)
theorem lk_J0_38 : Cond.fieldLink RJ0 38 "java/lang/String" "COMPACT_STRINGS" "Z" ∈ wt := wt_t 522 (by decide +kernel) (by decide +kernel)
theorem lk_J0_1053 : Cond.fieldLink RJ0 1053 "jdk/internal/util/Preconditions" "SIOOBE_FORMATTER" "Ljava/util/function/BiFunction;" ∈ wt := wt_t 538 (by decide +kernel) (by decide +kernel)
theorem lk_J2_44 : Cond.fieldLink RJ2 44 "java/lang/StringUTF16" "$assertionsDisabled" "Z" ∈ wt := wt_t 556 (by decide +kernel) (by decide +kernel)
theorem lk_J2_59 : Cond.fieldLink RJ2 59 "java/lang/StringUTF16" "HI_BYTE_SHIFT" "I" ∈ wt := wt_t 558 (by decide +kernel) (by decide +kernel)
theorem lk_J2_63 : Cond.fieldLink RJ2 63 "java/lang/StringUTF16" "LO_BYTE_SHIFT" "I" ∈ wt := wt_t 560 (by decide +kernel) (by decide +kernel)
theorem lk_X4_1 : Cond.methodLink RX4 1 objectInit ∈ wt := wt_t 19 (by decide +kernel) (by decide +kernel)
theorem lk_X4_9 : Cond.methodLink RX4 9 yX1_init ∈ wt := wt_t 24 (by decide +kernel) (by decide +kernel)
theorem lk_X4_47 : Cond.methodLink RX4 47 yX4_isWithin ∈ wt := wt_t 182 (by decide +kernel) (by decide +kernel)
theorem lk_X4_51 : Cond.methodLink RX4 51 yX4_find ∈ wt := wt_t 185 (by decide +kernel) (by decide +kernel)
theorem lk_X4_59 : Cond.methodLink RX4 59 yX4_isPlace ∈ wt := wt_t 194 (by decide +kernel) (by decide +kernel)
theorem lk_X4_66 : Cond.methodLink RX4 66 yX4_isKind ∈ wt := wt_t 205 (by decide +kernel) (by decide +kernel)
theorem lk_X4_69 : Cond.methodLink RX4 69 yX1_isFull ∈ wt := wt_t 208 (by decide +kernel) (by decide +kernel)
theorem lk_X4_73 : Cond.methodLink RX4 73 yX1_hang ∈ wt := wt_t 212 (by decide +kernel) (by decide +kernel)
theorem lk_X4_83 : Cond.methodLink RX4 83 yX4_isCurtain ∈ wt := wt_t 224 (by decide +kernel) (by decide +kernel)
theorem lk_X4_90 : Cond.methodLink RX4 90 yX1_sceneIn ∈ wt := wt_t 228 (by decide +kernel) (by decide +kernel)
theorem lk_X4_93 : Cond.methodLink RX4 93 yX0_tell ∈ wt := wt_t 240 (by decide +kernel) (by decide +kernel)
theorem lk_X4_100 : Cond.methodLink RX4 100 yX0_set ∈ wt := wt_t 286 (by decide +kernel) (by decide +kernel)
theorem lk_X4_107 : Cond.methodLink RX4 107 yX0_getPulled ∈ wt := wt_t 294 (by decide +kernel) (by decide +kernel)
theorem lk_X4_118 : Cond.methodLink RX4 118 yX1_passBeats ∈ wt := wt_t 307 (by decide +kernel) (by decide +kernel)
theorem lk_X4_127 : Cond.methodLink RX4 127 yX1_thoseDown ∈ wt := wt_t 336 (by decide +kernel) (by decide +kernel)
theorem lk_X4_131 : Cond.methodLink RX4 131 yX1_thoseWeary ∈ wt := wt_t 340 (by decide +kernel) (by decide +kernel)
theorem lk_X4_134 : Cond.methodLink RX4 134 yX1_allMoods ∈ wt := wt_t 345 (by decide +kernel) (by decide +kernel)
theorem lk_X4_137 : Cond.methodLink RX4 137 yX1_allLikes ∈ wt := wt_t 349 (by decide +kernel) (by decide +kernel)
theorem lk_X4_140 : Cond.methodLink RX4 140 yX0_take ∈ wt := wt_t 357 (by decide +kernel) (by decide +kernel)
theorem lk_X4_144 : Cond.methodLink RX4 144 yX4_passProbe ∈ wt := wt_t 361 (by decide +kernel) (by decide +kernel)
theorem lk_X4_147 : Cond.methodLink RX4 147 yX1_take ∈ wt := wt_t 370 (by decide +kernel) (by decide +kernel)
theorem lk_X4_150 : Cond.methodLink RX4 150 yX4_beatsUntil ∈ wt := wt_t 382 (by decide +kernel) (by decide +kernel)
theorem lk_X4_154 : Cond.methodLink RX4 154 yX1_passBeat ∈ wt := wt_t 398 (by decide +kernel) (by decide +kernel)
theorem lk_X4_167 : Cond.methodLink RX4 167 yJ6_bitCount_0f7a4 ∈ wt := wt_t 424 (by decide +kernel) (by decide +kernel)
theorem lk_X4_172 : Cond.methodLink RX4 172 yX1_isPleasedBy ∈ wt := wt_t 425 (by decide +kernel) (by decide +kernel)
theorem lk_X4_175 : Cond.methodLink RX4 175 yX4_findingForTold ∈ wt := wt_t 433 (by decide +kernel) (by decide +kernel)
theorem lk_X4_179 : Cond.methodLink RX4 179 yX1_placeIn ∈ wt := wt_t 444 (by decide +kernel) (by decide +kernel)
theorem lk_X4_182 : Cond.methodLink RX4 182 yX4_isProbeAsTold ∈ wt := wt_t 445 (by decide +kernel) (by decide +kernel)
theorem lk_X4_186 : Cond.methodLink RX4 186 yX1_draw ∈ wt := wt_t 457 (by decide +kernel) (by decide +kernel)
theorem lk_X4_189 : Cond.methodLink RX4 189 yX4_commonDivisorWithScenes ∈ wt := wt_t 466 (by decide +kernel) (by decide +kernel)
theorem lk_X4_198 : Cond.methodLink RX4 198 yX3_add ∈ wt := wt_t 477 (by decide +kernel) (by decide +kernel)
theorem lk_X4_202 : Cond.methodLink RX4 202 yX3_readInto ∈ wt := wt_t 489 (by decide +kernel) (by decide +kernel)
theorem lk_X4_206 : Cond.methodLink RX4 206 yX4_isSpot ∈ wt := wt_t 607 (by decide +kernel) (by decide +kernel)
theorem lk_X4_212 : Cond.methodLink RX4 212 yX0_countsAs ∈ wt := wt_t 614 (by decide +kernel) (by decide +kernel)
theorem lk_X4_215 : Cond.methodLink RX4 215 yX4_isSheet ∈ wt := wt_t 437 (by decide +kernel) (by decide +kernel)
theorem lk_X4_218 : Cond.methodLink RX4 218 yX2_lay ∈ wt := wt_t 624 (by decide +kernel) (by decide +kernel)
theorem lk_X4_222 : Cond.methodLink RX4 222 yX2_isMissing ∈ wt := wt_t 440 (by decide +kernel) (by decide +kernel)
theorem lk_X4_225 : Cond.methodLink RX4 225 yX2_put ∈ wt := wt_t 632 (by decide +kernel) (by decide +kernel)
theorem lk_X4_231 : Cond.methodLink RX4 231 yX2_has ∈ wt := wt_t 640 (by decide +kernel) (by decide +kernel)
theorem lk_X4_238 : Cond.methodLink RX4 238 arraycopyName ∈ wt := wt_t 644 (by decide +kernel) (by decide +kernel)
theorem lk_X4_248 : Cond.methodLink RX4 248 yX1_heldSpots ∈ wt := wt_t 669 (by decide +kernel) (by decide +kernel)
theorem lk_X4_252 : Cond.methodLink RX4 252 yX0_passBeat ∈ wt := wt_t 365 (by decide +kernel) (by decide +kernel)
theorem lk_X0_3 : Cond.methodLink RX0 3 objectInit ∈ wt := wt_t 34 (by decide +kernel) (by decide +kernel)
theorem lk_X0_30 : Cond.methodLink RX0 30 yX0_gladdens ∈ wt := wt_t 244 (by decide +kernel) (by decide +kernel)
theorem lk_X0_34 : Cond.methodLink RX0 34 yX0_tires ∈ wt := wt_t 256 (by decide +kernel) (by decide +kernel)
theorem lk_X0_38 : Cond.methodLink RX0 38 yX0_bears ∈ wt := wt_t 262 (by decide +kernel) (by decide +kernel)
theorem lk_X0_41 : Cond.methodLink RX0 41 yX0_falls ∈ wt := wt_t 268 (by decide +kernel) (by decide +kernel)
theorem lk_X0_44 : Cond.methodLink RX0 44 yX0_rises ∈ wt := wt_t 274 (by decide +kernel) (by decide +kernel)
theorem lk_X0_54 : Cond.methodLink RX0 54 yJ6_bitCount_0f7a4 ∈ wt := wt_t 250 (by decide +kernel) (by decide +kernel)
theorem lk_X0_71 : Cond.methodLink RX0 71 Lib.Math.min.name ∈ wt := wt_t 298 (by decide +kernel) (by decide +kernel)
theorem lk_X0_77 : Cond.methodLink RX0 77 Lib.Math.max.name ∈ wt := wt_t 299 (by decide +kernel) (by decide +kernel)
theorem lk_X0_80 : Cond.methodLink RX0 80 yX0_feel ∈ wt := wt_t 320 (by decide +kernel) (by decide +kernel)
theorem lk_X0_84 : Cond.methodLink RX0 84 yX0_comeDown ∈ wt := wt_t 324 (by decide +kernel) (by decide +kernel)
theorem lk_X1_3 : Cond.methodLink RX1 3 objectInit ∈ wt := wt_t 27 (by decide +kernel) (by decide +kernel)
theorem lk_X1_44 : Cond.methodLink RX1 44 arraycopyName ∈ wt := wt_t 374 (by decide +kernel) (by decide +kernel)
theorem lk_X1_50 : Cond.methodLink RX1 50 yX0_take ∈ wt := wt_t 377 (by decide +kernel) (by decide +kernel)
theorem lk_X1_54 : Cond.methodLink RX1 54 yX0_beNew ∈ wt := wt_t 216 (by decide +kernel) (by decide +kernel)
theorem lk_X1_59 : Cond.methodLink RX1 59 Lib.Math.min.name ∈ wt := wt_t 237 (by decide +kernel) (by decide +kernel)
theorem lk_X1_65 : Cond.methodLink RX1 65 yX1_placeIn ∈ wt := wt_t 232 (by decide +kernel) (by decide +kernel)
theorem lk_X1_69 : Cond.methodLink RX1 69 yX1_passBeat ∈ wt := wt_t 311 (by decide +kernel) (by decide +kernel)
theorem lk_X1_72 : Cond.methodLink RX1 72 yX1_sceneIn ∈ wt := wt_t 315 (by decide +kernel) (by decide +kernel)
theorem lk_X1_75 : Cond.methodLink RX1 75 yX0_passBeat ∈ wt := wt_t 316 (by decide +kernel) (by decide +kernel)
theorem lk_X1_78 : Cond.methodLink RX1 78 yX1_tellDown ∈ wt := wt_t 328 (by decide +kernel) (by decide +kernel)
theorem lk_X1_88 : Cond.methodLink RX1 88 yX0_bears ∈ wt := wt_t 344 (by decide +kernel) (by decide +kernel)
theorem lk_X2_3 : Cond.methodLink RX2 3 objectInit ∈ wt := wt_t 139 (by decide +kernel) (by decide +kernel)
theorem lk_X3_3 : Cond.methodLink RX3 3 objectInit ∈ wt := wt_t 111 (by decide +kernel) (by decide +kernel)
theorem lk_X3_22 : Cond.methodLink RX3 22 yX3_step ∈ wt := wt_t 493 (by decide +kernel) (by decide +kernel)
theorem lk_X3_25 : Cond.methodLink RX3 25 yX3_kindAtHand ∈ wt := wt_t 505 (by decide +kernel) (by decide +kernel)
theorem lk_X3_29 : Cond.methodLink RX3 29 yX3_readOther ∈ wt := wt_t 568 (by decide +kernel) (by decide +kernel)
theorem lk_X3_33 : Cond.methodLink RX3 33 yX3_readCurtain ∈ wt := wt_t 587 (by decide +kernel) (by decide +kernel)
theorem lk_X3_45 : Cond.methodLink RX3 45 yX3_takeWord ∈ wt := wt_t 573 (by decide +kernel) (by decide +kernel)
theorem lk_X3_49 : Cond.methodLink RX3 49 yX3_readScene ∈ wt := wt_t 577 (by decide +kernel) (by decide +kernel)
theorem lk_X3_60 : Cond.methodLink RX3 60 yX1_isFull ∈ wt := wt_t 591 (by decide +kernel) (by decide +kernel)
theorem lk_X3_64 : Cond.methodLink RX3 64 yX1_hang ∈ wt := wt_t 592 (by decide +kernel) (by decide +kernel)
theorem lk_X3_70 : Cond.methodLink RX3 70 yX3_readPart ∈ wt := wt_t 594 (by decide +kernel) (by decide +kernel)
theorem lk_X3_88 : Cond.methodLink RX3 88 yX3_takeNumber ∈ wt := wt_t 581 (by decide +kernel) (by decide +kernel)
theorem lk_X3_92 : Cond.methodLink RX3 92 yX0_set ∈ wt := wt_t 599 (by decide +kernel) (by decide +kernel)
theorem lk_X3_101 : Cond.methodLink RX3 101 yX3_isWord ∈ wt := wt_t 510 (by decide +kernel) (by decide +kernel)
theorem lk_X3_116 : Cond.methodLink RX3 116 yJ0_length_8abf5 ∈ wt := wt_t 514 (by decide +kernel) (by decide +kernel)
theorem lk_X3_120 : Cond.methodLink RX3 120 yJ0_charAt_5068e ∈ wt := wt_t 524 (by decide +kernel) (by decide +kernel)
theorem lk_X3_127 : Cond.methodLink RX3 127 yX3_tokenBegunBy ∈ wt := wt_t 497 (by decide +kernel) (by decide +kernel)
theorem lk_X3_131 : Cond.methodLink RX3 131 Lib.Math.min.name ∈ wt := wt_t 500 (by decide +kernel) (by decide +kernel)
theorem lk_X3_137 : Cond.methodLink RX3 137 yX3_valueAtHand ∈ wt := wt_t 501 (by decide +kernel) (by decide +kernel)
theorem lk_L_9 : Cond.methodLink RL 9 yX4_init ∈ wt := wt_t 16 (by decide +kernel) (by decide +kernel)
theorem lk_L_12 : Cond.methodLink RL 12 yX5_init ∈ wt := wt_t 679 (by decide +kernel) (by decide +kernel)
theorem lk_L_13 : Cond.methodLink RL 13 yX4_fire ∈ wt := wt_t 178 (by decide +kernel) (by decide +kernel)
theorem lk_L_17 : Cond.methodLink RL 17 yX5_fire ∈ wt := wt_t 753 (by decide +kernel) (by decide +kernel)
theorem lk_L_18 : Cond.methodLink RL 18 yX4_scene ∈ wt := wt_t 190 (by decide +kernel) (by decide +kernel)
theorem lk_L_22 : Cond.methodLink RL 22 yX5_scene ∈ wt := wt_t 769 (by decide +kernel) (by decide +kernel)
theorem lk_L_23 : Cond.methodLink RL 23 yX4_listed ∈ wt := wt_t 197 (by decide +kernel) (by decide +kernel)
theorem lk_L_26 : Cond.methodLink RL 26 yX5_listed ∈ wt := wt_t 779 (by decide +kernel) (by decide +kernel)
theorem lk_L_27 : Cond.methodLink RL 27 yX4_curtain ∈ wt := wt_t 201 (by decide +kernel) (by decide +kernel)
theorem lk_L_30 : Cond.methodLink RL 30 yX5_curtain ∈ wt := wt_t 783 (by decide +kernel) (by decide +kernel)
theorem lk_L_31 : Cond.methodLink RL 31 yX4_of ∈ wt := wt_t 220 (by decide +kernel) (by decide +kernel)
theorem lk_L_34 : Cond.methodLink RL 34 yX5_of ∈ wt := wt_t 801 (by decide +kernel) (by decide +kernel)
theorem lk_L_35 : Cond.methodLink RL 35 yX4_change ∈ wt := wt_t 280 (by decide +kernel) (by decide +kernel)
theorem lk_L_39 : Cond.methodLink RL 39 yX5_change ∈ wt := wt_t 844 (by decide +kernel) (by decide +kernel)
theorem lk_L_40 : Cond.methodLink RL 40 yX4_pull ∈ wt := wt_t 290 (by decide +kernel) (by decide +kernel)
theorem lk_L_43 : Cond.methodLink RL 43 yX5_pull ∈ wt := wt_t 851 (by decide +kernel) (by decide +kernel)
theorem lk_L_44 : Cond.methodLink RL 44 yX4_go ∈ wt := wt_t 302 (by decide +kernel) (by decide +kernel)
theorem lk_L_47 : Cond.methodLink RL 47 yX5_go ∈ wt := wt_t 874 (by decide +kernel) (by decide +kernel)
theorem lk_L_48 : Cond.methodLink RL 48 yX4_now ∈ wt := wt_t 332 (by decide +kernel) (by decide +kernel)
theorem lk_L_51 : Cond.methodLink RL 51 yX5_now ∈ wt := wt_t 895 (by decide +kernel) (by decide +kernel)
theorem lk_L_52 : Cond.methodLink RL 52 yX4_ahead ∈ wt := wt_t 353 (by decide +kernel) (by decide +kernel)
theorem lk_L_55 : Cond.methodLink RL 55 yX5_ahead ∈ wt := wt_t 915 (by decide +kernel) (by decide +kernel)
theorem lk_L_56 : Cond.methodLink RL 56 yX4_cut ∈ wt := wt_t 366 (by decide +kernel) (by decide +kernel)
theorem lk_L_59 : Cond.methodLink RL 59 yX5_cut ∈ wt := wt_t 926 (by decide +kernel) (by decide +kernel)
theorem lk_L_60 : Cond.methodLink RL 60 yX4_down ∈ wt := wt_t 378 (by decide +kernel) (by decide +kernel)
theorem lk_L_63 : Cond.methodLink RL 63 yX5_down ∈ wt := wt_t 934 (by decide +kernel) (by decide +kernel)
theorem lk_L_64 : Cond.methodLink RL 64 yX4_up ∈ wt := wt_t 386 (by decide +kernel) (by decide +kernel)
theorem lk_L_67 : Cond.methodLink RL 67 yX5_up ∈ wt := wt_t 947 (by decide +kernel) (by decide +kernel)
theorem lk_L_68 : Cond.methodLink RL 68 yX4_weary ∈ wt := wt_t 390 (by decide +kernel) (by decide +kernel)
theorem lk_L_71 : Cond.methodLink RL 71 yX5_weary ∈ wt := wt_t 951 (by decide +kernel) (by decide +kernel)
theorem lk_L_72 : Cond.methodLink RL 72 yX4_saved ∈ wt := wt_t 394 (by decide +kernel) (by decide +kernel)
theorem lk_L_75 : Cond.methodLink RL 75 yX5_saved ∈ wt := wt_t 955 (by decide +kernel) (by decide +kernel)
theorem lk_L_76 : Cond.methodLink RL 76 yX4_sceneFor ∈ wt := wt_t 399 (by decide +kernel) (by decide +kernel)
theorem lk_L_79 : Cond.methodLink RL 79 yX5_sceneFor ∈ wt := wt_t 959 (by decide +kernel) (by decide +kernel)
theorem lk_L_80 : Cond.methodLink RL 80 yX4_kindFor ∈ wt := wt_t 404 (by decide +kernel) (by decide +kernel)
theorem lk_L_83 : Cond.methodLink RL 83 yX5_kindFor ∈ wt := wt_t 967 (by decide +kernel) (by decide +kernel)
theorem lk_L_84 : Cond.methodLink RL 84 yX4_moodFor ∈ wt := wt_t 408 (by decide +kernel) (by decide +kernel)
theorem lk_L_87 : Cond.methodLink RL 87 yX5_moodFor ∈ wt := wt_t 971 (by decide +kernel) (by decide +kernel)
theorem lk_L_88 : Cond.methodLink RL 88 yX4_handsFor ∈ wt := wt_t 412 (by decide +kernel) (by decide +kernel)
theorem lk_L_91 : Cond.methodLink RL 91 yX5_handsFor ∈ wt := wt_t 975 (by decide +kernel) (by decide +kernel)
theorem lk_L_92 : Cond.methodLink RL 92 yX4_tie ∈ wt := wt_t 416 (by decide +kernel) (by decide +kernel)
theorem lk_L_95 : Cond.methodLink RL 95 yX5_tie ∈ wt := wt_t 983 (by decide +kernel) (by decide +kernel)
theorem lk_L_96 : Cond.methodLink RL 96 yX4_please ∈ wt := wt_t 420 (by decide +kernel) (by decide +kernel)
theorem lk_L_100 : Cond.methodLink RL 100 yX5_please ∈ wt := wt_t 991 (by decide +kernel) (by decide +kernel)
theorem lk_L_101 : Cond.methodLink RL 101 yX4_fits ∈ wt := wt_t 429 (by decide +kernel) (by decide +kernel)
theorem lk_L_104 : Cond.methodLink RL 104 yX5_fits ∈ wt := wt_t 999 (by decide +kernel) (by decide +kernel)
theorem lk_L_105 : Cond.methodLink RL 105 yX4_kinds ∈ wt := wt_t 449 (by decide +kernel) (by decide +kernel)
theorem lk_L_108 : Cond.methodLink RL 108 yX5_kinds ∈ wt := wt_t 1019 (by decide +kernel) (by decide +kernel)
theorem lk_L_109 : Cond.methodLink RL 109 yX4_evening ∈ wt := wt_t 453 (by decide +kernel) (by decide +kernel)
theorem lk_L_112 : Cond.methodLink RL 112 yX5_evening ∈ wt := wt_t 1023 (by decide +kernel) (by decide +kernel)
theorem lk_L_113 : Cond.methodLink RL 113 yX4_odds ∈ wt := wt_t 462 (by decide +kernel) (by decide +kernel)
theorem lk_L_117 : Cond.methodLink RL 117 yX5_odds ∈ wt := wt_t 1032 (by decide +kernel) (by decide +kernel)
theorem lk_L_118 : Cond.methodLink RL 118 yX4_seed ∈ wt := wt_t 469 (by decide +kernel) (by decide +kernel)
theorem lk_L_121 : Cond.methodLink RL 121 yX5_seed ∈ wt := wt_t 1036 (by decide +kernel) (by decide +kernel)
theorem lk_L_122 : Cond.methodLink RL 122 yX4_feed ∈ wt := wt_t 473 (by decide +kernel) (by decide +kernel)
theorem lk_L_125 : Cond.methodLink RL 125 yX5_feed ∈ wt := wt_t 1040 (by decide +kernel) (by decide +kernel)
theorem lk_L_126 : Cond.methodLink RL 126 yX4_wipe ∈ wt := wt_t 481 (by decide +kernel) (by decide +kernel)
theorem lk_L_129 : Cond.methodLink RL 129 yX5_wipe ∈ wt := wt_t 1044 (by decide +kernel) (by decide +kernel)
theorem lk_L_130 : Cond.methodLink RL 130 yX4_text ∈ wt := wt_t 485 (by decide +kernel) (by decide +kernel)
theorem lk_L_133 : Cond.methodLink RL 133 yX5_text ∈ wt := wt_t 1048 (by decide +kernel) (by decide +kernel)
theorem lk_L_134 : Cond.methodLink RL 134 yX4_hold ∈ wt := wt_t 603 (by decide +kernel) (by decide +kernel)
theorem lk_L_137 : Cond.methodLink RL 137 yX5_hold ∈ wt := wt_t 1101 (by decide +kernel) (by decide +kernel)
theorem lk_L_138 : Cond.methodLink RL 138 yX4_as ∈ wt := wt_t 610 (by decide +kernel) (by decide +kernel)
theorem lk_L_141 : Cond.methodLink RL 141 yX5_as ∈ wt := wt_t 1108 (by decide +kernel) (by decide +kernel)
theorem lk_L_142 : Cond.methodLink RL 142 yX4_sheet ∈ wt := wt_t 620 (by decide +kernel) (by decide +kernel)
theorem lk_L_145 : Cond.methodLink RL 145 yX5_sheet ∈ wt := wt_t 1119 (by decide +kernel) (by decide +kernel)
theorem lk_L_146 : Cond.methodLink RL 146 yX4_write ∈ wt := wt_t 628 (by decide +kernel) (by decide +kernel)
theorem lk_L_149 : Cond.methodLink RL 149 yX5_write ∈ wt := wt_t 1124 (by decide +kernel) (by decide +kernel)
theorem lk_L_150 : Cond.methodLink RL 150 yX4_copy ∈ wt := wt_t 636 (by decide +kernel) (by decide +kernel)
theorem lk_L_154 : Cond.methodLink RL 154 yX5_copy ∈ wt := wt_t 1131 (by decide +kernel) (by decide +kernel)
theorem lk_L_155 : Cond.methodLink RL 155 yX4_load ∈ wt := wt_t 645 (by decide +kernel) (by decide +kernel)
theorem lk_L_158 : Cond.methodLink RL 158 yX5_load ∈ wt := wt_t 1135 (by decide +kernel) (by decide +kernel)
theorem lk_L_159 : Cond.methodLink RL 159 yX4_judge ∈ wt := wt_t 649 (by decide +kernel) (by decide +kernel)
theorem lk_L_162 : Cond.methodLink RL 162 yX5_judge ∈ wt := wt_t 1139 (by decide +kernel) (by decide +kernel)
theorem lk_L_163 : Cond.methodLink RL 163 yX4_image ∈ wt := wt_t 653 (by decide +kernel) (by decide +kernel)
theorem lk_L_166 : Cond.methodLink RL 166 yX5_image ∈ wt := wt_t 1143 (by decide +kernel) (by decide +kernel)
theorem lk_L_167 : Cond.methodLink RL 167 yX4_undo ∈ wt := wt_t 657 (by decide +kernel) (by decide +kernel)
theorem lk_L_170 : Cond.methodLink RL 170 yX5_undo ∈ wt := wt_t 1147 (by decide +kernel) (by decide +kernel)
theorem lk_L_171 : Cond.methodLink RL 171 yX4_tear ∈ wt := wt_t 661 (by decide +kernel) (by decide +kernel)
theorem lk_L_174 : Cond.methodLink RL 174 yX5_tear ∈ wt := wt_t 1151 (by decide +kernel) (by decide +kernel)
theorem lk_L_175 : Cond.methodLink RL 175 yX4_count ∈ wt := wt_t 665 (by decide +kernel) (by decide +kernel)
theorem lk_L_178 : Cond.methodLink RL 178 yX5_count ∈ wt := wt_t 1155 (by decide +kernel) (by decide +kernel)
theorem lk_L_179 : Cond.methodLink RL 179 yX4_status ∈ wt := wt_t 673 (by decide +kernel) (by decide +kernel)
theorem lk_L_182 : Cond.methodLink RL 182 yX5_status ∈ wt := wt_t 1159 (by decide +kernel) (by decide +kernel)
theorem lk_X5_1 : Cond.methodLink RX5 1 objectInit ∈ wt := wt_t 682 (by decide +kernel) (by decide +kernel)
theorem lk_X5_61 : Cond.methodLink RX5 61 yX5_copyRow ∈ wt := wt_t 919 (by decide +kernel) (by decide +kernel)
theorem lk_X5_66 : Cond.methodLink RX5 66 yX5_finding ∈ wt := wt_t 765 (by decide +kernel) (by decide +kernel)
theorem lk_X5_70 : Cond.methodLink RX5 70 yX5_within ∈ wt := wt_t 757 (by decide +kernel) (by decide +kernel)
theorem lk_X5_74 : Cond.methodLink RX5 74 yX5_become ∈ wt := wt_t 760 (by decide +kernel) (by decide +kernel)
theorem lk_X5_78 : Cond.methodLink RX5 78 yX5_isPlace ∈ wt := wt_t 773 (by decide +kernel) (by decide +kernel)
theorem lk_X5_82 : Cond.methodLink RX5 82 yX5_isScene ∈ wt := wt_t 776 (by decide +kernel) (by decide +kernel)
theorem lk_X5_85 : Cond.methodLink RX5 85 yX5_curtainAt ∈ wt := wt_t 798 (by decide +kernel) (by decide +kernel)
theorem lk_X5_88 : Cond.methodLink RX5 88 yX5_isKind ∈ wt := wt_t 787 (by decide +kernel) (by decide +kernel)
theorem lk_X5_91 : Cond.methodLink RX5 91 yX5_isSet ∈ wt := wt_t 790 (by decide +kernel) (by decide +kernel)
theorem lk_X5_95 : Cond.methodLink RX5 95 yX5_comes ∈ wt := wt_t 794 (by decide +kernel) (by decide +kernel)
theorem lk_X5_98 : Cond.methodLink RX5 98 yX5_curtainIs ∈ wt := wt_t 817 (by decide +kernel) (by decide +kernel)
theorem lk_X5_101 : Cond.methodLink RX5 101 yX5_bits ∈ wt := wt_t 821 (by decide +kernel) (by decide +kernel)
theorem lk_X5_104 : Cond.methodLink RX5 104 yX5_gladdens ∈ wt := wt_t 813 (by decide +kernel) (by decide +kernel)
theorem lk_X5_107 : Cond.methodLink RX5 107 yX5_placeNow ∈ wt := wt_t 824 (by decide +kernel) (by decide +kernel)
theorem lk_X5_111 : Cond.methodLink RX5 111 yX5_tires ∈ wt := wt_t 828 (by decide +kernel) (by decide +kernel)
theorem lk_X5_114 : Cond.methodLink RX5 114 yX5_bears ∈ wt := wt_t 832 (by decide +kernel) (by decide +kernel)
theorem lk_X5_117 : Cond.methodLink RX5 117 yX5_falls ∈ wt := wt_t 836 (by decide +kernel) (by decide +kernel)
theorem lk_X5_120 : Cond.methodLink RX5 120 yX5_rises ∈ wt := wt_t 840 (by decide +kernel) (by decide +kernel)
theorem lk_X5_123 : Cond.methodLink RX5 123 yX5_isCurtain ∈ wt := wt_t 805 (by decide +kernel) (by decide +kernel)
theorem lk_X5_126 : Cond.methodLink RX5 126 yX5_told ∈ wt := wt_t 809 (by decide +kernel) (by decide +kernel)
theorem lk_X5_129 : Cond.methodLink RX5 129 yX5_isField ∈ wt := wt_t 848 (by decide +kernel) (by decide +kernel)
theorem lk_X5_133 : Cond.methodLink RX5 133 Lib.Math.min.name ∈ wt := wt_t 868 (by decide +kernel) (by decide +kernel)
theorem lk_X5_138 : Cond.methodLink RX5 138 Lib.Math.max.name ∈ wt := wt_t 873 (by decide +kernel) (by decide +kernel)
theorem lk_X5_141 : Cond.methodLink RX5 141 yX5_more ∈ wt := wt_t 864 (by decide +kernel) (by decide +kernel)
theorem lk_X5_145 : Cond.methodLink RX5 145 yX5_less ∈ wt := wt_t 869 (by decide +kernel) (by decide +kernel)
theorem lk_X5_149 : Cond.methodLink RX5 149 yX5_isTied ∈ wt := wt_t 855 (by decide +kernel) (by decide +kernel)
theorem lk_X5_153 : Cond.methodLink RX5 153 yX5_pulled ∈ wt := wt_t 860 (by decide +kernel) (by decide +kernel)
theorem lk_X5_157 : Cond.methodLink RX5 157 yX5_comesDown ∈ wt := wt_t 891 (by decide +kernel) (by decide +kernel)
theorem lk_X5_161 : Cond.methodLink RX5 161 yX5_plays ∈ wt := wt_t 887 (by decide +kernel) (by decide +kernel)
theorem lk_X5_164 : Cond.methodLink RX5 164 yX5_beat ∈ wt := wt_t 883 (by decide +kernel) (by decide +kernel)
theorem lk_X5_167 : Cond.methodLink RX5 167 yX5_beatsGo ∈ wt := wt_t 879 (by decide +kernel) (by decide +kernel)
theorem lk_X5_170 : Cond.methodLink RX5 170 yX5_downOnes ∈ wt := wt_t 899 (by decide +kernel) (by decide +kernel)
theorem lk_X5_173 : Cond.methodLink RX5 173 yX5_wearyOnes ∈ wt := wt_t 903 (by decide +kernel) (by decide +kernel)
theorem lk_X5_176 : Cond.methodLink RX5 176 yX5_moods ∈ wt := wt_t 907 (by decide +kernel) (by decide +kernel)
theorem lk_X5_179 : Cond.methodLink RX5 179 yX5_liked ∈ wt := wt_t 911 (by decide +kernel) (by decide +kernel)
theorem lk_X5_182 : Cond.methodLink RX5 182 yX5_putBack ∈ wt := wt_t 922 (by decide +kernel) (by decide +kernel)
theorem lk_X5_185 : Cond.methodLink RX5 185 yX5_behind ∈ wt := wt_t 930 (by decide +kernel) (by decide +kernel)
theorem lk_X5_188 : Cond.methodLink RX5 188 yX5_beatsTo ∈ wt := wt_t 938 (by decide +kernel) (by decide +kernel)
theorem lk_X5_192 : Cond.methodLink RX5 192 yX5_orNone ∈ wt := wt_t 942 (by decide +kernel) (by decide +kernel)
theorem lk_X5_195 : Cond.methodLink RX5 195 yX5_isThought ∈ wt := wt_t 963 (by decide +kernel) (by decide +kernel)
theorem lk_X5_199 : Cond.methodLink RX5 199 yX5_staysUp ∈ wt := wt_t 979 (by decide +kernel) (by decide +kernel)
theorem lk_X5_202 : Cond.methodLink RX5 202 yX5_nothingIsCut ∈ wt := wt_t 987 (by decide +kernel) (by decide +kernel)
theorem lk_X5_205 : Cond.methodLink RX5 205 yX5_pleases ∈ wt := wt_t 995 (by decide +kernel) (by decide +kernel)
theorem lk_X5_208 : Cond.methodLink RX5 208 yX5_isSheet ∈ wt := wt_t 1007 (by decide +kernel) (by decide +kernel)
theorem lk_X5_212 : Cond.methodLink RX5 212 yX5_isSo ∈ wt := wt_t 1015 (by decide +kernel) (by decide +kernel)
theorem lk_X5_215 : Cond.methodLink RX5 215 yX5_lacks ∈ wt := wt_t 1003 (by decide +kernel) (by decide +kernel)
theorem lk_X5_219 : Cond.methodLink RX5 219 yX5_fitting ∈ wt := wt_t 1011 (by decide +kernel) (by decide +kernel)
theorem lk_X5_224 : Cond.methodLink RX5 224 yX5_drawn ∈ wt := wt_t 1027 (by decide +kernel) (by decide +kernel)
theorem lk_X5_237 : Cond.methodLink RX5 237 yX5_byteAt ∈ wt := wt_t 1056 (by decide +kernel) (by decide +kernel)
theorem lk_X5_246 : Cond.methodLink RX5 246 yJ0_length_8abf5 ∈ wt := wt_t 1068 (by decide +kernel) (by decide +kernel)
theorem lk_X5_249 : Cond.methodLink RX5 249 yJ0_charAt_5068e ∈ wt := wt_t 1069 (by decide +kernel) (by decide +kernel)
theorem lk_X5_257 : Cond.methodLink RX5 257 yX5_token ∈ wt := wt_t 1052 (by decide +kernel) (by decide +kernel)
theorem lk_X5_260 : Cond.methodLink RX5 260 yX5_must ∈ wt := wt_t 1074 (by decide +kernel) (by decide +kernel)
theorem lk_X5_267 : Cond.methodLink RX5 267 yX5_isWord ∈ wt := wt_t 1064 (by decide +kernel) (by decide +kernel)
theorem lk_X5_276 : Cond.methodLink RX5 276 yX5_takesWord ∈ wt := wt_t 1079 (by decide +kernel) (by decide +kernel)
theorem lk_X5_279 : Cond.methodLink RX5 279 yX5_number ∈ wt := wt_t 1083 (by decide +kernel) (by decide +kernel)
theorem lk_X5_288 : Cond.methodLink RX5 288 yX5_addItem ∈ wt := wt_t 1090 (by decide +kernel) (by decide +kernel)
theorem lk_X5_292 : Cond.methodLink RX5 292 yX5_readCurtain ∈ wt := wt_t 1070 (by decide +kernel) (by decide +kernel)
theorem lk_X5_301 : Cond.methodLink RX5 301 yX5_readItem ∈ wt := wt_t 1060 (by decide +kernel) (by decide +kernel)
theorem lk_X5_304 : Cond.methodLink RX5 304 yX5_isToldSo ∈ wt := wt_t 1097 (by decide +kernel) (by decide +kernel)
theorem lk_X5_307 : Cond.methodLink RX5 307 yX5_isSpot ∈ wt := wt_t 1105 (by decide +kernel) (by decide +kernel)
theorem lk_X5_310 : Cond.methodLink RX5 310 yX5_isUnder ∈ wt := wt_t 1112 (by decide +kernel) (by decide +kernel)
theorem lk_X5_315 : Cond.methodLink RX5 315 yX5_cutTo ∈ wt := wt_t 1128 (by decide +kernel) (by decide +kernel)
theorem lk_X5_318 : Cond.methodLink RX5 318 yX5_above ∈ wt := wt_t 1115 (by decide +kernel) (by decide +kernel)
theorem lk_J0_335 : Cond.methodLink RJ0 335 yJ0_coder_7d493 ∈ wt := wt_t 518 (by decide +kernel) (by decide +kernel)
theorem lk_J0_492 : Cond.methodLink RJ0 492 yJ0_isLatin1_aae02 ∈ wt := wt_t 528 (by decide +kernel) (by decide +kernel)
theorem lk_J0_495 : Cond.methodLink RJ0 495 yJ1_charAt_3b067 ∈ wt := wt_t 532 (by decide +kernel) (by decide +kernel)
theorem lk_J0_498 : Cond.methodLink RJ0 498 yJ2_charAt_3b067 ∈ wt := wt_t 543 (by decide +kernel) (by decide +kernel)
theorem lk_J0_1059 : Cond.methodLink RJ0 1059 yJ3_checkIndex_8e157 ∈ wt := wt_t 540 (by decide +kernel) (by decide +kernel)
theorem lk_J1_9 : Cond.methodLink RJ1 9 yJ0_checkIndex_df160 ∈ wt := wt_t 535 (by decide +kernel) (by decide +kernel)
theorem lk_J2_48 : Cond.methodLink RJ2 48 yJ2_length_9d52b ∈ wt := wt_t 549 (by decide +kernel) (by decide +kernel)
theorem lk_J2_67 : Cond.methodLink RJ2 67 yJ2_checkIndex_2214a ∈ wt := wt_t 546 (by decide +kernel) (by decide +kernel)
theorem lk_J2_71 : Cond.methodLink RJ2 71 yJ2_getChar_3b067 ∈ wt := wt_t 553 (by decide +kernel) (by decide +kernel)
theorem lk_J2_414 : Cond.methodLink RJ2 414 yJ0_checkIndex_df160 ∈ wt := wt_t 552 (by decide +kernel) (by decide +kernel)
theorem lk_X4_117 : Cond.constant RX4 117 (99999) ∈ wt := wt_t 306 (by decide +kernel) (by decide +kernel)
theorem lk_X4_157 : Cond.constant RX4 157 (100000) ∈ wt := wt_t 403 (by decide +kernel) (by decide +kernel)
theorem lk_X4_251 : Cond.constant RX4 251 (-1000001) ∈ wt := wt_t 189 (by decide +kernel) (by decide +kernel)
theorem lk_X1_58 : Cond.constant RX1 58 (99999) ∈ wt := wt_t 236 (by decide +kernel) (by decide +kernel)
theorem lk_X1_81 : Cond.constant RX1 81 (1103515245) ∈ wt := wt_t 461 (by decide +kernel) (by decide +kernel)
theorem lk_X5_60 : Cond.constant RX5 60 (-1000001) ∈ wt := wt_t 764 (by decide +kernel) (by decide +kernel)
theorem lk_X5_65 : Cond.constant RX5 65 (-1000004) ∈ wt := wt_t 946 (by decide +kernel) (by decide +kernel)
theorem lk_X5_94 : Cond.constant RX5 94 (-1000002) ∈ wt := wt_t 793 (by decide +kernel) (by decide +kernel)
theorem lk_X5_152 : Cond.constant RX5 152 (-1000005) ∈ wt := wt_t 859 (by decide +kernel) (by decide +kernel)
theorem lk_X5_156 : Cond.constant RX5 156 (99999) ∈ wt := wt_t 878 (by decide +kernel) (by decide +kernel)
theorem lk_X5_198 : Cond.constant RX5 198 (100000) ∈ wt := wt_t 966 (by decide +kernel) (by decide +kernel)
theorem lk_X5_211 : Cond.constant RX5 211 (-1000006) ∈ wt := wt_t 1010 (by decide +kernel) (by decide +kernel)
theorem lk_X5_223 : Cond.constant RX5 223 (1103515245) ∈ wt := wt_t 1031 (by decide +kernel) (by decide +kernel)
theorem lk_X5_313 : Cond.constant RX5 313 (-1000003) ∈ wt := wt_t 1118 (by decide +kernel) (by decide +kernel)
theorem lk_X5_314 : Cond.constant RX5 314 (-1000007) ∈ wt := wt_t 1123 (by decide +kernel) (by decide +kernel)
theorem lk_J6_265 : Cond.constant RJ6 265 (1431655765) ∈ wt := wt_t 253 (by decide +kernel) (by decide +kernel)
theorem lk_J6_266 : Cond.constant RJ6 266 (858993459) ∈ wt := wt_t 254 (by decide +kernel) (by decide +kernel)
theorem lk_J6_267 : Cond.constant RJ6 267 (252645135) ∈ wt := wt_t 255 (by decide +kernel) (by decide +kernel)

def Cvi (y : MethodName) (b : ByteArray) (maxL : Nat) (ret : Option FieldType) (n : Nat) : Prop := Cond.instanceMethod y ∈ wt ∧ Cond.selects y.cls y y ∈ wt ∧ Cond.initialized y.cls ∈ wt ∧ Cond.code y b maxL ret ∈ wt ∧ (y.cls ≠ "java/lang/invoke/MethodHandle" ∧ y.cls ≠ "java/lang/invoke/VarHandle" ∧ (parseMethodDescriptor y.desc).map (fun d => d.parameters.length) = some n)
def Cvs (y : MethodName) (b : ByteArray) (maxL : Nat) (ret : Option FieldType) (n : Nat) : Prop := Cond.static y ∈ wt ∧ Cond.initialized y.cls ∈ wt ∧ Cond.code y b maxL ret ∈ wt ∧ (y.cls ≠ "java/lang/invoke/MethodHandle" ∧ y.cls ≠ "java/lang/invoke/VarHandle" ∧ (parseMethodDescriptor y.desc).map (fun d => d.parameters.length) = some n)
theorem kv_X0_beNew : Cvi yX0_beNew cX0_beNew 2 none 1 := ⟨wt_t 217 (by decide +kernel) (by decide +kernel), wt_t 218 (by decide +kernel) (by decide +kernel), wt_t 3 (by decide +kernel) (by decide +kernel), wt_t 219 (by decide +kernel) (by decide +kernel), ⟨(by decide +kernel), (by decide +kernel), (by decide +kernel)⟩⟩
theorem kv_X0_take : Cvi yX0_take cX0_take 2 none 1 := ⟨wt_t 358 (by decide +kernel) (by decide +kernel), wt_t 359 (by decide +kernel) (by decide +kernel), wt_t 3 (by decide +kernel) (by decide +kernel), wt_t 360 (by decide +kernel) (by decide +kernel), ⟨(by decide +kernel), (by decide +kernel), (by decide +kernel)⟩⟩
theorem kv_X0_tell : Cvi yX0_tell cX0_tell 4 (some .int) 3 := ⟨wt_t 241 (by decide +kernel) (by decide +kernel), wt_t 242 (by decide +kernel) (by decide +kernel), wt_t 3 (by decide +kernel) (by decide +kernel), wt_t 243 (by decide +kernel) (by decide +kernel), ⟨(by decide +kernel), (by decide +kernel), (by decide +kernel)⟩⟩
theorem kv_X0_set : Cvi yX0_set cX0_set 3 none 2 := ⟨wt_t 287 (by decide +kernel) (by decide +kernel), wt_t 288 (by decide +kernel) (by decide +kernel), wt_t 3 (by decide +kernel) (by decide +kernel), wt_t 289 (by decide +kernel) (by decide +kernel), ⟨(by decide +kernel), (by decide +kernel), (by decide +kernel)⟩⟩
theorem kv_X0_countsAs : Cvi yX0_countsAs cX0_countsAs 2 (some .boolean) 1 := ⟨wt_t 615 (by decide +kernel) (by decide +kernel), wt_t 616 (by decide +kernel) (by decide +kernel), wt_t 3 (by decide +kernel) (by decide +kernel), wt_t 617 (by decide +kernel) (by decide +kernel), ⟨(by decide +kernel), (by decide +kernel), (by decide +kernel)⟩⟩
theorem kv_X0_gladdens : Cvi yX0_gladdens cX0_gladdens 1 (some .int) 0 := ⟨wt_t 245 (by decide +kernel) (by decide +kernel), wt_t 246 (by decide +kernel) (by decide +kernel), wt_t 3 (by decide +kernel) (by decide +kernel), wt_t 247 (by decide +kernel) (by decide +kernel), ⟨(by decide +kernel), (by decide +kernel), (by decide +kernel)⟩⟩
theorem kv_X0_tires : Cvi yX0_tires cX0_tires 2 (some .int) 1 := ⟨wt_t 257 (by decide +kernel) (by decide +kernel), wt_t 258 (by decide +kernel) (by decide +kernel), wt_t 3 (by decide +kernel) (by decide +kernel), wt_t 259 (by decide +kernel) (by decide +kernel), ⟨(by decide +kernel), (by decide +kernel), (by decide +kernel)⟩⟩
theorem kv_X0_bears : Cvi yX0_bears cX0_bears 1 (some .int) 0 := ⟨wt_t 263 (by decide +kernel) (by decide +kernel), wt_t 264 (by decide +kernel) (by decide +kernel), wt_t 3 (by decide +kernel) (by decide +kernel), wt_t 265 (by decide +kernel) (by decide +kernel), ⟨(by decide +kernel), (by decide +kernel), (by decide +kernel)⟩⟩
theorem kv_X0_falls : Cvi yX0_falls cX0_falls 2 (some .int) 1 := ⟨wt_t 269 (by decide +kernel) (by decide +kernel), wt_t 270 (by decide +kernel) (by decide +kernel), wt_t 3 (by decide +kernel) (by decide +kernel), wt_t 271 (by decide +kernel) (by decide +kernel), ⟨(by decide +kernel), (by decide +kernel), (by decide +kernel)⟩⟩
theorem kv_X0_rises : Cvi yX0_rises cX0_rises 1 (some .int) 0 := ⟨wt_t 275 (by decide +kernel) (by decide +kernel), wt_t 276 (by decide +kernel) (by decide +kernel), wt_t 3 (by decide +kernel) (by decide +kernel), wt_t 277 (by decide +kernel) (by decide +kernel), ⟨(by decide +kernel), (by decide +kernel), (by decide +kernel)⟩⟩
theorem kv_X0_getPulled : Cvi yX0_getPulled cX0_getPulled 2 none 1 := ⟨wt_t 295 (by decide +kernel) (by decide +kernel), wt_t 296 (by decide +kernel) (by decide +kernel), wt_t 3 (by decide +kernel) (by decide +kernel), wt_t 297 (by decide +kernel) (by decide +kernel), ⟨(by decide +kernel), (by decide +kernel), (by decide +kernel)⟩⟩
theorem kv_X0_passBeat : Cvi yX0_passBeat cX0_passBeat 5 (some .boolean) 2 := ⟨wt_t 317 (by decide +kernel) (by decide +kernel), wt_t 318 (by decide +kernel) (by decide +kernel), wt_t 3 (by decide +kernel) (by decide +kernel), wt_t 319 (by decide +kernel) (by decide +kernel), ⟨(by decide +kernel), (by decide +kernel), (by decide +kernel)⟩⟩
theorem kv_X0_feel : Cvi yX0_feel cX0_feel 2 none 1 := ⟨wt_t 322 (by decide +kernel) (by decide +kernel), wt_p 2 (by decide +kernel) (by decide +kernel), wt_t 3 (by decide +kernel) (by decide +kernel), wt_t 323 (by decide +kernel) (by decide +kernel), ⟨(by decide +kernel), (by decide +kernel), (by decide +kernel)⟩⟩
theorem kv_X0_comeDown : Cvi yX0_comeDown cX0_comeDown 2 none 1 := ⟨wt_t 326 (by decide +kernel) (by decide +kernel), wt_p 3 (by decide +kernel) (by decide +kernel), wt_t 3 (by decide +kernel) (by decide +kernel), wt_t 327 (by decide +kernel) (by decide +kernel), ⟨(by decide +kernel), (by decide +kernel), (by decide +kernel)⟩⟩
theorem kv_X1_take : Cvi yX1_take cX1_take 3 none 1 := ⟨wt_t 371 (by decide +kernel) (by decide +kernel), wt_t 372 (by decide +kernel) (by decide +kernel), wt_t 2 (by decide +kernel) (by decide +kernel), wt_t 373 (by decide +kernel) (by decide +kernel), ⟨(by decide +kernel), (by decide +kernel), (by decide +kernel)⟩⟩
theorem kv_X1_isFull : Cvi yX1_isFull cX1_isFull 1 (some .boolean) 0 := ⟨wt_t 209 (by decide +kernel) (by decide +kernel), wt_t 210 (by decide +kernel) (by decide +kernel), wt_t 2 (by decide +kernel) (by decide +kernel), wt_t 211 (by decide +kernel) (by decide +kernel), ⟨(by decide +kernel), (by decide +kernel), (by decide +kernel)⟩⟩
theorem kv_X1_hang : Cvi yX1_hang cX1_hang 3 (some (.object "CurtainHouse$Curtain")) 1 := ⟨wt_t 213 (by decide +kernel) (by decide +kernel), wt_t 214 (by decide +kernel) (by decide +kernel), wt_t 2 (by decide +kernel) (by decide +kernel), wt_t 215 (by decide +kernel) (by decide +kernel), ⟨(by decide +kernel), (by decide +kernel), (by decide +kernel)⟩⟩
theorem kv_X1_placeIn : Cvi yX1_placeIn cX1_placeIn 2 (some .int) 1 := ⟨wt_t 233 (by decide +kernel) (by decide +kernel), wt_t 234 (by decide +kernel) (by decide +kernel), wt_t 2 (by decide +kernel) (by decide +kernel), wt_t 235 (by decide +kernel) (by decide +kernel), ⟨(by decide +kernel), (by decide +kernel), (by decide +kernel)⟩⟩
theorem kv_X1_sceneIn : Cvi yX1_sceneIn cX1_sceneIn 2 (some .int) 1 := ⟨wt_t 229 (by decide +kernel) (by decide +kernel), wt_t 230 (by decide +kernel) (by decide +kernel), wt_t 2 (by decide +kernel) (by decide +kernel), wt_t 231 (by decide +kernel) (by decide +kernel), ⟨(by decide +kernel), (by decide +kernel), (by decide +kernel)⟩⟩
theorem kv_X1_passBeats : Cvi yX1_passBeats cX1_passBeats 3 none 1 := ⟨wt_t 308 (by decide +kernel) (by decide +kernel), wt_t 309 (by decide +kernel) (by decide +kernel), wt_t 2 (by decide +kernel) (by decide +kernel), wt_t 310 (by decide +kernel) (by decide +kernel), ⟨(by decide +kernel), (by decide +kernel), (by decide +kernel)⟩⟩
theorem kv_X1_passBeat : Cvi yX1_passBeat cX1_passBeat 3 none 0 := ⟨wt_t 312 (by decide +kernel) (by decide +kernel), wt_t 313 (by decide +kernel) (by decide +kernel), wt_t 2 (by decide +kernel) (by decide +kernel), wt_t 314 (by decide +kernel) (by decide +kernel), ⟨(by decide +kernel), (by decide +kernel), (by decide +kernel)⟩⟩
theorem kv_X1_tellDown : Cvi yX1_tellDown cX1_tellDown 1 none 0 := ⟨wt_t 330 (by decide +kernel) (by decide +kernel), wt_p 4 (by decide +kernel) (by decide +kernel), wt_t 2 (by decide +kernel) (by decide +kernel), wt_t 331 (by decide +kernel) (by decide +kernel), ⟨(by decide +kernel), (by decide +kernel), (by decide +kernel)⟩⟩
theorem kv_X1_draw : Cvi yX1_draw cX1_draw 1 (some .int) 0 := ⟨wt_t 458 (by decide +kernel) (by decide +kernel), wt_t 459 (by decide +kernel) (by decide +kernel), wt_t 2 (by decide +kernel) (by decide +kernel), wt_t 460 (by decide +kernel) (by decide +kernel), ⟨(by decide +kernel), (by decide +kernel), (by decide +kernel)⟩⟩
theorem kv_X1_thoseDown : Cvi yX1_thoseDown cX1_thoseDown 3 (some .int) 0 := ⟨wt_t 337 (by decide +kernel) (by decide +kernel), wt_t 338 (by decide +kernel) (by decide +kernel), wt_t 2 (by decide +kernel) (by decide +kernel), wt_t 339 (by decide +kernel) (by decide +kernel), ⟨(by decide +kernel), (by decide +kernel), (by decide +kernel)⟩⟩
theorem kv_X1_thoseWeary : Cvi yX1_thoseWeary cX1_thoseWeary 3 (some .int) 0 := ⟨wt_t 341 (by decide +kernel) (by decide +kernel), wt_t 342 (by decide +kernel) (by decide +kernel), wt_t 2 (by decide +kernel) (by decide +kernel), wt_t 343 (by decide +kernel) (by decide +kernel), ⟨(by decide +kernel), (by decide +kernel), (by decide +kernel)⟩⟩
theorem kv_X1_allMoods : Cvi yX1_allMoods cX1_allMoods 3 (some .int) 0 := ⟨wt_t 346 (by decide +kernel) (by decide +kernel), wt_t 347 (by decide +kernel) (by decide +kernel), wt_t 2 (by decide +kernel) (by decide +kernel), wt_t 348 (by decide +kernel) (by decide +kernel), ⟨(by decide +kernel), (by decide +kernel), (by decide +kernel)⟩⟩
theorem kv_X1_allLikes : Cvi yX1_allLikes cX1_allLikes 3 (some .int) 0 := ⟨wt_t 350 (by decide +kernel) (by decide +kernel), wt_t 351 (by decide +kernel) (by decide +kernel), wt_t 2 (by decide +kernel) (by decide +kernel), wt_t 352 (by decide +kernel) (by decide +kernel), ⟨(by decide +kernel), (by decide +kernel), (by decide +kernel)⟩⟩
theorem kv_X1_isPleasedBy : Cvi yX1_isPleasedBy cX1_isPleasedBy 4 (some .boolean) 1 := ⟨wt_t 426 (by decide +kernel) (by decide +kernel), wt_t 427 (by decide +kernel) (by decide +kernel), wt_t 2 (by decide +kernel) (by decide +kernel), wt_t 428 (by decide +kernel) (by decide +kernel), ⟨(by decide +kernel), (by decide +kernel), (by decide +kernel)⟩⟩
theorem kv_X1_heldSpots : Cvi yX1_heldSpots cX1_heldSpots 6 (some .int) 0 := ⟨wt_t 670 (by decide +kernel) (by decide +kernel), wt_t 671 (by decide +kernel) (by decide +kernel), wt_t 2 (by decide +kernel) (by decide +kernel), wt_t 672 (by decide +kernel) (by decide +kernel), ⟨(by decide +kernel), (by decide +kernel), (by decide +kernel)⟩⟩
theorem kv_X2_isMissing : Cvi yX2_isMissing cX2_isMissing 1 (some .boolean) 0 := ⟨wt_t 441 (by decide +kernel) (by decide +kernel), wt_t 442 (by decide +kernel) (by decide +kernel), wt_t 5 (by decide +kernel) (by decide +kernel), wt_t 443 (by decide +kernel) (by decide +kernel), ⟨(by decide +kernel), (by decide +kernel), (by decide +kernel)⟩⟩
theorem kv_X2_lay : Cvi yX2_lay cX2_lay 4 none 2 := ⟨wt_t 625 (by decide +kernel) (by decide +kernel), wt_t 626 (by decide +kernel) (by decide +kernel), wt_t 5 (by decide +kernel) (by decide +kernel), wt_t 627 (by decide +kernel) (by decide +kernel), ⟨(by decide +kernel), (by decide +kernel), (by decide +kernel)⟩⟩
theorem kv_X2_put : Cvi yX2_put cX2_put 3 none 2 := ⟨wt_t 633 (by decide +kernel) (by decide +kernel), wt_t 634 (by decide +kernel) (by decide +kernel), wt_t 5 (by decide +kernel) (by decide +kernel), wt_t 635 (by decide +kernel) (by decide +kernel), ⟨(by decide +kernel), (by decide +kernel), (by decide +kernel)⟩⟩
theorem kv_X2_has : Cvi yX2_has cX2_has 3 (some .boolean) 2 := ⟨wt_t 641 (by decide +kernel) (by decide +kernel), wt_t 642 (by decide +kernel) (by decide +kernel), wt_t 5 (by decide +kernel) (by decide +kernel), wt_t 643 (by decide +kernel) (by decide +kernel), ⟨(by decide +kernel), (by decide +kernel), (by decide +kernel)⟩⟩
theorem kv_X3_add : Cvi yX3_add cX3_add 2 none 1 := ⟨wt_t 478 (by decide +kernel) (by decide +kernel), wt_t 479 (by decide +kernel) (by decide +kernel), wt_t 4 (by decide +kernel) (by decide +kernel), wt_t 480 (by decide +kernel) (by decide +kernel), ⟨(by decide +kernel), (by decide +kernel), (by decide +kernel)⟩⟩
theorem kv_X3_readInto : Cvi yX3_readInto cX3_readInto 5 (some .int) 1 := ⟨wt_t 490 (by decide +kernel) (by decide +kernel), wt_t 491 (by decide +kernel) (by decide +kernel), wt_t 4 (by decide +kernel) (by decide +kernel), wt_t 492 (by decide +kernel) (by decide +kernel), ⟨(by decide +kernel), (by decide +kernel), (by decide +kernel)⟩⟩
theorem kv_X3_readOther : Cvi yX3_readOther cX3_readOther 2 (some .boolean) 1 := ⟨wt_t 570 (by decide +kernel) (by decide +kernel), wt_p 13 (by decide +kernel) (by decide +kernel), wt_t 4 (by decide +kernel) (by decide +kernel), wt_t 571 (by decide +kernel) (by decide +kernel), ⟨(by decide +kernel), (by decide +kernel), (by decide +kernel)⟩⟩
theorem kv_X3_readCurtain : Cvi yX3_readCurtain cX3_readCurtain 4 (some .boolean) 2 := ⟨wt_t 589 (by decide +kernel) (by decide +kernel), wt_p 17 (by decide +kernel) (by decide +kernel), wt_t 4 (by decide +kernel) (by decide +kernel), wt_t 590 (by decide +kernel) (by decide +kernel), ⟨(by decide +kernel), (by decide +kernel), (by decide +kernel)⟩⟩
theorem kv_X3_readPart : Cvi yX3_readPart cX3_readPart 5 (some .boolean) 3 := ⟨wt_t 596 (by decide +kernel) (by decide +kernel), wt_p 18 (by decide +kernel) (by decide +kernel), wt_t 4 (by decide +kernel) (by decide +kernel), wt_t 597 (by decide +kernel) (by decide +kernel), ⟨(by decide +kernel), (by decide +kernel), (by decide +kernel)⟩⟩
theorem kv_X3_readScene : Cvi yX3_readScene cX3_readScene 4 (some .boolean) 1 := ⟨wt_t 579 (by decide +kernel) (by decide +kernel), wt_p 15 (by decide +kernel) (by decide +kernel), wt_t 4 (by decide +kernel) (by decide +kernel), wt_t 580 (by decide +kernel) (by decide +kernel), ⟨(by decide +kernel), (by decide +kernel), (by decide +kernel)⟩⟩
theorem kv_X3_kindAtHand : Cvi yX3_kindAtHand cX3_kindAtHand 1 (some .int) 0 := ⟨wt_t 507 (by decide +kernel) (by decide +kernel), wt_p 11 (by decide +kernel) (by decide +kernel), wt_t 4 (by decide +kernel) (by decide +kernel), wt_t 508 (by decide +kernel) (by decide +kernel), ⟨(by decide +kernel), (by decide +kernel), (by decide +kernel)⟩⟩
theorem kv_X3_isWord : Cvi yX3_isWord cX3_isWord 3 (some .boolean) 1 := ⟨wt_t 512 (by decide +kernel) (by decide +kernel), wt_p 12 (by decide +kernel) (by decide +kernel), wt_t 4 (by decide +kernel) (by decide +kernel), wt_t 513 (by decide +kernel) (by decide +kernel), ⟨(by decide +kernel), (by decide +kernel), (by decide +kernel)⟩⟩
theorem kv_X3_takeWord : Cvi yX3_takeWord cX3_takeWord 3 (some .boolean) 1 := ⟨wt_t 575 (by decide +kernel) (by decide +kernel), wt_p 14 (by decide +kernel) (by decide +kernel), wt_t 4 (by decide +kernel) (by decide +kernel), wt_t 576 (by decide +kernel) (by decide +kernel), ⟨(by decide +kernel), (by decide +kernel), (by decide +kernel)⟩⟩
theorem kv_X3_takeNumber : Cvi yX3_takeNumber cX3_takeNumber 3 (some .int) 1 := ⟨wt_t 583 (by decide +kernel) (by decide +kernel), wt_p 16 (by decide +kernel) (by decide +kernel), wt_t 4 (by decide +kernel) (by decide +kernel), wt_t 584 (by decide +kernel) (by decide +kernel), ⟨(by decide +kernel), (by decide +kernel), (by decide +kernel)⟩⟩
theorem kv_X3_step : Cvi yX3_step cX3_step 1 none 0 := ⟨wt_t 495 (by decide +kernel) (by decide +kernel), wt_p 9 (by decide +kernel) (by decide +kernel), wt_t 4 (by decide +kernel) (by decide +kernel), wt_t 496 (by decide +kernel) (by decide +kernel), ⟨(by decide +kernel), (by decide +kernel), (by decide +kernel)⟩⟩
theorem kv_X3_tokenBegunBy : Cvs yX3_tokenBegunBy cX3_tokenBegunBy 1 (some .int) 1 := ⟨wt_t 498 (by decide +kernel) (by decide +kernel), wt_t 4 (by decide +kernel) (by decide +kernel), wt_t 499 (by decide +kernel) (by decide +kernel), ⟨(by decide +kernel), (by decide +kernel), (by decide +kernel)⟩⟩
theorem kv_X3_valueAtHand : Cvi yX3_valueAtHand cX3_valueAtHand 3 (some .int) 0 := ⟨wt_t 503 (by decide +kernel) (by decide +kernel), wt_p 10 (by decide +kernel) (by decide +kernel), wt_t 4 (by decide +kernel) (by decide +kernel), wt_t 504 (by decide +kernel) (by decide +kernel), ⟨(by decide +kernel), (by decide +kernel), (by decide +kernel)⟩⟩
theorem kv_X4_fire : Cvi yX4_fire cX4_fire 3 (some .int) 1 := ⟨wt_t 179 (by decide +kernel) (by decide +kernel), wt_t 180 (by decide +kernel) (by decide +kernel), wt_t 1 (by decide +kernel) (by decide +kernel), wt_t 181 (by decide +kernel) (by decide +kernel), ⟨(by decide +kernel), (by decide +kernel), (by decide +kernel)⟩⟩
theorem kv_X4_scene : Cvi yX4_scene cX4_scene 4 (some .int) 2 := ⟨wt_t 191 (by decide +kernel) (by decide +kernel), wt_t 192 (by decide +kernel) (by decide +kernel), wt_t 1 (by decide +kernel) (by decide +kernel), wt_t 193 (by decide +kernel) (by decide +kernel), ⟨(by decide +kernel), (by decide +kernel), (by decide +kernel)⟩⟩
theorem kv_X4_listed : Cvi yX4_listed cX4_listed 2 (some .int) 1 := ⟨wt_t 198 (by decide +kernel) (by decide +kernel), wt_t 199 (by decide +kernel) (by decide +kernel), wt_t 1 (by decide +kernel) (by decide +kernel), wt_t 200 (by decide +kernel) (by decide +kernel), ⟨(by decide +kernel), (by decide +kernel), (by decide +kernel)⟩⟩
theorem kv_X4_curtain : Cvi yX4_curtain cX4_curtain 3 (some .int) 2 := ⟨wt_t 202 (by decide +kernel) (by decide +kernel), wt_t 203 (by decide +kernel) (by decide +kernel), wt_t 1 (by decide +kernel) (by decide +kernel), wt_t 204 (by decide +kernel) (by decide +kernel), ⟨(by decide +kernel), (by decide +kernel), (by decide +kernel)⟩⟩
theorem kv_X4_of : Cvi yX4_of cX4_of 3 (some .int) 2 := ⟨wt_t 221 (by decide +kernel) (by decide +kernel), wt_t 222 (by decide +kernel) (by decide +kernel), wt_t 1 (by decide +kernel) (by decide +kernel), wt_t 223 (by decide +kernel) (by decide +kernel), ⟨(by decide +kernel), (by decide +kernel), (by decide +kernel)⟩⟩
theorem kv_X4_change : Cvi yX4_change cX4_change 6 (some .int) 3 := ⟨wt_t 281 (by decide +kernel) (by decide +kernel), wt_t 282 (by decide +kernel) (by decide +kernel), wt_t 1 (by decide +kernel) (by decide +kernel), wt_t 283 (by decide +kernel) (by decide +kernel), ⟨(by decide +kernel), (by decide +kernel), (by decide +kernel)⟩⟩
theorem kv_X4_pull : Cvi yX4_pull cX4_pull 4 (some .int) 2 := ⟨wt_t 291 (by decide +kernel) (by decide +kernel), wt_t 292 (by decide +kernel) (by decide +kernel), wt_t 1 (by decide +kernel) (by decide +kernel), wt_t 293 (by decide +kernel) (by decide +kernel), ⟨(by decide +kernel), (by decide +kernel), (by decide +kernel)⟩⟩
theorem kv_X4_go : Cvi yX4_go cX4_go 2 (some .int) 1 := ⟨wt_t 303 (by decide +kernel) (by decide +kernel), wt_t 304 (by decide +kernel) (by decide +kernel), wt_t 1 (by decide +kernel) (by decide +kernel), wt_t 305 (by decide +kernel) (by decide +kernel), ⟨(by decide +kernel), (by decide +kernel), (by decide +kernel)⟩⟩
theorem kv_X4_now : Cvi yX4_now cX4_now 2 (some .int) 1 := ⟨wt_t 333 (by decide +kernel) (by decide +kernel), wt_t 334 (by decide +kernel) (by decide +kernel), wt_t 1 (by decide +kernel) (by decide +kernel), wt_t 335 (by decide +kernel) (by decide +kernel), ⟨(by decide +kernel), (by decide +kernel), (by decide +kernel)⟩⟩
theorem kv_X4_ahead : Cvi yX4_ahead cX4_ahead 5 (some .int) 3 := ⟨wt_t 354 (by decide +kernel) (by decide +kernel), wt_t 355 (by decide +kernel) (by decide +kernel), wt_t 1 (by decide +kernel) (by decide +kernel), wt_t 356 (by decide +kernel) (by decide +kernel), ⟨(by decide +kernel), (by decide +kernel), (by decide +kernel)⟩⟩
theorem kv_X4_cut : Cvi yX4_cut cX4_cut 2 (some .int) 1 := ⟨wt_t 367 (by decide +kernel) (by decide +kernel), wt_t 368 (by decide +kernel) (by decide +kernel), wt_t 1 (by decide +kernel) (by decide +kernel), wt_t 369 (by decide +kernel) (by decide +kernel), ⟨(by decide +kernel), (by decide +kernel), (by decide +kernel)⟩⟩
theorem kv_X4_down : Cvi yX4_down cX4_down 2 (some .int) 1 := ⟨wt_t 379 (by decide +kernel) (by decide +kernel), wt_t 380 (by decide +kernel) (by decide +kernel), wt_t 1 (by decide +kernel) (by decide +kernel), wt_t 381 (by decide +kernel) (by decide +kernel), ⟨(by decide +kernel), (by decide +kernel), (by decide +kernel)⟩⟩
theorem kv_X4_up : Cvi yX4_up cX4_up 2 (some .int) 1 := ⟨wt_t 387 (by decide +kernel) (by decide +kernel), wt_t 388 (by decide +kernel) (by decide +kernel), wt_t 1 (by decide +kernel) (by decide +kernel), wt_t 389 (by decide +kernel) (by decide +kernel), ⟨(by decide +kernel), (by decide +kernel), (by decide +kernel)⟩⟩
theorem kv_X4_weary : Cvi yX4_weary cX4_weary 3 (some .int) 2 := ⟨wt_t 391 (by decide +kernel) (by decide +kernel), wt_t 392 (by decide +kernel) (by decide +kernel), wt_t 1 (by decide +kernel) (by decide +kernel), wt_t 393 (by decide +kernel) (by decide +kernel), ⟨(by decide +kernel), (by decide +kernel), (by decide +kernel)⟩⟩
theorem kv_X4_saved : Cvi yX4_saved cX4_saved 3 (some .int) 1 := ⟨wt_t 395 (by decide +kernel) (by decide +kernel), wt_t 396 (by decide +kernel) (by decide +kernel), wt_t 1 (by decide +kernel) (by decide +kernel), wt_t 397 (by decide +kernel) (by decide +kernel), ⟨(by decide +kernel), (by decide +kernel), (by decide +kernel)⟩⟩
theorem kv_X4_sceneFor : Cvi yX4_sceneFor cX4_sceneFor 6 (some .int) 2 := ⟨wt_t 400 (by decide +kernel) (by decide +kernel), wt_t 401 (by decide +kernel) (by decide +kernel), wt_t 1 (by decide +kernel) (by decide +kernel), wt_t 402 (by decide +kernel) (by decide +kernel), ⟨(by decide +kernel), (by decide +kernel), (by decide +kernel)⟩⟩
theorem kv_X4_kindFor : Cvi yX4_kindFor cX4_kindFor 6 (some .int) 2 := ⟨wt_t 405 (by decide +kernel) (by decide +kernel), wt_t 406 (by decide +kernel) (by decide +kernel), wt_t 1 (by decide +kernel) (by decide +kernel), wt_t 407 (by decide +kernel) (by decide +kernel), ⟨(by decide +kernel), (by decide +kernel), (by decide +kernel)⟩⟩
theorem kv_X4_moodFor : Cvi yX4_moodFor cX4_moodFor 5 (some .int) 2 := ⟨wt_t 409 (by decide +kernel) (by decide +kernel), wt_t 410 (by decide +kernel) (by decide +kernel), wt_t 1 (by decide +kernel) (by decide +kernel), wt_t 411 (by decide +kernel) (by decide +kernel), ⟨(by decide +kernel), (by decide +kernel), (by decide +kernel)⟩⟩
theorem kv_X4_handsFor : Cvi yX4_handsFor cX4_handsFor 5 (some .int) 2 := ⟨wt_t 413 (by decide +kernel) (by decide +kernel), wt_t 414 (by decide +kernel) (by decide +kernel), wt_t 1 (by decide +kernel) (by decide +kernel), wt_t 415 (by decide +kernel) (by decide +kernel), ⟨(by decide +kernel), (by decide +kernel), (by decide +kernel)⟩⟩
theorem kv_X4_tie : Cvi yX4_tie cX4_tie 5 (some .int) 1 := ⟨wt_t 417 (by decide +kernel) (by decide +kernel), wt_t 418 (by decide +kernel) (by decide +kernel), wt_t 1 (by decide +kernel) (by decide +kernel), wt_t 419 (by decide +kernel) (by decide +kernel), ⟨(by decide +kernel), (by decide +kernel), (by decide +kernel)⟩⟩
theorem kv_X4_please : Cvi yX4_please cX4_please 5 (some .int) 0 := ⟨wt_t 421 (by decide +kernel) (by decide +kernel), wt_t 422 (by decide +kernel) (by decide +kernel), wt_t 1 (by decide +kernel) (by decide +kernel), wt_t 423 (by decide +kernel) (by decide +kernel), ⟨(by decide +kernel), (by decide +kernel), (by decide +kernel)⟩⟩
theorem kv_X4_fits : Cvi yX4_fits cX4_fits 7 (some .int) 2 := ⟨wt_t 430 (by decide +kernel) (by decide +kernel), wt_t 431 (by decide +kernel) (by decide +kernel), wt_t 1 (by decide +kernel) (by decide +kernel), wt_t 432 (by decide +kernel) (by decide +kernel), ⟨(by decide +kernel), (by decide +kernel), (by decide +kernel)⟩⟩
theorem kv_X4_kinds : Cvi yX4_kinds cX4_kinds 6 (some .int) 2 := ⟨wt_t 450 (by decide +kernel) (by decide +kernel), wt_t 451 (by decide +kernel) (by decide +kernel), wt_t 1 (by decide +kernel) (by decide +kernel), wt_t 452 (by decide +kernel) (by decide +kernel), ⟨(by decide +kernel), (by decide +kernel), (by decide +kernel)⟩⟩
theorem kv_X4_evening : Cvi yX4_evening cX4_evening 5 (some .int) 1 := ⟨wt_t 454 (by decide +kernel) (by decide +kernel), wt_t 455 (by decide +kernel) (by decide +kernel), wt_t 1 (by decide +kernel) (by decide +kernel), wt_t 456 (by decide +kernel) (by decide +kernel), ⟨(by decide +kernel), (by decide +kernel), (by decide +kernel)⟩⟩
theorem kv_X4_odds : Cvi yX4_odds cX4_odds 9 (some .long) 3 := ⟨wt_t 463 (by decide +kernel) (by decide +kernel), wt_t 464 (by decide +kernel) (by decide +kernel), wt_t 1 (by decide +kernel) (by decide +kernel), wt_t 465 (by decide +kernel) (by decide +kernel), ⟨(by decide +kernel), (by decide +kernel), (by decide +kernel)⟩⟩
theorem kv_X4_seed : Cvi yX4_seed cX4_seed 3 (some .int) 1 := ⟨wt_t 470 (by decide +kernel) (by decide +kernel), wt_t 471 (by decide +kernel) (by decide +kernel), wt_t 1 (by decide +kernel) (by decide +kernel), wt_t 472 (by decide +kernel) (by decide +kernel), ⟨(by decide +kernel), (by decide +kernel), (by decide +kernel)⟩⟩
theorem kv_X4_feed : Cvi yX4_feed cX4_feed 4 (some .int) 2 := ⟨wt_t 474 (by decide +kernel) (by decide +kernel), wt_t 475 (by decide +kernel) (by decide +kernel), wt_t 1 (by decide +kernel) (by decide +kernel), wt_t 476 (by decide +kernel) (by decide +kernel), ⟨(by decide +kernel), (by decide +kernel), (by decide +kernel)⟩⟩
theorem kv_X4_wipe : Cvi yX4_wipe cX4_wipe 2 (some .int) 0 := ⟨wt_t 482 (by decide +kernel) (by decide +kernel), wt_t 483 (by decide +kernel) (by decide +kernel), wt_t 1 (by decide +kernel) (by decide +kernel), wt_t 484 (by decide +kernel) (by decide +kernel), ⟨(by decide +kernel), (by decide +kernel), (by decide +kernel)⟩⟩
theorem kv_X4_text : Cvi yX4_text cX4_text 2 (some .int) 0 := ⟨wt_t 486 (by decide +kernel) (by decide +kernel), wt_t 487 (by decide +kernel) (by decide +kernel), wt_t 1 (by decide +kernel) (by decide +kernel), wt_t 488 (by decide +kernel) (by decide +kernel), ⟨(by decide +kernel), (by decide +kernel), (by decide +kernel)⟩⟩
theorem kv_X4_hold : Cvi yX4_hold cX4_hold 3 (some .int) 2 := ⟨wt_t 604 (by decide +kernel) (by decide +kernel), wt_t 605 (by decide +kernel) (by decide +kernel), wt_t 1 (by decide +kernel) (by decide +kernel), wt_t 606 (by decide +kernel) (by decide +kernel), ⟨(by decide +kernel), (by decide +kernel), (by decide +kernel)⟩⟩
theorem kv_X4_as : Cvi yX4_as cX4_as 4 (some .int) 2 := ⟨wt_t 611 (by decide +kernel) (by decide +kernel), wt_t 612 (by decide +kernel) (by decide +kernel), wt_t 1 (by decide +kernel) (by decide +kernel), wt_t 613 (by decide +kernel) (by decide +kernel), ⟨(by decide +kernel), (by decide +kernel), (by decide +kernel)⟩⟩
theorem kv_X4_sheet : Cvi yX4_sheet cX4_sheet 4 (some .int) 3 := ⟨wt_t 621 (by decide +kernel) (by decide +kernel), wt_t 622 (by decide +kernel) (by decide +kernel), wt_t 1 (by decide +kernel) (by decide +kernel), wt_t 623 (by decide +kernel) (by decide +kernel), ⟨(by decide +kernel), (by decide +kernel), (by decide +kernel)⟩⟩
theorem kv_X4_write : Cvi yX4_write cX4_write 4 (some .int) 3 := ⟨wt_t 629 (by decide +kernel) (by decide +kernel), wt_t 630 (by decide +kernel) (by decide +kernel), wt_t 1 (by decide +kernel) (by decide +kernel), wt_t 631 (by decide +kernel) (by decide +kernel), ⟨(by decide +kernel), (by decide +kernel), (by decide +kernel)⟩⟩
theorem kv_X4_copy : Cvi yX4_copy cX4_copy 8 (some .int) 5 := ⟨wt_t 637 (by decide +kernel) (by decide +kernel), wt_t 638 (by decide +kernel) (by decide +kernel), wt_t 1 (by decide +kernel) (by decide +kernel), wt_t 639 (by decide +kernel) (by decide +kernel), ⟨(by decide +kernel), (by decide +kernel), (by decide +kernel)⟩⟩
theorem kv_X4_load : Cvi yX4_load cX4_load 4 (some .int) 1 := ⟨wt_t 646 (by decide +kernel) (by decide +kernel), wt_t 647 (by decide +kernel) (by decide +kernel), wt_t 1 (by decide +kernel) (by decide +kernel), wt_t 648 (by decide +kernel) (by decide +kernel), ⟨(by decide +kernel), (by decide +kernel), (by decide +kernel)⟩⟩
theorem kv_X4_judge : Cvi yX4_judge cX4_judge 4 (some .int) 1 := ⟨wt_t 650 (by decide +kernel) (by decide +kernel), wt_t 651 (by decide +kernel) (by decide +kernel), wt_t 1 (by decide +kernel) (by decide +kernel), wt_t 652 (by decide +kernel) (by decide +kernel), ⟨(by decide +kernel), (by decide +kernel), (by decide +kernel)⟩⟩
theorem kv_X4_image : Cvi yX4_image cX4_image 1 (some .int) 0 := ⟨wt_t 654 (by decide +kernel) (by decide +kernel), wt_t 655 (by decide +kernel) (by decide +kernel), wt_t 1 (by decide +kernel) (by decide +kernel), wt_t 656 (by decide +kernel) (by decide +kernel), ⟨(by decide +kernel), (by decide +kernel), (by decide +kernel)⟩⟩
theorem kv_X4_undo : Cvi yX4_undo cX4_undo 1 (some .int) 0 := ⟨wt_t 658 (by decide +kernel) (by decide +kernel), wt_t 659 (by decide +kernel) (by decide +kernel), wt_t 1 (by decide +kernel) (by decide +kernel), wt_t 660 (by decide +kernel) (by decide +kernel), ⟨(by decide +kernel), (by decide +kernel), (by decide +kernel)⟩⟩
theorem kv_X4_tear : Cvi yX4_tear cX4_tear 2 (some .int) 0 := ⟨wt_t 662 (by decide +kernel) (by decide +kernel), wt_t 663 (by decide +kernel) (by decide +kernel), wt_t 1 (by decide +kernel) (by decide +kernel), wt_t 664 (by decide +kernel) (by decide +kernel), ⟨(by decide +kernel), (by decide +kernel), (by decide +kernel)⟩⟩
theorem kv_X4_count : Cvi yX4_count cX4_count 2 (some .int) 1 := ⟨wt_t 666 (by decide +kernel) (by decide +kernel), wt_t 667 (by decide +kernel) (by decide +kernel), wt_t 1 (by decide +kernel) (by decide +kernel), wt_t 668 (by decide +kernel) (by decide +kernel), ⟨(by decide +kernel), (by decide +kernel), (by decide +kernel)⟩⟩
theorem kv_X4_status : Cvi yX4_status cX4_status 4 (some .int) 1 := ⟨wt_t 674 (by decide +kernel) (by decide +kernel), wt_t 675 (by decide +kernel) (by decide +kernel), wt_t 1 (by decide +kernel) (by decide +kernel), wt_t 676 (by decide +kernel) (by decide +kernel), ⟨(by decide +kernel), (by decide +kernel), (by decide +kernel)⟩⟩
theorem kv_X4_find : Cvi yX4_find cX4_find 2 (some .int) 1 := ⟨wt_t 187 (by decide +kernel) (by decide +kernel), wt_p 0 (by decide +kernel) (by decide +kernel), wt_t 1 (by decide +kernel) (by decide +kernel), wt_t 188 (by decide +kernel) (by decide +kernel), ⟨(by decide +kernel), (by decide +kernel), (by decide +kernel)⟩⟩
theorem kv_X4_isWithin : Cvs yX4_isWithin cX4_isWithin 3 (some .boolean) 3 := ⟨wt_t 183 (by decide +kernel) (by decide +kernel), wt_t 1 (by decide +kernel) (by decide +kernel), wt_t 184 (by decide +kernel) (by decide +kernel), ⟨(by decide +kernel), (by decide +kernel), (by decide +kernel)⟩⟩
theorem kv_X4_isKind : Cvs yX4_isKind cX4_isKind 1 (some .boolean) 1 := ⟨wt_t 206 (by decide +kernel) (by decide +kernel), wt_t 1 (by decide +kernel) (by decide +kernel), wt_t 207 (by decide +kernel) (by decide +kernel), ⟨(by decide +kernel), (by decide +kernel), (by decide +kernel)⟩⟩
theorem kv_X4_isPlace : Cvs yX4_isPlace cX4_isPlace 1 (some .boolean) 1 := ⟨wt_t 195 (by decide +kernel) (by decide +kernel), wt_t 1 (by decide +kernel) (by decide +kernel), wt_t 196 (by decide +kernel) (by decide +kernel), ⟨(by decide +kernel), (by decide +kernel), (by decide +kernel)⟩⟩
theorem kv_X4_isSpot : Cvs yX4_isSpot cX4_isSpot 1 (some .boolean) 1 := ⟨wt_t 608 (by decide +kernel) (by decide +kernel), wt_t 1 (by decide +kernel) (by decide +kernel), wt_t 609 (by decide +kernel) (by decide +kernel), ⟨(by decide +kernel), (by decide +kernel), (by decide +kernel)⟩⟩
theorem kv_X4_isSheet : Cvs yX4_isSheet cX4_isSheet 1 (some .boolean) 1 := ⟨wt_t 438 (by decide +kernel) (by decide +kernel), wt_t 1 (by decide +kernel) (by decide +kernel), wt_t 439 (by decide +kernel) (by decide +kernel), ⟨(by decide +kernel), (by decide +kernel), (by decide +kernel)⟩⟩
theorem kv_X4_isCurtain : Cvi yX4_isCurtain cX4_isCurtain 2 (some .boolean) 1 := ⟨wt_t 226 (by decide +kernel) (by decide +kernel), wt_p 1 (by decide +kernel) (by decide +kernel), wt_t 1 (by decide +kernel) (by decide +kernel), wt_t 227 (by decide +kernel) (by decide +kernel), ⟨(by decide +kernel), (by decide +kernel), (by decide +kernel)⟩⟩
theorem kv_X4_passProbe : Cvi yX4_passProbe cX4_passProbe 4 (some .int) 1 := ⟨wt_t 363 (by decide +kernel) (by decide +kernel), wt_p 5 (by decide +kernel) (by decide +kernel), wt_t 1 (by decide +kernel) (by decide +kernel), wt_t 364 (by decide +kernel) (by decide +kernel), ⟨(by decide +kernel), (by decide +kernel), (by decide +kernel)⟩⟩
theorem kv_X4_beatsUntil : Cvi yX4_beatsUntil cX4_beatsUntil 7 (some .int) 4 := ⟨wt_t 384 (by decide +kernel) (by decide +kernel), wt_p 6 (by decide +kernel) (by decide +kernel), wt_t 1 (by decide +kernel) (by decide +kernel), wt_t 385 (by decide +kernel) (by decide +kernel), ⟨(by decide +kernel), (by decide +kernel), (by decide +kernel)⟩⟩
theorem kv_X4_findingForTold : Cvi yX4_findingForTold cX4_findingForTold 3 (some .int) 2 := ⟨wt_t 435 (by decide +kernel) (by decide +kernel), wt_p 7 (by decide +kernel) (by decide +kernel), wt_t 1 (by decide +kernel) (by decide +kernel), wt_t 436 (by decide +kernel) (by decide +kernel), ⟨(by decide +kernel), (by decide +kernel), (by decide +kernel)⟩⟩
theorem kv_X4_isProbeAsTold : Cvi yX4_isProbeAsTold cX4_isProbeAsTold 3 (some .boolean) 1 := ⟨wt_t 447 (by decide +kernel) (by decide +kernel), wt_p 8 (by decide +kernel) (by decide +kernel), wt_t 1 (by decide +kernel) (by decide +kernel), wt_t 448 (by decide +kernel) (by decide +kernel), ⟨(by decide +kernel), (by decide +kernel), (by decide +kernel)⟩⟩
theorem kv_X4_commonDivisorWithScenes : Cvs yX4_commonDivisorWithScenes cX4_commonDivisorWithScenes 2 (some .int) 1 := ⟨wt_t 467 (by decide +kernel) (by decide +kernel), wt_t 1 (by decide +kernel) (by decide +kernel), wt_t 468 (by decide +kernel) (by decide +kernel), ⟨(by decide +kernel), (by decide +kernel), (by decide +kernel)⟩⟩
theorem kv_X5_finding : Cvi yX5_finding cX5_finding 2 (some .int) 1 := ⟨wt_t 767 (by decide +kernel) (by decide +kernel), wt_p 20 (by decide +kernel) (by decide +kernel), wt_t 6 (by decide +kernel) (by decide +kernel), wt_t 768 (by decide +kernel) (by decide +kernel), ⟨(by decide +kernel), (by decide +kernel), (by decide +kernel)⟩⟩
theorem kv_X5_within : Cvs yX5_within cX5_within 3 (some .boolean) 3 := ⟨wt_t 758 (by decide +kernel) (by decide +kernel), wt_t 6 (by decide +kernel) (by decide +kernel), wt_t 759 (by decide +kernel) (by decide +kernel), ⟨(by decide +kernel), (by decide +kernel), (by decide +kernel)⟩⟩
theorem kv_X5_become : Cvi yX5_become cX5_become 4 (some .int) 2 := ⟨wt_t 762 (by decide +kernel) (by decide +kernel), wt_p 19 (by decide +kernel) (by decide +kernel), wt_t 6 (by decide +kernel) (by decide +kernel), wt_t 763 (by decide +kernel) (by decide +kernel), ⟨(by decide +kernel), (by decide +kernel), (by decide +kernel)⟩⟩
theorem kv_X5_copyRow : Cvs yX5_copyRow cX5_copyRow 3 none 2 := ⟨wt_t 920 (by decide +kernel) (by decide +kernel), wt_t 6 (by decide +kernel) (by decide +kernel), wt_t 921 (by decide +kernel) (by decide +kernel), ⟨(by decide +kernel), (by decide +kernel), (by decide +kernel)⟩⟩
theorem kv_X5_putBack : Cvi yX5_putBack cX5_putBack 2 (some .int) 1 := ⟨wt_t 924 (by decide +kernel) (by decide +kernel), wt_p 43 (by decide +kernel) (by decide +kernel), wt_t 6 (by decide +kernel) (by decide +kernel), wt_t 925 (by decide +kernel) (by decide +kernel), ⟨(by decide +kernel), (by decide +kernel), (by decide +kernel)⟩⟩
theorem kv_X5_orNone : Cvi yX5_orNone cX5_orNone 2 (some .int) 1 := ⟨wt_t 944 (by decide +kernel) (by decide +kernel), wt_p 46 (by decide +kernel) (by decide +kernel), wt_t 6 (by decide +kernel) (by decide +kernel), wt_t 945 (by decide +kernel) (by decide +kernel), ⟨(by decide +kernel), (by decide +kernel), (by decide +kernel)⟩⟩
theorem kv_X5_bits : Cvs yX5_bits cX5_bits 3 (some .int) 1 := ⟨wt_t 822 (by decide +kernel) (by decide +kernel), wt_t 6 (by decide +kernel) (by decide +kernel), wt_t 823 (by decide +kernel) (by decide +kernel), ⟨(by decide +kernel), (by decide +kernel), (by decide +kernel)⟩⟩
theorem kv_X5_isSet : Cvs yX5_isSet cX5_isSet 1 (some .boolean) 1 := ⟨wt_t 791 (by decide +kernel) (by decide +kernel), wt_t 6 (by decide +kernel) (by decide +kernel), wt_t 792 (by decide +kernel) (by decide +kernel), ⟨(by decide +kernel), (by decide +kernel), (by decide +kernel)⟩⟩
theorem kv_X5_isScene : Cvs yX5_isScene cX5_isScene 1 (some .boolean) 1 := ⟨wt_t 777 (by decide +kernel) (by decide +kernel), wt_t 6 (by decide +kernel) (by decide +kernel), wt_t 778 (by decide +kernel) (by decide +kernel), ⟨(by decide +kernel), (by decide +kernel), (by decide +kernel)⟩⟩
theorem kv_X5_fire : Cvi yX5_fire cX5_fire 2 (some .int) 1 := ⟨wt_t 754 (by decide +kernel) (by decide +kernel), wt_t 755 (by decide +kernel) (by decide +kernel), wt_t 6 (by decide +kernel) (by decide +kernel), wt_t 756 (by decide +kernel) (by decide +kernel), ⟨(by decide +kernel), (by decide +kernel), (by decide +kernel)⟩⟩
theorem kv_X5_isPlace : Cvs yX5_isPlace cX5_isPlace 1 (some .boolean) 1 := ⟨wt_t 774 (by decide +kernel) (by decide +kernel), wt_t 6 (by decide +kernel) (by decide +kernel), wt_t 775 (by decide +kernel) (by decide +kernel), ⟨(by decide +kernel), (by decide +kernel), (by decide +kernel)⟩⟩
theorem kv_X5_scene : Cvi yX5_scene cX5_scene 3 (some .int) 2 := ⟨wt_t 770 (by decide +kernel) (by decide +kernel), wt_t 771 (by decide +kernel) (by decide +kernel), wt_t 6 (by decide +kernel) (by decide +kernel), wt_t 772 (by decide +kernel) (by decide +kernel), ⟨(by decide +kernel), (by decide +kernel), (by decide +kernel)⟩⟩
theorem kv_X5_listed : Cvi yX5_listed cX5_listed 2 (some .int) 1 := ⟨wt_t 780 (by decide +kernel) (by decide +kernel), wt_t 781 (by decide +kernel) (by decide +kernel), wt_t 6 (by decide +kernel) (by decide +kernel), wt_t 782 (by decide +kernel) (by decide +kernel), ⟨(by decide +kernel), (by decide +kernel), (by decide +kernel)⟩⟩
theorem kv_X5_placeNow : Cvi yX5_placeNow cX5_placeNow 1 (some .int) 0 := ⟨wt_t 826 (by decide +kernel) (by decide +kernel), wt_p 26 (by decide +kernel) (by decide +kernel), wt_t 6 (by decide +kernel) (by decide +kernel), wt_t 827 (by decide +kernel) (by decide +kernel), ⟨(by decide +kernel), (by decide +kernel), (by decide +kernel)⟩⟩
theorem kv_X5_curtainAt : Cvs yX5_curtainAt cX5_curtainAt 2 (some .int) 2 := ⟨wt_t 799 (by decide +kernel) (by decide +kernel), wt_t 6 (by decide +kernel) (by decide +kernel), wt_t 800 (by decide +kernel) (by decide +kernel), ⟨(by decide +kernel), (by decide +kernel), (by decide +kernel)⟩⟩
theorem kv_X5_curtainIs : Cvi yX5_curtainIs cX5_curtainIs 3 (some .int) 2 := ⟨wt_t 819 (by decide +kernel) (by decide +kernel), wt_p 25 (by decide +kernel) (by decide +kernel), wt_t 6 (by decide +kernel) (by decide +kernel), wt_t 820 (by decide +kernel) (by decide +kernel), ⟨(by decide +kernel), (by decide +kernel), (by decide +kernel)⟩⟩
theorem kv_X5_isCurtain : Cvi yX5_isCurtain cX5_isCurtain 2 (some .boolean) 1 := ⟨wt_t 807 (by decide +kernel) (by decide +kernel), wt_p 22 (by decide +kernel) (by decide +kernel), wt_t 6 (by decide +kernel) (by decide +kernel), wt_t 808 (by decide +kernel) (by decide +kernel), ⟨(by decide +kernel), (by decide +kernel), (by decide +kernel)⟩⟩
theorem kv_X5_isKind : Cvs yX5_isKind cX5_isKind 1 (some .boolean) 1 := ⟨wt_t 788 (by decide +kernel) (by decide +kernel), wt_t 6 (by decide +kernel) (by decide +kernel), wt_t 789 (by decide +kernel) (by decide +kernel), ⟨(by decide +kernel), (by decide +kernel), (by decide +kernel)⟩⟩
theorem kv_X5_comes : Cvi yX5_comes cX5_comes 5 (some .int) 2 := ⟨wt_t 796 (by decide +kernel) (by decide +kernel), wt_p 21 (by decide +kernel) (by decide +kernel), wt_t 6 (by decide +kernel) (by decide +kernel), wt_t 797 (by decide +kernel) (by decide +kernel), ⟨(by decide +kernel), (by decide +kernel), (by decide +kernel)⟩⟩
theorem kv_X5_curtain : Cvi yX5_curtain cX5_curtain 3 (some .int) 2 := ⟨wt_t 784 (by decide +kernel) (by decide +kernel), wt_t 785 (by decide +kernel) (by decide +kernel), wt_t 6 (by decide +kernel) (by decide +kernel), wt_t 786 (by decide +kernel) (by decide +kernel), ⟨(by decide +kernel), (by decide +kernel), (by decide +kernel)⟩⟩
theorem kv_X5_gladdens : Cvi yX5_gladdens cX5_gladdens 2 (some .int) 1 := ⟨wt_t 815 (by decide +kernel) (by decide +kernel), wt_p 24 (by decide +kernel) (by decide +kernel), wt_t 6 (by decide +kernel) (by decide +kernel), wt_t 816 (by decide +kernel) (by decide +kernel), ⟨(by decide +kernel), (by decide +kernel), (by decide +kernel)⟩⟩
theorem kv_X5_tires : Cvi yX5_tires cX5_tires 3 (some .int) 2 := ⟨wt_t 830 (by decide +kernel) (by decide +kernel), wt_p 27 (by decide +kernel) (by decide +kernel), wt_t 6 (by decide +kernel) (by decide +kernel), wt_t 831 (by decide +kernel) (by decide +kernel), ⟨(by decide +kernel), (by decide +kernel), (by decide +kernel)⟩⟩
theorem kv_X5_bears : Cvi yX5_bears cX5_bears 2 (some .int) 1 := ⟨wt_t 834 (by decide +kernel) (by decide +kernel), wt_p 28 (by decide +kernel) (by decide +kernel), wt_t 6 (by decide +kernel) (by decide +kernel), wt_t 835 (by decide +kernel) (by decide +kernel), ⟨(by decide +kernel), (by decide +kernel), (by decide +kernel)⟩⟩
theorem kv_X5_falls : Cvi yX5_falls cX5_falls 2 (some .int) 1 := ⟨wt_t 838 (by decide +kernel) (by decide +kernel), wt_p 29 (by decide +kernel) (by decide +kernel), wt_t 6 (by decide +kernel) (by decide +kernel), wt_t 839 (by decide +kernel) (by decide +kernel), ⟨(by decide +kernel), (by decide +kernel), (by decide +kernel)⟩⟩
theorem kv_X5_rises : Cvi yX5_rises cX5_rises 2 (some .int) 1 := ⟨wt_t 842 (by decide +kernel) (by decide +kernel), wt_p 30 (by decide +kernel) (by decide +kernel), wt_t 6 (by decide +kernel) (by decide +kernel), wt_t 843 (by decide +kernel) (by decide +kernel), ⟨(by decide +kernel), (by decide +kernel), (by decide +kernel)⟩⟩
theorem kv_X5_told : Cvi yX5_told cX5_told 3 (some .int) 2 := ⟨wt_t 811 (by decide +kernel) (by decide +kernel), wt_p 23 (by decide +kernel) (by decide +kernel), wt_t 6 (by decide +kernel) (by decide +kernel), wt_t 812 (by decide +kernel) (by decide +kernel), ⟨(by decide +kernel), (by decide +kernel), (by decide +kernel)⟩⟩
theorem kv_X5_of : Cvi yX5_of cX5_of 3 (some .int) 2 := ⟨wt_t 802 (by decide +kernel) (by decide +kernel), wt_t 803 (by decide +kernel) (by decide +kernel), wt_t 6 (by decide +kernel) (by decide +kernel), wt_t 804 (by decide +kernel) (by decide +kernel), ⟨(by decide +kernel), (by decide +kernel), (by decide +kernel)⟩⟩
theorem kv_X5_isField : Cvs yX5_isField cX5_isField 2 (some .boolean) 2 := ⟨wt_t 849 (by decide +kernel) (by decide +kernel), wt_t 6 (by decide +kernel) (by decide +kernel), wt_t 850 (by decide +kernel) (by decide +kernel), ⟨(by decide +kernel), (by decide +kernel), (by decide +kernel)⟩⟩
theorem kv_X5_change : Cvi yX5_change cX5_change 4 (some .int) 3 := ⟨wt_t 845 (by decide +kernel) (by decide +kernel), wt_t 846 (by decide +kernel) (by decide +kernel), wt_t 6 (by decide +kernel) (by decide +kernel), wt_t 847 (by decide +kernel) (by decide +kernel), ⟨(by decide +kernel), (by decide +kernel), (by decide +kernel)⟩⟩
theorem kv_X5_more : Cvi yX5_more cX5_more 4 none 3 := ⟨wt_t 866 (by decide +kernel) (by decide +kernel), wt_p 33 (by decide +kernel) (by decide +kernel), wt_t 6 (by decide +kernel) (by decide +kernel), wt_t 867 (by decide +kernel) (by decide +kernel), ⟨(by decide +kernel), (by decide +kernel), (by decide +kernel)⟩⟩
theorem kv_X5_less : Cvi yX5_less cX5_less 3 none 2 := ⟨wt_t 871 (by decide +kernel) (by decide +kernel), wt_p 34 (by decide +kernel) (by decide +kernel), wt_t 6 (by decide +kernel) (by decide +kernel), wt_t 872 (by decide +kernel) (by decide +kernel), ⟨(by decide +kernel), (by decide +kernel), (by decide +kernel)⟩⟩
theorem kv_X5_pulled : Cvi yX5_pulled cX5_pulled 3 (some .int) 2 := ⟨wt_t 862 (by decide +kernel) (by decide +kernel), wt_p 32 (by decide +kernel) (by decide +kernel), wt_t 6 (by decide +kernel) (by decide +kernel), wt_t 863 (by decide +kernel) (by decide +kernel), ⟨(by decide +kernel), (by decide +kernel), (by decide +kernel)⟩⟩
theorem kv_X5_isTied : Cvi yX5_isTied cX5_isTied 2 (some .boolean) 1 := ⟨wt_t 857 (by decide +kernel) (by decide +kernel), wt_p 31 (by decide +kernel) (by decide +kernel), wt_t 6 (by decide +kernel) (by decide +kernel), wt_t 858 (by decide +kernel) (by decide +kernel), ⟨(by decide +kernel), (by decide +kernel), (by decide +kernel)⟩⟩
theorem kv_X5_pull : Cvi yX5_pull cX5_pull 3 (some .int) 2 := ⟨wt_t 852 (by decide +kernel) (by decide +kernel), wt_t 853 (by decide +kernel) (by decide +kernel), wt_t 6 (by decide +kernel) (by decide +kernel), wt_t 854 (by decide +kernel) (by decide +kernel), ⟨(by decide +kernel), (by decide +kernel), (by decide +kernel)⟩⟩
theorem kv_X5_comesDown : Cvi yX5_comesDown cX5_comesDown 2 none 1 := ⟨wt_t 893 (by decide +kernel) (by decide +kernel), wt_p 38 (by decide +kernel) (by decide +kernel), wt_t 6 (by decide +kernel) (by decide +kernel), wt_t 894 (by decide +kernel) (by decide +kernel), ⟨(by decide +kernel), (by decide +kernel), (by decide +kernel)⟩⟩
theorem kv_X5_plays : Cvi yX5_plays cX5_plays 4 none 2 := ⟨wt_t 889 (by decide +kernel) (by decide +kernel), wt_p 37 (by decide +kernel) (by decide +kernel), wt_t 6 (by decide +kernel) (by decide +kernel), wt_t 890 (by decide +kernel) (by decide +kernel), ⟨(by decide +kernel), (by decide +kernel), (by decide +kernel)⟩⟩
theorem kv_X5_beat : Cvi yX5_beat cX5_beat 3 none 0 := ⟨wt_t 885 (by decide +kernel) (by decide +kernel), wt_p 36 (by decide +kernel) (by decide +kernel), wt_t 6 (by decide +kernel) (by decide +kernel), wt_t 886 (by decide +kernel) (by decide +kernel), ⟨(by decide +kernel), (by decide +kernel), (by decide +kernel)⟩⟩
theorem kv_X5_beatsGo : Cvi yX5_beatsGo cX5_beatsGo 3 none 1 := ⟨wt_t 881 (by decide +kernel) (by decide +kernel), wt_p 35 (by decide +kernel) (by decide +kernel), wt_t 6 (by decide +kernel) (by decide +kernel), wt_t 882 (by decide +kernel) (by decide +kernel), ⟨(by decide +kernel), (by decide +kernel), (by decide +kernel)⟩⟩
theorem kv_X5_go : Cvi yX5_go cX5_go 2 (some .int) 1 := ⟨wt_t 875 (by decide +kernel) (by decide +kernel), wt_t 876 (by decide +kernel) (by decide +kernel), wt_t 6 (by decide +kernel) (by decide +kernel), wt_t 877 (by decide +kernel) (by decide +kernel), ⟨(by decide +kernel), (by decide +kernel), (by decide +kernel)⟩⟩
theorem kv_X5_downOnes : Cvi yX5_downOnes cX5_downOnes 3 (some .int) 0 := ⟨wt_t 901 (by decide +kernel) (by decide +kernel), wt_p 39 (by decide +kernel) (by decide +kernel), wt_t 6 (by decide +kernel) (by decide +kernel), wt_t 902 (by decide +kernel) (by decide +kernel), ⟨(by decide +kernel), (by decide +kernel), (by decide +kernel)⟩⟩
theorem kv_X5_wearyOnes : Cvi yX5_wearyOnes cX5_wearyOnes 3 (some .int) 0 := ⟨wt_t 905 (by decide +kernel) (by decide +kernel), wt_p 40 (by decide +kernel) (by decide +kernel), wt_t 6 (by decide +kernel) (by decide +kernel), wt_t 906 (by decide +kernel) (by decide +kernel), ⟨(by decide +kernel), (by decide +kernel), (by decide +kernel)⟩⟩
theorem kv_X5_moods : Cvi yX5_moods cX5_moods 3 (some .int) 0 := ⟨wt_t 909 (by decide +kernel) (by decide +kernel), wt_p 41 (by decide +kernel) (by decide +kernel), wt_t 6 (by decide +kernel) (by decide +kernel), wt_t 910 (by decide +kernel) (by decide +kernel), ⟨(by decide +kernel), (by decide +kernel), (by decide +kernel)⟩⟩
theorem kv_X5_liked : Cvi yX5_liked cX5_liked 3 (some .int) 0 := ⟨wt_t 913 (by decide +kernel) (by decide +kernel), wt_p 42 (by decide +kernel) (by decide +kernel), wt_t 6 (by decide +kernel) (by decide +kernel), wt_t 914 (by decide +kernel) (by decide +kernel), ⟨(by decide +kernel), (by decide +kernel), (by decide +kernel)⟩⟩
theorem kv_X5_now : Cvi yX5_now cX5_now 2 (some .int) 1 := ⟨wt_t 896 (by decide +kernel) (by decide +kernel), wt_t 897 (by decide +kernel) (by decide +kernel), wt_t 6 (by decide +kernel) (by decide +kernel), wt_t 898 (by decide +kernel) (by decide +kernel), ⟨(by decide +kernel), (by decide +kernel), (by decide +kernel)⟩⟩
theorem kv_X5_behind : Cvi yX5_behind cX5_behind 3 (some .int) 2 := ⟨wt_t 932 (by decide +kernel) (by decide +kernel), wt_p 44 (by decide +kernel) (by decide +kernel), wt_t 6 (by decide +kernel) (by decide +kernel), wt_t 933 (by decide +kernel) (by decide +kernel), ⟨(by decide +kernel), (by decide +kernel), (by decide +kernel)⟩⟩
theorem kv_X5_ahead : Cvi yX5_ahead cX5_ahead 5 (some .int) 3 := ⟨wt_t 916 (by decide +kernel) (by decide +kernel), wt_t 917 (by decide +kernel) (by decide +kernel), wt_t 6 (by decide +kernel) (by decide +kernel), wt_t 918 (by decide +kernel) (by decide +kernel), ⟨(by decide +kernel), (by decide +kernel), (by decide +kernel)⟩⟩
theorem kv_X5_cut : Cvi yX5_cut cX5_cut 2 (some .int) 1 := ⟨wt_t 927 (by decide +kernel) (by decide +kernel), wt_t 928 (by decide +kernel) (by decide +kernel), wt_t 6 (by decide +kernel) (by decide +kernel), wt_t 929 (by decide +kernel) (by decide +kernel), ⟨(by decide +kernel), (by decide +kernel), (by decide +kernel)⟩⟩
theorem kv_X5_beatsTo : Cvi yX5_beatsTo cX5_beatsTo 5 (some .int) 3 := ⟨wt_t 940 (by decide +kernel) (by decide +kernel), wt_p 45 (by decide +kernel) (by decide +kernel), wt_t 6 (by decide +kernel) (by decide +kernel), wt_t 941 (by decide +kernel) (by decide +kernel), ⟨(by decide +kernel), (by decide +kernel), (by decide +kernel)⟩⟩
theorem kv_X5_down : Cvi yX5_down cX5_down 2 (some .int) 1 := ⟨wt_t 935 (by decide +kernel) (by decide +kernel), wt_t 936 (by decide +kernel) (by decide +kernel), wt_t 6 (by decide +kernel) (by decide +kernel), wt_t 937 (by decide +kernel) (by decide +kernel), ⟨(by decide +kernel), (by decide +kernel), (by decide +kernel)⟩⟩
theorem kv_X5_up : Cvi yX5_up cX5_up 2 (some .int) 1 := ⟨wt_t 948 (by decide +kernel) (by decide +kernel), wt_t 949 (by decide +kernel) (by decide +kernel), wt_t 6 (by decide +kernel) (by decide +kernel), wt_t 950 (by decide +kernel) (by decide +kernel), ⟨(by decide +kernel), (by decide +kernel), (by decide +kernel)⟩⟩
theorem kv_X5_weary : Cvi yX5_weary cX5_weary 3 (some .int) 2 := ⟨wt_t 952 (by decide +kernel) (by decide +kernel), wt_t 953 (by decide +kernel) (by decide +kernel), wt_t 6 (by decide +kernel) (by decide +kernel), wt_t 954 (by decide +kernel) (by decide +kernel), ⟨(by decide +kernel), (by decide +kernel), (by decide +kernel)⟩⟩
theorem kv_X5_saved : Cvi yX5_saved cX5_saved 2 (some .int) 1 := ⟨wt_t 956 (by decide +kernel) (by decide +kernel), wt_t 957 (by decide +kernel) (by decide +kernel), wt_t 6 (by decide +kernel) (by decide +kernel), wt_t 958 (by decide +kernel) (by decide +kernel), ⟨(by decide +kernel), (by decide +kernel), (by decide +kernel)⟩⟩
theorem kv_X5_isThought : Cvs yX5_isThought cX5_isThought 1 (some .boolean) 1 := ⟨wt_t 964 (by decide +kernel) (by decide +kernel), wt_t 6 (by decide +kernel) (by decide +kernel), wt_t 965 (by decide +kernel) (by decide +kernel), ⟨(by decide +kernel), (by decide +kernel), (by decide +kernel)⟩⟩
theorem kv_X5_sceneFor : Cvi yX5_sceneFor cX5_sceneFor 8 (some .int) 2 := ⟨wt_t 960 (by decide +kernel) (by decide +kernel), wt_t 961 (by decide +kernel) (by decide +kernel), wt_t 6 (by decide +kernel) (by decide +kernel), wt_t 962 (by decide +kernel) (by decide +kernel), ⟨(by decide +kernel), (by decide +kernel), (by decide +kernel)⟩⟩
theorem kv_X5_kindFor : Cvi yX5_kindFor cX5_kindFor 9 (some .int) 2 := ⟨wt_t 968 (by decide +kernel) (by decide +kernel), wt_t 969 (by decide +kernel) (by decide +kernel), wt_t 6 (by decide +kernel) (by decide +kernel), wt_t 970 (by decide +kernel) (by decide +kernel), ⟨(by decide +kernel), (by decide +kernel), (by decide +kernel)⟩⟩
theorem kv_X5_moodFor : Cvi yX5_moodFor cX5_moodFor 8 (some .int) 2 := ⟨wt_t 972 (by decide +kernel) (by decide +kernel), wt_t 973 (by decide +kernel) (by decide +kernel), wt_t 6 (by decide +kernel) (by decide +kernel), wt_t 974 (by decide +kernel) (by decide +kernel), ⟨(by decide +kernel), (by decide +kernel), (by decide +kernel)⟩⟩
theorem kv_X5_staysUp : Cvi yX5_staysUp cX5_staysUp 5 (some .boolean) 3 := ⟨wt_t 981 (by decide +kernel) (by decide +kernel), wt_p 47 (by decide +kernel) (by decide +kernel), wt_t 6 (by decide +kernel) (by decide +kernel), wt_t 982 (by decide +kernel) (by decide +kernel), ⟨(by decide +kernel), (by decide +kernel), (by decide +kernel)⟩⟩
theorem kv_X5_handsFor : Cvi yX5_handsFor cX5_handsFor 5 (some .int) 2 := ⟨wt_t 976 (by decide +kernel) (by decide +kernel), wt_t 977 (by decide +kernel) (by decide +kernel), wt_t 6 (by decide +kernel) (by decide +kernel), wt_t 978 (by decide +kernel) (by decide +kernel), ⟨(by decide +kernel), (by decide +kernel), (by decide +kernel)⟩⟩
theorem kv_X5_nothingIsCut : Cvi yX5_nothingIsCut cX5_nothingIsCut 5 (some .boolean) 2 := ⟨wt_t 989 (by decide +kernel) (by decide +kernel), wt_p 48 (by decide +kernel) (by decide +kernel), wt_t 6 (by decide +kernel) (by decide +kernel), wt_t 990 (by decide +kernel) (by decide +kernel), ⟨(by decide +kernel), (by decide +kernel), (by decide +kernel)⟩⟩
theorem kv_X5_tie : Cvi yX5_tie cX5_tie 4 (some .int) 1 := ⟨wt_t 984 (by decide +kernel) (by decide +kernel), wt_t 985 (by decide +kernel) (by decide +kernel), wt_t 6 (by decide +kernel) (by decide +kernel), wt_t 986 (by decide +kernel) (by decide +kernel), ⟨(by decide +kernel), (by decide +kernel), (by decide +kernel)⟩⟩
theorem kv_X5_pleases : Cvi yX5_pleases cX5_pleases 4 (some .boolean) 1 := ⟨wt_t 997 (by decide +kernel) (by decide +kernel), wt_p 49 (by decide +kernel) (by decide +kernel), wt_t 6 (by decide +kernel) (by decide +kernel), wt_t 998 (by decide +kernel) (by decide +kernel), ⟨(by decide +kernel), (by decide +kernel), (by decide +kernel)⟩⟩
theorem kv_X5_please : Cvi yX5_please cX5_please 3 (some .int) 0 := ⟨wt_t 992 (by decide +kernel) (by decide +kernel), wt_t 993 (by decide +kernel) (by decide +kernel), wt_t 6 (by decide +kernel) (by decide +kernel), wt_t 994 (by decide +kernel) (by decide +kernel), ⟨(by decide +kernel), (by decide +kernel), (by decide +kernel)⟩⟩
theorem kv_X5_lacks : Cvi yX5_lacks cX5_lacks 3 (some .int) 2 := ⟨wt_t 1005 (by decide +kernel) (by decide +kernel), wt_p 50 (by decide +kernel) (by decide +kernel), wt_t 6 (by decide +kernel) (by decide +kernel), wt_t 1006 (by decide +kernel) (by decide +kernel), ⟨(by decide +kernel), (by decide +kernel), (by decide +kernel)⟩⟩
theorem kv_X5_isSo : Cvi yX5_isSo cX5_isSo 6 (some .boolean) 2 := ⟨wt_t 1017 (by decide +kernel) (by decide +kernel), wt_p 52 (by decide +kernel) (by decide +kernel), wt_t 6 (by decide +kernel) (by decide +kernel), wt_t 1018 (by decide +kernel) (by decide +kernel), ⟨(by decide +kernel), (by decide +kernel), (by decide +kernel)⟩⟩
theorem kv_X5_fitting : Cvi yX5_fitting cX5_fitting 8 (some .int) 4 := ⟨wt_t 1013 (by decide +kernel) (by decide +kernel), wt_p 51 (by decide +kernel) (by decide +kernel), wt_t 6 (by decide +kernel) (by decide +kernel), wt_t 1014 (by decide +kernel) (by decide +kernel), ⟨(by decide +kernel), (by decide +kernel), (by decide +kernel)⟩⟩
theorem kv_X5_fits : Cvi yX5_fits cX5_fits 4 (some .int) 2 := ⟨wt_t 1000 (by decide +kernel) (by decide +kernel), wt_t 1001 (by decide +kernel) (by decide +kernel), wt_t 6 (by decide +kernel) (by decide +kernel), wt_t 1002 (by decide +kernel) (by decide +kernel), ⟨(by decide +kernel), (by decide +kernel), (by decide +kernel)⟩⟩
theorem kv_X5_kinds : Cvi yX5_kinds cX5_kinds 4 (some .int) 2 := ⟨wt_t 1020 (by decide +kernel) (by decide +kernel), wt_t 1021 (by decide +kernel) (by decide +kernel), wt_t 6 (by decide +kernel) (by decide +kernel), wt_t 1022 (by decide +kernel) (by decide +kernel), ⟨(by decide +kernel), (by decide +kernel), (by decide +kernel)⟩⟩
theorem kv_X5_drawn : Cvi yX5_drawn cX5_drawn 1 (some .int) 0 := ⟨wt_t 1029 (by decide +kernel) (by decide +kernel), wt_p 53 (by decide +kernel) (by decide +kernel), wt_t 6 (by decide +kernel) (by decide +kernel), wt_t 1030 (by decide +kernel) (by decide +kernel), ⟨(by decide +kernel), (by decide +kernel), (by decide +kernel)⟩⟩
theorem kv_X5_evening : Cvi yX5_evening cX5_evening 5 (some .int) 1 := ⟨wt_t 1024 (by decide +kernel) (by decide +kernel), wt_t 1025 (by decide +kernel) (by decide +kernel), wt_t 6 (by decide +kernel) (by decide +kernel), wt_t 1026 (by decide +kernel) (by decide +kernel), ⟨(by decide +kernel), (by decide +kernel), (by decide +kernel)⟩⟩
theorem kv_X5_odds : Cvi yX5_odds cX5_odds 10 (some .long) 3 := ⟨wt_t 1033 (by decide +kernel) (by decide +kernel), wt_t 1034 (by decide +kernel) (by decide +kernel), wt_t 6 (by decide +kernel) (by decide +kernel), wt_t 1035 (by decide +kernel) (by decide +kernel), ⟨(by decide +kernel), (by decide +kernel), (by decide +kernel)⟩⟩
theorem kv_X5_seed : Cvi yX5_seed cX5_seed 2 (some .int) 1 := ⟨wt_t 1037 (by decide +kernel) (by decide +kernel), wt_t 1038 (by decide +kernel) (by decide +kernel), wt_t 6 (by decide +kernel) (by decide +kernel), wt_t 1039 (by decide +kernel) (by decide +kernel), ⟨(by decide +kernel), (by decide +kernel), (by decide +kernel)⟩⟩
theorem kv_X5_feed : Cvi yX5_feed cX5_feed 4 (some .int) 2 := ⟨wt_t 1041 (by decide +kernel) (by decide +kernel), wt_t 1042 (by decide +kernel) (by decide +kernel), wt_t 6 (by decide +kernel) (by decide +kernel), wt_t 1043 (by decide +kernel) (by decide +kernel), ⟨(by decide +kernel), (by decide +kernel), (by decide +kernel)⟩⟩
theorem kv_X5_wipe : Cvi yX5_wipe cX5_wipe 2 (some .int) 0 := ⟨wt_t 1045 (by decide +kernel) (by decide +kernel), wt_t 1046 (by decide +kernel) (by decide +kernel), wt_t 6 (by decide +kernel) (by decide +kernel), wt_t 1047 (by decide +kernel) (by decide +kernel), ⟨(by decide +kernel), (by decide +kernel), (by decide +kernel)⟩⟩
theorem kv_X5_byteAt : Cvi yX5_byteAt cX5_byteAt 2 (some .int) 1 := ⟨wt_t 1058 (by decide +kernel) (by decide +kernel), wt_p 55 (by decide +kernel) (by decide +kernel), wt_t 6 (by decide +kernel) (by decide +kernel), wt_t 1059 (by decide +kernel) (by decide +kernel), ⟨(by decide +kernel), (by decide +kernel), (by decide +kernel)⟩⟩
theorem kv_X5_token : Cvi yX5_token cX5_token 2 none 0 := ⟨wt_t 1054 (by decide +kernel) (by decide +kernel), wt_p 54 (by decide +kernel) (by decide +kernel), wt_t 6 (by decide +kernel) (by decide +kernel), wt_t 1055 (by decide +kernel) (by decide +kernel), ⟨(by decide +kernel), (by decide +kernel), (by decide +kernel)⟩⟩
theorem kv_X5_isWord : Cvi yX5_isWord cX5_isWord 4 (some .boolean) 1 := ⟨wt_t 1066 (by decide +kernel) (by decide +kernel), wt_p 57 (by decide +kernel) (by decide +kernel), wt_t 6 (by decide +kernel) (by decide +kernel), wt_t 1067 (by decide +kernel) (by decide +kernel), ⟨(by decide +kernel), (by decide +kernel), (by decide +kernel)⟩⟩
theorem kv_X5_must : Cvi yX5_must cX5_must 2 none 1 := ⟨wt_t 1076 (by decide +kernel) (by decide +kernel), wt_p 59 (by decide +kernel) (by decide +kernel), wt_t 6 (by decide +kernel) (by decide +kernel), wt_t 1077 (by decide +kernel) (by decide +kernel), ⟨(by decide +kernel), (by decide +kernel), (by decide +kernel)⟩⟩
theorem kv_X5_number : Cvi yX5_number cX5_number 4 (some .int) 2 := ⟨wt_t 1085 (by decide +kernel) (by decide +kernel), wt_p 61 (by decide +kernel) (by decide +kernel), wt_t 6 (by decide +kernel) (by decide +kernel), wt_t 1086 (by decide +kernel) (by decide +kernel), ⟨(by decide +kernel), (by decide +kernel), (by decide +kernel)⟩⟩
theorem kv_X5_addItem : Cvi yX5_addItem cX5_addItem 7 none 5 := ⟨wt_t 1092 (by decide +kernel) (by decide +kernel), wt_p 62 (by decide +kernel) (by decide +kernel), wt_t 6 (by decide +kernel) (by decide +kernel), wt_t 1093 (by decide +kernel) (by decide +kernel), ⟨(by decide +kernel), (by decide +kernel), (by decide +kernel)⟩⟩
theorem kv_X5_takesWord : Cvi yX5_takesWord cX5_takesWord 3 (some .boolean) 1 := ⟨wt_t 1081 (by decide +kernel) (by decide +kernel), wt_p 60 (by decide +kernel) (by decide +kernel), wt_t 6 (by decide +kernel) (by decide +kernel), wt_t 1082 (by decide +kernel) (by decide +kernel), ⟨(by decide +kernel), (by decide +kernel), (by decide +kernel)⟩⟩
theorem kv_X5_readCurtain : Cvi yX5_readCurtain cX5_readCurtain 5 none 1 := ⟨wt_t 1072 (by decide +kernel) (by decide +kernel), wt_p 58 (by decide +kernel) (by decide +kernel), wt_t 6 (by decide +kernel) (by decide +kernel), wt_t 1073 (by decide +kernel) (by decide +kernel), ⟨(by decide +kernel), (by decide +kernel), (by decide +kernel)⟩⟩
theorem kv_X5_readItem : Cvi yX5_readItem cX5_readItem 3 none 0 := ⟨wt_t 1062 (by decide +kernel) (by decide +kernel), wt_p 56 (by decide +kernel) (by decide +kernel), wt_t 6 (by decide +kernel) (by decide +kernel), wt_t 1063 (by decide +kernel) (by decide +kernel), ⟨(by decide +kernel), (by decide +kernel), (by decide +kernel)⟩⟩
theorem kv_X5_isToldSo : Cvi yX5_isToldSo cX5_isToldSo 4 none 1 := ⟨wt_t 1099 (by decide +kernel) (by decide +kernel), wt_p 63 (by decide +kernel) (by decide +kernel), wt_t 6 (by decide +kernel) (by decide +kernel), wt_t 1100 (by decide +kernel) (by decide +kernel), ⟨(by decide +kernel), (by decide +kernel), (by decide +kernel)⟩⟩
theorem kv_X5_text : Cvi yX5_text cX5_text 2 (some .int) 0 := ⟨wt_t 1049 (by decide +kernel) (by decide +kernel), wt_t 1050 (by decide +kernel) (by decide +kernel), wt_t 6 (by decide +kernel) (by decide +kernel), wt_t 1051 (by decide +kernel) (by decide +kernel), ⟨(by decide +kernel), (by decide +kernel), (by decide +kernel)⟩⟩
theorem kv_X5_isSpot : Cvs yX5_isSpot cX5_isSpot 1 (some .boolean) 1 := ⟨wt_t 1106 (by decide +kernel) (by decide +kernel), wt_t 6 (by decide +kernel) (by decide +kernel), wt_t 1107 (by decide +kernel) (by decide +kernel), ⟨(by decide +kernel), (by decide +kernel), (by decide +kernel)⟩⟩
theorem kv_X5_hold : Cvi yX5_hold cX5_hold 3 (some .int) 2 := ⟨wt_t 1102 (by decide +kernel) (by decide +kernel), wt_t 1103 (by decide +kernel) (by decide +kernel), wt_t 6 (by decide +kernel) (by decide +kernel), wt_t 1104 (by decide +kernel) (by decide +kernel), ⟨(by decide +kernel), (by decide +kernel), (by decide +kernel)⟩⟩
theorem kv_X5_as : Cvi yX5_as cX5_as 4 (some .int) 2 := ⟨wt_t 1109 (by decide +kernel) (by decide +kernel), wt_t 1110 (by decide +kernel) (by decide +kernel), wt_t 6 (by decide +kernel) (by decide +kernel), wt_t 1111 (by decide +kernel) (by decide +kernel), ⟨(by decide +kernel), (by decide +kernel), (by decide +kernel)⟩⟩
theorem kv_X5_isSheet : Cvs yX5_isSheet cX5_isSheet 1 (some .boolean) 1 := ⟨wt_t 1008 (by decide +kernel) (by decide +kernel), wt_t 6 (by decide +kernel) (by decide +kernel), wt_t 1009 (by decide +kernel) (by decide +kernel), ⟨(by decide +kernel), (by decide +kernel), (by decide +kernel)⟩⟩
theorem kv_X5_cutTo : Cvs yX5_cutTo cX5_cutTo 2 (some .int) 2 := ⟨wt_t 1129 (by decide +kernel) (by decide +kernel), wt_t 6 (by decide +kernel) (by decide +kernel), wt_t 1130 (by decide +kernel) (by decide +kernel), ⟨(by decide +kernel), (by decide +kernel), (by decide +kernel)⟩⟩
theorem kv_X5_sheet : Cvi yX5_sheet cX5_sheet 5 (some .int) 3 := ⟨wt_t 1120 (by decide +kernel) (by decide +kernel), wt_t 1121 (by decide +kernel) (by decide +kernel), wt_t 6 (by decide +kernel) (by decide +kernel), wt_t 1122 (by decide +kernel) (by decide +kernel), ⟨(by decide +kernel), (by decide +kernel), (by decide +kernel)⟩⟩
theorem kv_X5_write : Cvi yX5_write cX5_write 4 (some .int) 3 := ⟨wt_t 1125 (by decide +kernel) (by decide +kernel), wt_t 1126 (by decide +kernel) (by decide +kernel), wt_t 6 (by decide +kernel) (by decide +kernel), wt_t 1127 (by decide +kernel) (by decide +kernel), ⟨(by decide +kernel), (by decide +kernel), (by decide +kernel)⟩⟩
theorem kv_X5_copy : Cvi yX5_copy cX5_copy 7 (some .int) 5 := ⟨wt_t 1132 (by decide +kernel) (by decide +kernel), wt_t 1133 (by decide +kernel) (by decide +kernel), wt_t 6 (by decide +kernel) (by decide +kernel), wt_t 1134 (by decide +kernel) (by decide +kernel), ⟨(by decide +kernel), (by decide +kernel), (by decide +kernel)⟩⟩
theorem kv_X5_above : Cvs yX5_above cX5_above 1 (some .int) 1 := ⟨wt_t 1116 (by decide +kernel) (by decide +kernel), wt_t 6 (by decide +kernel) (by decide +kernel), wt_t 1117 (by decide +kernel) (by decide +kernel), ⟨(by decide +kernel), (by decide +kernel), (by decide +kernel)⟩⟩
theorem kv_X5_isUnder : Cvs yX5_isUnder cX5_isUnder 3 (some .boolean) 2 := ⟨wt_t 1113 (by decide +kernel) (by decide +kernel), wt_t 6 (by decide +kernel) (by decide +kernel), wt_t 1114 (by decide +kernel) (by decide +kernel), ⟨(by decide +kernel), (by decide +kernel), (by decide +kernel)⟩⟩
theorem kv_X5_load : Cvi yX5_load cX5_load 3 (some .int) 1 := ⟨wt_t 1136 (by decide +kernel) (by decide +kernel), wt_t 1137 (by decide +kernel) (by decide +kernel), wt_t 6 (by decide +kernel) (by decide +kernel), wt_t 1138 (by decide +kernel) (by decide +kernel), ⟨(by decide +kernel), (by decide +kernel), (by decide +kernel)⟩⟩
theorem kv_X5_judge : Cvi yX5_judge cX5_judge 3 (some .int) 1 := ⟨wt_t 1140 (by decide +kernel) (by decide +kernel), wt_t 1141 (by decide +kernel) (by decide +kernel), wt_t 6 (by decide +kernel) (by decide +kernel), wt_t 1142 (by decide +kernel) (by decide +kernel), ⟨(by decide +kernel), (by decide +kernel), (by decide +kernel)⟩⟩
theorem kv_X5_image : Cvi yX5_image cX5_image 1 (some .int) 0 := ⟨wt_t 1144 (by decide +kernel) (by decide +kernel), wt_t 1145 (by decide +kernel) (by decide +kernel), wt_t 6 (by decide +kernel) (by decide +kernel), wt_t 1146 (by decide +kernel) (by decide +kernel), ⟨(by decide +kernel), (by decide +kernel), (by decide +kernel)⟩⟩
theorem kv_X5_undo : Cvi yX5_undo cX5_undo 1 (some .int) 0 := ⟨wt_t 1148 (by decide +kernel) (by decide +kernel), wt_t 1149 (by decide +kernel) (by decide +kernel), wt_t 6 (by decide +kernel) (by decide +kernel), wt_t 1150 (by decide +kernel) (by decide +kernel), ⟨(by decide +kernel), (by decide +kernel), (by decide +kernel)⟩⟩
theorem kv_X5_tear : Cvi yX5_tear cX5_tear 2 (some .int) 0 := ⟨wt_t 1152 (by decide +kernel) (by decide +kernel), wt_t 1153 (by decide +kernel) (by decide +kernel), wt_t 6 (by decide +kernel) (by decide +kernel), wt_t 1154 (by decide +kernel) (by decide +kernel), ⟨(by decide +kernel), (by decide +kernel), (by decide +kernel)⟩⟩
theorem kv_X5_count : Cvi yX5_count cX5_count 4 (some .int) 1 := ⟨wt_t 1156 (by decide +kernel) (by decide +kernel), wt_t 1157 (by decide +kernel) (by decide +kernel), wt_t 6 (by decide +kernel) (by decide +kernel), wt_t 1158 (by decide +kernel) (by decide +kernel), ⟨(by decide +kernel), (by decide +kernel), (by decide +kernel)⟩⟩
theorem kv_X5_status : Cvi yX5_status cX5_status 2 (some .int) 1 := ⟨wt_t 1160 (by decide +kernel) (by decide +kernel), wt_t 1161 (by decide +kernel) (by decide +kernel), wt_t 6 (by decide +kernel) (by decide +kernel), wt_t 1162 (by decide +kernel) (by decide +kernel), ⟨(by decide +kernel), (by decide +kernel), (by decide +kernel)⟩⟩
theorem kv_J6_bitCount_0f7a4 : Cvs yJ6_bitCount_0f7a4 cJ6_bitCount_0f7a4 1 (some .int) 1 := ⟨wt_t 251 (by decide +kernel) (by decide +kernel), wt_t 8 (by decide +kernel) (by decide +kernel), wt_t 252 (by decide +kernel) (by decide +kernel), ⟨(by decide +kernel), (by decide +kernel), (by decide +kernel)⟩⟩
theorem kv_J9_max_7cf53 : Cvs yJ9_max_7cf53 cJ9_max_7cf53 2 (some .int) 2 := ⟨wt_t 300 (by decide +kernel) (by decide +kernel), wt_t 7 (by decide +kernel) (by decide +kernel), wt_t 301 (by decide +kernel) (by decide +kernel), ⟨(by decide +kernel), (by decide +kernel), (by decide +kernel)⟩⟩
theorem kv_J9_min_7cf53 : Cvs yJ9_min_7cf53 cJ9_min_7cf53 2 (some .int) 2 := ⟨wt_t 238 (by decide +kernel) (by decide +kernel), wt_t 7 (by decide +kernel) (by decide +kernel), wt_t 239 (by decide +kernel) (by decide +kernel), ⟨(by decide +kernel), (by decide +kernel), (by decide +kernel)⟩⟩
theorem kv_J0_length_8abf5 : Cvi yJ0_length_8abf5 cJ0_length_8abf5 1 (some .int) 0 := ⟨wt_t 515 (by decide +kernel) (by decide +kernel), wt_t 516 (by decide +kernel) (by decide +kernel), wt_t 10 (by decide +kernel) (by decide +kernel), wt_t 517 (by decide +kernel) (by decide +kernel), ⟨(by decide +kernel), (by decide +kernel), (by decide +kernel)⟩⟩
theorem kv_J0_charAt_5068e : Cvi yJ0_charAt_5068e cJ0_charAt_5068e 2 (some .char) 1 := ⟨wt_t 525 (by decide +kernel) (by decide +kernel), wt_t 526 (by decide +kernel) (by decide +kernel), wt_t 10 (by decide +kernel) (by decide +kernel), wt_t 527 (by decide +kernel) (by decide +kernel), ⟨(by decide +kernel), (by decide +kernel), (by decide +kernel)⟩⟩
theorem kv_J0_coder_7d493 : Cvi yJ0_coder_7d493 cJ0_coder_7d493 1 (some .byte) 0 := ⟨wt_t 519 (by decide +kernel) (by decide +kernel), wt_t 520 (by decide +kernel) (by decide +kernel), wt_t 10 (by decide +kernel) (by decide +kernel), wt_t 521 (by decide +kernel) (by decide +kernel), ⟨(by decide +kernel), (by decide +kernel), (by decide +kernel)⟩⟩
theorem kv_J0_isLatin1_aae02 : Cvi yJ0_isLatin1_aae02 cJ0_isLatin1_aae02 1 (some .boolean) 0 := ⟨wt_t 529 (by decide +kernel) (by decide +kernel), wt_t 530 (by decide +kernel) (by decide +kernel), wt_t 10 (by decide +kernel) (by decide +kernel), wt_t 531 (by decide +kernel) (by decide +kernel), ⟨(by decide +kernel), (by decide +kernel), (by decide +kernel)⟩⟩
theorem kv_J0_checkIndex_df160 : Cvs yJ0_checkIndex_df160 cJ0_checkIndex_df160 2 none 2 := ⟨wt_t 536 (by decide +kernel) (by decide +kernel), wt_t 10 (by decide +kernel) (by decide +kernel), wt_t 537 (by decide +kernel) (by decide +kernel), ⟨(by decide +kernel), (by decide +kernel), (by decide +kernel)⟩⟩
theorem kv_J1_charAt_3b067 : Cvs yJ1_charAt_3b067 cJ1_charAt_3b067 2 (some .char) 2 := ⟨wt_t 533 (by decide +kernel) (by decide +kernel), wt_t 11 (by decide +kernel) (by decide +kernel), wt_t 534 (by decide +kernel) (by decide +kernel), ⟨(by decide +kernel), (by decide +kernel), (by decide +kernel)⟩⟩
theorem kv_J2_getChar_3b067 : Cvs yJ2_getChar_3b067 cJ2_getChar_3b067 2 (some .char) 2 := ⟨wt_t 554 (by decide +kernel) (by decide +kernel), wt_t 13 (by decide +kernel) (by decide +kernel), wt_t 555 (by decide +kernel) (by decide +kernel), ⟨(by decide +kernel), (by decide +kernel), (by decide +kernel)⟩⟩
theorem kv_J2_length_9d52b : Cvs yJ2_length_9d52b cJ2_length_9d52b 1 (some .int) 1 := ⟨wt_t 550 (by decide +kernel) (by decide +kernel), wt_t 13 (by decide +kernel) (by decide +kernel), wt_t 551 (by decide +kernel) (by decide +kernel), ⟨(by decide +kernel), (by decide +kernel), (by decide +kernel)⟩⟩
theorem kv_J2_charAt_3b067 : Cvs yJ2_charAt_3b067 cJ2_charAt_3b067 2 (some .char) 2 := ⟨wt_t 544 (by decide +kernel) (by decide +kernel), wt_t 13 (by decide +kernel) (by decide +kernel), wt_t 545 (by decide +kernel) (by decide +kernel), ⟨(by decide +kernel), (by decide +kernel), (by decide +kernel)⟩⟩
theorem kv_J2_checkIndex_2214a : Cvs yJ2_checkIndex_2214a cJ2_checkIndex_2214a 2 none 2 := ⟨wt_t 547 (by decide +kernel) (by decide +kernel), wt_t 13 (by decide +kernel) (by decide +kernel), wt_t 548 (by decide +kernel) (by decide +kernel), ⟨(by decide +kernel), (by decide +kernel), (by decide +kernel)⟩⟩
theorem kv_J3_checkIndex_8e157 : Cvs yJ3_checkIndex_8e157 cJ3_checkIndex_8e157 3 (some .int) 3 := ⟨wt_t 541 (by decide +kernel) (by decide +kernel), wt_t 12 (by decide +kernel) (by decide +kernel), wt_t 542 (by decide +kernel) (by decide +kernel), ⟨(by decide +kernel), (by decide +kernel), (by decide +kernel)⟩⟩
end
section
theorem dX0_init_0 : decode cX0_init 0 = .ok (.aload_n 0, 1) := by decide +kernel
theorem dX0_init_1 : decode cX0_init 1 = .ok (.invokespecial 3, 3) := by decide +kernel
theorem dX0_init_4 : decode cX0_init 4 = .ok (.return_, 1) := by decide +kernel
theorem dX0_beNew_0 : decode cX0_beNew 0 = .ok (.aload_n 0, 1) := by decide +kernel
theorem dX0_beNew_1 : decode cX0_beNew 1 = .ok (.iload_n 1, 1) := by decide +kernel
theorem dX0_beNew_2 : decode cX0_beNew 2 = .ok (.putfield 9, 3) := by decide +kernel
theorem dX0_beNew_5 : decode cX0_beNew 5 = .ok (.aload_n 0, 1) := by decide +kernel
theorem dX0_beNew_6 : decode cX0_beNew 6 = .ok (.bipush 60, 2) := by decide +kernel
theorem dX0_beNew_8 : decode cX0_beNew 8 = .ok (.putfield 15, 3) := by decide +kernel
theorem dX0_beNew_11 : decode cX0_beNew 11 = .ok (.aload_n 0, 1) := by decide +kernel
theorem dX0_beNew_12 : decode cX0_beNew 12 = .ok (.iconst 0, 1) := by decide +kernel
theorem dX0_beNew_13 : decode cX0_beNew 13 = .ok (.putfield 18, 3) := by decide +kernel
theorem dX0_beNew_16 : decode cX0_beNew 16 = .ok (.aload_n 0, 1) := by decide +kernel
theorem dX0_beNew_17 : decode cX0_beNew 17 = .ok (.bipush 20, 2) := by decide +kernel
theorem dX0_beNew_19 : decode cX0_beNew 19 = .ok (.putfield 21, 3) := by decide +kernel
theorem dX0_beNew_22 : decode cX0_beNew 22 = .ok (.aload_n 0, 1) := by decide +kernel
theorem dX0_beNew_23 : decode cX0_beNew 23 = .ok (.iconst 0, 1) := by decide +kernel
theorem dX0_beNew_24 : decode cX0_beNew 24 = .ok (.putfield 24, 3) := by decide +kernel
theorem dX0_beNew_27 : decode cX0_beNew 27 = .ok (.aload_n 0, 1) := by decide +kernel
theorem dX0_beNew_28 : decode cX0_beNew 28 = .ok (.iconst 0, 1) := by decide +kernel
theorem dX0_beNew_29 : decode cX0_beNew 29 = .ok (.putfield 27, 3) := by decide +kernel
theorem dX0_beNew_32 : decode cX0_beNew 32 = .ok (.return_, 1) := by decide +kernel
theorem dX0_take_0 : decode cX0_take 0 = .ok (.aload_n 0, 1) := by decide +kernel
theorem dX0_take_1 : decode cX0_take 1 = .ok (.aload_n 1, 1) := by decide +kernel
theorem dX0_take_2 : decode cX0_take 2 = .ok (.getfield 9, 3) := by decide +kernel
theorem dX0_take_5 : decode cX0_take 5 = .ok (.putfield 9, 3) := by decide +kernel
theorem dX0_take_8 : decode cX0_take 8 = .ok (.aload_n 0, 1) := by decide +kernel
theorem dX0_take_9 : decode cX0_take 9 = .ok (.aload_n 1, 1) := by decide +kernel
theorem dX0_take_10 : decode cX0_take 10 = .ok (.getfield 15, 3) := by decide +kernel
theorem dX0_take_13 : decode cX0_take 13 = .ok (.putfield 15, 3) := by decide +kernel
theorem dX0_take_16 : decode cX0_take 16 = .ok (.aload_n 0, 1) := by decide +kernel
theorem dX0_take_17 : decode cX0_take 17 = .ok (.aload_n 1, 1) := by decide +kernel
theorem dX0_take_18 : decode cX0_take 18 = .ok (.getfield 18, 3) := by decide +kernel
theorem dX0_take_21 : decode cX0_take 21 = .ok (.putfield 18, 3) := by decide +kernel
theorem dX0_take_24 : decode cX0_take 24 = .ok (.aload_n 0, 1) := by decide +kernel
theorem dX0_take_25 : decode cX0_take 25 = .ok (.aload_n 1, 1) := by decide +kernel
theorem dX0_take_26 : decode cX0_take 26 = .ok (.getfield 21, 3) := by decide +kernel
theorem dX0_take_29 : decode cX0_take 29 = .ok (.putfield 21, 3) := by decide +kernel
theorem dX0_take_32 : decode cX0_take 32 = .ok (.aload_n 0, 1) := by decide +kernel
theorem dX0_take_33 : decode cX0_take 33 = .ok (.aload_n 1, 1) := by decide +kernel
theorem dX0_take_34 : decode cX0_take 34 = .ok (.getfield 24, 3) := by decide +kernel
theorem dX0_take_37 : decode cX0_take 37 = .ok (.putfield 24, 3) := by decide +kernel
theorem dX0_take_40 : decode cX0_take 40 = .ok (.aload_n 0, 1) := by decide +kernel
theorem dX0_take_41 : decode cX0_take 41 = .ok (.aload_n 1, 1) := by decide +kernel
theorem dX0_take_42 : decode cX0_take 42 = .ok (.getfield 27, 3) := by decide +kernel
theorem dX0_take_45 : decode cX0_take 45 = .ok (.putfield 27, 3) := by decide +kernel
theorem dX0_take_48 : decode cX0_take 48 = .ok (.return_, 1) := by decide +kernel
theorem dX0_tell_0 : decode cX0_tell 0 = .ok (.iload_n 1, 1) := by decide +kernel
theorem dX0_tell_1 : decode cX0_tell 1 = .ok (.tableswitch 107 0 9 #[55, 60, 65, 70, 75, 80, 85, 90, 96, 101], 55) := by decide +kernel
theorem dX0_tell_56 : decode cX0_tell 56 = .ok (.aload_n 0, 1) := by decide +kernel
theorem dX0_tell_57 : decode cX0_tell 57 = .ok (.getfield 9, 3) := by decide +kernel
theorem dX0_tell_60 : decode cX0_tell 60 = .ok (.ireturn, 1) := by decide +kernel
theorem dX0_tell_61 : decode cX0_tell 61 = .ok (.aload_n 0, 1) := by decide +kernel
theorem dX0_tell_62 : decode cX0_tell 62 = .ok (.getfield 15, 3) := by decide +kernel
theorem dX0_tell_65 : decode cX0_tell 65 = .ok (.ireturn, 1) := by decide +kernel
theorem dX0_tell_66 : decode cX0_tell 66 = .ok (.aload_n 0, 1) := by decide +kernel
theorem dX0_tell_67 : decode cX0_tell 67 = .ok (.getfield 18, 3) := by decide +kernel
theorem dX0_tell_70 : decode cX0_tell 70 = .ok (.ireturn, 1) := by decide +kernel
theorem dX0_tell_71 : decode cX0_tell 71 = .ok (.aload_n 0, 1) := by decide +kernel
theorem dX0_tell_72 : decode cX0_tell 72 = .ok (.getfield 21, 3) := by decide +kernel
theorem dX0_tell_75 : decode cX0_tell 75 = .ok (.ireturn, 1) := by decide +kernel
theorem dX0_tell_76 : decode cX0_tell 76 = .ok (.aload_n 0, 1) := by decide +kernel
theorem dX0_tell_77 : decode cX0_tell 77 = .ok (.getfield 24, 3) := by decide +kernel
theorem dX0_tell_80 : decode cX0_tell 80 = .ok (.ireturn, 1) := by decide +kernel
theorem dX0_tell_81 : decode cX0_tell 81 = .ok (.aload_n 0, 1) := by decide +kernel
theorem dX0_tell_82 : decode cX0_tell 82 = .ok (.getfield 27, 3) := by decide +kernel
theorem dX0_tell_85 : decode cX0_tell 85 = .ok (.ireturn, 1) := by decide +kernel
theorem dX0_tell_86 : decode cX0_tell 86 = .ok (.aload_n 0, 1) := by decide +kernel
theorem dX0_tell_87 : decode cX0_tell 87 = .ok (.invokevirtual 30, 3) := by decide +kernel
theorem dX0_tell_90 : decode cX0_tell 90 = .ok (.ireturn, 1) := by decide +kernel
theorem dX0_tell_91 : decode cX0_tell 91 = .ok (.aload_n 0, 1) := by decide +kernel
theorem dX0_tell_92 : decode cX0_tell 92 = .ok (.iload_n 2, 1) := by decide +kernel
theorem dX0_tell_93 : decode cX0_tell 93 = .ok (.invokevirtual 34, 3) := by decide +kernel
theorem dX0_tell_96 : decode cX0_tell 96 = .ok (.ireturn, 1) := by decide +kernel
theorem dX0_tell_97 : decode cX0_tell 97 = .ok (.aload_n 0, 1) := by decide +kernel
theorem dX0_tell_98 : decode cX0_tell 98 = .ok (.invokevirtual 38, 3) := by decide +kernel
theorem dX0_tell_101 : decode cX0_tell 101 = .ok (.ireturn, 1) := by decide +kernel
theorem dX0_tell_102 : decode cX0_tell 102 = .ok (.aload_n 0, 1) := by decide +kernel
theorem dX0_tell_103 : decode cX0_tell 103 = .ok (.iload_n 3, 1) := by decide +kernel
theorem dX0_tell_104 : decode cX0_tell 104 = .ok (.invokevirtual 41, 3) := by decide +kernel
theorem dX0_tell_107 : decode cX0_tell 107 = .ok (.ireturn, 1) := by decide +kernel
theorem dX0_tell_108 : decode cX0_tell 108 = .ok (.aload_n 0, 1) := by decide +kernel
theorem dX0_tell_109 : decode cX0_tell 109 = .ok (.invokevirtual 44, 3) := by decide +kernel
theorem dX0_tell_112 : decode cX0_tell 112 = .ok (.ireturn, 1) := by decide +kernel
theorem dX0_set_0 : decode cX0_set 0 = .ok (.iload_n 1, 1) := by decide +kernel
theorem dX0_set_1 : decode cX0_set 1 = .ok (.tableswitch 75 0 4 #[35, 43, 51, 59, 67], 35) := by decide +kernel
theorem dX0_set_36 : decode cX0_set 36 = .ok (.aload_n 0, 1) := by decide +kernel
theorem dX0_set_37 : decode cX0_set 37 = .ok (.iload_n 2, 1) := by decide +kernel
theorem dX0_set_38 : decode cX0_set 38 = .ok (.putfield 9, 3) := by decide +kernel
theorem dX0_set_41 : decode cX0_set 41 = .ok (.goto 40, 3) := by decide +kernel
theorem dX0_set_44 : decode cX0_set 44 = .ok (.aload_n 0, 1) := by decide +kernel
theorem dX0_set_45 : decode cX0_set 45 = .ok (.iload_n 2, 1) := by decide +kernel
theorem dX0_set_46 : decode cX0_set 46 = .ok (.putfield 15, 3) := by decide +kernel
theorem dX0_set_49 : decode cX0_set 49 = .ok (.goto 32, 3) := by decide +kernel
theorem dX0_set_52 : decode cX0_set 52 = .ok (.aload_n 0, 1) := by decide +kernel
theorem dX0_set_53 : decode cX0_set 53 = .ok (.iload_n 2, 1) := by decide +kernel
theorem dX0_set_54 : decode cX0_set 54 = .ok (.putfield 18, 3) := by decide +kernel
theorem dX0_set_57 : decode cX0_set 57 = .ok (.goto 24, 3) := by decide +kernel
theorem dX0_set_60 : decode cX0_set 60 = .ok (.aload_n 0, 1) := by decide +kernel
theorem dX0_set_61 : decode cX0_set 61 = .ok (.iload_n 2, 1) := by decide +kernel
theorem dX0_set_62 : decode cX0_set 62 = .ok (.putfield 21, 3) := by decide +kernel
theorem dX0_set_65 : decode cX0_set 65 = .ok (.goto 16, 3) := by decide +kernel
theorem dX0_set_68 : decode cX0_set 68 = .ok (.aload_n 0, 1) := by decide +kernel
theorem dX0_set_69 : decode cX0_set 69 = .ok (.iload_n 2, 1) := by decide +kernel
theorem dX0_set_70 : decode cX0_set 70 = .ok (.putfield 24, 3) := by decide +kernel
theorem dX0_set_73 : decode cX0_set 73 = .ok (.goto 8, 3) := by decide +kernel
theorem dX0_set_76 : decode cX0_set 76 = .ok (.aload_n 0, 1) := by decide +kernel
theorem dX0_set_77 : decode cX0_set 77 = .ok (.iload_n 2, 1) := by decide +kernel
theorem dX0_set_78 : decode cX0_set 78 = .ok (.putfield 27, 3) := by decide +kernel
theorem dX0_set_81 : decode cX0_set 81 = .ok (.return_, 1) := by decide +kernel
theorem dX0_countsAs_0 : decode cX0_countsAs 0 = .ok (.getstatic 47, 3) := by decide +kernel
theorem dX0_countsAs_3 : decode cX0_countsAs 3 = .ok (.aload_n 0, 1) := by decide +kernel
theorem dX0_countsAs_4 : decode cX0_countsAs 4 = .ok (.getfield 9, 3) := by decide +kernel
theorem dX0_countsAs_7 : decode cX0_countsAs 7 = .ok (.iaload, 1) := by decide +kernel
theorem dX0_countsAs_8 : decode cX0_countsAs 8 = .ok (.iload_n 1, 1) := by decide +kernel
theorem dX0_countsAs_9 : decode cX0_countsAs 9 = .ok (.ishr, 1) := by decide +kernel
theorem dX0_countsAs_10 : decode cX0_countsAs 10 = .ok (.iconst 1, 1) := by decide +kernel
theorem dX0_countsAs_11 : decode cX0_countsAs 11 = .ok (.iand, 1) := by decide +kernel
theorem dX0_countsAs_12 : decode cX0_countsAs 12 = .ok (.iconst 1, 1) := by decide +kernel
theorem dX0_countsAs_13 : decode cX0_countsAs 13 = .ok (.if_icmp .ne 7, 3) := by decide +kernel
theorem dX0_countsAs_16 : decode cX0_countsAs 16 = .ok (.iconst 1, 1) := by decide +kernel
theorem dX0_countsAs_17 : decode cX0_countsAs 17 = .ok (.goto 4, 3) := by decide +kernel
theorem dX0_countsAs_20 : decode cX0_countsAs 20 = .ok (.iconst 0, 1) := by decide +kernel
theorem dX0_countsAs_21 : decode cX0_countsAs 21 = .ok (.ireturn, 1) := by decide +kernel
theorem dX0_gladdens_0 : decode cX0_gladdens 0 = .ok (.aload_n 0, 1) := by decide +kernel
theorem dX0_gladdens_1 : decode cX0_gladdens 1 = .ok (.getfield 9, 3) := by decide +kernel
theorem dX0_gladdens_4 : decode cX0_gladdens 4 = .ok (.iconst 4, 1) := by decide +kernel
theorem dX0_gladdens_5 : decode cX0_gladdens 5 = .ok (.if_icmp .ne 22, 3) := by decide +kernel
theorem dX0_gladdens_8 : decode cX0_gladdens 8 = .ok (.getstatic 51, 3) := by decide +kernel
theorem dX0_gladdens_11 : decode cX0_gladdens 11 = .ok (.aload_n 0, 1) := by decide +kernel
theorem dX0_gladdens_12 : decode cX0_gladdens 12 = .ok (.getfield 9, 3) := by decide +kernel
theorem dX0_gladdens_15 : decode cX0_gladdens 15 = .ok (.iaload, 1) := by decide +kernel
theorem dX0_gladdens_16 : decode cX0_gladdens 16 = .ok (.aload_n 0, 1) := by decide +kernel
theorem dX0_gladdens_17 : decode cX0_gladdens 17 = .ok (.getfield 18, 3) := by decide +kernel
theorem dX0_gladdens_20 : decode cX0_gladdens 20 = .ok (.invokestatic 54, 3) := by decide +kernel
theorem dX0_gladdens_23 : decode cX0_gladdens 23 = .ok (.iadd, 1) := by decide +kernel
theorem dX0_gladdens_24 : decode cX0_gladdens 24 = .ok (.goto 11, 3) := by decide +kernel
theorem dX0_gladdens_27 : decode cX0_gladdens 27 = .ok (.getstatic 51, 3) := by decide +kernel
theorem dX0_gladdens_30 : decode cX0_gladdens 30 = .ok (.aload_n 0, 1) := by decide +kernel
theorem dX0_gladdens_31 : decode cX0_gladdens 31 = .ok (.getfield 9, 3) := by decide +kernel
theorem dX0_gladdens_34 : decode cX0_gladdens 34 = .ok (.iaload, 1) := by decide +kernel
theorem dX0_gladdens_35 : decode cX0_gladdens 35 = .ok (.ireturn, 1) := by decide +kernel
theorem dX0_tires_0 : decode cX0_tires 0 = .ok (.aload_n 0, 1) := by decide +kernel
theorem dX0_tires_1 : decode cX0_tires 1 = .ok (.getfield 9, 3) := by decide +kernel
theorem dX0_tires_4 : decode cX0_tires 4 = .ok (.bipush 6, 2) := by decide +kernel
theorem dX0_tires_6 : decode cX0_tires 6 = .ok (.if_icmp .ne 12, 3) := by decide +kernel
theorem dX0_tires_9 : decode cX0_tires 9 = .ok (.aload_n 0, 1) := by decide +kernel
theorem dX0_tires_10 : decode cX0_tires 10 = .ok (.getfield 21, 3) := by decide +kernel
theorem dX0_tires_13 : decode cX0_tires 13 = .ok (.ifCond .ne 5, 3) := by decide +kernel
theorem dX0_tires_16 : decode cX0_tires 16 = .ok (.iconst 0, 1) := by decide +kernel
theorem dX0_tires_17 : decode cX0_tires 17 = .ok (.ireturn, 1) := by decide +kernel
theorem dX0_tires_18 : decode cX0_tires 18 = .ok (.aload_n 0, 1) := by decide +kernel
theorem dX0_tires_19 : decode cX0_tires 19 = .ok (.getfield 9, 3) := by decide +kernel
theorem dX0_tires_22 : decode cX0_tires 22 = .ok (.iconst 3, 1) := by decide +kernel
theorem dX0_tires_23 : decode cX0_tires 23 = .ok (.if_icmp .eq 11, 3) := by decide +kernel
theorem dX0_tires_26 : decode cX0_tires 26 = .ok (.aload_n 0, 1) := by decide +kernel
theorem dX0_tires_27 : decode cX0_tires 27 = .ok (.getfield 9, 3) := by decide +kernel
theorem dX0_tires_30 : decode cX0_tires 30 = .ok (.iconst 4, 1) := by decide +kernel
theorem dX0_tires_31 : decode cX0_tires 31 = .ok (.if_icmp .ne 18, 3) := by decide +kernel
theorem dX0_tires_34 : decode cX0_tires 34 = .ok (.getstatic 59, 3) := by decide +kernel
theorem dX0_tires_37 : decode cX0_tires 37 = .ok (.aload_n 0, 1) := by decide +kernel
theorem dX0_tires_38 : decode cX0_tires 38 = .ok (.getfield 9, 3) := by decide +kernel
theorem dX0_tires_41 : decode cX0_tires 41 = .ok (.iaload, 1) := by decide +kernel
theorem dX0_tires_42 : decode cX0_tires 42 = .ok (.iload_n 1, 1) := by decide +kernel
theorem dX0_tires_43 : decode cX0_tires 43 = .ok (.iconst 1, 1) := by decide +kernel
theorem dX0_tires_44 : decode cX0_tires 44 = .ok (.iand, 1) := by decide +kernel
theorem dX0_tires_45 : decode cX0_tires 45 = .ok (.iadd, 1) := by decide +kernel
theorem dX0_tires_46 : decode cX0_tires 46 = .ok (.goto 11, 3) := by decide +kernel
theorem dX0_tires_49 : decode cX0_tires 49 = .ok (.getstatic 59, 3) := by decide +kernel
theorem dX0_tires_52 : decode cX0_tires 52 = .ok (.aload_n 0, 1) := by decide +kernel
theorem dX0_tires_53 : decode cX0_tires 53 = .ok (.getfield 9, 3) := by decide +kernel
theorem dX0_tires_56 : decode cX0_tires 56 = .ok (.iaload, 1) := by decide +kernel
theorem dX0_tires_57 : decode cX0_tires 57 = .ok (.ireturn, 1) := by decide +kernel
theorem dX0_bears_0 : decode cX0_bears 0 = .ok (.getstatic 62, 3) := by decide +kernel
theorem dX0_bears_3 : decode cX0_bears 3 = .ok (.aload_n 0, 1) := by decide +kernel
theorem dX0_bears_4 : decode cX0_bears 4 = .ok (.getfield 9, 3) := by decide +kernel
theorem dX0_bears_7 : decode cX0_bears 7 = .ok (.iaload, 1) := by decide +kernel
theorem dX0_bears_8 : decode cX0_bears 8 = .ok (.ireturn, 1) := by decide +kernel
theorem dX0_falls_0 : decode cX0_falls 0 = .ok (.aload_n 0, 1) := by decide +kernel
theorem dX0_falls_1 : decode cX0_falls 1 = .ok (.getfield 9, 3) := by decide +kernel
theorem dX0_falls_4 : decode cX0_falls 4 = .ok (.bipush 6, 2) := by decide +kernel
theorem dX0_falls_6 : decode cX0_falls 6 = .ok (.if_icmp .ne 22, 3) := by decide +kernel
theorem dX0_falls_9 : decode cX0_falls 9 = .ok (.iload_n 1, 1) := by decide +kernel
theorem dX0_falls_10 : decode cX0_falls 10 = .ok (.iconst 1, 1) := by decide +kernel
theorem dX0_falls_11 : decode cX0_falls 11 = .ok (.if_icmp .ne 17, 3) := by decide +kernel
theorem dX0_falls_14 : decode cX0_falls 14 = .ok (.getstatic 65, 3) := by decide +kernel
theorem dX0_falls_17 : decode cX0_falls 17 = .ok (.aload_n 0, 1) := by decide +kernel
theorem dX0_falls_18 : decode cX0_falls 18 = .ok (.getfield 9, 3) := by decide +kernel
theorem dX0_falls_21 : decode cX0_falls 21 = .ok (.iaload, 1) := by decide +kernel
theorem dX0_falls_22 : decode cX0_falls 22 = .ok (.bipush 6, 2) := by decide +kernel
theorem dX0_falls_24 : decode cX0_falls 24 = .ok (.iadd, 1) := by decide +kernel
theorem dX0_falls_25 : decode cX0_falls 25 = .ok (.goto 11, 3) := by decide +kernel
theorem dX0_falls_28 : decode cX0_falls 28 = .ok (.getstatic 65, 3) := by decide +kernel
theorem dX0_falls_31 : decode cX0_falls 31 = .ok (.aload_n 0, 1) := by decide +kernel
theorem dX0_falls_32 : decode cX0_falls 32 = .ok (.getfield 9, 3) := by decide +kernel
theorem dX0_falls_35 : decode cX0_falls 35 = .ok (.iaload, 1) := by decide +kernel
theorem dX0_falls_36 : decode cX0_falls 36 = .ok (.ireturn, 1) := by decide +kernel
theorem dX0_rises_0 : decode cX0_rises 0 = .ok (.getstatic 68, 3) := by decide +kernel
theorem dX0_rises_3 : decode cX0_rises 3 = .ok (.aload_n 0, 1) := by decide +kernel
theorem dX0_rises_4 : decode cX0_rises 4 = .ok (.getfield 9, 3) := by decide +kernel
theorem dX0_rises_7 : decode cX0_rises 7 = .ok (.iaload, 1) := by decide +kernel
theorem dX0_rises_8 : decode cX0_rises 8 = .ok (.ireturn, 1) := by decide +kernel
theorem dX0_getPulled_0 : decode cX0_getPulled 0 = .ok (.aload_n 0, 1) := by decide +kernel
theorem dX0_getPulled_1 : decode cX0_getPulled 1 = .ok (.bipush 20, 2) := by decide +kernel
theorem dX0_getPulled_3 : decode cX0_getPulled 3 = .ok (.aload_n 0, 1) := by decide +kernel
theorem dX0_getPulled_4 : decode cX0_getPulled 4 = .ok (.getfield 21, 3) := by decide +kernel
theorem dX0_getPulled_7 : decode cX0_getPulled 7 = .ok (.iload_n 1, 1) := by decide +kernel
theorem dX0_getPulled_8 : decode cX0_getPulled 8 = .ok (.bipush 10, 2) := by decide +kernel
theorem dX0_getPulled_10 : decode cX0_getPulled 10 = .ok (.idiv, 1) := by decide +kernel
theorem dX0_getPulled_11 : decode cX0_getPulled 11 = .ok (.iadd, 1) := by decide +kernel
theorem dX0_getPulled_12 : decode cX0_getPulled 12 = .ok (.aload_n 0, 1) := by decide +kernel
theorem dX0_getPulled_13 : decode cX0_getPulled 13 = .ok (.invokevirtual 44, 3) := by decide +kernel
theorem dX0_getPulled_16 : decode cX0_getPulled 16 = .ok (.iadd, 1) := by decide +kernel
theorem dX0_getPulled_17 : decode cX0_getPulled 17 = .ok (.invokestatic 71, 3) := by decide +kernel
theorem dX0_getPulled_20 : decode cX0_getPulled 20 = .ok (.putfield 21, 3) := by decide +kernel
theorem dX0_getPulled_23 : decode cX0_getPulled 23 = .ok (.aload_n 0, 1) := by decide +kernel
theorem dX0_getPulled_24 : decode cX0_getPulled 24 = .ok (.iconst 0, 1) := by decide +kernel
theorem dX0_getPulled_25 : decode cX0_getPulled 25 = .ok (.aload_n 0, 1) := by decide +kernel
theorem dX0_getPulled_26 : decode cX0_getPulled 26 = .ok (.getfield 15, 3) := by decide +kernel
theorem dX0_getPulled_29 : decode cX0_getPulled 29 = .ok (.iload_n 1, 1) := by decide +kernel
theorem dX0_getPulled_30 : decode cX0_getPulled 30 = .ok (.iconst 5, 1) := by decide +kernel
theorem dX0_getPulled_31 : decode cX0_getPulled 31 = .ok (.idiv, 1) := by decide +kernel
theorem dX0_getPulled_32 : decode cX0_getPulled 32 = .ok (.isub, 1) := by decide +kernel
theorem dX0_getPulled_33 : decode cX0_getPulled 33 = .ok (.invokestatic 77, 3) := by decide +kernel
theorem dX0_getPulled_36 : decode cX0_getPulled 36 = .ok (.putfield 15, 3) := by decide +kernel
theorem dX0_getPulled_39 : decode cX0_getPulled 39 = .ok (.return_, 1) := by decide +kernel
theorem dX0_passBeat_0 : decode cX0_passBeat 0 = .ok (.aload_n 0, 1) := by decide +kernel
theorem dX0_passBeat_1 : decode cX0_passBeat 1 = .ok (.iload_n 1, 1) := by decide +kernel
theorem dX0_passBeat_2 : decode cX0_passBeat 2 = .ok (.invokevirtual 80, 3) := by decide +kernel
theorem dX0_passBeat_5 : decode cX0_passBeat 5 = .ok (.aload_n 0, 1) := by decide +kernel
theorem dX0_passBeat_6 : decode cX0_passBeat 6 = .ok (.getfield 24, 3) := by decide +kernel
theorem dX0_passBeat_9 : decode cX0_passBeat 9 = .ok (.iconst 1, 1) := by decide +kernel
theorem dX0_passBeat_10 : decode cX0_passBeat 10 = .ok (.if_icmp .ne 5, 3) := by decide +kernel
theorem dX0_passBeat_13 : decode cX0_passBeat 13 = .ok (.iconst 0, 1) := by decide +kernel
theorem dX0_passBeat_14 : decode cX0_passBeat 14 = .ok (.ireturn, 1) := by decide +kernel
theorem dX0_passBeat_15 : decode cX0_passBeat 15 = .ok (.aload_n 0, 1) := by decide +kernel
theorem dX0_passBeat_16 : decode cX0_passBeat 16 = .ok (.getfield 21, 3) := by decide +kernel
theorem dX0_passBeat_19 : decode cX0_passBeat 19 = .ok (.ifCond .le 7, 3) := by decide +kernel
theorem dX0_passBeat_22 : decode cX0_passBeat 22 = .ok (.iconst 1, 1) := by decide +kernel
theorem dX0_passBeat_23 : decode cX0_passBeat 23 = .ok (.goto 4, 3) := by decide +kernel
theorem dX0_passBeat_26 : decode cX0_passBeat 26 = .ok (.iconst 0, 1) := by decide +kernel
theorem dX0_passBeat_27 : decode cX0_passBeat 27 = .ok (.istore_n 3, 1) := by decide +kernel
theorem dX0_passBeat_28 : decode cX0_passBeat 28 = .ok (.iload_n 2, 1) := by decide +kernel
theorem dX0_passBeat_29 : decode cX0_passBeat 29 = .ok (.iconst 1, 1) := by decide +kernel
theorem dX0_passBeat_30 : decode cX0_passBeat 30 = .ok (.if_icmp .eq 14, 3) := by decide +kernel
theorem dX0_passBeat_33 : decode cX0_passBeat 33 = .ok (.aload_n 0, 1) := by decide +kernel
theorem dX0_passBeat_34 : decode cX0_passBeat 34 = .ok (.getfield 15, 3) := by decide +kernel
theorem dX0_passBeat_37 : decode cX0_passBeat 37 = .ok (.aload_n 0, 1) := by decide +kernel
theorem dX0_passBeat_38 : decode cX0_passBeat 38 = .ok (.invokevirtual 38, 3) := by decide +kernel
theorem dX0_passBeat_41 : decode cX0_passBeat 41 = .ok (.if_icmp .ge 24, 3) := by decide +kernel
theorem dX0_passBeat_44 : decode cX0_passBeat 44 = .ok (.aload_n 0, 1) := by decide +kernel
theorem dX0_passBeat_45 : decode cX0_passBeat 45 = .ok (.iconst 0, 1) := by decide +kernel
theorem dX0_passBeat_46 : decode cX0_passBeat 46 = .ok (.aload_n 0, 1) := by decide +kernel
theorem dX0_passBeat_47 : decode cX0_passBeat 47 = .ok (.getfield 21, 3) := by decide +kernel
theorem dX0_passBeat_50 : decode cX0_passBeat 50 = .ok (.aload_n 0, 1) := by decide +kernel
theorem dX0_passBeat_51 : decode cX0_passBeat 51 = .ok (.iload_n 2, 1) := by decide +kernel
theorem dX0_passBeat_52 : decode cX0_passBeat 52 = .ok (.invokevirtual 41, 3) := by decide +kernel
theorem dX0_passBeat_55 : decode cX0_passBeat 55 = .ok (.isub, 1) := by decide +kernel
theorem dX0_passBeat_56 : decode cX0_passBeat 56 = .ok (.invokestatic 77, 3) := by decide +kernel
theorem dX0_passBeat_59 : decode cX0_passBeat 59 = .ok (.putfield 21, 3) := by decide +kernel
theorem dX0_passBeat_62 : decode cX0_passBeat 62 = .ok (.goto 21, 3) := by decide +kernel
theorem dX0_passBeat_65 : decode cX0_passBeat 65 = .ok (.aload_n 0, 1) := by decide +kernel
theorem dX0_passBeat_66 : decode cX0_passBeat 66 = .ok (.bipush 20, 2) := by decide +kernel
theorem dX0_passBeat_68 : decode cX0_passBeat 68 = .ok (.aload_n 0, 1) := by decide +kernel
theorem dX0_passBeat_69 : decode cX0_passBeat 69 = .ok (.getfield 21, 3) := by decide +kernel
theorem dX0_passBeat_72 : decode cX0_passBeat 72 = .ok (.aload_n 0, 1) := by decide +kernel
theorem dX0_passBeat_73 : decode cX0_passBeat 73 = .ok (.invokevirtual 44, 3) := by decide +kernel
theorem dX0_passBeat_76 : decode cX0_passBeat 76 = .ok (.iadd, 1) := by decide +kernel
theorem dX0_passBeat_77 : decode cX0_passBeat 77 = .ok (.invokestatic 71, 3) := by decide +kernel
theorem dX0_passBeat_80 : decode cX0_passBeat 80 = .ok (.putfield 21, 3) := by decide +kernel
theorem dX0_passBeat_83 : decode cX0_passBeat 83 = .ok (.iload_n 3, 1) := by decide +kernel
theorem dX0_passBeat_84 : decode cX0_passBeat 84 = .ok (.ifCond .eq 14, 3) := by decide +kernel
theorem dX0_passBeat_87 : decode cX0_passBeat 87 = .ok (.aload_n 0, 1) := by decide +kernel
theorem dX0_passBeat_88 : decode cX0_passBeat 88 = .ok (.getfield 21, 3) := by decide +kernel
theorem dX0_passBeat_91 : decode cX0_passBeat 91 = .ok (.ifCond .ne 7, 3) := by decide +kernel
theorem dX0_passBeat_94 : decode cX0_passBeat 94 = .ok (.iconst 1, 1) := by decide +kernel
theorem dX0_passBeat_95 : decode cX0_passBeat 95 = .ok (.goto 4, 3) := by decide +kernel
theorem dX0_passBeat_98 : decode cX0_passBeat 98 = .ok (.iconst 0, 1) := by decide +kernel
theorem dX0_passBeat_99 : decode cX0_passBeat 99 = .ok (.istore 4, 2) := by decide +kernel
theorem dX0_passBeat_101 : decode cX0_passBeat 101 = .ok (.iload 4, 2) := by decide +kernel
theorem dX0_passBeat_103 : decode cX0_passBeat 103 = .ok (.ifCond .eq 8, 3) := by decide +kernel
theorem dX0_passBeat_106 : decode cX0_passBeat 106 = .ok (.aload_n 0, 1) := by decide +kernel
theorem dX0_passBeat_107 : decode cX0_passBeat 107 = .ok (.iload_n 2, 1) := by decide +kernel
theorem dX0_passBeat_108 : decode cX0_passBeat 108 = .ok (.invokevirtual 84, 3) := by decide +kernel
theorem dX0_passBeat_111 : decode cX0_passBeat 111 = .ok (.iload 4, 2) := by decide +kernel
theorem dX0_passBeat_113 : decode cX0_passBeat 113 = .ok (.ireturn, 1) := by decide +kernel
theorem dX0_feel_0 : decode cX0_feel 0 = .ok (.aload_n 0, 1) := by decide +kernel
theorem dX0_feel_1 : decode cX0_feel 1 = .ok (.getfield 18, 3) := by decide +kernel
theorem dX0_feel_4 : decode cX0_feel 4 = .ok (.iload_n 1, 1) := by decide +kernel
theorem dX0_feel_5 : decode cX0_feel 5 = .ok (.ishr, 1) := by decide +kernel
theorem dX0_feel_6 : decode cX0_feel 6 = .ok (.iconst 1, 1) := by decide +kernel
theorem dX0_feel_7 : decode cX0_feel 7 = .ok (.iand, 1) := by decide +kernel
theorem dX0_feel_8 : decode cX0_feel 8 = .ok (.iconst 1, 1) := by decide +kernel
theorem dX0_feel_9 : decode cX0_feel 9 = .ok (.if_icmp .ne 24, 3) := by decide +kernel
theorem dX0_feel_12 : decode cX0_feel 12 = .ok (.aload_n 0, 1) := by decide +kernel
theorem dX0_feel_13 : decode cX0_feel 13 = .ok (.bipush 99, 2) := by decide +kernel
theorem dX0_feel_15 : decode cX0_feel 15 = .ok (.aload_n 0, 1) := by decide +kernel
theorem dX0_feel_16 : decode cX0_feel 16 = .ok (.getfield 15, 3) := by decide +kernel
theorem dX0_feel_19 : decode cX0_feel 19 = .ok (.aload_n 0, 1) := by decide +kernel
theorem dX0_feel_20 : decode cX0_feel 20 = .ok (.invokevirtual 30, 3) := by decide +kernel
theorem dX0_feel_23 : decode cX0_feel 23 = .ok (.iadd, 1) := by decide +kernel
theorem dX0_feel_24 : decode cX0_feel 24 = .ok (.invokestatic 71, 3) := by decide +kernel
theorem dX0_feel_27 : decode cX0_feel 27 = .ok (.putfield 15, 3) := by decide +kernel
theorem dX0_feel_30 : decode cX0_feel 30 = .ok (.goto 21, 3) := by decide +kernel
theorem dX0_feel_33 : decode cX0_feel 33 = .ok (.aload_n 0, 1) := by decide +kernel
theorem dX0_feel_34 : decode cX0_feel 34 = .ok (.iconst 0, 1) := by decide +kernel
theorem dX0_feel_35 : decode cX0_feel 35 = .ok (.aload_n 0, 1) := by decide +kernel
theorem dX0_feel_36 : decode cX0_feel 36 = .ok (.getfield 15, 3) := by decide +kernel
theorem dX0_feel_39 : decode cX0_feel 39 = .ok (.aload_n 0, 1) := by decide +kernel
theorem dX0_feel_40 : decode cX0_feel 40 = .ok (.iload_n 1, 1) := by decide +kernel
theorem dX0_feel_41 : decode cX0_feel 41 = .ok (.invokevirtual 34, 3) := by decide +kernel
theorem dX0_feel_44 : decode cX0_feel 44 = .ok (.isub, 1) := by decide +kernel
theorem dX0_feel_45 : decode cX0_feel 45 = .ok (.invokestatic 77, 3) := by decide +kernel
theorem dX0_feel_48 : decode cX0_feel 48 = .ok (.putfield 15, 3) := by decide +kernel
theorem dX0_feel_51 : decode cX0_feel 51 = .ok (.return_, 1) := by decide +kernel
theorem dX0_comeDown_0 : decode cX0_comeDown 0 = .ok (.aload_n 0, 1) := by decide +kernel
theorem dX0_comeDown_1 : decode cX0_comeDown 1 = .ok (.sipush 9999, 3) := by decide +kernel
theorem dX0_comeDown_4 : decode cX0_comeDown 4 = .ok (.aload_n 0, 1) := by decide +kernel
theorem dX0_comeDown_5 : decode cX0_comeDown 5 = .ok (.getfield 27, 3) := by decide +kernel
theorem dX0_comeDown_8 : decode cX0_comeDown 8 = .ok (.iconst 1, 1) := by decide +kernel
theorem dX0_comeDown_9 : decode cX0_comeDown 9 = .ok (.iadd, 1) := by decide +kernel
theorem dX0_comeDown_10 : decode cX0_comeDown 10 = .ok (.invokestatic 71, 3) := by decide +kernel
theorem dX0_comeDown_13 : decode cX0_comeDown 13 = .ok (.putfield 27, 3) := by decide +kernel
theorem dX0_comeDown_16 : decode cX0_comeDown 16 = .ok (.iload_n 1, 1) := by decide +kernel
theorem dX0_comeDown_17 : decode cX0_comeDown 17 = .ok (.ifCond .ne 19, 3) := by decide +kernel
theorem dX0_comeDown_20 : decode cX0_comeDown 20 = .ok (.aload_n 0, 1) := by decide +kernel
theorem dX0_comeDown_21 : decode cX0_comeDown 21 = .ok (.bipush 99, 2) := by decide +kernel
theorem dX0_comeDown_23 : decode cX0_comeDown 23 = .ok (.aload_n 0, 1) := by decide +kernel
theorem dX0_comeDown_24 : decode cX0_comeDown 24 = .ok (.getfield 15, 3) := by decide +kernel
theorem dX0_comeDown_27 : decode cX0_comeDown 27 = .ok (.bipush 25, 2) := by decide +kernel
theorem dX0_comeDown_29 : decode cX0_comeDown 29 = .ok (.iadd, 1) := by decide +kernel
theorem dX0_comeDown_30 : decode cX0_comeDown 30 = .ok (.invokestatic 71, 3) := by decide +kernel
theorem dX0_comeDown_33 : decode cX0_comeDown 33 = .ok (.putfield 15, 3) := by decide +kernel
theorem dX0_comeDown_36 : decode cX0_comeDown 36 = .ok (.return_, 1) := by decide +kernel
theorem dX1_init_0 : decode cX1_init 0 = .ok (.aload_n 0, 1) := by decide +kernel
theorem dX1_init_1 : decode cX1_init 1 = .ok (.invokespecial 3, 3) := by decide +kernel
theorem dX1_init_4 : decode cX1_init 4 = .ok (.aload_n 0, 1) := by decide +kernel
theorem dX1_init_5 : decode cX1_init 5 = .ok (.iconst 1, 1) := by decide +kernel
theorem dX1_init_6 : decode cX1_init 6 = .ok (.putfield 9, 3) := by decide +kernel
theorem dX1_init_9 : decode cX1_init 9 = .ok (.aload_n 0, 1) := by decide +kernel
theorem dX1_init_10 : decode cX1_init 10 = .ok (.bipush 6, 2) := by decide +kernel
theorem dX1_init_12 : decode cX1_init 12 = .ok (.newarray .int, 2) := by decide +kernel
theorem dX1_init_14 : decode cX1_init 14 = .ok (.putfield 15, 3) := by decide +kernel
theorem dX1_init_17 : decode cX1_init 17 = .ok (.aload_n 0, 1) := by decide +kernel
theorem dX1_init_18 : decode cX1_init 18 = .ok (.bipush 10, 2) := by decide +kernel
theorem dX1_init_20 : decode cX1_init 20 = .ok (.newarray .int, 2) := by decide +kernel
theorem dX1_init_22 : decode cX1_init 22 = .ok (.putfield 19, 3) := by decide +kernel
theorem dX1_init_25 : decode cX1_init 25 = .ok (.aload_n 0, 1) := by decide +kernel
theorem dX1_init_26 : decode cX1_init 26 = .ok (.bipush 8, 2) := by decide +kernel
theorem dX1_init_28 : decode cX1_init 28 = .ok (.anewarray 22, 3) := by decide +kernel
theorem dX1_init_31 : decode cX1_init 31 = .ok (.putfield 24, 3) := by decide +kernel
theorem dX1_init_34 : decode cX1_init 34 = .ok (.iconst 0, 1) := by decide +kernel
theorem dX1_init_35 : decode cX1_init 35 = .ok (.istore_n 1, 1) := by decide +kernel
theorem dX1_init_36 : decode cX1_init 36 = .ok (.iload_n 1, 1) := by decide +kernel
theorem dX1_init_37 : decode cX1_init 37 = .ok (.bipush 6, 2) := by decide +kernel
theorem dX1_init_39 : decode cX1_init 39 = .ok (.if_icmp .ge 16, 3) := by decide +kernel
theorem dX1_init_42 : decode cX1_init 42 = .ok (.aload_n 0, 1) := by decide +kernel
theorem dX1_init_43 : decode cX1_init 43 = .ok (.getfield 15, 3) := by decide +kernel
theorem dX1_init_46 : decode cX1_init 46 = .ok (.iload_n 1, 1) := by decide +kernel
theorem dX1_init_47 : decode cX1_init 47 = .ok (.iload_n 1, 1) := by decide +kernel
theorem dX1_init_48 : decode cX1_init 48 = .ok (.iastore, 1) := by decide +kernel
theorem dX1_init_49 : decode cX1_init 49 = .ok (.iinc 1 1, 3) := by decide +kernel
theorem dX1_init_52 : decode cX1_init 52 = .ok (.goto (-16), 3) := by decide +kernel
theorem dX1_init_55 : decode cX1_init 55 = .ok (.iconst 0, 1) := by decide +kernel
theorem dX1_init_56 : decode cX1_init 56 = .ok (.istore_n 1, 1) := by decide +kernel
theorem dX1_init_57 : decode cX1_init 57 = .ok (.iload_n 1, 1) := by decide +kernel
theorem dX1_init_58 : decode cX1_init 58 = .ok (.bipush 10, 2) := by decide +kernel
theorem dX1_init_60 : decode cX1_init 60 = .ok (.if_icmp .ge 16, 3) := by decide +kernel
theorem dX1_init_63 : decode cX1_init 63 = .ok (.aload_n 0, 1) := by decide +kernel
theorem dX1_init_64 : decode cX1_init 64 = .ok (.getfield 19, 3) := by decide +kernel
theorem dX1_init_67 : decode cX1_init 67 = .ok (.iload_n 1, 1) := by decide +kernel
theorem dX1_init_68 : decode cX1_init 68 = .ok (.iconst (-1), 1) := by decide +kernel
theorem dX1_init_69 : decode cX1_init 69 = .ok (.iastore, 1) := by decide +kernel
theorem dX1_init_70 : decode cX1_init 70 = .ok (.iinc 1 1, 3) := by decide +kernel
theorem dX1_init_73 : decode cX1_init 73 = .ok (.goto (-16), 3) := by decide +kernel
theorem dX1_init_76 : decode cX1_init 76 = .ok (.iconst 0, 1) := by decide +kernel
theorem dX1_init_77 : decode cX1_init 77 = .ok (.istore_n 1, 1) := by decide +kernel
theorem dX1_init_78 : decode cX1_init 78 = .ok (.iload_n 1, 1) := by decide +kernel
theorem dX1_init_79 : decode cX1_init 79 = .ok (.bipush 8, 2) := by decide +kernel
theorem dX1_init_81 : decode cX1_init 81 = .ok (.if_icmp .ge 22, 3) := by decide +kernel
theorem dX1_init_84 : decode cX1_init 84 = .ok (.aload_n 0, 1) := by decide +kernel
theorem dX1_init_85 : decode cX1_init 85 = .ok (.getfield 24, 3) := by decide +kernel
theorem dX1_init_88 : decode cX1_init 88 = .ok (.iload_n 1, 1) := by decide +kernel
theorem dX1_init_89 : decode cX1_init 89 = .ok (.new 22, 3) := by decide +kernel
theorem dX1_init_92 : decode cX1_init 92 = .ok (.dup, 1) := by decide +kernel
theorem dX1_init_93 : decode cX1_init 93 = .ok (.invokespecial 28, 3) := by decide +kernel
theorem dX1_init_96 : decode cX1_init 96 = .ok (.aastore, 1) := by decide +kernel
theorem dX1_init_97 : decode cX1_init 97 = .ok (.iinc 1 1, 3) := by decide +kernel
theorem dX1_init_100 : decode cX1_init 100 = .ok (.goto (-22), 3) := by decide +kernel
theorem dX1_init_103 : decode cX1_init 103 = .ok (.return_, 1) := by decide +kernel
theorem dX1_take_0 : decode cX1_take 0 = .ok (.aload_n 0, 1) := by decide +kernel
theorem dX1_take_1 : decode cX1_take 1 = .ok (.aload_n 1, 1) := by decide +kernel
theorem dX1_take_2 : decode cX1_take 2 = .ok (.getfield 29, 3) := by decide +kernel
theorem dX1_take_5 : decode cX1_take 5 = .ok (.putfield 29, 3) := by decide +kernel
theorem dX1_take_8 : decode cX1_take 8 = .ok (.aload_n 0, 1) := by decide +kernel
theorem dX1_take_9 : decode cX1_take 9 = .ok (.aload_n 1, 1) := by decide +kernel
theorem dX1_take_10 : decode cX1_take 10 = .ok (.getfield 32, 3) := by decide +kernel
theorem dX1_take_13 : decode cX1_take 13 = .ok (.putfield 32, 3) := by decide +kernel
theorem dX1_take_16 : decode cX1_take 16 = .ok (.aload_n 0, 1) := by decide +kernel
theorem dX1_take_17 : decode cX1_take 17 = .ok (.aload_n 1, 1) := by decide +kernel
theorem dX1_take_18 : decode cX1_take 18 = .ok (.getfield 35, 3) := by decide +kernel
theorem dX1_take_21 : decode cX1_take 21 = .ok (.putfield 35, 3) := by decide +kernel
theorem dX1_take_24 : decode cX1_take 24 = .ok (.aload_n 0, 1) := by decide +kernel
theorem dX1_take_25 : decode cX1_take 25 = .ok (.aload_n 1, 1) := by decide +kernel
theorem dX1_take_26 : decode cX1_take 26 = .ok (.getfield 38, 3) := by decide +kernel
theorem dX1_take_29 : decode cX1_take 29 = .ok (.putfield 38, 3) := by decide +kernel
theorem dX1_take_32 : decode cX1_take 32 = .ok (.aload_n 0, 1) := by decide +kernel
theorem dX1_take_33 : decode cX1_take 33 = .ok (.aload_n 1, 1) := by decide +kernel
theorem dX1_take_34 : decode cX1_take 34 = .ok (.getfield 9, 3) := by decide +kernel
theorem dX1_take_37 : decode cX1_take 37 = .ok (.putfield 9, 3) := by decide +kernel
theorem dX1_take_40 : decode cX1_take 40 = .ok (.aload_n 0, 1) := by decide +kernel
theorem dX1_take_41 : decode cX1_take 41 = .ok (.aload_n 1, 1) := by decide +kernel
theorem dX1_take_42 : decode cX1_take 42 = .ok (.getfield 41, 3) := by decide +kernel
theorem dX1_take_45 : decode cX1_take 45 = .ok (.putfield 41, 3) := by decide +kernel
theorem dX1_take_48 : decode cX1_take 48 = .ok (.aload_n 1, 1) := by decide +kernel
theorem dX1_take_49 : decode cX1_take 49 = .ok (.getfield 15, 3) := by decide +kernel
theorem dX1_take_52 : decode cX1_take 52 = .ok (.iconst 0, 1) := by decide +kernel
theorem dX1_take_53 : decode cX1_take 53 = .ok (.aload_n 0, 1) := by decide +kernel
theorem dX1_take_54 : decode cX1_take 54 = .ok (.getfield 15, 3) := by decide +kernel
theorem dX1_take_57 : decode cX1_take 57 = .ok (.iconst 0, 1) := by decide +kernel
theorem dX1_take_58 : decode cX1_take 58 = .ok (.bipush 6, 2) := by decide +kernel
theorem dX1_take_60 : decode cX1_take 60 = .ok (.invokestatic 44, 3) := by decide +kernel
theorem dX1_take_63 : decode cX1_take 63 = .ok (.aload_n 1, 1) := by decide +kernel
theorem dX1_take_64 : decode cX1_take 64 = .ok (.getfield 19, 3) := by decide +kernel
theorem dX1_take_67 : decode cX1_take 67 = .ok (.iconst 0, 1) := by decide +kernel
theorem dX1_take_68 : decode cX1_take 68 = .ok (.aload_n 0, 1) := by decide +kernel
theorem dX1_take_69 : decode cX1_take 69 = .ok (.getfield 19, 3) := by decide +kernel
theorem dX1_take_72 : decode cX1_take 72 = .ok (.iconst 0, 1) := by decide +kernel
theorem dX1_take_73 : decode cX1_take 73 = .ok (.bipush 10, 2) := by decide +kernel
theorem dX1_take_75 : decode cX1_take 75 = .ok (.invokestatic 44, 3) := by decide +kernel
theorem dX1_take_78 : decode cX1_take 78 = .ok (.iconst 0, 1) := by decide +kernel
theorem dX1_take_79 : decode cX1_take 79 = .ok (.istore_n 2, 1) := by decide +kernel
theorem dX1_take_80 : decode cX1_take 80 = .ok (.iload_n 2, 1) := by decide +kernel
theorem dX1_take_81 : decode cX1_take 81 = .ok (.aload_n 0, 1) := by decide +kernel
theorem dX1_take_82 : decode cX1_take 82 = .ok (.getfield 41, 3) := by decide +kernel
theorem dX1_take_85 : decode cX1_take 85 = .ok (.if_icmp .ge 24, 3) := by decide +kernel
theorem dX1_take_88 : decode cX1_take 88 = .ok (.aload_n 0, 1) := by decide +kernel
theorem dX1_take_89 : decode cX1_take 89 = .ok (.getfield 24, 3) := by decide +kernel
theorem dX1_take_92 : decode cX1_take 92 = .ok (.iload_n 2, 1) := by decide +kernel
theorem dX1_take_93 : decode cX1_take 93 = .ok (.aaload, 1) := by decide +kernel
theorem dX1_take_94 : decode cX1_take 94 = .ok (.aload_n 1, 1) := by decide +kernel
theorem dX1_take_95 : decode cX1_take 95 = .ok (.getfield 24, 3) := by decide +kernel
theorem dX1_take_98 : decode cX1_take 98 = .ok (.iload_n 2, 1) := by decide +kernel
theorem dX1_take_99 : decode cX1_take 99 = .ok (.aaload, 1) := by decide +kernel
theorem dX1_take_100 : decode cX1_take 100 = .ok (.invokevirtual 50, 3) := by decide +kernel
theorem dX1_take_103 : decode cX1_take 103 = .ok (.iinc 2 1, 3) := by decide +kernel
theorem dX1_take_106 : decode cX1_take 106 = .ok (.goto (-26), 3) := by decide +kernel
theorem dX1_take_109 : decode cX1_take 109 = .ok (.return_, 1) := by decide +kernel
theorem dX1_isFull_0 : decode cX1_isFull 0 = .ok (.aload_n 0, 1) := by decide +kernel
theorem dX1_isFull_1 : decode cX1_isFull 1 = .ok (.getfield 41, 3) := by decide +kernel
theorem dX1_isFull_4 : decode cX1_isFull 4 = .ok (.bipush 8, 2) := by decide +kernel
theorem dX1_isFull_6 : decode cX1_isFull 6 = .ok (.if_icmp .lt 7, 3) := by decide +kernel
theorem dX1_isFull_9 : decode cX1_isFull 9 = .ok (.iconst 1, 1) := by decide +kernel
theorem dX1_isFull_10 : decode cX1_isFull 10 = .ok (.goto 4, 3) := by decide +kernel
theorem dX1_isFull_13 : decode cX1_isFull 13 = .ok (.iconst 0, 1) := by decide +kernel
theorem dX1_isFull_14 : decode cX1_isFull 14 = .ok (.ireturn, 1) := by decide +kernel
theorem dX1_hang_0 : decode cX1_hang 0 = .ok (.aload_n 0, 1) := by decide +kernel
theorem dX1_hang_1 : decode cX1_hang 1 = .ok (.getfield 24, 3) := by decide +kernel
theorem dX1_hang_4 : decode cX1_hang 4 = .ok (.aload_n 0, 1) := by decide +kernel
theorem dX1_hang_5 : decode cX1_hang 5 = .ok (.getfield 41, 3) := by decide +kernel
theorem dX1_hang_8 : decode cX1_hang 8 = .ok (.aaload, 1) := by decide +kernel
theorem dX1_hang_9 : decode cX1_hang 9 = .ok (.astore_n 2, 1) := by decide +kernel
theorem dX1_hang_10 : decode cX1_hang 10 = .ok (.aload_n 2, 1) := by decide +kernel
theorem dX1_hang_11 : decode cX1_hang 11 = .ok (.iload_n 1, 1) := by decide +kernel
theorem dX1_hang_12 : decode cX1_hang 12 = .ok (.invokevirtual 54, 3) := by decide +kernel
theorem dX1_hang_15 : decode cX1_hang 15 = .ok (.aload_n 0, 1) := by decide +kernel
theorem dX1_hang_16 : decode cX1_hang 16 = .ok (.dup, 1) := by decide +kernel
theorem dX1_hang_17 : decode cX1_hang 17 = .ok (.getfield 41, 3) := by decide +kernel
theorem dX1_hang_20 : decode cX1_hang 20 = .ok (.iconst 1, 1) := by decide +kernel
theorem dX1_hang_21 : decode cX1_hang 21 = .ok (.iadd, 1) := by decide +kernel
theorem dX1_hang_22 : decode cX1_hang 22 = .ok (.putfield 41, 3) := by decide +kernel
theorem dX1_hang_25 : decode cX1_hang 25 = .ok (.aload_n 2, 1) := by decide +kernel
theorem dX1_hang_26 : decode cX1_hang 26 = .ok (.areturn, 1) := by decide +kernel
theorem dX1_placeIn_0 : decode cX1_placeIn 0 = .ok (.ldc 58, 2) := by decide +kernel
theorem dX1_placeIn_2 : decode cX1_placeIn 2 = .ok (.aload_n 0, 1) := by decide +kernel
theorem dX1_placeIn_3 : decode cX1_placeIn 3 = .ok (.getfield 38, 3) := by decide +kernel
theorem dX1_placeIn_6 : decode cX1_placeIn 6 = .ok (.iload_n 1, 1) := by decide +kernel
theorem dX1_placeIn_7 : decode cX1_placeIn 7 = .ok (.iadd, 1) := by decide +kernel
theorem dX1_placeIn_8 : decode cX1_placeIn 8 = .ok (.invokestatic 59, 3) := by decide +kernel
theorem dX1_placeIn_11 : decode cX1_placeIn 11 = .ok (.bipush 6, 2) := by decide +kernel
theorem dX1_placeIn_13 : decode cX1_placeIn 13 = .ok (.irem, 1) := by decide +kernel
theorem dX1_placeIn_14 : decode cX1_placeIn 14 = .ok (.ireturn, 1) := by decide +kernel
theorem dX1_sceneIn_0 : decode cX1_sceneIn 0 = .ok (.aload_n 0, 1) := by decide +kernel
theorem dX1_sceneIn_1 : decode cX1_sceneIn 1 = .ok (.getfield 15, 3) := by decide +kernel
theorem dX1_sceneIn_4 : decode cX1_sceneIn 4 = .ok (.aload_n 0, 1) := by decide +kernel
theorem dX1_sceneIn_5 : decode cX1_sceneIn 5 = .ok (.iload_n 1, 1) := by decide +kernel
theorem dX1_sceneIn_6 : decode cX1_sceneIn 6 = .ok (.invokevirtual 65, 3) := by decide +kernel
theorem dX1_sceneIn_9 : decode cX1_sceneIn 9 = .ok (.iaload, 1) := by decide +kernel
theorem dX1_sceneIn_10 : decode cX1_sceneIn 10 = .ok (.ireturn, 1) := by decide +kernel
theorem dX1_passBeats_0 : decode cX1_passBeats 0 = .ok (.iconst 0, 1) := by decide +kernel
theorem dX1_passBeats_1 : decode cX1_passBeats 1 = .ok (.istore_n 2, 1) := by decide +kernel
theorem dX1_passBeats_2 : decode cX1_passBeats 2 = .ok (.iload_n 2, 1) := by decide +kernel
theorem dX1_passBeats_3 : decode cX1_passBeats 3 = .ok (.iload_n 1, 1) := by decide +kernel
theorem dX1_passBeats_4 : decode cX1_passBeats 4 = .ok (.if_icmp .ge 13, 3) := by decide +kernel
theorem dX1_passBeats_7 : decode cX1_passBeats 7 = .ok (.aload_n 0, 1) := by decide +kernel
theorem dX1_passBeats_8 : decode cX1_passBeats 8 = .ok (.invokevirtual 69, 3) := by decide +kernel
theorem dX1_passBeats_11 : decode cX1_passBeats 11 = .ok (.iinc 2 1, 3) := by decide +kernel
theorem dX1_passBeats_14 : decode cX1_passBeats 14 = .ok (.goto (-12), 3) := by decide +kernel
theorem dX1_passBeats_17 : decode cX1_passBeats 17 = .ok (.return_, 1) := by decide +kernel
theorem dX1_passBeat_0 : decode cX1_passBeat 0 = .ok (.aload_n 0, 1) := by decide +kernel
theorem dX1_passBeat_1 : decode cX1_passBeat 1 = .ok (.iconst 0, 1) := by decide +kernel
theorem dX1_passBeat_2 : decode cX1_passBeat 2 = .ok (.invokevirtual 72, 3) := by decide +kernel
theorem dX1_passBeat_5 : decode cX1_passBeat 5 = .ok (.istore_n 1, 1) := by decide +kernel
theorem dX1_passBeat_6 : decode cX1_passBeat 6 = .ok (.iconst 0, 1) := by decide +kernel
theorem dX1_passBeat_7 : decode cX1_passBeat 7 = .ok (.istore_n 2, 1) := by decide +kernel
theorem dX1_passBeat_8 : decode cX1_passBeat 8 = .ok (.iload_n 2, 1) := by decide +kernel
theorem dX1_passBeat_9 : decode cX1_passBeat 9 = .ok (.aload_n 0, 1) := by decide +kernel
theorem dX1_passBeat_10 : decode cX1_passBeat 10 = .ok (.getfield 41, 3) := by decide +kernel
theorem dX1_passBeat_13 : decode cX1_passBeat 13 = .ok (.if_icmp .ge 30, 3) := by decide +kernel
theorem dX1_passBeat_16 : decode cX1_passBeat 16 = .ok (.aload_n 0, 1) := by decide +kernel
theorem dX1_passBeat_17 : decode cX1_passBeat 17 = .ok (.getfield 24, 3) := by decide +kernel
theorem dX1_passBeat_20 : decode cX1_passBeat 20 = .ok (.iload_n 2, 1) := by decide +kernel
theorem dX1_passBeat_21 : decode cX1_passBeat 21 = .ok (.aaload, 1) := by decide +kernel
theorem dX1_passBeat_22 : decode cX1_passBeat 22 = .ok (.iload_n 1, 1) := by decide +kernel
theorem dX1_passBeat_23 : decode cX1_passBeat 23 = .ok (.aload_n 0, 1) := by decide +kernel
theorem dX1_passBeat_24 : decode cX1_passBeat 24 = .ok (.getfield 29, 3) := by decide +kernel
theorem dX1_passBeat_27 : decode cX1_passBeat 27 = .ok (.invokevirtual 75, 3) := by decide +kernel
theorem dX1_passBeat_30 : decode cX1_passBeat 30 = .ok (.ifCond .eq 7, 3) := by decide +kernel
theorem dX1_passBeat_33 : decode cX1_passBeat 33 = .ok (.aload_n 0, 1) := by decide +kernel
theorem dX1_passBeat_34 : decode cX1_passBeat 34 = .ok (.invokevirtual 78, 3) := by decide +kernel
theorem dX1_passBeat_37 : decode cX1_passBeat 37 = .ok (.iinc 2 1, 3) := by decide +kernel
theorem dX1_passBeat_40 : decode cX1_passBeat 40 = .ok (.goto (-32), 3) := by decide +kernel
theorem dX1_passBeat_43 : decode cX1_passBeat 43 = .ok (.aload_n 0, 1) := by decide +kernel
theorem dX1_passBeat_44 : decode cX1_passBeat 44 = .ok (.ldc 58, 2) := by decide +kernel
theorem dX1_passBeat_46 : decode cX1_passBeat 46 = .ok (.aload_n 0, 1) := by decide +kernel
theorem dX1_passBeat_47 : decode cX1_passBeat 47 = .ok (.getfield 38, 3) := by decide +kernel
theorem dX1_passBeat_50 : decode cX1_passBeat 50 = .ok (.iconst 1, 1) := by decide +kernel
theorem dX1_passBeat_51 : decode cX1_passBeat 51 = .ok (.iadd, 1) := by decide +kernel
theorem dX1_passBeat_52 : decode cX1_passBeat 52 = .ok (.invokestatic 59, 3) := by decide +kernel
theorem dX1_passBeat_55 : decode cX1_passBeat 55 = .ok (.putfield 38, 3) := by decide +kernel
theorem dX1_passBeat_58 : decode cX1_passBeat 58 = .ok (.return_, 1) := by decide +kernel
theorem dX1_tellDown_0 : decode cX1_tellDown 0 = .ok (.aload_n 0, 1) := by decide +kernel
theorem dX1_tellDown_1 : decode cX1_tellDown 1 = .ok (.getfield 29, 3) := by decide +kernel
theorem dX1_tellDown_4 : decode cX1_tellDown 4 = .ok (.iconst 1, 1) := by decide +kernel
theorem dX1_tellDown_5 : decode cX1_tellDown 5 = .ok (.if_icmp .ne 23, 3) := by decide +kernel
theorem dX1_tellDown_8 : decode cX1_tellDown 8 = .ok (.aload_n 0, 1) := by decide +kernel
theorem dX1_tellDown_9 : decode cX1_tellDown 9 = .ok (.sipush 900, 3) := by decide +kernel
theorem dX1_tellDown_12 : decode cX1_tellDown 12 = .ok (.aload_n 0, 1) := by decide +kernel
theorem dX1_tellDown_13 : decode cX1_tellDown 13 = .ok (.getfield 35, 3) := by decide +kernel
theorem dX1_tellDown_16 : decode cX1_tellDown 16 = .ok (.bipush 100, 2) := by decide +kernel
theorem dX1_tellDown_18 : decode cX1_tellDown 18 = .ok (.iadd, 1) := by decide +kernel
theorem dX1_tellDown_19 : decode cX1_tellDown 19 = .ok (.invokestatic 59, 3) := by decide +kernel
theorem dX1_tellDown_22 : decode cX1_tellDown 22 = .ok (.putfield 35, 3) := by decide +kernel
theorem dX1_tellDown_25 : decode cX1_tellDown 25 = .ok (.goto 18, 3) := by decide +kernel
theorem dX1_tellDown_28 : decode cX1_tellDown 28 = .ok (.aload_n 0, 1) := by decide +kernel
theorem dX1_tellDown_29 : decode cX1_tellDown 29 = .ok (.ldc 58, 2) := by decide +kernel
theorem dX1_tellDown_31 : decode cX1_tellDown 31 = .ok (.aload_n 0, 1) := by decide +kernel
theorem dX1_tellDown_32 : decode cX1_tellDown 32 = .ok (.getfield 32, 3) := by decide +kernel
theorem dX1_tellDown_35 : decode cX1_tellDown 35 = .ok (.iconst 1, 1) := by decide +kernel
theorem dX1_tellDown_36 : decode cX1_tellDown 36 = .ok (.iadd, 1) := by decide +kernel
theorem dX1_tellDown_37 : decode cX1_tellDown 37 = .ok (.invokestatic 59, 3) := by decide +kernel
theorem dX1_tellDown_40 : decode cX1_tellDown 40 = .ok (.putfield 32, 3) := by decide +kernel
theorem dX1_tellDown_43 : decode cX1_tellDown 43 = .ok (.return_, 1) := by decide +kernel
theorem dX1_draw_0 : decode cX1_draw 0 = .ok (.aload_n 0, 1) := by decide +kernel
theorem dX1_draw_1 : decode cX1_draw 1 = .ok (.aload_n 0, 1) := by decide +kernel
theorem dX1_draw_2 : decode cX1_draw 2 = .ok (.getfield 9, 3) := by decide +kernel
theorem dX1_draw_5 : decode cX1_draw 5 = .ok (.ldc 81, 2) := by decide +kernel
theorem dX1_draw_7 : decode cX1_draw 7 = .ok (.imul, 1) := by decide +kernel
theorem dX1_draw_8 : decode cX1_draw 8 = .ok (.sipush 12345, 3) := by decide +kernel
theorem dX1_draw_11 : decode cX1_draw 11 = .ok (.iadd, 1) := by decide +kernel
theorem dX1_draw_12 : decode cX1_draw 12 = .ok (.putfield 9, 3) := by decide +kernel
theorem dX1_draw_15 : decode cX1_draw 15 = .ok (.aload_n 0, 1) := by decide +kernel
theorem dX1_draw_16 : decode cX1_draw 16 = .ok (.getfield 9, 3) := by decide +kernel
theorem dX1_draw_19 : decode cX1_draw 19 = .ok (.bipush 8, 2) := by decide +kernel
theorem dX1_draw_21 : decode cX1_draw 21 = .ok (.iushr, 1) := by decide +kernel
theorem dX1_draw_22 : decode cX1_draw 22 = .ok (.ireturn, 1) := by decide +kernel
theorem dX1_thoseDown_0 : decode cX1_thoseDown 0 = .ok (.iconst 0, 1) := by decide +kernel
theorem dX1_thoseDown_1 : decode cX1_thoseDown 1 = .ok (.istore_n 1, 1) := by decide +kernel
theorem dX1_thoseDown_2 : decode cX1_thoseDown 2 = .ok (.iconst 0, 1) := by decide +kernel
theorem dX1_thoseDown_3 : decode cX1_thoseDown 3 = .ok (.istore_n 2, 1) := by decide +kernel
theorem dX1_thoseDown_4 : decode cX1_thoseDown 4 = .ok (.iload_n 2, 1) := by decide +kernel
theorem dX1_thoseDown_5 : decode cX1_thoseDown 5 = .ok (.aload_n 0, 1) := by decide +kernel
theorem dX1_thoseDown_6 : decode cX1_thoseDown 6 = .ok (.getfield 41, 3) := by decide +kernel
theorem dX1_thoseDown_9 : decode cX1_thoseDown 9 = .ok (.if_icmp .ge 31, 3) := by decide +kernel
theorem dX1_thoseDown_12 : decode cX1_thoseDown 12 = .ok (.iload_n 1, 1) := by decide +kernel
theorem dX1_thoseDown_13 : decode cX1_thoseDown 13 = .ok (.aload_n 0, 1) := by decide +kernel
theorem dX1_thoseDown_14 : decode cX1_thoseDown 14 = .ok (.getfield 24, 3) := by decide +kernel
theorem dX1_thoseDown_17 : decode cX1_thoseDown 17 = .ok (.iload_n 2, 1) := by decide +kernel
theorem dX1_thoseDown_18 : decode cX1_thoseDown 18 = .ok (.aaload, 1) := by decide +kernel
theorem dX1_thoseDown_19 : decode cX1_thoseDown 19 = .ok (.getfield 82, 3) := by decide +kernel
theorem dX1_thoseDown_22 : decode cX1_thoseDown 22 = .ok (.ifCond .ne 9, 3) := by decide +kernel
theorem dX1_thoseDown_25 : decode cX1_thoseDown 25 = .ok (.iconst 1, 1) := by decide +kernel
theorem dX1_thoseDown_26 : decode cX1_thoseDown 26 = .ok (.iload_n 2, 1) := by decide +kernel
theorem dX1_thoseDown_27 : decode cX1_thoseDown 27 = .ok (.ishl, 1) := by decide +kernel
theorem dX1_thoseDown_28 : decode cX1_thoseDown 28 = .ok (.goto 4, 3) := by decide +kernel
theorem dX1_thoseDown_31 : decode cX1_thoseDown 31 = .ok (.iconst 0, 1) := by decide +kernel
theorem dX1_thoseDown_32 : decode cX1_thoseDown 32 = .ok (.ior, 1) := by decide +kernel
theorem dX1_thoseDown_33 : decode cX1_thoseDown 33 = .ok (.istore_n 1, 1) := by decide +kernel
theorem dX1_thoseDown_34 : decode cX1_thoseDown 34 = .ok (.iinc 2 1, 3) := by decide +kernel
theorem dX1_thoseDown_37 : decode cX1_thoseDown 37 = .ok (.goto (-33), 3) := by decide +kernel
theorem dX1_thoseDown_40 : decode cX1_thoseDown 40 = .ok (.iload_n 1, 1) := by decide +kernel
theorem dX1_thoseDown_41 : decode cX1_thoseDown 41 = .ok (.ireturn, 1) := by decide +kernel
theorem dX1_thoseWeary_0 : decode cX1_thoseWeary 0 = .ok (.iconst 0, 1) := by decide +kernel
theorem dX1_thoseWeary_1 : decode cX1_thoseWeary 1 = .ok (.istore_n 1, 1) := by decide +kernel
theorem dX1_thoseWeary_2 : decode cX1_thoseWeary 2 = .ok (.iconst 0, 1) := by decide +kernel
theorem dX1_thoseWeary_3 : decode cX1_thoseWeary 3 = .ok (.istore_n 2, 1) := by decide +kernel
theorem dX1_thoseWeary_4 : decode cX1_thoseWeary 4 = .ok (.iload_n 2, 1) := by decide +kernel
theorem dX1_thoseWeary_5 : decode cX1_thoseWeary 5 = .ok (.aload_n 0, 1) := by decide +kernel
theorem dX1_thoseWeary_6 : decode cX1_thoseWeary 6 = .ok (.getfield 41, 3) := by decide +kernel
theorem dX1_thoseWeary_9 : decode cX1_thoseWeary 9 = .ok (.if_icmp .ge 40, 3) := by decide +kernel
theorem dX1_thoseWeary_12 : decode cX1_thoseWeary 12 = .ok (.iload_n 1, 1) := by decide +kernel
theorem dX1_thoseWeary_13 : decode cX1_thoseWeary 13 = .ok (.aload_n 0, 1) := by decide +kernel
theorem dX1_thoseWeary_14 : decode cX1_thoseWeary 14 = .ok (.getfield 24, 3) := by decide +kernel
theorem dX1_thoseWeary_17 : decode cX1_thoseWeary 17 = .ok (.iload_n 2, 1) := by decide +kernel
theorem dX1_thoseWeary_18 : decode cX1_thoseWeary 18 = .ok (.aaload, 1) := by decide +kernel
theorem dX1_thoseWeary_19 : decode cX1_thoseWeary 19 = .ok (.getfield 85, 3) := by decide +kernel
theorem dX1_thoseWeary_22 : decode cX1_thoseWeary 22 = .ok (.aload_n 0, 1) := by decide +kernel
theorem dX1_thoseWeary_23 : decode cX1_thoseWeary 23 = .ok (.getfield 24, 3) := by decide +kernel
theorem dX1_thoseWeary_26 : decode cX1_thoseWeary 26 = .ok (.iload_n 2, 1) := by decide +kernel
theorem dX1_thoseWeary_27 : decode cX1_thoseWeary 27 = .ok (.aaload, 1) := by decide +kernel
theorem dX1_thoseWeary_28 : decode cX1_thoseWeary 28 = .ok (.invokevirtual 88, 3) := by decide +kernel
theorem dX1_thoseWeary_31 : decode cX1_thoseWeary 31 = .ok (.if_icmp .ge 9, 3) := by decide +kernel
theorem dX1_thoseWeary_34 : decode cX1_thoseWeary 34 = .ok (.iconst 1, 1) := by decide +kernel
theorem dX1_thoseWeary_35 : decode cX1_thoseWeary 35 = .ok (.iload_n 2, 1) := by decide +kernel
theorem dX1_thoseWeary_36 : decode cX1_thoseWeary 36 = .ok (.ishl, 1) := by decide +kernel
theorem dX1_thoseWeary_37 : decode cX1_thoseWeary 37 = .ok (.goto 4, 3) := by decide +kernel
theorem dX1_thoseWeary_40 : decode cX1_thoseWeary 40 = .ok (.iconst 0, 1) := by decide +kernel
theorem dX1_thoseWeary_41 : decode cX1_thoseWeary 41 = .ok (.ior, 1) := by decide +kernel
theorem dX1_thoseWeary_42 : decode cX1_thoseWeary 42 = .ok (.istore_n 1, 1) := by decide +kernel
theorem dX1_thoseWeary_43 : decode cX1_thoseWeary 43 = .ok (.iinc 2 1, 3) := by decide +kernel
theorem dX1_thoseWeary_46 : decode cX1_thoseWeary 46 = .ok (.goto (-42), 3) := by decide +kernel
theorem dX1_thoseWeary_49 : decode cX1_thoseWeary 49 = .ok (.iload_n 1, 1) := by decide +kernel
theorem dX1_thoseWeary_50 : decode cX1_thoseWeary 50 = .ok (.ireturn, 1) := by decide +kernel
theorem dX1_allMoods_0 : decode cX1_allMoods 0 = .ok (.iconst 0, 1) := by decide +kernel
theorem dX1_allMoods_1 : decode cX1_allMoods 1 = .ok (.istore_n 1, 1) := by decide +kernel
theorem dX1_allMoods_2 : decode cX1_allMoods 2 = .ok (.iconst 0, 1) := by decide +kernel
theorem dX1_allMoods_3 : decode cX1_allMoods 3 = .ok (.istore_n 2, 1) := by decide +kernel
theorem dX1_allMoods_4 : decode cX1_allMoods 4 = .ok (.iload_n 2, 1) := by decide +kernel
theorem dX1_allMoods_5 : decode cX1_allMoods 5 = .ok (.aload_n 0, 1) := by decide +kernel
theorem dX1_allMoods_6 : decode cX1_allMoods 6 = .ok (.getfield 41, 3) := by decide +kernel
theorem dX1_allMoods_9 : decode cX1_allMoods 9 = .ok (.if_icmp .ge 21, 3) := by decide +kernel
theorem dX1_allMoods_12 : decode cX1_allMoods 12 = .ok (.iload_n 1, 1) := by decide +kernel
theorem dX1_allMoods_13 : decode cX1_allMoods 13 = .ok (.aload_n 0, 1) := by decide +kernel
theorem dX1_allMoods_14 : decode cX1_allMoods 14 = .ok (.getfield 24, 3) := by decide +kernel
theorem dX1_allMoods_17 : decode cX1_allMoods 17 = .ok (.iload_n 2, 1) := by decide +kernel
theorem dX1_allMoods_18 : decode cX1_allMoods 18 = .ok (.aaload, 1) := by decide +kernel
theorem dX1_allMoods_19 : decode cX1_allMoods 19 = .ok (.getfield 85, 3) := by decide +kernel
theorem dX1_allMoods_22 : decode cX1_allMoods 22 = .ok (.iadd, 1) := by decide +kernel
theorem dX1_allMoods_23 : decode cX1_allMoods 23 = .ok (.istore_n 1, 1) := by decide +kernel
theorem dX1_allMoods_24 : decode cX1_allMoods 24 = .ok (.iinc 2 1, 3) := by decide +kernel
theorem dX1_allMoods_27 : decode cX1_allMoods 27 = .ok (.goto (-23), 3) := by decide +kernel
theorem dX1_allMoods_30 : decode cX1_allMoods 30 = .ok (.iload_n 1, 1) := by decide +kernel
theorem dX1_allMoods_31 : decode cX1_allMoods 31 = .ok (.ireturn, 1) := by decide +kernel
theorem dX1_allLikes_0 : decode cX1_allLikes 0 = .ok (.iconst 0, 1) := by decide +kernel
theorem dX1_allLikes_1 : decode cX1_allLikes 1 = .ok (.istore_n 1, 1) := by decide +kernel
theorem dX1_allLikes_2 : decode cX1_allLikes 2 = .ok (.iconst 0, 1) := by decide +kernel
theorem dX1_allLikes_3 : decode cX1_allLikes 3 = .ok (.istore_n 2, 1) := by decide +kernel
theorem dX1_allLikes_4 : decode cX1_allLikes 4 = .ok (.iload_n 2, 1) := by decide +kernel
theorem dX1_allLikes_5 : decode cX1_allLikes 5 = .ok (.aload_n 0, 1) := by decide +kernel
theorem dX1_allLikes_6 : decode cX1_allLikes 6 = .ok (.getfield 41, 3) := by decide +kernel
theorem dX1_allLikes_9 : decode cX1_allLikes 9 = .ok (.if_icmp .ge 21, 3) := by decide +kernel
theorem dX1_allLikes_12 : decode cX1_allLikes 12 = .ok (.iload_n 1, 1) := by decide +kernel
theorem dX1_allLikes_13 : decode cX1_allLikes 13 = .ok (.aload_n 0, 1) := by decide +kernel
theorem dX1_allLikes_14 : decode cX1_allLikes 14 = .ok (.getfield 24, 3) := by decide +kernel
theorem dX1_allLikes_17 : decode cX1_allLikes 17 = .ok (.iload_n 2, 1) := by decide +kernel
theorem dX1_allLikes_18 : decode cX1_allLikes 18 = .ok (.aaload, 1) := by decide +kernel
theorem dX1_allLikes_19 : decode cX1_allLikes 19 = .ok (.getfield 92, 3) := by decide +kernel
theorem dX1_allLikes_22 : decode cX1_allLikes 22 = .ok (.ior, 1) := by decide +kernel
theorem dX1_allLikes_23 : decode cX1_allLikes 23 = .ok (.istore_n 1, 1) := by decide +kernel
theorem dX1_allLikes_24 : decode cX1_allLikes 24 = .ok (.iinc 2 1, 3) := by decide +kernel
theorem dX1_allLikes_27 : decode cX1_allLikes 27 = .ok (.goto (-23), 3) := by decide +kernel
theorem dX1_allLikes_30 : decode cX1_allLikes 30 = .ok (.iload_n 1, 1) := by decide +kernel
theorem dX1_allLikes_31 : decode cX1_allLikes 31 = .ok (.ireturn, 1) := by decide +kernel
theorem dX1_isPleasedBy_0 : decode cX1_isPleasedBy 0 = .ok (.iconst 0, 1) := by decide +kernel
theorem dX1_isPleasedBy_1 : decode cX1_isPleasedBy 1 = .ok (.istore_n 2, 1) := by decide +kernel
theorem dX1_isPleasedBy_2 : decode cX1_isPleasedBy 2 = .ok (.iload_n 2, 1) := by decide +kernel
theorem dX1_isPleasedBy_3 : decode cX1_isPleasedBy 3 = .ok (.aload_n 0, 1) := by decide +kernel
theorem dX1_isPleasedBy_4 : decode cX1_isPleasedBy 4 = .ok (.getfield 41, 3) := by decide +kernel
theorem dX1_isPleasedBy_7 : decode cX1_isPleasedBy 7 = .ok (.if_icmp .ge 31, 3) := by decide +kernel
theorem dX1_isPleasedBy_10 : decode cX1_isPleasedBy 10 = .ok (.aload_n 0, 1) := by decide +kernel
theorem dX1_isPleasedBy_11 : decode cX1_isPleasedBy 11 = .ok (.getfield 24, 3) := by decide +kernel
theorem dX1_isPleasedBy_14 : decode cX1_isPleasedBy 14 = .ok (.iload_n 2, 1) := by decide +kernel
theorem dX1_isPleasedBy_15 : decode cX1_isPleasedBy 15 = .ok (.aaload, 1) := by decide +kernel
theorem dX1_isPleasedBy_16 : decode cX1_isPleasedBy 16 = .ok (.getfield 92, 3) := by decide +kernel
theorem dX1_isPleasedBy_19 : decode cX1_isPleasedBy 19 = .ok (.istore_n 3, 1) := by decide +kernel
theorem dX1_isPleasedBy_20 : decode cX1_isPleasedBy 20 = .ok (.iload_n 3, 1) := by decide +kernel
theorem dX1_isPleasedBy_21 : decode cX1_isPleasedBy 21 = .ok (.ifCond .eq 11, 3) := by decide +kernel
theorem dX1_isPleasedBy_24 : decode cX1_isPleasedBy 24 = .ok (.iload_n 3, 1) := by decide +kernel
theorem dX1_isPleasedBy_25 : decode cX1_isPleasedBy 25 = .ok (.iload_n 1, 1) := by decide +kernel
theorem dX1_isPleasedBy_26 : decode cX1_isPleasedBy 26 = .ok (.iand, 1) := by decide +kernel
theorem dX1_isPleasedBy_27 : decode cX1_isPleasedBy 27 = .ok (.ifCond .ne 5, 3) := by decide +kernel
theorem dX1_isPleasedBy_30 : decode cX1_isPleasedBy 30 = .ok (.iconst 0, 1) := by decide +kernel
theorem dX1_isPleasedBy_31 : decode cX1_isPleasedBy 31 = .ok (.ireturn, 1) := by decide +kernel
theorem dX1_isPleasedBy_32 : decode cX1_isPleasedBy 32 = .ok (.iinc 2 1, 3) := by decide +kernel
theorem dX1_isPleasedBy_35 : decode cX1_isPleasedBy 35 = .ok (.goto (-33), 3) := by decide +kernel
theorem dX1_isPleasedBy_38 : decode cX1_isPleasedBy 38 = .ok (.iconst 1, 1) := by decide +kernel
theorem dX1_isPleasedBy_39 : decode cX1_isPleasedBy 39 = .ok (.ireturn, 1) := by decide +kernel
theorem dX1_heldSpots_0 : decode cX1_heldSpots 0 = .ok (.iconst 0, 1) := by decide +kernel
theorem dX1_heldSpots_1 : decode cX1_heldSpots 1 = .ok (.istore_n 1, 1) := by decide +kernel
theorem dX1_heldSpots_2 : decode cX1_heldSpots 2 = .ok (.aload_n 0, 1) := by decide +kernel
theorem dX1_heldSpots_3 : decode cX1_heldSpots 3 = .ok (.getfield 19, 3) := by decide +kernel
theorem dX1_heldSpots_6 : decode cX1_heldSpots 6 = .ok (.astore_n 2, 1) := by decide +kernel
theorem dX1_heldSpots_7 : decode cX1_heldSpots 7 = .ok (.aload_n 2, 1) := by decide +kernel
theorem dX1_heldSpots_8 : decode cX1_heldSpots 8 = .ok (.arraylength, 1) := by decide +kernel
theorem dX1_heldSpots_9 : decode cX1_heldSpots 9 = .ok (.istore_n 3, 1) := by decide +kernel
theorem dX1_heldSpots_10 : decode cX1_heldSpots 10 = .ok (.iconst 0, 1) := by decide +kernel
theorem dX1_heldSpots_11 : decode cX1_heldSpots 11 = .ok (.istore 4, 2) := by decide +kernel
theorem dX1_heldSpots_13 : decode cX1_heldSpots 13 = .ok (.iload 4, 2) := by decide +kernel
theorem dX1_heldSpots_15 : decode cX1_heldSpots 15 = .ok (.iload_n 3, 1) := by decide +kernel
theorem dX1_heldSpots_16 : decode cX1_heldSpots 16 = .ok (.if_icmp .ge 29, 3) := by decide +kernel
theorem dX1_heldSpots_19 : decode cX1_heldSpots 19 = .ok (.aload_n 2, 1) := by decide +kernel
theorem dX1_heldSpots_20 : decode cX1_heldSpots 20 = .ok (.iload 4, 2) := by decide +kernel
theorem dX1_heldSpots_22 : decode cX1_heldSpots 22 = .ok (.iaload, 1) := by decide +kernel
theorem dX1_heldSpots_23 : decode cX1_heldSpots 23 = .ok (.istore 5, 2) := by decide +kernel
theorem dX1_heldSpots_25 : decode cX1_heldSpots 25 = .ok (.iload_n 1, 1) := by decide +kernel
theorem dX1_heldSpots_26 : decode cX1_heldSpots 26 = .ok (.iload 5, 2) := by decide +kernel
theorem dX1_heldSpots_28 : decode cX1_heldSpots 28 = .ok (.iconst (-1), 1) := by decide +kernel
theorem dX1_heldSpots_29 : decode cX1_heldSpots 29 = .ok (.if_icmp .eq 7, 3) := by decide +kernel
theorem dX1_heldSpots_32 : decode cX1_heldSpots 32 = .ok (.iconst 1, 1) := by decide +kernel
theorem dX1_heldSpots_33 : decode cX1_heldSpots 33 = .ok (.goto 4, 3) := by decide +kernel
theorem dX1_heldSpots_36 : decode cX1_heldSpots 36 = .ok (.iconst 0, 1) := by decide +kernel
theorem dX1_heldSpots_37 : decode cX1_heldSpots 37 = .ok (.iadd, 1) := by decide +kernel
theorem dX1_heldSpots_38 : decode cX1_heldSpots 38 = .ok (.istore_n 1, 1) := by decide +kernel
theorem dX1_heldSpots_39 : decode cX1_heldSpots 39 = .ok (.iinc 4 1, 3) := by decide +kernel
theorem dX1_heldSpots_42 : decode cX1_heldSpots 42 = .ok (.goto (-29), 3) := by decide +kernel
theorem dX1_heldSpots_45 : decode cX1_heldSpots 45 = .ok (.iload_n 1, 1) := by decide +kernel
theorem dX1_heldSpots_46 : decode cX1_heldSpots 46 = .ok (.ireturn, 1) := by decide +kernel
theorem dX2_init_0 : decode cX2_init 0 = .ok (.aload_n 0, 1) := by decide +kernel
theorem dX2_init_1 : decode cX2_init 1 = .ok (.invokespecial 3, 3) := by decide +kernel
theorem dX2_init_4 : decode cX2_init 4 = .ok (.aload_n 0, 1) := by decide +kernel
theorem dX2_init_5 : decode cX2_init 5 = .ok (.bipush 40, 2) := by decide +kernel
theorem dX2_init_7 : decode cX2_init 7 = .ok (.newarray .int, 2) := by decide +kernel
theorem dX2_init_9 : decode cX2_init 9 = .ok (.putfield 9, 3) := by decide +kernel
theorem dX2_init_12 : decode cX2_init 12 = .ok (.return_, 1) := by decide +kernel
theorem dX2_isMissing_0 : decode cX2_isMissing 0 = .ok (.aload_n 0, 1) := by decide +kernel
theorem dX2_isMissing_1 : decode cX2_isMissing 1 = .ok (.getfield 15, 3) := by decide +kernel
theorem dX2_isMissing_4 : decode cX2_isMissing 4 = .ok (.ifCond .ne 7, 3) := by decide +kernel
theorem dX2_isMissing_7 : decode cX2_isMissing 7 = .ok (.iconst 1, 1) := by decide +kernel
theorem dX2_isMissing_8 : decode cX2_isMissing 8 = .ok (.goto 4, 3) := by decide +kernel
theorem dX2_isMissing_11 : decode cX2_isMissing 11 = .ok (.iconst 0, 1) := by decide +kernel
theorem dX2_isMissing_12 : decode cX2_isMissing 12 = .ok (.ireturn, 1) := by decide +kernel
theorem dX2_lay_0 : decode cX2_lay 0 = .ok (.aload_n 0, 1) := by decide +kernel
theorem dX2_lay_1 : decode cX2_lay 1 = .ok (.iload_n 1, 1) := by decide +kernel
theorem dX2_lay_2 : decode cX2_lay 2 = .ok (.putfield 15, 3) := by decide +kernel
theorem dX2_lay_5 : decode cX2_lay 5 = .ok (.aload_n 0, 1) := by decide +kernel
theorem dX2_lay_6 : decode cX2_lay 6 = .ok (.iload_n 2, 1) := by decide +kernel
theorem dX2_lay_7 : decode cX2_lay 7 = .ok (.putfield 19, 3) := by decide +kernel
theorem dX2_lay_10 : decode cX2_lay 10 = .ok (.iconst 0, 1) := by decide +kernel
theorem dX2_lay_11 : decode cX2_lay 11 = .ok (.istore_n 3, 1) := by decide +kernel
theorem dX2_lay_12 : decode cX2_lay 12 = .ok (.iload_n 3, 1) := by decide +kernel
theorem dX2_lay_13 : decode cX2_lay 13 = .ok (.iload_n 2, 1) := by decide +kernel
theorem dX2_lay_14 : decode cX2_lay 14 = .ok (.if_icmp .ge 16, 3) := by decide +kernel
theorem dX2_lay_17 : decode cX2_lay 17 = .ok (.aload_n 0, 1) := by decide +kernel
theorem dX2_lay_18 : decode cX2_lay 18 = .ok (.getfield 9, 3) := by decide +kernel
theorem dX2_lay_21 : decode cX2_lay 21 = .ok (.iload_n 3, 1) := by decide +kernel
theorem dX2_lay_22 : decode cX2_lay 22 = .ok (.iconst 0, 1) := by decide +kernel
theorem dX2_lay_23 : decode cX2_lay 23 = .ok (.iastore, 1) := by decide +kernel
theorem dX2_lay_24 : decode cX2_lay 24 = .ok (.iinc 3 1, 3) := by decide +kernel
theorem dX2_lay_27 : decode cX2_lay 27 = .ok (.goto (-15), 3) := by decide +kernel
theorem dX2_lay_30 : decode cX2_lay 30 = .ok (.return_, 1) := by decide +kernel
theorem dX2_put_0 : decode cX2_put 0 = .ok (.aload_n 0, 1) := by decide +kernel
theorem dX2_put_1 : decode cX2_put 1 = .ok (.getfield 15, 3) := by decide +kernel
theorem dX2_put_4 : decode cX2_put 4 = .ok (.bipush 8, 2) := by decide +kernel
theorem dX2_put_6 : decode cX2_put 6 = .ok (.if_icmp .ne 14, 3) := by decide +kernel
theorem dX2_put_9 : decode cX2_put 9 = .ok (.aload_n 0, 1) := by decide +kernel
theorem dX2_put_10 : decode cX2_put 10 = .ok (.getfield 9, 3) := by decide +kernel
theorem dX2_put_13 : decode cX2_put 13 = .ok (.iload_n 1, 1) := by decide +kernel
theorem dX2_put_14 : decode cX2_put 14 = .ok (.iload_n 2, 1) := by decide +kernel
theorem dX2_put_15 : decode cX2_put 15 = .ok (.i2b, 1) := by decide +kernel
theorem dX2_put_16 : decode cX2_put 16 = .ok (.iastore, 1) := by decide +kernel
theorem dX2_put_17 : decode cX2_put 17 = .ok (.goto 30, 3) := by decide +kernel
theorem dX2_put_20 : decode cX2_put 20 = .ok (.aload_n 0, 1) := by decide +kernel
theorem dX2_put_21 : decode cX2_put 21 = .ok (.getfield 15, 3) := by decide +kernel
theorem dX2_put_24 : decode cX2_put 24 = .ok (.bipush 16, 2) := by decide +kernel
theorem dX2_put_26 : decode cX2_put 26 = .ok (.if_icmp .ne 14, 3) := by decide +kernel
theorem dX2_put_29 : decode cX2_put 29 = .ok (.aload_n 0, 1) := by decide +kernel
theorem dX2_put_30 : decode cX2_put 30 = .ok (.getfield 9, 3) := by decide +kernel
theorem dX2_put_33 : decode cX2_put 33 = .ok (.iload_n 1, 1) := by decide +kernel
theorem dX2_put_34 : decode cX2_put 34 = .ok (.iload_n 2, 1) := by decide +kernel
theorem dX2_put_35 : decode cX2_put 35 = .ok (.i2s, 1) := by decide +kernel
theorem dX2_put_36 : decode cX2_put 36 = .ok (.iastore, 1) := by decide +kernel
theorem dX2_put_37 : decode cX2_put 37 = .ok (.goto 10, 3) := by decide +kernel
theorem dX2_put_40 : decode cX2_put 40 = .ok (.aload_n 0, 1) := by decide +kernel
theorem dX2_put_41 : decode cX2_put 41 = .ok (.getfield 9, 3) := by decide +kernel
theorem dX2_put_44 : decode cX2_put 44 = .ok (.iload_n 1, 1) := by decide +kernel
theorem dX2_put_45 : decode cX2_put 45 = .ok (.iload_n 2, 1) := by decide +kernel
theorem dX2_put_46 : decode cX2_put 46 = .ok (.iastore, 1) := by decide +kernel
theorem dX2_put_47 : decode cX2_put 47 = .ok (.return_, 1) := by decide +kernel
theorem dX2_has_0 : decode cX2_has 0 = .ok (.iload_n 2, 1) := by decide +kernel
theorem dX2_has_1 : decode cX2_has 1 = .ok (.ifCond .lt 21, 3) := by decide +kernel
theorem dX2_has_4 : decode cX2_has 4 = .ok (.iload_n 1, 1) := by decide +kernel
theorem dX2_has_5 : decode cX2_has 5 = .ok (.ifCond .lt 17, 3) := by decide +kernel
theorem dX2_has_8 : decode cX2_has 8 = .ok (.iload_n 1, 1) := by decide +kernel
theorem dX2_has_9 : decode cX2_has 9 = .ok (.aload_n 0, 1) := by decide +kernel
theorem dX2_has_10 : decode cX2_has 10 = .ok (.getfield 19, 3) := by decide +kernel
theorem dX2_has_13 : decode cX2_has 13 = .ok (.iload_n 2, 1) := by decide +kernel
theorem dX2_has_14 : decode cX2_has 14 = .ok (.isub, 1) := by decide +kernel
theorem dX2_has_15 : decode cX2_has 15 = .ok (.if_icmp .gt 7, 3) := by decide +kernel
theorem dX2_has_18 : decode cX2_has 18 = .ok (.iconst 1, 1) := by decide +kernel
theorem dX2_has_19 : decode cX2_has 19 = .ok (.goto 4, 3) := by decide +kernel
theorem dX2_has_22 : decode cX2_has 22 = .ok (.iconst 0, 1) := by decide +kernel
theorem dX2_has_23 : decode cX2_has 23 = .ok (.ireturn, 1) := by decide +kernel
theorem dX3_init_0 : decode cX3_init 0 = .ok (.aload_n 0, 1) := by decide +kernel
theorem dX3_init_1 : decode cX3_init 1 = .ok (.invokespecial 3, 3) := by decide +kernel
theorem dX3_init_4 : decode cX3_init 4 = .ok (.aload_n 0, 1) := by decide +kernel
theorem dX3_init_5 : decode cX3_init 5 = .ok (.bipush 120, 2) := by decide +kernel
theorem dX3_init_7 : decode cX3_init 7 = .ok (.newarray .byte, 2) := by decide +kernel
theorem dX3_init_9 : decode cX3_init 9 = .ok (.putfield 9, 3) := by decide +kernel
theorem dX3_init_12 : decode cX3_init 12 = .ok (.return_, 1) := by decide +kernel
theorem dX3_add_0 : decode cX3_add 0 = .ok (.aload_n 0, 1) := by decide +kernel
theorem dX3_add_1 : decode cX3_add 1 = .ok (.getfield 15, 3) := by decide +kernel
theorem dX3_add_4 : decode cX3_add 4 = .ok (.bipush 120, 2) := by decide +kernel
theorem dX3_add_6 : decode cX3_add 6 = .ok (.if_icmp .ge 23, 3) := by decide +kernel
theorem dX3_add_9 : decode cX3_add 9 = .ok (.aload_n 0, 1) := by decide +kernel
theorem dX3_add_10 : decode cX3_add 10 = .ok (.getfield 9, 3) := by decide +kernel
theorem dX3_add_13 : decode cX3_add 13 = .ok (.aload_n 0, 1) := by decide +kernel
theorem dX3_add_14 : decode cX3_add 14 = .ok (.getfield 15, 3) := by decide +kernel
theorem dX3_add_17 : decode cX3_add 17 = .ok (.iload_n 1, 1) := by decide +kernel
theorem dX3_add_18 : decode cX3_add 18 = .ok (.bastore, 1) := by decide +kernel
theorem dX3_add_19 : decode cX3_add 19 = .ok (.aload_n 0, 1) := by decide +kernel
theorem dX3_add_20 : decode cX3_add 20 = .ok (.dup, 1) := by decide +kernel
theorem dX3_add_21 : decode cX3_add 21 = .ok (.getfield 15, 3) := by decide +kernel
theorem dX3_add_24 : decode cX3_add 24 = .ok (.iconst 1, 1) := by decide +kernel
theorem dX3_add_25 : decode cX3_add 25 = .ok (.iadd, 1) := by decide +kernel
theorem dX3_add_26 : decode cX3_add 26 = .ok (.putfield 15, 3) := by decide +kernel
theorem dX3_add_29 : decode cX3_add 29 = .ok (.return_, 1) := by decide +kernel
theorem dX3_readInto_0 : decode cX3_readInto 0 = .ok (.aload_n 0, 1) := by decide +kernel
theorem dX3_readInto_1 : decode cX3_readInto 1 = .ok (.iconst 0, 1) := by decide +kernel
theorem dX3_readInto_2 : decode cX3_readInto 2 = .ok (.putfield 19, 3) := by decide +kernel
theorem dX3_readInto_5 : decode cX3_readInto 5 = .ok (.aload_n 0, 1) := by decide +kernel
theorem dX3_readInto_6 : decode cX3_readInto 6 = .ok (.invokevirtual 22, 3) := by decide +kernel
theorem dX3_readInto_9 : decode cX3_readInto 9 = .ok (.iconst 1, 1) := by decide +kernel
theorem dX3_readInto_10 : decode cX3_readInto 10 = .ok (.istore_n 2, 1) := by decide +kernel
theorem dX3_readInto_11 : decode cX3_readInto 11 = .ok (.iload_n 2, 1) := by decide +kernel
theorem dX3_readInto_12 : decode cX3_readInto 12 = .ok (.bipush 120, 2) := by decide +kernel
theorem dX3_readInto_14 : decode cX3_readInto 14 = .ok (.if_icmp .gt 70, 3) := by decide +kernel
theorem dX3_readInto_17 : decode cX3_readInto 17 = .ok (.aload_n 0, 1) := by decide +kernel
theorem dX3_readInto_18 : decode cX3_readInto 18 = .ok (.invokevirtual 25, 3) := by decide +kernel
theorem dX3_readInto_21 : decode cX3_readInto 21 = .ok (.istore_n 3, 1) := by decide +kernel
theorem dX3_readInto_22 : decode cX3_readInto 22 = .ok (.iload_n 3, 1) := by decide +kernel
theorem dX3_readInto_23 : decode cX3_readInto 23 = .ok (.iconst (-1), 1) := by decide +kernel
theorem dX3_readInto_24 : decode cX3_readInto 24 = .ok (.if_icmp .ne 11, 3) := by decide +kernel
theorem dX3_readInto_27 : decode cX3_readInto 27 = .ok (.aload_n 0, 1) := by decide +kernel
theorem dX3_readInto_28 : decode cX3_readInto 28 = .ok (.aload_n 1, 1) := by decide +kernel
theorem dX3_readInto_29 : decode cX3_readInto 29 = .ok (.invokevirtual 29, 3) := by decide +kernel
theorem dX3_readInto_32 : decode cX3_readInto 32 = .ok (.goto 9, 3) := by decide +kernel
theorem dX3_readInto_35 : decode cX3_readInto 35 = .ok (.aload_n 0, 1) := by decide +kernel
theorem dX3_readInto_36 : decode cX3_readInto 36 = .ok (.aload_n 1, 1) := by decide +kernel
theorem dX3_readInto_37 : decode cX3_readInto 37 = .ok (.iload_n 3, 1) := by decide +kernel
theorem dX3_readInto_38 : decode cX3_readInto 38 = .ok (.invokevirtual 33, 3) := by decide +kernel
theorem dX3_readInto_41 : decode cX3_readInto 41 = .ok (.istore 4, 2) := by decide +kernel
theorem dX3_readInto_43 : decode cX3_readInto 43 = .ok (.iload 4, 2) := by decide +kernel
theorem dX3_readInto_45 : decode cX3_readInto 45 = .ok (.ifCond .eq 13, 3) := by decide +kernel
theorem dX3_readInto_48 : decode cX3_readInto 48 = .ok (.aload_n 0, 1) := by decide +kernel
theorem dX3_readInto_49 : decode cX3_readInto 49 = .ok (.getfield 37, 3) := by decide +kernel
theorem dX3_readInto_52 : decode cX3_readInto 52 = .ok (.iconst 3, 1) := by decide +kernel
theorem dX3_readInto_53 : decode cX3_readInto 53 = .ok (.if_icmp .ne 5, 3) := by decide +kernel
theorem dX3_readInto_56 : decode cX3_readInto 56 = .ok (.iload_n 2, 1) := by decide +kernel
theorem dX3_readInto_57 : decode cX3_readInto 57 = .ok (.ireturn, 1) := by decide +kernel
theorem dX3_readInto_58 : decode cX3_readInto 58 = .ok (.iload 4, 2) := by decide +kernel
theorem dX3_readInto_60 : decode cX3_readInto 60 = .ok (.ifCond .eq 24, 3) := by decide +kernel
theorem dX3_readInto_63 : decode cX3_readInto 63 = .ok (.aload_n 0, 1) := by decide +kernel
theorem dX3_readInto_64 : decode cX3_readInto 64 = .ok (.getfield 37, 3) := by decide +kernel
theorem dX3_readInto_67 : decode cX3_readInto 67 = .ok (.iconst 2, 1) := by decide +kernel
theorem dX3_readInto_68 : decode cX3_readInto 68 = .ok (.if_icmp .eq 6, 3) := by decide +kernel
theorem dX3_readInto_71 : decode cX3_readInto 71 = .ok (.goto 13, 3) := by decide +kernel
theorem dX3_readInto_74 : decode cX3_readInto 74 = .ok (.aload_n 0, 1) := by decide +kernel
theorem dX3_readInto_75 : decode cX3_readInto 75 = .ok (.invokevirtual 22, 3) := by decide +kernel
theorem dX3_readInto_78 : decode cX3_readInto 78 = .ok (.iinc 2 1, 3) := by decide +kernel
theorem dX3_readInto_81 : decode cX3_readInto 81 = .ok (.goto (-70), 3) := by decide +kernel
theorem dX3_readInto_84 : decode cX3_readInto 84 = .ok (.iconst (-1), 1) := by decide +kernel
theorem dX3_readInto_85 : decode cX3_readInto 85 = .ok (.aload_n 0, 1) := by decide +kernel
theorem dX3_readInto_86 : decode cX3_readInto 86 = .ok (.getfield 40, 3) := by decide +kernel
theorem dX3_readInto_89 : decode cX3_readInto 89 = .ok (.isub, 1) := by decide +kernel
theorem dX3_readInto_90 : decode cX3_readInto 90 = .ok (.ireturn, 1) := by decide +kernel
theorem dX3_readOther_0 : decode cX3_readOther 0 = .ok (.aload_n 0, 1) := by decide +kernel
theorem dX3_readOther_1 : decode cX3_readOther 1 = .ok (.ldc 43, 2) := by decide +kernel
theorem dX3_readOther_3 : decode cX3_readOther 3 = .ok (.invokevirtual 45, 3) := by decide +kernel
theorem dX3_readOther_6 : decode cX3_readOther 6 = .ok (.ifCond .eq 9, 3) := by decide +kernel
theorem dX3_readOther_9 : decode cX3_readOther 9 = .ok (.aload_n 0, 1) := by decide +kernel
theorem dX3_readOther_10 : decode cX3_readOther 10 = .ok (.aload_n 1, 1) := by decide +kernel
theorem dX3_readOther_11 : decode cX3_readOther 11 = .ok (.invokevirtual 49, 3) := by decide +kernel
theorem dX3_readOther_14 : decode cX3_readOther 14 = .ok (.ireturn, 1) := by decide +kernel
theorem dX3_readOther_15 : decode cX3_readOther 15 = .ok (.aload_n 0, 1) := by decide +kernel
theorem dX3_readOther_16 : decode cX3_readOther 16 = .ok (.ldc 52, 2) := by decide +kernel
theorem dX3_readOther_18 : decode cX3_readOther 18 = .ok (.invokevirtual 45, 3) := by decide +kernel
theorem dX3_readOther_21 : decode cX3_readOther 21 = .ok (.ifCond .eq 10, 3) := by decide +kernel
theorem dX3_readOther_24 : decode cX3_readOther 24 = .ok (.aload_n 1, 1) := by decide +kernel
theorem dX3_readOther_25 : decode cX3_readOther 25 = .ok (.iconst 1, 1) := by decide +kernel
theorem dX3_readOther_26 : decode cX3_readOther 26 = .ok (.putfield 54, 3) := by decide +kernel
theorem dX3_readOther_29 : decode cX3_readOther 29 = .ok (.iconst 1, 1) := by decide +kernel
theorem dX3_readOther_30 : decode cX3_readOther 30 = .ok (.ireturn, 1) := by decide +kernel
theorem dX3_readOther_31 : decode cX3_readOther 31 = .ok (.aload_n 0, 1) := by decide +kernel
theorem dX3_readOther_32 : decode cX3_readOther 32 = .ok (.ldc 58, 2) := by decide +kernel
theorem dX3_readOther_34 : decode cX3_readOther 34 = .ok (.invokevirtual 45, 3) := by decide +kernel
theorem dX3_readOther_37 : decode cX3_readOther 37 = .ok (.ifCond .eq 10, 3) := by decide +kernel
theorem dX3_readOther_40 : decode cX3_readOther 40 = .ok (.aload_n 1, 1) := by decide +kernel
theorem dX3_readOther_41 : decode cX3_readOther 41 = .ok (.iconst 0, 1) := by decide +kernel
theorem dX3_readOther_42 : decode cX3_readOther 42 = .ok (.putfield 54, 3) := by decide +kernel
theorem dX3_readOther_45 : decode cX3_readOther 45 = .ok (.iconst 1, 1) := by decide +kernel
theorem dX3_readOther_46 : decode cX3_readOther 46 = .ok (.ireturn, 1) := by decide +kernel
theorem dX3_readOther_47 : decode cX3_readOther 47 = .ok (.iconst 0, 1) := by decide +kernel
theorem dX3_readOther_48 : decode cX3_readOther 48 = .ok (.ireturn, 1) := by decide +kernel
end
section
theorem dX3_readCurtain_0 : decode cX3_readCurtain 0 = .ok (.aload_n 1, 1) := by decide +kernel
theorem dX3_readCurtain_1 : decode cX3_readCurtain 1 = .ok (.invokevirtual 60, 3) := by decide +kernel
theorem dX3_readCurtain_4 : decode cX3_readCurtain 4 = .ok (.ifCond .eq 5, 3) := by decide +kernel
theorem dX3_readCurtain_7 : decode cX3_readCurtain 7 = .ok (.iconst 0, 1) := by decide +kernel
theorem dX3_readCurtain_8 : decode cX3_readCurtain 8 = .ok (.ireturn, 1) := by decide +kernel
theorem dX3_readCurtain_9 : decode cX3_readCurtain 9 = .ok (.aload_n 0, 1) := by decide +kernel
theorem dX3_readCurtain_10 : decode cX3_readCurtain 10 = .ok (.invokevirtual 22, 3) := by decide +kernel
theorem dX3_readCurtain_13 : decode cX3_readCurtain 13 = .ok (.aload_n 1, 1) := by decide +kernel
theorem dX3_readCurtain_14 : decode cX3_readCurtain 14 = .ok (.iload_n 2, 1) := by decide +kernel
theorem dX3_readCurtain_15 : decode cX3_readCurtain 15 = .ok (.invokevirtual 64, 3) := by decide +kernel
theorem dX3_readCurtain_18 : decode cX3_readCurtain 18 = .ok (.astore_n 3, 1) := by decide +kernel
theorem dX3_readCurtain_19 : decode cX3_readCurtain 19 = .ok (.aload_n 0, 1) := by decide +kernel
theorem dX3_readCurtain_20 : decode cX3_readCurtain 20 = .ok (.aload_n 3, 1) := by decide +kernel
theorem dX3_readCurtain_21 : decode cX3_readCurtain 21 = .ok (.ldc 68, 2) := by decide +kernel
theorem dX3_readCurtain_23 : decode cX3_readCurtain 23 = .ok (.iconst 1, 1) := by decide +kernel
theorem dX3_readCurtain_24 : decode cX3_readCurtain 24 = .ok (.invokevirtual 70, 3) := by decide +kernel
theorem dX3_readCurtain_27 : decode cX3_readCurtain 27 = .ok (.ifCond .eq 25, 3) := by decide +kernel
theorem dX3_readCurtain_30 : decode cX3_readCurtain 30 = .ok (.aload_n 0, 1) := by decide +kernel
theorem dX3_readCurtain_31 : decode cX3_readCurtain 31 = .ok (.aload_n 3, 1) := by decide +kernel
theorem dX3_readCurtain_32 : decode cX3_readCurtain 32 = .ok (.ldc 74, 2) := by decide +kernel
theorem dX3_readCurtain_34 : decode cX3_readCurtain 34 = .ok (.iconst 2, 1) := by decide +kernel
theorem dX3_readCurtain_35 : decode cX3_readCurtain 35 = .ok (.invokevirtual 70, 3) := by decide +kernel
theorem dX3_readCurtain_38 : decode cX3_readCurtain 38 = .ok (.ifCond .eq 14, 3) := by decide +kernel
theorem dX3_readCurtain_41 : decode cX3_readCurtain 41 = .ok (.aload_n 0, 1) := by decide +kernel
theorem dX3_readCurtain_42 : decode cX3_readCurtain 42 = .ok (.aload_n 3, 1) := by decide +kernel
theorem dX3_readCurtain_43 : decode cX3_readCurtain 43 = .ok (.ldc 76, 2) := by decide +kernel
theorem dX3_readCurtain_45 : decode cX3_readCurtain 45 = .ok (.iconst 3, 1) := by decide +kernel
theorem dX3_readCurtain_46 : decode cX3_readCurtain 46 = .ok (.invokevirtual 70, 3) := by decide +kernel
theorem dX3_readCurtain_49 : decode cX3_readCurtain 49 = .ok (.ifCond .ne 5, 3) := by decide +kernel
theorem dX3_readCurtain_52 : decode cX3_readCurtain 52 = .ok (.iconst 0, 1) := by decide +kernel
theorem dX3_readCurtain_53 : decode cX3_readCurtain 53 = .ok (.ireturn, 1) := by decide +kernel
theorem dX3_readCurtain_54 : decode cX3_readCurtain 54 = .ok (.aload_n 3, 1) := by decide +kernel
theorem dX3_readCurtain_55 : decode cX3_readCurtain 55 = .ok (.aload_n 0, 1) := by decide +kernel
theorem dX3_readCurtain_56 : decode cX3_readCurtain 56 = .ok (.ldc 78, 2) := by decide +kernel
theorem dX3_readCurtain_58 : decode cX3_readCurtain 58 = .ok (.invokevirtual 45, 3) := by decide +kernel
theorem dX3_readCurtain_61 : decode cX3_readCurtain 61 = .ok (.ifCond .eq 7, 3) := by decide +kernel
theorem dX3_readCurtain_64 : decode cX3_readCurtain 64 = .ok (.iconst 1, 1) := by decide +kernel
theorem dX3_readCurtain_65 : decode cX3_readCurtain 65 = .ok (.goto 4, 3) := by decide +kernel
theorem dX3_readCurtain_68 : decode cX3_readCurtain 68 = .ok (.iconst 0, 1) := by decide +kernel
theorem dX3_readCurtain_69 : decode cX3_readCurtain 69 = .ok (.putfield 80, 3) := by decide +kernel
theorem dX3_readCurtain_72 : decode cX3_readCurtain 72 = .ok (.iconst 1, 1) := by decide +kernel
theorem dX3_readCurtain_73 : decode cX3_readCurtain 73 = .ok (.ireturn, 1) := by decide +kernel
theorem dX3_readPart_0 : decode cX3_readPart 0 = .ok (.aload_n 0, 1) := by decide +kernel
theorem dX3_readPart_1 : decode cX3_readPart 1 = .ok (.aload_n 2, 1) := by decide +kernel
theorem dX3_readPart_2 : decode cX3_readPart 2 = .ok (.invokevirtual 45, 3) := by decide +kernel
theorem dX3_readPart_5 : decode cX3_readPart 5 = .ok (.ifCond .ne 5, 3) := by decide +kernel
theorem dX3_readPart_8 : decode cX3_readPart 8 = .ok (.iconst 1, 1) := by decide +kernel
theorem dX3_readPart_9 : decode cX3_readPart 9 = .ok (.ireturn, 1) := by decide +kernel
theorem dX3_readPart_10 : decode cX3_readPart 10 = .ok (.aload_n 0, 1) := by decide +kernel
theorem dX3_readPart_11 : decode cX3_readPart 11 = .ok (.getstatic 84, 3) := by decide +kernel
theorem dX3_readPart_14 : decode cX3_readPart 14 = .ok (.iload_n 3, 1) := by decide +kernel
theorem dX3_readPart_15 : decode cX3_readPart 15 = .ok (.iaload, 1) := by decide +kernel
theorem dX3_readPart_16 : decode cX3_readPart 16 = .ok (.invokevirtual 88, 3) := by decide +kernel
theorem dX3_readPart_19 : decode cX3_readPart 19 = .ok (.istore 4, 2) := by decide +kernel
theorem dX3_readPart_21 : decode cX3_readPart 21 = .ok (.iload 4, 2) := by decide +kernel
theorem dX3_readPart_23 : decode cX3_readPart 23 = .ok (.iconst (-1), 1) := by decide +kernel
theorem dX3_readPart_24 : decode cX3_readPart 24 = .ok (.if_icmp .ne 5, 3) := by decide +kernel
theorem dX3_readPart_27 : decode cX3_readPart 27 = .ok (.iconst 0, 1) := by decide +kernel
theorem dX3_readPart_28 : decode cX3_readPart 28 = .ok (.ireturn, 1) := by decide +kernel
theorem dX3_readPart_29 : decode cX3_readPart 29 = .ok (.aload_n 1, 1) := by decide +kernel
theorem dX3_readPart_30 : decode cX3_readPart 30 = .ok (.iload_n 3, 1) := by decide +kernel
theorem dX3_readPart_31 : decode cX3_readPart 31 = .ok (.iload 4, 2) := by decide +kernel
theorem dX3_readPart_33 : decode cX3_readPart 33 = .ok (.invokevirtual 92, 3) := by decide +kernel
theorem dX3_readPart_36 : decode cX3_readPart 36 = .ok (.iconst 1, 1) := by decide +kernel
theorem dX3_readPart_37 : decode cX3_readPart 37 = .ok (.ireturn, 1) := by decide +kernel
theorem dX3_readScene_0 : decode cX3_readScene 0 = .ok (.aload_n 0, 1) := by decide +kernel
theorem dX3_readScene_1 : decode cX3_readScene 1 = .ok (.iconst 5, 1) := by decide +kernel
theorem dX3_readScene_2 : decode cX3_readScene 2 = .ok (.invokevirtual 88, 3) := by decide +kernel
theorem dX3_readScene_5 : decode cX3_readScene 5 = .ok (.istore_n 2, 1) := by decide +kernel
theorem dX3_readScene_6 : decode cX3_readScene 6 = .ok (.iload_n 2, 1) := by decide +kernel
theorem dX3_readScene_7 : decode cX3_readScene 7 = .ok (.iconst (-1), 1) := by decide +kernel
theorem dX3_readScene_8 : decode cX3_readScene 8 = .ok (.if_icmp .ne 5, 3) := by decide +kernel
theorem dX3_readScene_11 : decode cX3_readScene 11 = .ok (.iconst 0, 1) := by decide +kernel
theorem dX3_readScene_12 : decode cX3_readScene 12 = .ok (.ireturn, 1) := by decide +kernel
theorem dX3_readScene_13 : decode cX3_readScene 13 = .ok (.aload_n 0, 1) := by decide +kernel
theorem dX3_readScene_14 : decode cX3_readScene 14 = .ok (.bipush 11, 2) := by decide +kernel
theorem dX3_readScene_16 : decode cX3_readScene 16 = .ok (.invokevirtual 88, 3) := by decide +kernel
theorem dX3_readScene_19 : decode cX3_readScene 19 = .ok (.istore_n 3, 1) := by decide +kernel
theorem dX3_readScene_20 : decode cX3_readScene 20 = .ok (.iload_n 3, 1) := by decide +kernel
theorem dX3_readScene_21 : decode cX3_readScene 21 = .ok (.iconst (-1), 1) := by decide +kernel
theorem dX3_readScene_22 : decode cX3_readScene 22 = .ok (.if_icmp .ne 5, 3) := by decide +kernel
theorem dX3_readScene_25 : decode cX3_readScene 25 = .ok (.iconst 0, 1) := by decide +kernel
theorem dX3_readScene_26 : decode cX3_readScene 26 = .ok (.ireturn, 1) := by decide +kernel
theorem dX3_readScene_27 : decode cX3_readScene 27 = .ok (.aload_n 1, 1) := by decide +kernel
theorem dX3_readScene_28 : decode cX3_readScene 28 = .ok (.getfield 96, 3) := by decide +kernel
theorem dX3_readScene_31 : decode cX3_readScene 31 = .ok (.iload_n 2, 1) := by decide +kernel
theorem dX3_readScene_32 : decode cX3_readScene 32 = .ok (.iload_n 3, 1) := by decide +kernel
theorem dX3_readScene_33 : decode cX3_readScene 33 = .ok (.iastore, 1) := by decide +kernel
theorem dX3_readScene_34 : decode cX3_readScene 34 = .ok (.iconst 1, 1) := by decide +kernel
theorem dX3_readScene_35 : decode cX3_readScene 35 = .ok (.ireturn, 1) := by decide +kernel
theorem dX3_kindAtHand_0 : decode cX3_kindAtHand 0 = .ok (.aload_n 0, 1) := by decide +kernel
theorem dX3_kindAtHand_1 : decode cX3_kindAtHand 1 = .ok (.ldc 99, 2) := by decide +kernel
theorem dX3_kindAtHand_3 : decode cX3_kindAtHand 3 = .ok (.invokevirtual 101, 3) := by decide +kernel
theorem dX3_kindAtHand_6 : decode cX3_kindAtHand 6 = .ok (.ifCond .eq 5, 3) := by decide +kernel
theorem dX3_kindAtHand_9 : decode cX3_kindAtHand 9 = .ok (.iconst 0, 1) := by decide +kernel
theorem dX3_kindAtHand_10 : decode cX3_kindAtHand 10 = .ok (.ireturn, 1) := by decide +kernel
theorem dX3_kindAtHand_11 : decode cX3_kindAtHand 11 = .ok (.aload_n 0, 1) := by decide +kernel
theorem dX3_kindAtHand_12 : decode cX3_kindAtHand 12 = .ok (.ldc 104, 2) := by decide +kernel
theorem dX3_kindAtHand_14 : decode cX3_kindAtHand 14 = .ok (.invokevirtual 101, 3) := by decide +kernel
theorem dX3_kindAtHand_17 : decode cX3_kindAtHand 17 = .ok (.ifCond .eq 5, 3) := by decide +kernel
theorem dX3_kindAtHand_20 : decode cX3_kindAtHand 20 = .ok (.iconst 1, 1) := by decide +kernel
theorem dX3_kindAtHand_21 : decode cX3_kindAtHand 21 = .ok (.ireturn, 1) := by decide +kernel
theorem dX3_kindAtHand_22 : decode cX3_kindAtHand 22 = .ok (.aload_n 0, 1) := by decide +kernel
theorem dX3_kindAtHand_23 : decode cX3_kindAtHand 23 = .ok (.ldc 106, 2) := by decide +kernel
theorem dX3_kindAtHand_25 : decode cX3_kindAtHand 25 = .ok (.invokevirtual 101, 3) := by decide +kernel
theorem dX3_kindAtHand_28 : decode cX3_kindAtHand 28 = .ok (.ifCond .eq 5, 3) := by decide +kernel
theorem dX3_kindAtHand_31 : decode cX3_kindAtHand 31 = .ok (.iconst 2, 1) := by decide +kernel
theorem dX3_kindAtHand_32 : decode cX3_kindAtHand 32 = .ok (.ireturn, 1) := by decide +kernel
theorem dX3_kindAtHand_33 : decode cX3_kindAtHand 33 = .ok (.aload_n 0, 1) := by decide +kernel
theorem dX3_kindAtHand_34 : decode cX3_kindAtHand 34 = .ok (.ldc 108, 2) := by decide +kernel
theorem dX3_kindAtHand_36 : decode cX3_kindAtHand 36 = .ok (.invokevirtual 101, 3) := by decide +kernel
theorem dX3_kindAtHand_39 : decode cX3_kindAtHand 39 = .ok (.ifCond .eq 5, 3) := by decide +kernel
theorem dX3_kindAtHand_42 : decode cX3_kindAtHand 42 = .ok (.iconst 3, 1) := by decide +kernel
theorem dX3_kindAtHand_43 : decode cX3_kindAtHand 43 = .ok (.ireturn, 1) := by decide +kernel
theorem dX3_kindAtHand_44 : decode cX3_kindAtHand 44 = .ok (.aload_n 0, 1) := by decide +kernel
theorem dX3_kindAtHand_45 : decode cX3_kindAtHand 45 = .ok (.ldc 110, 2) := by decide +kernel
theorem dX3_kindAtHand_47 : decode cX3_kindAtHand 47 = .ok (.invokevirtual 101, 3) := by decide +kernel
theorem dX3_kindAtHand_50 : decode cX3_kindAtHand 50 = .ok (.ifCond .eq 5, 3) := by decide +kernel
theorem dX3_kindAtHand_53 : decode cX3_kindAtHand 53 = .ok (.iconst 4, 1) := by decide +kernel
theorem dX3_kindAtHand_54 : decode cX3_kindAtHand 54 = .ok (.ireturn, 1) := by decide +kernel
theorem dX3_kindAtHand_55 : decode cX3_kindAtHand 55 = .ok (.aload_n 0, 1) := by decide +kernel
theorem dX3_kindAtHand_56 : decode cX3_kindAtHand 56 = .ok (.ldc 112, 2) := by decide +kernel
theorem dX3_kindAtHand_58 : decode cX3_kindAtHand 58 = .ok (.invokevirtual 101, 3) := by decide +kernel
theorem dX3_kindAtHand_61 : decode cX3_kindAtHand 61 = .ok (.ifCond .eq 5, 3) := by decide +kernel
theorem dX3_kindAtHand_64 : decode cX3_kindAtHand 64 = .ok (.iconst 5, 1) := by decide +kernel
theorem dX3_kindAtHand_65 : decode cX3_kindAtHand 65 = .ok (.ireturn, 1) := by decide +kernel
theorem dX3_kindAtHand_66 : decode cX3_kindAtHand 66 = .ok (.aload_n 0, 1) := by decide +kernel
theorem dX3_kindAtHand_67 : decode cX3_kindAtHand 67 = .ok (.ldc 114, 2) := by decide +kernel
theorem dX3_kindAtHand_69 : decode cX3_kindAtHand 69 = .ok (.invokevirtual 101, 3) := by decide +kernel
theorem dX3_kindAtHand_72 : decode cX3_kindAtHand 72 = .ok (.ifCond .eq 8, 3) := by decide +kernel
theorem dX3_kindAtHand_75 : decode cX3_kindAtHand 75 = .ok (.bipush 6, 2) := by decide +kernel
theorem dX3_kindAtHand_77 : decode cX3_kindAtHand 77 = .ok (.goto 4, 3) := by decide +kernel
theorem dX3_kindAtHand_80 : decode cX3_kindAtHand 80 = .ok (.iconst (-1), 1) := by decide +kernel
theorem dX3_kindAtHand_81 : decode cX3_kindAtHand 81 = .ok (.ireturn, 1) := by decide +kernel
theorem dX3_isWord_0 : decode cX3_isWord 0 = .ok (.aload_n 0, 1) := by decide +kernel
theorem dX3_isWord_1 : decode cX3_isWord 1 = .ok (.getfield 37, 3) := by decide +kernel
theorem dX3_isWord_4 : decode cX3_isWord 4 = .ok (.ifCond .ne 19, 3) := by decide +kernel
theorem dX3_isWord_7 : decode cX3_isWord 7 = .ok (.aload_n 0, 1) := by decide +kernel
theorem dX3_isWord_8 : decode cX3_isWord 8 = .ok (.getfield 19, 3) := by decide +kernel
theorem dX3_isWord_11 : decode cX3_isWord 11 = .ok (.aload_n 0, 1) := by decide +kernel
theorem dX3_isWord_12 : decode cX3_isWord 12 = .ok (.getfield 40, 3) := by decide +kernel
theorem dX3_isWord_15 : decode cX3_isWord 15 = .ok (.isub, 1) := by decide +kernel
theorem dX3_isWord_16 : decode cX3_isWord 16 = .ok (.aload_n 1, 1) := by decide +kernel
theorem dX3_isWord_17 : decode cX3_isWord 17 = .ok (.invokevirtual 116, 3) := by decide +kernel
theorem dX3_isWord_20 : decode cX3_isWord 20 = .ok (.if_icmp .eq 5, 3) := by decide +kernel
theorem dX3_isWord_23 : decode cX3_isWord 23 = .ok (.iconst 0, 1) := by decide +kernel
theorem dX3_isWord_24 : decode cX3_isWord 24 = .ok (.ireturn, 1) := by decide +kernel
theorem dX3_isWord_25 : decode cX3_isWord 25 = .ok (.iconst 0, 1) := by decide +kernel
theorem dX3_isWord_26 : decode cX3_isWord 26 = .ok (.istore_n 2, 1) := by decide +kernel
theorem dX3_isWord_27 : decode cX3_isWord 27 = .ok (.iload_n 2, 1) := by decide +kernel
theorem dX3_isWord_28 : decode cX3_isWord 28 = .ok (.aload_n 1, 1) := by decide +kernel
theorem dX3_isWord_29 : decode cX3_isWord 29 = .ok (.invokevirtual 116, 3) := by decide +kernel
theorem dX3_isWord_32 : decode cX3_isWord 32 = .ok (.if_icmp .ge 30, 3) := by decide +kernel
theorem dX3_isWord_35 : decode cX3_isWord 35 = .ok (.aload_n 0, 1) := by decide +kernel
theorem dX3_isWord_36 : decode cX3_isWord 36 = .ok (.getfield 9, 3) := by decide +kernel
theorem dX3_isWord_39 : decode cX3_isWord 39 = .ok (.aload_n 0, 1) := by decide +kernel
theorem dX3_isWord_40 : decode cX3_isWord 40 = .ok (.getfield 40, 3) := by decide +kernel
theorem dX3_isWord_43 : decode cX3_isWord 43 = .ok (.iload_n 2, 1) := by decide +kernel
theorem dX3_isWord_44 : decode cX3_isWord 44 = .ok (.iadd, 1) := by decide +kernel
theorem dX3_isWord_45 : decode cX3_isWord 45 = .ok (.baload, 1) := by decide +kernel
theorem dX3_isWord_46 : decode cX3_isWord 46 = .ok (.aload_n 1, 1) := by decide +kernel
theorem dX3_isWord_47 : decode cX3_isWord 47 = .ok (.iload_n 2, 1) := by decide +kernel
theorem dX3_isWord_48 : decode cX3_isWord 48 = .ok (.invokevirtual 120, 3) := by decide +kernel
theorem dX3_isWord_51 : decode cX3_isWord 51 = .ok (.if_icmp .eq 5, 3) := by decide +kernel
theorem dX3_isWord_54 : decode cX3_isWord 54 = .ok (.iconst 0, 1) := by decide +kernel
theorem dX3_isWord_55 : decode cX3_isWord 55 = .ok (.ireturn, 1) := by decide +kernel
theorem dX3_isWord_56 : decode cX3_isWord 56 = .ok (.iinc 2 1, 3) := by decide +kernel
theorem dX3_isWord_59 : decode cX3_isWord 59 = .ok (.goto (-32), 3) := by decide +kernel
theorem dX3_isWord_62 : decode cX3_isWord 62 = .ok (.iconst 1, 1) := by decide +kernel
theorem dX3_isWord_63 : decode cX3_isWord 63 = .ok (.ireturn, 1) := by decide +kernel
theorem dX3_takeWord_0 : decode cX3_takeWord 0 = .ok (.aload_n 0, 1) := by decide +kernel
theorem dX3_takeWord_1 : decode cX3_takeWord 1 = .ok (.aload_n 1, 1) := by decide +kernel
theorem dX3_takeWord_2 : decode cX3_takeWord 2 = .ok (.invokevirtual 101, 3) := by decide +kernel
theorem dX3_takeWord_5 : decode cX3_takeWord 5 = .ok (.istore_n 2, 1) := by decide +kernel
theorem dX3_takeWord_6 : decode cX3_takeWord 6 = .ok (.iload_n 2, 1) := by decide +kernel
theorem dX3_takeWord_7 : decode cX3_takeWord 7 = .ok (.ifCond .eq 7, 3) := by decide +kernel
theorem dX3_takeWord_10 : decode cX3_takeWord 10 = .ok (.aload_n 0, 1) := by decide +kernel
theorem dX3_takeWord_11 : decode cX3_takeWord 11 = .ok (.invokevirtual 22, 3) := by decide +kernel
theorem dX3_takeWord_14 : decode cX3_takeWord 14 = .ok (.iload_n 2, 1) := by decide +kernel
theorem dX3_takeWord_15 : decode cX3_takeWord 15 = .ok (.ireturn, 1) := by decide +kernel
theorem dX3_takeNumber_0 : decode cX3_takeNumber 0 = .ok (.aload_n 0, 1) := by decide +kernel
theorem dX3_takeNumber_1 : decode cX3_takeNumber 1 = .ok (.getfield 37, 3) := by decide +kernel
theorem dX3_takeNumber_4 : decode cX3_takeNumber 4 = .ok (.iconst 1, 1) := by decide +kernel
theorem dX3_takeNumber_5 : decode cX3_takeNumber 5 = .ok (.if_icmp .ne 11, 3) := by decide +kernel
theorem dX3_takeNumber_8 : decode cX3_takeNumber 8 = .ok (.aload_n 0, 1) := by decide +kernel
theorem dX3_takeNumber_9 : decode cX3_takeNumber 9 = .ok (.getfield 124, 3) := by decide +kernel
theorem dX3_takeNumber_12 : decode cX3_takeNumber 12 = .ok (.iload_n 1, 1) := by decide +kernel
theorem dX3_takeNumber_13 : decode cX3_takeNumber 13 = .ok (.if_icmp .le 5, 3) := by decide +kernel
theorem dX3_takeNumber_16 : decode cX3_takeNumber 16 = .ok (.iconst (-1), 1) := by decide +kernel
theorem dX3_takeNumber_17 : decode cX3_takeNumber 17 = .ok (.ireturn, 1) := by decide +kernel
theorem dX3_takeNumber_18 : decode cX3_takeNumber 18 = .ok (.aload_n 0, 1) := by decide +kernel
theorem dX3_takeNumber_19 : decode cX3_takeNumber 19 = .ok (.getfield 124, 3) := by decide +kernel
theorem dX3_takeNumber_22 : decode cX3_takeNumber 22 = .ok (.istore_n 2, 1) := by decide +kernel
theorem dX3_takeNumber_23 : decode cX3_takeNumber 23 = .ok (.aload_n 0, 1) := by decide +kernel
theorem dX3_takeNumber_24 : decode cX3_takeNumber 24 = .ok (.invokevirtual 22, 3) := by decide +kernel
theorem dX3_takeNumber_27 : decode cX3_takeNumber 27 = .ok (.iload_n 2, 1) := by decide +kernel
theorem dX3_takeNumber_28 : decode cX3_takeNumber 28 = .ok (.ireturn, 1) := by decide +kernel
theorem dX3_step_0 : decode cX3_step 0 = .ok (.aload_n 0, 1) := by decide +kernel
theorem dX3_step_1 : decode cX3_step 1 = .ok (.aload_n 0, 1) := by decide +kernel
theorem dX3_step_2 : decode cX3_step 2 = .ok (.getfield 19, 3) := by decide +kernel
theorem dX3_step_5 : decode cX3_step 5 = .ok (.putfield 40, 3) := by decide +kernel
theorem dX3_step_8 : decode cX3_step 8 = .ok (.aload_n 0, 1) := by decide +kernel
theorem dX3_step_9 : decode cX3_step 9 = .ok (.getfield 40, 3) := by decide +kernel
theorem dX3_step_12 : decode cX3_step 12 = .ok (.aload_n 0, 1) := by decide +kernel
theorem dX3_step_13 : decode cX3_step 13 = .ok (.getfield 15, 3) := by decide +kernel
theorem dX3_step_16 : decode cX3_step 16 = .ok (.if_icmp .ge 30, 3) := by decide +kernel
theorem dX3_step_19 : decode cX3_step 19 = .ok (.aload_n 0, 1) := by decide +kernel
theorem dX3_step_20 : decode cX3_step 20 = .ok (.getfield 9, 3) := by decide +kernel
theorem dX3_step_23 : decode cX3_step 23 = .ok (.aload_n 0, 1) := by decide +kernel
theorem dX3_step_24 : decode cX3_step 24 = .ok (.getfield 40, 3) := by decide +kernel
theorem dX3_step_27 : decode cX3_step 27 = .ok (.baload, 1) := by decide +kernel
theorem dX3_step_28 : decode cX3_step 28 = .ok (.bipush 32, 2) := by decide +kernel
theorem dX3_step_30 : decode cX3_step 30 = .ok (.if_icmp .ne 16, 3) := by decide +kernel
theorem dX3_step_33 : decode cX3_step 33 = .ok (.aload_n 0, 1) := by decide +kernel
theorem dX3_step_34 : decode cX3_step 34 = .ok (.dup, 1) := by decide +kernel
theorem dX3_step_35 : decode cX3_step 35 = .ok (.getfield 40, 3) := by decide +kernel
theorem dX3_step_38 : decode cX3_step 38 = .ok (.iconst 1, 1) := by decide +kernel
theorem dX3_step_39 : decode cX3_step 39 = .ok (.iadd, 1) := by decide +kernel
theorem dX3_step_40 : decode cX3_step 40 = .ok (.putfield 40, 3) := by decide +kernel
theorem dX3_step_43 : decode cX3_step 43 = .ok (.goto (-35), 3) := by decide +kernel
theorem dX3_step_46 : decode cX3_step 46 = .ok (.aload_n 0, 1) := by decide +kernel
theorem dX3_step_47 : decode cX3_step 47 = .ok (.aload_n 0, 1) := by decide +kernel
theorem dX3_step_48 : decode cX3_step 48 = .ok (.getfield 40, 3) := by decide +kernel
theorem dX3_step_51 : decode cX3_step 51 = .ok (.aload_n 0, 1) := by decide +kernel
theorem dX3_step_52 : decode cX3_step 52 = .ok (.getfield 15, 3) := by decide +kernel
theorem dX3_step_55 : decode cX3_step 55 = .ok (.if_icmp .ge 18, 3) := by decide +kernel
theorem dX3_step_58 : decode cX3_step 58 = .ok (.aload_n 0, 1) := by decide +kernel
theorem dX3_step_59 : decode cX3_step 59 = .ok (.getfield 9, 3) := by decide +kernel
theorem dX3_step_62 : decode cX3_step 62 = .ok (.aload_n 0, 1) := by decide +kernel
theorem dX3_step_63 : decode cX3_step 63 = .ok (.getfield 40, 3) := by decide +kernel
theorem dX3_step_66 : decode cX3_step 66 = .ok (.baload, 1) := by decide +kernel
theorem dX3_step_67 : decode cX3_step 67 = .ok (.invokestatic 127, 3) := by decide +kernel
theorem dX3_step_70 : decode cX3_step 70 = .ok (.goto 4, 3) := by decide +kernel
theorem dX3_step_73 : decode cX3_step 73 = .ok (.iconst 3, 1) := by decide +kernel
theorem dX3_step_74 : decode cX3_step 74 = .ok (.putfield 37, 3) := by decide +kernel
theorem dX3_step_77 : decode cX3_step 77 = .ok (.aload_n 0, 1) := by decide +kernel
theorem dX3_step_78 : decode cX3_step 78 = .ok (.aload_n 0, 1) := by decide +kernel
theorem dX3_step_79 : decode cX3_step 79 = .ok (.getfield 15, 3) := by decide +kernel
theorem dX3_step_82 : decode cX3_step 82 = .ok (.aload_n 0, 1) := by decide +kernel
theorem dX3_step_83 : decode cX3_step 83 = .ok (.getfield 40, 3) := by decide +kernel
theorem dX3_step_86 : decode cX3_step 86 = .ok (.iconst 1, 1) := by decide +kernel
theorem dX3_step_87 : decode cX3_step 87 = .ok (.iadd, 1) := by decide +kernel
theorem dX3_step_88 : decode cX3_step 88 = .ok (.invokestatic 131, 3) := by decide +kernel
theorem dX3_step_91 : decode cX3_step 91 = .ok (.putfield 19, 3) := by decide +kernel
theorem dX3_step_94 : decode cX3_step 94 = .ok (.aload_n 0, 1) := by decide +kernel
theorem dX3_step_95 : decode cX3_step 95 = .ok (.getfield 37, 3) := by decide +kernel
theorem dX3_step_98 : decode cX3_step 98 = .ok (.ifCond .eq 11, 3) := by decide +kernel
theorem dX3_step_101 : decode cX3_step 101 = .ok (.aload_n 0, 1) := by decide +kernel
theorem dX3_step_102 : decode cX3_step 102 = .ok (.getfield 37, 3) := by decide +kernel
theorem dX3_step_105 : decode cX3_step 105 = .ok (.iconst 1, 1) := by decide +kernel
theorem dX3_step_106 : decode cX3_step 106 = .ok (.if_icmp .ne 46, 3) := by decide +kernel
theorem dX3_step_109 : decode cX3_step 109 = .ok (.aload_n 0, 1) := by decide +kernel
theorem dX3_step_110 : decode cX3_step 110 = .ok (.getfield 19, 3) := by decide +kernel
theorem dX3_step_113 : decode cX3_step 113 = .ok (.aload_n 0, 1) := by decide +kernel
theorem dX3_step_114 : decode cX3_step 114 = .ok (.getfield 15, 3) := by decide +kernel
theorem dX3_step_117 : decode cX3_step 117 = .ok (.if_icmp .ge 35, 3) := by decide +kernel
theorem dX3_step_120 : decode cX3_step 120 = .ok (.aload_n 0, 1) := by decide +kernel
theorem dX3_step_121 : decode cX3_step 121 = .ok (.getfield 9, 3) := by decide +kernel
theorem dX3_step_124 : decode cX3_step 124 = .ok (.aload_n 0, 1) := by decide +kernel
theorem dX3_step_125 : decode cX3_step 125 = .ok (.getfield 19, 3) := by decide +kernel
theorem dX3_step_128 : decode cX3_step 128 = .ok (.baload, 1) := by decide +kernel
theorem dX3_step_129 : decode cX3_step 129 = .ok (.invokestatic 127, 3) := by decide +kernel
theorem dX3_step_132 : decode cX3_step 132 = .ok (.aload_n 0, 1) := by decide +kernel
theorem dX3_step_133 : decode cX3_step 133 = .ok (.getfield 37, 3) := by decide +kernel
theorem dX3_step_136 : decode cX3_step 136 = .ok (.if_icmp .ne 16, 3) := by decide +kernel
theorem dX3_step_139 : decode cX3_step 139 = .ok (.aload_n 0, 1) := by decide +kernel
theorem dX3_step_140 : decode cX3_step 140 = .ok (.dup, 1) := by decide +kernel
theorem dX3_step_141 : decode cX3_step 141 = .ok (.getfield 19, 3) := by decide +kernel
theorem dX3_step_144 : decode cX3_step 144 = .ok (.iconst 1, 1) := by decide +kernel
theorem dX3_step_145 : decode cX3_step 145 = .ok (.iadd, 1) := by decide +kernel
theorem dX3_step_146 : decode cX3_step 146 = .ok (.putfield 19, 3) := by decide +kernel
theorem dX3_step_149 : decode cX3_step 149 = .ok (.goto (-55), 3) := by decide +kernel
theorem dX3_step_152 : decode cX3_step 152 = .ok (.aload_n 0, 1) := by decide +kernel
theorem dX3_step_153 : decode cX3_step 153 = .ok (.aload_n 0, 1) := by decide +kernel
theorem dX3_step_154 : decode cX3_step 154 = .ok (.getfield 37, 3) := by decide +kernel
theorem dX3_step_157 : decode cX3_step 157 = .ok (.iconst 1, 1) := by decide +kernel
theorem dX3_step_158 : decode cX3_step 158 = .ok (.if_icmp .ne 10, 3) := by decide +kernel
theorem dX3_step_161 : decode cX3_step 161 = .ok (.aload_n 0, 1) := by decide +kernel
theorem dX3_step_162 : decode cX3_step 162 = .ok (.invokevirtual 137, 3) := by decide +kernel
theorem dX3_step_165 : decode cX3_step 165 = .ok (.goto 4, 3) := by decide +kernel
theorem dX3_step_168 : decode cX3_step 168 = .ok (.iconst 0, 1) := by decide +kernel
theorem dX3_step_169 : decode cX3_step 169 = .ok (.putfield 124, 3) := by decide +kernel
theorem dX3_step_172 : decode cX3_step 172 = .ok (.return_, 1) := by decide +kernel
theorem dX3_tokenBegunBy_0 : decode cX3_tokenBegunBy 0 = .ok (.iload_n 0, 1) := by decide +kernel
theorem dX3_tokenBegunBy_1 : decode cX3_tokenBegunBy 1 = .ok (.bipush 97, 2) := by decide +kernel
theorem dX3_tokenBegunBy_3 : decode cX3_tokenBegunBy 3 = .ok (.if_icmp .lt 11, 3) := by decide +kernel
theorem dX3_tokenBegunBy_6 : decode cX3_tokenBegunBy 6 = .ok (.iload_n 0, 1) := by decide +kernel
theorem dX3_tokenBegunBy_7 : decode cX3_tokenBegunBy 7 = .ok (.bipush 122, 2) := by decide +kernel
theorem dX3_tokenBegunBy_9 : decode cX3_tokenBegunBy 9 = .ok (.if_icmp .gt 5, 3) := by decide +kernel
theorem dX3_tokenBegunBy_12 : decode cX3_tokenBegunBy 12 = .ok (.iconst 0, 1) := by decide +kernel
theorem dX3_tokenBegunBy_13 : decode cX3_tokenBegunBy 13 = .ok (.ireturn, 1) := by decide +kernel
theorem dX3_tokenBegunBy_14 : decode cX3_tokenBegunBy 14 = .ok (.iload_n 0, 1) := by decide +kernel
theorem dX3_tokenBegunBy_15 : decode cX3_tokenBegunBy 15 = .ok (.bipush 48, 2) := by decide +kernel
theorem dX3_tokenBegunBy_17 : decode cX3_tokenBegunBy 17 = .ok (.if_icmp .lt 11, 3) := by decide +kernel
theorem dX3_tokenBegunBy_20 : decode cX3_tokenBegunBy 20 = .ok (.iload_n 0, 1) := by decide +kernel
theorem dX3_tokenBegunBy_21 : decode cX3_tokenBegunBy 21 = .ok (.bipush 57, 2) := by decide +kernel
theorem dX3_tokenBegunBy_23 : decode cX3_tokenBegunBy 23 = .ok (.if_icmp .gt 5, 3) := by decide +kernel
theorem dX3_tokenBegunBy_26 : decode cX3_tokenBegunBy 26 = .ok (.iconst 1, 1) := by decide +kernel
theorem dX3_tokenBegunBy_27 : decode cX3_tokenBegunBy 27 = .ok (.ireturn, 1) := by decide +kernel
theorem dX3_tokenBegunBy_28 : decode cX3_tokenBegunBy 28 = .ok (.iload_n 0, 1) := by decide +kernel
theorem dX3_tokenBegunBy_29 : decode cX3_tokenBegunBy 29 = .ok (.bipush 59, 2) := by decide +kernel
theorem dX3_tokenBegunBy_31 : decode cX3_tokenBegunBy 31 = .ok (.if_icmp .ne 7, 3) := by decide +kernel
theorem dX3_tokenBegunBy_34 : decode cX3_tokenBegunBy 34 = .ok (.iconst 2, 1) := by decide +kernel
theorem dX3_tokenBegunBy_35 : decode cX3_tokenBegunBy 35 = .ok (.goto 4, 3) := by decide +kernel
theorem dX3_tokenBegunBy_38 : decode cX3_tokenBegunBy 38 = .ok (.iconst 4, 1) := by decide +kernel
theorem dX3_tokenBegunBy_39 : decode cX3_tokenBegunBy 39 = .ok (.ireturn, 1) := by decide +kernel
theorem dX3_valueAtHand_0 : decode cX3_valueAtHand 0 = .ok (.iconst 0, 1) := by decide +kernel
theorem dX3_valueAtHand_1 : decode cX3_valueAtHand 1 = .ok (.istore_n 1, 1) := by decide +kernel
theorem dX3_valueAtHand_2 : decode cX3_valueAtHand 2 = .ok (.aload_n 0, 1) := by decide +kernel
theorem dX3_valueAtHand_3 : decode cX3_valueAtHand 3 = .ok (.getfield 40, 3) := by decide +kernel
theorem dX3_valueAtHand_6 : decode cX3_valueAtHand 6 = .ok (.istore_n 2, 1) := by decide +kernel
theorem dX3_valueAtHand_7 : decode cX3_valueAtHand 7 = .ok (.iload_n 2, 1) := by decide +kernel
theorem dX3_valueAtHand_8 : decode cX3_valueAtHand 8 = .ok (.aload_n 0, 1) := by decide +kernel
theorem dX3_valueAtHand_9 : decode cX3_valueAtHand 9 = .ok (.getfield 19, 3) := by decide +kernel
theorem dX3_valueAtHand_12 : decode cX3_valueAtHand 12 = .ok (.if_icmp .ge 30, 3) := by decide +kernel
theorem dX3_valueAtHand_15 : decode cX3_valueAtHand 15 = .ok (.sipush 10000, 3) := by decide +kernel
theorem dX3_valueAtHand_18 : decode cX3_valueAtHand 18 = .ok (.iload_n 1, 1) := by decide +kernel
theorem dX3_valueAtHand_19 : decode cX3_valueAtHand 19 = .ok (.bipush 10, 2) := by decide +kernel
theorem dX3_valueAtHand_21 : decode cX3_valueAtHand 21 = .ok (.imul, 1) := by decide +kernel
theorem dX3_valueAtHand_22 : decode cX3_valueAtHand 22 = .ok (.aload_n 0, 1) := by decide +kernel
theorem dX3_valueAtHand_23 : decode cX3_valueAtHand 23 = .ok (.getfield 9, 3) := by decide +kernel
theorem dX3_valueAtHand_26 : decode cX3_valueAtHand 26 = .ok (.iload_n 2, 1) := by decide +kernel
theorem dX3_valueAtHand_27 : decode cX3_valueAtHand 27 = .ok (.baload, 1) := by decide +kernel
theorem dX3_valueAtHand_28 : decode cX3_valueAtHand 28 = .ok (.iadd, 1) := by decide +kernel
theorem dX3_valueAtHand_29 : decode cX3_valueAtHand 29 = .ok (.bipush 48, 2) := by decide +kernel
theorem dX3_valueAtHand_31 : decode cX3_valueAtHand 31 = .ok (.isub, 1) := by decide +kernel
theorem dX3_valueAtHand_32 : decode cX3_valueAtHand 32 = .ok (.invokestatic 131, 3) := by decide +kernel
theorem dX3_valueAtHand_35 : decode cX3_valueAtHand 35 = .ok (.istore_n 1, 1) := by decide +kernel
theorem dX3_valueAtHand_36 : decode cX3_valueAtHand 36 = .ok (.iinc 2 1, 3) := by decide +kernel
theorem dX3_valueAtHand_39 : decode cX3_valueAtHand 39 = .ok (.goto (-32), 3) := by decide +kernel
theorem dX3_valueAtHand_42 : decode cX3_valueAtHand 42 = .ok (.iload_n 1, 1) := by decide +kernel
theorem dX3_valueAtHand_43 : decode cX3_valueAtHand 43 = .ok (.ireturn, 1) := by decide +kernel
theorem dJ6_bitCount_0f7a4_0 : decode cJ6_bitCount_0f7a4 0 = .ok (.iload_n 0, 1) := by decide +kernel
theorem dJ6_bitCount_0f7a4_1 : decode cJ6_bitCount_0f7a4 1 = .ok (.iload_n 0, 1) := by decide +kernel
theorem dJ6_bitCount_0f7a4_2 : decode cJ6_bitCount_0f7a4 2 = .ok (.iconst 1, 1) := by decide +kernel
theorem dJ6_bitCount_0f7a4_3 : decode cJ6_bitCount_0f7a4 3 = .ok (.iushr, 1) := by decide +kernel
theorem dJ6_bitCount_0f7a4_4 : decode cJ6_bitCount_0f7a4 4 = .ok (.ldc_w 265, 3) := by decide +kernel
theorem dJ6_bitCount_0f7a4_7 : decode cJ6_bitCount_0f7a4 7 = .ok (.iand, 1) := by decide +kernel
theorem dJ6_bitCount_0f7a4_8 : decode cJ6_bitCount_0f7a4 8 = .ok (.isub, 1) := by decide +kernel
theorem dJ6_bitCount_0f7a4_9 : decode cJ6_bitCount_0f7a4 9 = .ok (.istore_n 0, 1) := by decide +kernel
theorem dJ6_bitCount_0f7a4_10 : decode cJ6_bitCount_0f7a4 10 = .ok (.iload_n 0, 1) := by decide +kernel
theorem dJ6_bitCount_0f7a4_11 : decode cJ6_bitCount_0f7a4 11 = .ok (.ldc_w 266, 3) := by decide +kernel
theorem dJ6_bitCount_0f7a4_14 : decode cJ6_bitCount_0f7a4 14 = .ok (.iand, 1) := by decide +kernel
theorem dJ6_bitCount_0f7a4_15 : decode cJ6_bitCount_0f7a4 15 = .ok (.iload_n 0, 1) := by decide +kernel
theorem dJ6_bitCount_0f7a4_16 : decode cJ6_bitCount_0f7a4 16 = .ok (.iconst 2, 1) := by decide +kernel
theorem dJ6_bitCount_0f7a4_17 : decode cJ6_bitCount_0f7a4 17 = .ok (.iushr, 1) := by decide +kernel
theorem dJ6_bitCount_0f7a4_18 : decode cJ6_bitCount_0f7a4 18 = .ok (.ldc_w 266, 3) := by decide +kernel
theorem dJ6_bitCount_0f7a4_21 : decode cJ6_bitCount_0f7a4 21 = .ok (.iand, 1) := by decide +kernel
theorem dJ6_bitCount_0f7a4_22 : decode cJ6_bitCount_0f7a4 22 = .ok (.iadd, 1) := by decide +kernel
theorem dJ6_bitCount_0f7a4_23 : decode cJ6_bitCount_0f7a4 23 = .ok (.istore_n 0, 1) := by decide +kernel
theorem dJ6_bitCount_0f7a4_24 : decode cJ6_bitCount_0f7a4 24 = .ok (.iload_n 0, 1) := by decide +kernel
theorem dJ6_bitCount_0f7a4_25 : decode cJ6_bitCount_0f7a4 25 = .ok (.iload_n 0, 1) := by decide +kernel
theorem dJ6_bitCount_0f7a4_26 : decode cJ6_bitCount_0f7a4 26 = .ok (.iconst 4, 1) := by decide +kernel
theorem dJ6_bitCount_0f7a4_27 : decode cJ6_bitCount_0f7a4 27 = .ok (.iushr, 1) := by decide +kernel
theorem dJ6_bitCount_0f7a4_28 : decode cJ6_bitCount_0f7a4 28 = .ok (.iadd, 1) := by decide +kernel
theorem dJ6_bitCount_0f7a4_29 : decode cJ6_bitCount_0f7a4 29 = .ok (.ldc_w 267, 3) := by decide +kernel
theorem dJ6_bitCount_0f7a4_32 : decode cJ6_bitCount_0f7a4 32 = .ok (.iand, 1) := by decide +kernel
theorem dJ6_bitCount_0f7a4_33 : decode cJ6_bitCount_0f7a4 33 = .ok (.istore_n 0, 1) := by decide +kernel
theorem dJ6_bitCount_0f7a4_34 : decode cJ6_bitCount_0f7a4 34 = .ok (.iload_n 0, 1) := by decide +kernel
theorem dJ6_bitCount_0f7a4_35 : decode cJ6_bitCount_0f7a4 35 = .ok (.iload_n 0, 1) := by decide +kernel
theorem dJ6_bitCount_0f7a4_36 : decode cJ6_bitCount_0f7a4 36 = .ok (.bipush 8, 2) := by decide +kernel
theorem dJ6_bitCount_0f7a4_38 : decode cJ6_bitCount_0f7a4 38 = .ok (.iushr, 1) := by decide +kernel
theorem dJ6_bitCount_0f7a4_39 : decode cJ6_bitCount_0f7a4 39 = .ok (.iadd, 1) := by decide +kernel
theorem dJ6_bitCount_0f7a4_40 : decode cJ6_bitCount_0f7a4 40 = .ok (.istore_n 0, 1) := by decide +kernel
theorem dJ6_bitCount_0f7a4_41 : decode cJ6_bitCount_0f7a4 41 = .ok (.iload_n 0, 1) := by decide +kernel
theorem dJ6_bitCount_0f7a4_42 : decode cJ6_bitCount_0f7a4 42 = .ok (.iload_n 0, 1) := by decide +kernel
theorem dJ6_bitCount_0f7a4_43 : decode cJ6_bitCount_0f7a4 43 = .ok (.bipush 16, 2) := by decide +kernel
theorem dJ6_bitCount_0f7a4_45 : decode cJ6_bitCount_0f7a4 45 = .ok (.iushr, 1) := by decide +kernel
theorem dJ6_bitCount_0f7a4_46 : decode cJ6_bitCount_0f7a4 46 = .ok (.iadd, 1) := by decide +kernel
theorem dJ6_bitCount_0f7a4_47 : decode cJ6_bitCount_0f7a4 47 = .ok (.istore_n 0, 1) := by decide +kernel
theorem dJ6_bitCount_0f7a4_48 : decode cJ6_bitCount_0f7a4 48 = .ok (.iload_n 0, 1) := by decide +kernel
theorem dJ6_bitCount_0f7a4_49 : decode cJ6_bitCount_0f7a4 49 = .ok (.bipush 63, 2) := by decide +kernel
theorem dJ6_bitCount_0f7a4_51 : decode cJ6_bitCount_0f7a4 51 = .ok (.iand, 1) := by decide +kernel
theorem dJ6_bitCount_0f7a4_52 : decode cJ6_bitCount_0f7a4 52 = .ok (.ireturn, 1) := by decide +kernel
theorem dJ0_length_8abf5_0 : decode cJ0_length_8abf5 0 = .ok (.aload_n 0, 1) := by decide +kernel
theorem dJ0_length_8abf5_1 : decode cJ0_length_8abf5 1 = .ok (.getfield 9, 3) := by decide +kernel
theorem dJ0_length_8abf5_4 : decode cJ0_length_8abf5 4 = .ok (.arraylength, 1) := by decide +kernel
theorem dJ0_length_8abf5_5 : decode cJ0_length_8abf5 5 = .ok (.aload_n 0, 1) := by decide +kernel
theorem dJ0_length_8abf5_6 : decode cJ0_length_8abf5 6 = .ok (.invokevirtual 335, 3) := by decide +kernel
theorem dJ0_length_8abf5_9 : decode cJ0_length_8abf5 9 = .ok (.ishr, 1) := by decide +kernel
theorem dJ0_length_8abf5_10 : decode cJ0_length_8abf5 10 = .ok (.ireturn, 1) := by decide +kernel
theorem dJ0_charAt_5068e_0 : decode cJ0_charAt_5068e 0 = .ok (.aload_n 0, 1) := by decide +kernel
theorem dJ0_charAt_5068e_1 : decode cJ0_charAt_5068e 1 = .ok (.invokevirtual 492, 3) := by decide +kernel
theorem dJ0_charAt_5068e_4 : decode cJ0_charAt_5068e 4 = .ok (.ifCond .eq 12, 3) := by decide +kernel
theorem dJ0_charAt_5068e_7 : decode cJ0_charAt_5068e 7 = .ok (.aload_n 0, 1) := by decide +kernel
theorem dJ0_charAt_5068e_8 : decode cJ0_charAt_5068e 8 = .ok (.getfield 9, 3) := by decide +kernel
theorem dJ0_charAt_5068e_11 : decode cJ0_charAt_5068e 11 = .ok (.iload_n 1, 1) := by decide +kernel
theorem dJ0_charAt_5068e_12 : decode cJ0_charAt_5068e 12 = .ok (.invokestatic 495, 3) := by decide +kernel
theorem dJ0_charAt_5068e_15 : decode cJ0_charAt_5068e 15 = .ok (.ireturn, 1) := by decide +kernel
theorem dJ0_charAt_5068e_16 : decode cJ0_charAt_5068e 16 = .ok (.aload_n 0, 1) := by decide +kernel
theorem dJ0_charAt_5068e_17 : decode cJ0_charAt_5068e 17 = .ok (.getfield 9, 3) := by decide +kernel
theorem dJ0_charAt_5068e_20 : decode cJ0_charAt_5068e 20 = .ok (.iload_n 1, 1) := by decide +kernel
theorem dJ0_charAt_5068e_21 : decode cJ0_charAt_5068e 21 = .ok (.invokestatic 498, 3) := by decide +kernel
theorem dJ0_charAt_5068e_24 : decode cJ0_charAt_5068e 24 = .ok (.ireturn, 1) := by decide +kernel
theorem dJ0_coder_7d493_0 : decode cJ0_coder_7d493 0 = .ok (.getstatic 38, 3) := by decide +kernel
theorem dJ0_coder_7d493_3 : decode cJ0_coder_7d493 3 = .ok (.ifCond .eq 10, 3) := by decide +kernel
theorem dJ0_coder_7d493_6 : decode cJ0_coder_7d493 6 = .ok (.aload_n 0, 1) := by decide +kernel
theorem dJ0_coder_7d493_7 : decode cJ0_coder_7d493 7 = .ok (.getfield 15, 3) := by decide +kernel
theorem dJ0_coder_7d493_10 : decode cJ0_coder_7d493 10 = .ok (.goto 4, 3) := by decide +kernel
theorem dJ0_coder_7d493_13 : decode cJ0_coder_7d493 13 = .ok (.iconst 1, 1) := by decide +kernel
theorem dJ0_coder_7d493_14 : decode cJ0_coder_7d493 14 = .ok (.ireturn, 1) := by decide +kernel
theorem dJ0_isLatin1_aae02_0 : decode cJ0_isLatin1_aae02 0 = .ok (.getstatic 38, 3) := by decide +kernel
theorem dJ0_isLatin1_aae02_3 : decode cJ0_isLatin1_aae02 3 = .ok (.ifCond .eq 14, 3) := by decide +kernel
theorem dJ0_isLatin1_aae02_6 : decode cJ0_isLatin1_aae02 6 = .ok (.aload_n 0, 1) := by decide +kernel
theorem dJ0_isLatin1_aae02_7 : decode cJ0_isLatin1_aae02 7 = .ok (.getfield 15, 3) := by decide +kernel
theorem dJ0_isLatin1_aae02_10 : decode cJ0_isLatin1_aae02 10 = .ok (.ifCond .ne 7, 3) := by decide +kernel
theorem dJ0_isLatin1_aae02_13 : decode cJ0_isLatin1_aae02 13 = .ok (.iconst 1, 1) := by decide +kernel
theorem dJ0_isLatin1_aae02_14 : decode cJ0_isLatin1_aae02 14 = .ok (.goto 4, 3) := by decide +kernel
theorem dJ0_isLatin1_aae02_17 : decode cJ0_isLatin1_aae02 17 = .ok (.iconst 0, 1) := by decide +kernel
theorem dJ0_isLatin1_aae02_18 : decode cJ0_isLatin1_aae02 18 = .ok (.ireturn, 1) := by decide +kernel
theorem dJ0_checkIndex_df160_0 : decode cJ0_checkIndex_df160 0 = .ok (.iload_n 0, 1) := by decide +kernel
theorem dJ0_checkIndex_df160_1 : decode cJ0_checkIndex_df160 1 = .ok (.iload_n 1, 1) := by decide +kernel
theorem dJ0_checkIndex_df160_2 : decode cJ0_checkIndex_df160 2 = .ok (.getstatic 1053, 3) := by decide +kernel
theorem dJ0_checkIndex_df160_5 : decode cJ0_checkIndex_df160 5 = .ok (.invokestatic 1059, 3) := by decide +kernel
theorem dJ0_checkIndex_df160_8 : decode cJ0_checkIndex_df160 8 = .ok (.pop, 1) := by decide +kernel
theorem dJ0_checkIndex_df160_9 : decode cJ0_checkIndex_df160 9 = .ok (.return_, 1) := by decide +kernel
theorem dJ1_charAt_3b067_0 : decode cJ1_charAt_3b067 0 = .ok (.iload_n 1, 1) := by decide +kernel
theorem dJ1_charAt_3b067_1 : decode cJ1_charAt_3b067 1 = .ok (.aload_n 0, 1) := by decide +kernel
theorem dJ1_charAt_3b067_2 : decode cJ1_charAt_3b067 2 = .ok (.arraylength, 1) := by decide +kernel
theorem dJ1_charAt_3b067_3 : decode cJ1_charAt_3b067 3 = .ok (.invokestatic 9, 3) := by decide +kernel
theorem dJ1_charAt_3b067_6 : decode cJ1_charAt_3b067 6 = .ok (.aload_n 0, 1) := by decide +kernel
theorem dJ1_charAt_3b067_7 : decode cJ1_charAt_3b067 7 = .ok (.iload_n 1, 1) := by decide +kernel
theorem dJ1_charAt_3b067_8 : decode cJ1_charAt_3b067 8 = .ok (.baload, 1) := by decide +kernel
theorem dJ1_charAt_3b067_9 : decode cJ1_charAt_3b067 9 = .ok (.sipush 255, 3) := by decide +kernel
theorem dJ1_charAt_3b067_12 : decode cJ1_charAt_3b067 12 = .ok (.iand, 1) := by decide +kernel
theorem dJ1_charAt_3b067_13 : decode cJ1_charAt_3b067 13 = .ok (.i2c, 1) := by decide +kernel
theorem dJ1_charAt_3b067_14 : decode cJ1_charAt_3b067 14 = .ok (.ireturn, 1) := by decide +kernel
theorem dX4_init_0 : decode cX4_init 0 = .ok (.aload_n 0, 1) := by decide +kernel
theorem dX4_init_1 : decode cX4_init 1 = .ok (.invokespecial 1, 3) := by decide +kernel
theorem dX4_init_4 : decode cX4_init 4 = .ok (.aload_n 0, 1) := by decide +kernel
theorem dX4_init_5 : decode cX4_init 5 = .ok (.new 7, 3) := by decide +kernel
theorem dX4_init_8 : decode cX4_init 8 = .ok (.dup, 1) := by decide +kernel
theorem dX4_init_9 : decode cX4_init 9 = .ok (.invokespecial 9, 3) := by decide +kernel
theorem dX4_init_12 : decode cX4_init 12 = .ok (.putfield 10, 3) := by decide +kernel
theorem dX4_init_15 : decode cX4_init 15 = .ok (.aload_n 0, 1) := by decide +kernel
theorem dX4_init_16 : decode cX4_init 16 = .ok (.new 7, 3) := by decide +kernel
theorem dX4_init_19 : decode cX4_init 19 = .ok (.dup, 1) := by decide +kernel
theorem dX4_init_20 : decode cX4_init 20 = .ok (.invokespecial 9, 3) := by decide +kernel
theorem dX4_init_23 : decode cX4_init 23 = .ok (.putfield 16, 3) := by decide +kernel
theorem dX4_init_26 : decode cX4_init 26 = .ok (.aload_n 0, 1) := by decide +kernel
theorem dX4_init_27 : decode cX4_init 27 = .ok (.new 7, 3) := by decide +kernel
theorem dX4_init_30 : decode cX4_init 30 = .ok (.dup, 1) := by decide +kernel
theorem dX4_init_31 : decode cX4_init 31 = .ok (.invokespecial 9, 3) := by decide +kernel
theorem dX4_init_34 : decode cX4_init 34 = .ok (.putfield 19, 3) := by decide +kernel
theorem dX4_init_37 : decode cX4_init 37 = .ok (.aload_n 0, 1) := by decide +kernel
theorem dX4_init_38 : decode cX4_init 38 = .ok (.new 22, 3) := by decide +kernel
theorem dX4_init_41 : decode cX4_init 41 = .ok (.dup, 1) := by decide +kernel
theorem dX4_init_42 : decode cX4_init 42 = .ok (.invokespecial 24, 3) := by decide +kernel
theorem dX4_init_45 : decode cX4_init 45 = .ok (.putfield 25, 3) := by decide +kernel
theorem dX4_init_48 : decode cX4_init 48 = .ok (.aload_n 0, 1) := by decide +kernel
theorem dX4_init_49 : decode cX4_init 49 = .ok (.new 29, 3) := by decide +kernel
theorem dX4_init_52 : decode cX4_init 52 = .ok (.dup, 1) := by decide +kernel
theorem dX4_init_53 : decode cX4_init 53 = .ok (.invokespecial 31, 3) := by decide +kernel
theorem dX4_init_56 : decode cX4_init 56 = .ok (.putfield 32, 3) := by decide +kernel
theorem dX4_init_59 : decode cX4_init 59 = .ok (.aload_n 0, 1) := by decide +kernel
theorem dX4_init_60 : decode cX4_init 60 = .ok (.iconst 4, 1) := by decide +kernel
theorem dX4_init_61 : decode cX4_init 61 = .ok (.anewarray 36, 3) := by decide +kernel
theorem dX4_init_64 : decode cX4_init 64 = .ok (.putfield 38, 3) := by decide +kernel
theorem dX4_init_67 : decode cX4_init 67 = .ok (.aload_n 0, 1) := by decide +kernel
theorem dX4_init_68 : decode cX4_init 68 = .ok (.bipush 7, 2) := by decide +kernel
theorem dX4_init_70 : decode cX4_init 70 = .ok (.newarray .int, 2) := by decide +kernel
theorem dX4_init_72 : decode cX4_init 72 = .ok (.putfield 42, 3) := by decide +kernel
theorem dX4_init_75 : decode cX4_init 75 = .ok (.iconst 0, 1) := by decide +kernel
theorem dX4_init_76 : decode cX4_init 76 = .ok (.istore_n 1, 1) := by decide +kernel
theorem dX4_init_77 : decode cX4_init 77 = .ok (.iload_n 1, 1) := by decide +kernel
theorem dX4_init_78 : decode cX4_init 78 = .ok (.iconst 4, 1) := by decide +kernel
theorem dX4_init_79 : decode cX4_init 79 = .ok (.if_icmp .ge 22, 3) := by decide +kernel
theorem dX4_init_82 : decode cX4_init 82 = .ok (.aload_n 0, 1) := by decide +kernel
theorem dX4_init_83 : decode cX4_init 83 = .ok (.getfield 38, 3) := by decide +kernel
theorem dX4_init_86 : decode cX4_init 86 = .ok (.iload_n 1, 1) := by decide +kernel
theorem dX4_init_87 : decode cX4_init 87 = .ok (.new 36, 3) := by decide +kernel
theorem dX4_init_90 : decode cX4_init 90 = .ok (.dup, 1) := by decide +kernel
theorem dX4_init_91 : decode cX4_init 91 = .ok (.invokespecial 46, 3) := by decide +kernel
theorem dX4_init_94 : decode cX4_init 94 = .ok (.aastore, 1) := by decide +kernel
theorem dX4_init_95 : decode cX4_init 95 = .ok (.iinc 1 1, 3) := by decide +kernel
theorem dX4_init_98 : decode cX4_init 98 = .ok (.goto (-21), 3) := by decide +kernel
theorem dX4_init_101 : decode cX4_init 101 = .ok (.return_, 1) := by decide +kernel
theorem dX4_fire_0 : decode cX4_fire 0 = .ok (.iload_n 1, 1) := by decide +kernel
theorem dX4_fire_1 : decode cX4_fire 1 = .ok (.iconst 0, 1) := by decide +kernel
theorem dX4_fire_2 : decode cX4_fire 2 = .ok (.iconst 1, 1) := by decide +kernel
theorem dX4_fire_3 : decode cX4_fire 3 = .ok (.invokestatic 47, 3) := by decide +kernel
theorem dX4_fire_6 : decode cX4_fire 6 = .ok (.ifCond .ne 9, 3) := by decide +kernel
theorem dX4_fire_9 : decode cX4_fire 9 = .ok (.aload_n 0, 1) := by decide +kernel
theorem dX4_fire_10 : decode cX4_fire 10 = .ok (.iconst 0, 1) := by decide +kernel
theorem dX4_fire_11 : decode cX4_fire 11 = .ok (.invokevirtual 51, 3) := by decide +kernel
theorem dX4_fire_14 : decode cX4_fire 14 = .ok (.ireturn, 1) := by decide +kernel
theorem dX4_fire_15 : decode cX4_fire 15 = .ok (.aload_n 0, 1) := by decide +kernel
theorem dX4_fire_16 : decode cX4_fire 16 = .ok (.getfield 10, 3) := by decide +kernel
theorem dX4_fire_19 : decode cX4_fire 19 = .ok (.getfield 55, 3) := by decide +kernel
theorem dX4_fire_22 : decode cX4_fire 22 = .ok (.istore_n 2, 1) := by decide +kernel
theorem dX4_fire_23 : decode cX4_fire 23 = .ok (.aload_n 0, 1) := by decide +kernel
theorem dX4_fire_24 : decode cX4_fire 24 = .ok (.getfield 10, 3) := by decide +kernel
theorem dX4_fire_27 : decode cX4_fire 27 = .ok (.iload_n 1, 1) := by decide +kernel
theorem dX4_fire_28 : decode cX4_fire 28 = .ok (.putfield 55, 3) := by decide +kernel
theorem dX4_fire_31 : decode cX4_fire 31 = .ok (.iload_n 2, 1) := by decide +kernel
theorem dX4_fire_32 : decode cX4_fire 32 = .ok (.ireturn, 1) := by decide +kernel
theorem dX4_scene_0 : decode cX4_scene 0 = .ok (.iload_n 1, 1) := by decide +kernel
theorem dX4_scene_1 : decode cX4_scene 1 = .ok (.invokestatic 59, 3) := by decide +kernel
theorem dX4_scene_4 : decode cX4_scene 4 = .ok (.ifCond .eq 13, 3) := by decide +kernel
theorem dX4_scene_7 : decode cX4_scene 7 = .ok (.iload_n 2, 1) := by decide +kernel
theorem dX4_scene_8 : decode cX4_scene 8 = .ok (.iconst 0, 1) := by decide +kernel
theorem dX4_scene_9 : decode cX4_scene 9 = .ok (.bipush 11, 2) := by decide +kernel
theorem dX4_scene_11 : decode cX4_scene 11 = .ok (.invokestatic 47, 3) := by decide +kernel
theorem dX4_scene_14 : decode cX4_scene 14 = .ok (.ifCond .ne 9, 3) := by decide +kernel
theorem dX4_scene_17 : decode cX4_scene 17 = .ok (.aload_n 0, 1) := by decide +kernel
theorem dX4_scene_18 : decode cX4_scene 18 = .ok (.iconst 0, 1) := by decide +kernel
theorem dX4_scene_19 : decode cX4_scene 19 = .ok (.invokevirtual 51, 3) := by decide +kernel
theorem dX4_scene_22 : decode cX4_scene 22 = .ok (.ireturn, 1) := by decide +kernel
theorem dX4_scene_23 : decode cX4_scene 23 = .ok (.aload_n 0, 1) := by decide +kernel
theorem dX4_scene_24 : decode cX4_scene 24 = .ok (.getfield 10, 3) := by decide +kernel
theorem dX4_scene_27 : decode cX4_scene 27 = .ok (.getfield 63, 3) := by decide +kernel
theorem dX4_scene_30 : decode cX4_scene 30 = .ok (.iload_n 1, 1) := by decide +kernel
theorem dX4_scene_31 : decode cX4_scene 31 = .ok (.iaload, 1) := by decide +kernel
theorem dX4_scene_32 : decode cX4_scene 32 = .ok (.istore_n 3, 1) := by decide +kernel
theorem dX4_scene_33 : decode cX4_scene 33 = .ok (.aload_n 0, 1) := by decide +kernel
theorem dX4_scene_34 : decode cX4_scene 34 = .ok (.getfield 10, 3) := by decide +kernel
theorem dX4_scene_37 : decode cX4_scene 37 = .ok (.getfield 63, 3) := by decide +kernel
theorem dX4_scene_40 : decode cX4_scene 40 = .ok (.iload_n 1, 1) := by decide +kernel
theorem dX4_scene_41 : decode cX4_scene 41 = .ok (.iload_n 2, 1) := by decide +kernel
theorem dX4_scene_42 : decode cX4_scene 42 = .ok (.iastore, 1) := by decide +kernel
theorem dX4_scene_43 : decode cX4_scene 43 = .ok (.iload_n 3, 1) := by decide +kernel
theorem dX4_scene_44 : decode cX4_scene 44 = .ok (.ireturn, 1) := by decide +kernel
theorem dX4_listed_0 : decode cX4_listed 0 = .ok (.iload_n 1, 1) := by decide +kernel
theorem dX4_listed_1 : decode cX4_listed 1 = .ok (.invokestatic 59, 3) := by decide +kernel
theorem dX4_listed_4 : decode cX4_listed 4 = .ok (.ifCond .ne 9, 3) := by decide +kernel
theorem dX4_listed_7 : decode cX4_listed 7 = .ok (.aload_n 0, 1) := by decide +kernel
theorem dX4_listed_8 : decode cX4_listed 8 = .ok (.iconst 0, 1) := by decide +kernel
theorem dX4_listed_9 : decode cX4_listed 9 = .ok (.invokevirtual 51, 3) := by decide +kernel
theorem dX4_listed_12 : decode cX4_listed 12 = .ok (.ireturn, 1) := by decide +kernel
theorem dX4_listed_13 : decode cX4_listed 13 = .ok (.aload_n 0, 1) := by decide +kernel
theorem dX4_listed_14 : decode cX4_listed 14 = .ok (.getfield 10, 3) := by decide +kernel
theorem dX4_listed_17 : decode cX4_listed 17 = .ok (.getfield 63, 3) := by decide +kernel
theorem dX4_listed_20 : decode cX4_listed 20 = .ok (.iload_n 1, 1) := by decide +kernel
theorem dX4_listed_21 : decode cX4_listed 21 = .ok (.iaload, 1) := by decide +kernel
theorem dX4_listed_22 : decode cX4_listed 22 = .ok (.ireturn, 1) := by decide +kernel
theorem dX4_curtain_0 : decode cX4_curtain 0 = .ok (.iload_n 1, 1) := by decide +kernel
theorem dX4_curtain_1 : decode cX4_curtain 1 = .ok (.invokestatic 66, 3) := by decide +kernel
theorem dX4_curtain_4 : decode cX4_curtain 4 = .ok (.ifCond .eq 14, 3) := by decide +kernel
theorem dX4_curtain_7 : decode cX4_curtain 7 = .ok (.iload_n 2, 1) := by decide +kernel
theorem dX4_curtain_8 : decode cX4_curtain 8 = .ok (.iconst 0, 1) := by decide +kernel
theorem dX4_curtain_9 : decode cX4_curtain 9 = .ok (.sipush 4095, 3) := by decide +kernel
theorem dX4_curtain_12 : decode cX4_curtain 12 = .ok (.invokestatic 47, 3) := by decide +kernel
theorem dX4_curtain_15 : decode cX4_curtain 15 = .ok (.ifCond .ne 9, 3) := by decide +kernel
theorem dX4_curtain_18 : decode cX4_curtain 18 = .ok (.aload_n 0, 1) := by decide +kernel
theorem dX4_curtain_19 : decode cX4_curtain 19 = .ok (.iconst 0, 1) := by decide +kernel
theorem dX4_curtain_20 : decode cX4_curtain 20 = .ok (.invokevirtual 51, 3) := by decide +kernel
theorem dX4_curtain_23 : decode cX4_curtain 23 = .ok (.ireturn, 1) := by decide +kernel
theorem dX4_curtain_24 : decode cX4_curtain 24 = .ok (.aload_n 0, 1) := by decide +kernel
theorem dX4_curtain_25 : decode cX4_curtain 25 = .ok (.getfield 10, 3) := by decide +kernel
theorem dX4_curtain_28 : decode cX4_curtain 28 = .ok (.invokevirtual 69, 3) := by decide +kernel
theorem dX4_curtain_31 : decode cX4_curtain 31 = .ok (.ifCond .eq 9, 3) := by decide +kernel
theorem dX4_curtain_34 : decode cX4_curtain 34 = .ok (.aload_n 0, 1) := by decide +kernel
theorem dX4_curtain_35 : decode cX4_curtain 35 = .ok (.iconst 1, 1) := by decide +kernel
theorem dX4_curtain_36 : decode cX4_curtain 36 = .ok (.invokevirtual 51, 3) := by decide +kernel
theorem dX4_curtain_39 : decode cX4_curtain 39 = .ok (.ireturn, 1) := by decide +kernel
theorem dX4_curtain_40 : decode cX4_curtain 40 = .ok (.aload_n 0, 1) := by decide +kernel
theorem dX4_curtain_41 : decode cX4_curtain 41 = .ok (.getfield 10, 3) := by decide +kernel
theorem dX4_curtain_44 : decode cX4_curtain 44 = .ok (.iload_n 1, 1) := by decide +kernel
theorem dX4_curtain_45 : decode cX4_curtain 45 = .ok (.invokevirtual 73, 3) := by decide +kernel
theorem dX4_curtain_48 : decode cX4_curtain 48 = .ok (.iload_n 2, 1) := by decide +kernel
theorem dX4_curtain_49 : decode cX4_curtain 49 = .ok (.putfield 77, 3) := by decide +kernel
theorem dX4_curtain_52 : decode cX4_curtain 52 = .ok (.aload_n 0, 1) := by decide +kernel
theorem dX4_curtain_53 : decode cX4_curtain 53 = .ok (.getfield 10, 3) := by decide +kernel
theorem dX4_curtain_56 : decode cX4_curtain 56 = .ok (.getfield 80, 3) := by decide +kernel
theorem dX4_curtain_59 : decode cX4_curtain 59 = .ok (.iconst 1, 1) := by decide +kernel
theorem dX4_curtain_60 : decode cX4_curtain 60 = .ok (.isub, 1) := by decide +kernel
theorem dX4_curtain_61 : decode cX4_curtain 61 = .ok (.ireturn, 1) := by decide +kernel
theorem dX4_of_0 : decode cX4_of 0 = .ok (.aload_n 0, 1) := by decide +kernel
theorem dX4_of_1 : decode cX4_of 1 = .ok (.iload_n 1, 1) := by decide +kernel
theorem dX4_of_2 : decode cX4_of 2 = .ok (.invokevirtual 83, 3) := by decide +kernel
theorem dX4_of_5 : decode cX4_of 5 = .ok (.ifCond .eq 13, 3) := by decide +kernel
theorem dX4_of_8 : decode cX4_of 8 = .ok (.iload_n 2, 1) := by decide +kernel
theorem dX4_of_9 : decode cX4_of 9 = .ok (.iconst 0, 1) := by decide +kernel
theorem dX4_of_10 : decode cX4_of 10 = .ok (.bipush 10, 2) := by decide +kernel
theorem dX4_of_12 : decode cX4_of 12 = .ok (.invokestatic 47, 3) := by decide +kernel
theorem dX4_of_15 : decode cX4_of 15 = .ok (.ifCond .ne 9, 3) := by decide +kernel
theorem dX4_of_18 : decode cX4_of 18 = .ok (.aload_n 0, 1) := by decide +kernel
theorem dX4_of_19 : decode cX4_of 19 = .ok (.iconst 0, 1) := by decide +kernel
theorem dX4_of_20 : decode cX4_of 20 = .ok (.invokevirtual 51, 3) := by decide +kernel
theorem dX4_of_23 : decode cX4_of 23 = .ok (.ireturn, 1) := by decide +kernel
theorem dX4_of_24 : decode cX4_of 24 = .ok (.aload_n 0, 1) := by decide +kernel
theorem dX4_of_25 : decode cX4_of 25 = .ok (.getfield 10, 3) := by decide +kernel
theorem dX4_of_28 : decode cX4_of 28 = .ok (.getfield 86, 3) := by decide +kernel
theorem dX4_of_31 : decode cX4_of 31 = .ok (.iload_n 1, 1) := by decide +kernel
theorem dX4_of_32 : decode cX4_of 32 = .ok (.aaload, 1) := by decide +kernel
theorem dX4_of_33 : decode cX4_of 33 = .ok (.iload_n 2, 1) := by decide +kernel
theorem dX4_of_34 : decode cX4_of 34 = .ok (.aload_n 0, 1) := by decide +kernel
theorem dX4_of_35 : decode cX4_of 35 = .ok (.getfield 10, 3) := by decide +kernel
theorem dX4_of_38 : decode cX4_of 38 = .ok (.iconst 0, 1) := by decide +kernel
theorem dX4_of_39 : decode cX4_of 39 = .ok (.invokevirtual 90, 3) := by decide +kernel
theorem dX4_of_42 : decode cX4_of 42 = .ok (.aload_n 0, 1) := by decide +kernel
theorem dX4_of_43 : decode cX4_of 43 = .ok (.getfield 10, 3) := by decide +kernel
theorem dX4_of_46 : decode cX4_of 46 = .ok (.getfield 55, 3) := by decide +kernel
theorem dX4_of_49 : decode cX4_of 49 = .ok (.invokevirtual 93, 3) := by decide +kernel
theorem dX4_of_52 : decode cX4_of 52 = .ok (.ireturn, 1) := by decide +kernel
theorem dX4_change_0 : decode cX4_change 0 = .ok (.aload_n 0, 1) := by decide +kernel
theorem dX4_change_1 : decode cX4_change 1 = .ok (.iload_n 1, 1) := by decide +kernel
theorem dX4_change_2 : decode cX4_change 2 = .ok (.invokevirtual 83, 3) := by decide +kernel
theorem dX4_change_5 : decode cX4_change 5 = .ok (.ifCond .eq 25, 3) := by decide +kernel
theorem dX4_change_8 : decode cX4_change 8 = .ok (.iload_n 2, 1) := by decide +kernel
theorem dX4_change_9 : decode cX4_change 9 = .ok (.iconst 0, 1) := by decide +kernel
theorem dX4_change_10 : decode cX4_change 10 = .ok (.iconst 5, 1) := by decide +kernel
theorem dX4_change_11 : decode cX4_change 11 = .ok (.invokestatic 47, 3) := by decide +kernel
theorem dX4_change_14 : decode cX4_change 14 = .ok (.ifCond .eq 16, 3) := by decide +kernel
theorem dX4_change_17 : decode cX4_change 17 = .ok (.iload_n 3, 1) := by decide +kernel
theorem dX4_change_18 : decode cX4_change 18 = .ok (.iconst 0, 1) := by decide +kernel
theorem dX4_change_19 : decode cX4_change 19 = .ok (.getstatic 97, 3) := by decide +kernel
theorem dX4_change_22 : decode cX4_change 22 = .ok (.iload_n 2, 1) := by decide +kernel
theorem dX4_change_23 : decode cX4_change 23 = .ok (.iaload, 1) := by decide +kernel
theorem dX4_change_24 : decode cX4_change 24 = .ok (.invokestatic 47, 3) := by decide +kernel
theorem dX4_change_27 : decode cX4_change 27 = .ok (.ifCond .ne 9, 3) := by decide +kernel
theorem dX4_change_30 : decode cX4_change 30 = .ok (.aload_n 0, 1) := by decide +kernel
theorem dX4_change_31 : decode cX4_change 31 = .ok (.iconst 0, 1) := by decide +kernel
theorem dX4_change_32 : decode cX4_change 32 = .ok (.invokevirtual 51, 3) := by decide +kernel
theorem dX4_change_35 : decode cX4_change 35 = .ok (.ireturn, 1) := by decide +kernel
theorem dX4_change_36 : decode cX4_change 36 = .ok (.aload_n 0, 1) := by decide +kernel
theorem dX4_change_37 : decode cX4_change 37 = .ok (.getfield 10, 3) := by decide +kernel
theorem dX4_change_40 : decode cX4_change 40 = .ok (.getfield 86, 3) := by decide +kernel
theorem dX4_change_43 : decode cX4_change 43 = .ok (.iload_n 1, 1) := by decide +kernel
theorem dX4_change_44 : decode cX4_change 44 = .ok (.aaload, 1) := by decide +kernel
theorem dX4_change_45 : decode cX4_change 45 = .ok (.astore 4, 2) := by decide +kernel
theorem dX4_change_47 : decode cX4_change 47 = .ok (.aload 4, 2) := by decide +kernel
theorem dX4_change_49 : decode cX4_change 49 = .ok (.iload_n 2, 1) := by decide +kernel
theorem dX4_change_50 : decode cX4_change 50 = .ok (.aload_n 0, 1) := by decide +kernel
theorem dX4_change_51 : decode cX4_change 51 = .ok (.getfield 10, 3) := by decide +kernel
theorem dX4_change_54 : decode cX4_change 54 = .ok (.iconst 0, 1) := by decide +kernel
theorem dX4_change_55 : decode cX4_change 55 = .ok (.invokevirtual 90, 3) := by decide +kernel
theorem dX4_change_58 : decode cX4_change 58 = .ok (.aload_n 0, 1) := by decide +kernel
theorem dX4_change_59 : decode cX4_change 59 = .ok (.getfield 10, 3) := by decide +kernel
theorem dX4_change_62 : decode cX4_change 62 = .ok (.getfield 55, 3) := by decide +kernel
theorem dX4_change_65 : decode cX4_change 65 = .ok (.invokevirtual 93, 3) := by decide +kernel
theorem dX4_change_68 : decode cX4_change 68 = .ok (.istore 5, 2) := by decide +kernel
theorem dX4_change_70 : decode cX4_change 70 = .ok (.aload 4, 2) := by decide +kernel
theorem dX4_change_72 : decode cX4_change 72 = .ok (.iload_n 2, 1) := by decide +kernel
theorem dX4_change_73 : decode cX4_change 73 = .ok (.iload_n 3, 1) := by decide +kernel
theorem dX4_change_74 : decode cX4_change 74 = .ok (.invokevirtual 100, 3) := by decide +kernel
theorem dX4_change_77 : decode cX4_change 77 = .ok (.iload 5, 2) := by decide +kernel
theorem dX4_change_79 : decode cX4_change 79 = .ok (.ireturn, 1) := by decide +kernel
theorem dX4_pull_0 : decode cX4_pull 0 = .ok (.aload_n 0, 1) := by decide +kernel
theorem dX4_pull_1 : decode cX4_pull 1 = .ok (.iload_n 1, 1) := by decide +kernel
theorem dX4_pull_2 : decode cX4_pull 2 = .ok (.invokevirtual 83, 3) := by decide +kernel
theorem dX4_pull_5 : decode cX4_pull 5 = .ok (.ifCond .eq 13, 3) := by decide +kernel
theorem dX4_pull_8 : decode cX4_pull 8 = .ok (.iload_n 2, 1) := by decide +kernel
theorem dX4_pull_9 : decode cX4_pull 9 = .ok (.iconst 1, 1) := by decide +kernel
theorem dX4_pull_10 : decode cX4_pull 10 = .ok (.bipush 40, 2) := by decide +kernel
theorem dX4_pull_12 : decode cX4_pull 12 = .ok (.invokestatic 47, 3) := by decide +kernel
theorem dX4_pull_15 : decode cX4_pull 15 = .ok (.ifCond .ne 9, 3) := by decide +kernel
theorem dX4_pull_18 : decode cX4_pull 18 = .ok (.aload_n 0, 1) := by decide +kernel
theorem dX4_pull_19 : decode cX4_pull 19 = .ok (.iconst 0, 1) := by decide +kernel
theorem dX4_pull_20 : decode cX4_pull 20 = .ok (.invokevirtual 51, 3) := by decide +kernel
theorem dX4_pull_23 : decode cX4_pull 23 = .ok (.ireturn, 1) := by decide +kernel
theorem dX4_pull_24 : decode cX4_pull 24 = .ok (.aload_n 0, 1) := by decide +kernel
theorem dX4_pull_25 : decode cX4_pull 25 = .ok (.getfield 10, 3) := by decide +kernel
theorem dX4_pull_28 : decode cX4_pull 28 = .ok (.getfield 86, 3) := by decide +kernel
theorem dX4_pull_31 : decode cX4_pull 31 = .ok (.iload_n 1, 1) := by decide +kernel
theorem dX4_pull_32 : decode cX4_pull 32 = .ok (.aaload, 1) := by decide +kernel
theorem dX4_pull_33 : decode cX4_pull 33 = .ok (.astore_n 3, 1) := by decide +kernel
theorem dX4_pull_34 : decode cX4_pull 34 = .ok (.aload_n 3, 1) := by decide +kernel
theorem dX4_pull_35 : decode cX4_pull 35 = .ok (.getfield 104, 3) := by decide +kernel
theorem dX4_pull_38 : decode cX4_pull 38 = .ok (.iconst 1, 1) := by decide +kernel
theorem dX4_pull_39 : decode cX4_pull 39 = .ok (.if_icmp .ne 9, 3) := by decide +kernel
theorem dX4_pull_42 : decode cX4_pull 42 = .ok (.aload_n 0, 1) := by decide +kernel
theorem dX4_pull_43 : decode cX4_pull 43 = .ok (.iconst 4, 1) := by decide +kernel
theorem dX4_pull_44 : decode cX4_pull 44 = .ok (.invokevirtual 51, 3) := by decide +kernel
theorem dX4_pull_47 : decode cX4_pull 47 = .ok (.ireturn, 1) := by decide +kernel
theorem dX4_pull_48 : decode cX4_pull 48 = .ok (.aload_n 3, 1) := by decide +kernel
theorem dX4_pull_49 : decode cX4_pull 49 = .ok (.iload_n 2, 1) := by decide +kernel
theorem dX4_pull_50 : decode cX4_pull 50 = .ok (.invokevirtual 107, 3) := by decide +kernel
theorem dX4_pull_53 : decode cX4_pull 53 = .ok (.aload_n 3, 1) := by decide +kernel
theorem dX4_pull_54 : decode cX4_pull 54 = .ok (.getfield 111, 3) := by decide +kernel
theorem dX4_pull_57 : decode cX4_pull 57 = .ok (.ireturn, 1) := by decide +kernel
theorem dX4_go_0 : decode cX4_go 0 = .ok (.iload_n 1, 1) := by decide +kernel
theorem dX4_go_1 : decode cX4_go 1 = .ok (.iconst 1, 1) := by decide +kernel
theorem dX4_go_2 : decode cX4_go 2 = .ok (.bipush 60, 2) := by decide +kernel
theorem dX4_go_4 : decode cX4_go 4 = .ok (.invokestatic 47, 3) := by decide +kernel
theorem dX4_go_7 : decode cX4_go 7 = .ok (.ifCond .ne 9, 3) := by decide +kernel
theorem dX4_go_10 : decode cX4_go 10 = .ok (.aload_n 0, 1) := by decide +kernel
theorem dX4_go_11 : decode cX4_go 11 = .ok (.iconst 0, 1) := by decide +kernel
theorem dX4_go_12 : decode cX4_go 12 = .ok (.invokevirtual 51, 3) := by decide +kernel
theorem dX4_go_15 : decode cX4_go 15 = .ok (.ireturn, 1) := by decide +kernel
theorem dX4_go_16 : decode cX4_go 16 = .ok (.aload_n 0, 1) := by decide +kernel
theorem dX4_go_17 : decode cX4_go 17 = .ok (.getfield 10, 3) := by decide +kernel
theorem dX4_go_20 : decode cX4_go 20 = .ok (.getfield 114, 3) := by decide +kernel
theorem dX4_go_23 : decode cX4_go 23 = .ok (.ldc 117, 2) := by decide +kernel
theorem dX4_go_25 : decode cX4_go 25 = .ok (.iload_n 1, 1) := by decide +kernel
theorem dX4_go_26 : decode cX4_go 26 = .ok (.isub, 1) := by decide +kernel
theorem dX4_go_27 : decode cX4_go 27 = .ok (.if_icmp .le 9, 3) := by decide +kernel
theorem dX4_go_30 : decode cX4_go 30 = .ok (.aload_n 0, 1) := by decide +kernel
theorem dX4_go_31 : decode cX4_go 31 = .ok (.iconst 4, 1) := by decide +kernel
theorem dX4_go_32 : decode cX4_go 32 = .ok (.invokevirtual 51, 3) := by decide +kernel
theorem dX4_go_35 : decode cX4_go 35 = .ok (.ireturn, 1) := by decide +kernel
theorem dX4_go_36 : decode cX4_go 36 = .ok (.aload_n 0, 1) := by decide +kernel
theorem dX4_go_37 : decode cX4_go 37 = .ok (.getfield 10, 3) := by decide +kernel
theorem dX4_go_40 : decode cX4_go 40 = .ok (.iload_n 1, 1) := by decide +kernel
theorem dX4_go_41 : decode cX4_go 41 = .ok (.invokevirtual 118, 3) := by decide +kernel
theorem dX4_go_44 : decode cX4_go 44 = .ok (.aload_n 0, 1) := by decide +kernel
theorem dX4_go_45 : decode cX4_go 45 = .ok (.getfield 10, 3) := by decide +kernel
theorem dX4_go_48 : decode cX4_go 48 = .ok (.getfield 121, 3) := by decide +kernel
theorem dX4_go_51 : decode cX4_go 51 = .ok (.ireturn, 1) := by decide +kernel
theorem dX4_now_0 : decode cX4_now 0 = .ok (.iload_n 1, 1) := by decide +kernel
theorem dX4_now_1 : decode cX4_now 1 = .ok (.tableswitch 111 0 7 #[47, 55, 63, 71, 79, 87, 95, 103], 47) := by decide +kernel
theorem dX4_now_48 : decode cX4_now 48 = .ok (.aload_n 0, 1) := by decide +kernel
theorem dX4_now_49 : decode cX4_now 49 = .ok (.getfield 10, 3) := by decide +kernel
theorem dX4_now_52 : decode cX4_now 52 = .ok (.getfield 114, 3) := by decide +kernel
theorem dX4_now_55 : decode cX4_now 55 = .ok (.ireturn, 1) := by decide +kernel
theorem dX4_now_56 : decode cX4_now 56 = .ok (.aload_n 0, 1) := by decide +kernel
theorem dX4_now_57 : decode cX4_now 57 = .ok (.getfield 10, 3) := by decide +kernel
theorem dX4_now_60 : decode cX4_now 60 = .ok (.getfield 121, 3) := by decide +kernel
theorem dX4_now_63 : decode cX4_now 63 = .ok (.ireturn, 1) := by decide +kernel
theorem dX4_now_64 : decode cX4_now 64 = .ok (.aload_n 0, 1) := by decide +kernel
theorem dX4_now_65 : decode cX4_now 65 = .ok (.getfield 10, 3) := by decide +kernel
theorem dX4_now_68 : decode cX4_now 68 = .ok (.getfield 124, 3) := by decide +kernel
theorem dX4_now_71 : decode cX4_now 71 = .ok (.ireturn, 1) := by decide +kernel
theorem dX4_now_72 : decode cX4_now 72 = .ok (.aload_n 0, 1) := by decide +kernel
theorem dX4_now_73 : decode cX4_now 73 = .ok (.getfield 10, 3) := by decide +kernel
theorem dX4_now_76 : decode cX4_now 76 = .ok (.invokevirtual 127, 3) := by decide +kernel
theorem dX4_now_79 : decode cX4_now 79 = .ok (.ireturn, 1) := by decide +kernel
theorem dX4_now_80 : decode cX4_now 80 = .ok (.aload_n 0, 1) := by decide +kernel
theorem dX4_now_81 : decode cX4_now 81 = .ok (.getfield 10, 3) := by decide +kernel
theorem dX4_now_84 : decode cX4_now 84 = .ok (.invokevirtual 131, 3) := by decide +kernel
theorem dX4_now_87 : decode cX4_now 87 = .ok (.ireturn, 1) := by decide +kernel
theorem dX4_now_88 : decode cX4_now 88 = .ok (.aload_n 0, 1) := by decide +kernel
theorem dX4_now_89 : decode cX4_now 89 = .ok (.getfield 10, 3) := by decide +kernel
theorem dX4_now_92 : decode cX4_now 92 = .ok (.invokevirtual 134, 3) := by decide +kernel
theorem dX4_now_95 : decode cX4_now 95 = .ok (.ireturn, 1) := by decide +kernel
theorem dX4_now_96 : decode cX4_now 96 = .ok (.aload_n 0, 1) := by decide +kernel
theorem dX4_now_97 : decode cX4_now 97 = .ok (.getfield 10, 3) := by decide +kernel
theorem dX4_now_100 : decode cX4_now 100 = .ok (.invokevirtual 137, 3) := by decide +kernel
theorem dX4_now_103 : decode cX4_now 103 = .ok (.ireturn, 1) := by decide +kernel
theorem dX4_now_104 : decode cX4_now 104 = .ok (.aload_n 0, 1) := by decide +kernel
theorem dX4_now_105 : decode cX4_now 105 = .ok (.getfield 10, 3) := by decide +kernel
theorem dX4_now_108 : decode cX4_now 108 = .ok (.getfield 55, 3) := by decide +kernel
theorem dX4_now_111 : decode cX4_now 111 = .ok (.ireturn, 1) := by decide +kernel
theorem dX4_now_112 : decode cX4_now 112 = .ok (.aload_n 0, 1) := by decide +kernel
theorem dX4_now_113 : decode cX4_now 113 = .ok (.iconst 0, 1) := by decide +kernel
theorem dX4_now_114 : decode cX4_now 114 = .ok (.invokevirtual 51, 3) := by decide +kernel
theorem dX4_now_117 : decode cX4_now 117 = .ok (.ireturn, 1) := by decide +kernel
theorem dX4_ahead_0 : decode cX4_ahead 0 = .ok (.iload_n 2, 1) := by decide +kernel
theorem dX4_ahead_1 : decode cX4_ahead 1 = .ok (.iconst 1, 1) := by decide +kernel
theorem dX4_ahead_2 : decode cX4_ahead 2 = .ok (.if_icmp .eq 19, 3) := by decide +kernel
theorem dX4_ahead_5 : decode cX4_ahead 5 = .ok (.iload_n 2, 1) := by decide +kernel
theorem dX4_ahead_6 : decode cX4_ahead 6 = .ok (.iconst 3, 1) := by decide +kernel
theorem dX4_ahead_7 : decode cX4_ahead 7 = .ok (.if_icmp .eq 14, 3) := by decide +kernel
theorem dX4_ahead_10 : decode cX4_ahead 10 = .ok (.iload_n 2, 1) := by decide +kernel
theorem dX4_ahead_11 : decode cX4_ahead 11 = .ok (.iconst 5, 1) := by decide +kernel
theorem dX4_ahead_12 : decode cX4_ahead 12 = .ok (.if_icmp .eq 9, 3) := by decide +kernel
theorem dX4_ahead_15 : decode cX4_ahead 15 = .ok (.iload_n 2, 1) := by decide +kernel
theorem dX4_ahead_16 : decode cX4_ahead 16 = .ok (.bipush 8, 2) := by decide +kernel
theorem dX4_ahead_18 : decode cX4_ahead 18 = .ok (.if_icmp .ne 7, 3) := by decide +kernel
theorem dX4_ahead_21 : decode cX4_ahead 21 = .ok (.iconst 1, 1) := by decide +kernel
theorem dX4_ahead_22 : decode cX4_ahead 22 = .ok (.goto 4, 3) := by decide +kernel
theorem dX4_ahead_25 : decode cX4_ahead 25 = .ok (.iconst 0, 1) := by decide +kernel
theorem dX4_ahead_26 : decode cX4_ahead 26 = .ok (.istore 4, 2) := by decide +kernel
theorem dX4_ahead_28 : decode cX4_ahead 28 = .ok (.aload_n 0, 1) := by decide +kernel
theorem dX4_ahead_29 : decode cX4_ahead 29 = .ok (.iload_n 1, 1) := by decide +kernel
theorem dX4_ahead_30 : decode cX4_ahead 30 = .ok (.invokevirtual 83, 3) := by decide +kernel
theorem dX4_ahead_33 : decode cX4_ahead 33 = .ok (.ifCond .eq 18, 3) := by decide +kernel
theorem dX4_ahead_36 : decode cX4_ahead 36 = .ok (.iload 4, 2) := by decide +kernel
theorem dX4_ahead_38 : decode cX4_ahead 38 = .ok (.ifCond .eq 13, 3) := by decide +kernel
theorem dX4_ahead_41 : decode cX4_ahead 41 = .ok (.iload_n 3, 1) := by decide +kernel
theorem dX4_ahead_42 : decode cX4_ahead 42 = .ok (.iconst 0, 1) := by decide +kernel
theorem dX4_ahead_43 : decode cX4_ahead 43 = .ok (.bipush 100, 2) := by decide +kernel
theorem dX4_ahead_45 : decode cX4_ahead 45 = .ok (.invokestatic 47, 3) := by decide +kernel
theorem dX4_ahead_48 : decode cX4_ahead 48 = .ok (.ifCond .ne 9, 3) := by decide +kernel
theorem dX4_ahead_51 : decode cX4_ahead 51 = .ok (.aload_n 0, 1) := by decide +kernel
theorem dX4_ahead_52 : decode cX4_ahead 52 = .ok (.iconst 0, 1) := by decide +kernel
theorem dX4_ahead_53 : decode cX4_ahead 53 = .ok (.invokevirtual 51, 3) := by decide +kernel
theorem dX4_ahead_56 : decode cX4_ahead 56 = .ok (.ireturn, 1) := by decide +kernel
theorem dX4_ahead_57 : decode cX4_ahead 57 = .ok (.aload_n 0, 1) := by decide +kernel
theorem dX4_ahead_58 : decode cX4_ahead 58 = .ok (.getfield 25, 3) := by decide +kernel
theorem dX4_ahead_61 : decode cX4_ahead 61 = .ok (.aload_n 0, 1) := by decide +kernel
theorem dX4_ahead_62 : decode cX4_ahead 62 = .ok (.getfield 10, 3) := by decide +kernel
theorem dX4_ahead_65 : decode cX4_ahead 65 = .ok (.getfield 86, 3) := by decide +kernel
theorem dX4_ahead_68 : decode cX4_ahead 68 = .ok (.iload_n 1, 1) := by decide +kernel
theorem dX4_ahead_69 : decode cX4_ahead 69 = .ok (.aaload, 1) := by decide +kernel
theorem dX4_ahead_70 : decode cX4_ahead 70 = .ok (.invokevirtual 140, 3) := by decide +kernel
theorem dX4_ahead_73 : decode cX4_ahead 73 = .ok (.aload_n 0, 1) := by decide +kernel
theorem dX4_ahead_74 : decode cX4_ahead 74 = .ok (.iload_n 3, 1) := by decide +kernel
theorem dX4_ahead_75 : decode cX4_ahead 75 = .ok (.invokevirtual 144, 3) := by decide +kernel
theorem dX4_ahead_78 : decode cX4_ahead 78 = .ok (.pop, 1) := by decide +kernel
theorem dX4_ahead_79 : decode cX4_ahead 79 = .ok (.aload_n 0, 1) := by decide +kernel
theorem dX4_ahead_80 : decode cX4_ahead 80 = .ok (.getfield 25, 3) := by decide +kernel
theorem dX4_ahead_83 : decode cX4_ahead 83 = .ok (.iload_n 2, 1) := by decide +kernel
theorem dX4_ahead_84 : decode cX4_ahead 84 = .ok (.aload_n 0, 1) := by decide +kernel
theorem dX4_ahead_85 : decode cX4_ahead 85 = .ok (.getfield 10, 3) := by decide +kernel
theorem dX4_ahead_88 : decode cX4_ahead 88 = .ok (.iload_n 3, 1) := by decide +kernel
theorem dX4_ahead_89 : decode cX4_ahead 89 = .ok (.invokevirtual 90, 3) := by decide +kernel
theorem dX4_ahead_92 : decode cX4_ahead 92 = .ok (.aload_n 0, 1) := by decide +kernel
theorem dX4_ahead_93 : decode cX4_ahead 93 = .ok (.getfield 10, 3) := by decide +kernel
theorem dX4_ahead_96 : decode cX4_ahead 96 = .ok (.getfield 55, 3) := by decide +kernel
theorem dX4_ahead_99 : decode cX4_ahead 99 = .ok (.invokevirtual 93, 3) := by decide +kernel
theorem dX4_ahead_102 : decode cX4_ahead 102 = .ok (.ireturn, 1) := by decide +kernel
theorem dX4_cut_0 : decode cX4_cut 0 = .ok (.iload_n 1, 1) := by decide +kernel
theorem dX4_cut_1 : decode cX4_cut 1 = .ok (.iconst 0, 1) := by decide +kernel
theorem dX4_cut_2 : decode cX4_cut 2 = .ok (.bipush 100, 2) := by decide +kernel
theorem dX4_cut_4 : decode cX4_cut 4 = .ok (.invokestatic 47, 3) := by decide +kernel
theorem dX4_cut_7 : decode cX4_cut 7 = .ok (.ifCond .ne 9, 3) := by decide +kernel
theorem dX4_cut_10 : decode cX4_cut 10 = .ok (.aload_n 0, 1) := by decide +kernel
theorem dX4_cut_11 : decode cX4_cut 11 = .ok (.iconst 0, 1) := by decide +kernel
theorem dX4_cut_12 : decode cX4_cut 12 = .ok (.invokevirtual 51, 3) := by decide +kernel
theorem dX4_cut_15 : decode cX4_cut 15 = .ok (.ireturn, 1) := by decide +kernel
theorem dX4_cut_16 : decode cX4_cut 16 = .ok (.aload_n 0, 1) := by decide +kernel
theorem dX4_cut_17 : decode cX4_cut 17 = .ok (.getfield 19, 3) := by decide +kernel
theorem dX4_cut_20 : decode cX4_cut 20 = .ok (.aload_n 0, 1) := by decide +kernel
theorem dX4_cut_21 : decode cX4_cut 21 = .ok (.getfield 10, 3) := by decide +kernel
theorem dX4_cut_24 : decode cX4_cut 24 = .ok (.invokevirtual 147, 3) := by decide +kernel
theorem dX4_cut_27 : decode cX4_cut 27 = .ok (.aload_n 0, 1) := by decide +kernel
theorem dX4_cut_28 : decode cX4_cut 28 = .ok (.getfield 19, 3) := by decide +kernel
theorem dX4_cut_31 : decode cX4_cut 31 = .ok (.iload_n 1, 1) := by decide +kernel
theorem dX4_cut_32 : decode cX4_cut 32 = .ok (.invokevirtual 118, 3) := by decide +kernel
theorem dX4_cut_35 : decode cX4_cut 35 = .ok (.aload_n 0, 1) := by decide +kernel
theorem dX4_cut_36 : decode cX4_cut 36 = .ok (.getfield 19, 3) := by decide +kernel
theorem dX4_cut_39 : decode cX4_cut 39 = .ok (.getfield 121, 3) := by decide +kernel
theorem dX4_cut_42 : decode cX4_cut 42 = .ok (.ireturn, 1) := by decide +kernel
theorem dX4_down_0 : decode cX4_down 0 = .ok (.aload_n 0, 1) := by decide +kernel
theorem dX4_down_1 : decode cX4_down 1 = .ok (.iload_n 1, 1) := by decide +kernel
theorem dX4_down_2 : decode cX4_down 2 = .ok (.invokevirtual 83, 3) := by decide +kernel
theorem dX4_down_5 : decode cX4_down 5 = .ok (.ifCond .ne 9, 3) := by decide +kernel
theorem dX4_down_8 : decode cX4_down 8 = .ok (.aload_n 0, 1) := by decide +kernel
theorem dX4_down_9 : decode cX4_down 9 = .ok (.iconst 0, 1) := by decide +kernel
theorem dX4_down_10 : decode cX4_down 10 = .ok (.invokevirtual 51, 3) := by decide +kernel
theorem dX4_down_13 : decode cX4_down 13 = .ok (.ireturn, 1) := by decide +kernel
theorem dX4_down_14 : decode cX4_down 14 = .ok (.aload_n 0, 1) := by decide +kernel
theorem dX4_down_15 : decode cX4_down 15 = .ok (.iload_n 1, 1) := by decide +kernel
theorem dX4_down_16 : decode cX4_down 16 = .ok (.iconst 3, 1) := by decide +kernel
theorem dX4_down_17 : decode cX4_down 17 = .ok (.iconst 0, 1) := by decide +kernel
theorem dX4_down_18 : decode cX4_down 18 = .ok (.iconst 0, 1) := by decide +kernel
theorem dX4_down_19 : decode cX4_down 19 = .ok (.invokevirtual 150, 3) := by decide +kernel
theorem dX4_down_22 : decode cX4_down 22 = .ok (.ireturn, 1) := by decide +kernel
theorem dX4_up_0 : decode cX4_up 0 = .ok (.aload_n 0, 1) := by decide +kernel
theorem dX4_up_1 : decode cX4_up 1 = .ok (.iload_n 1, 1) := by decide +kernel
theorem dX4_up_2 : decode cX4_up 2 = .ok (.invokevirtual 83, 3) := by decide +kernel
theorem dX4_up_5 : decode cX4_up 5 = .ok (.ifCond .ne 9, 3) := by decide +kernel
theorem dX4_up_8 : decode cX4_up 8 = .ok (.aload_n 0, 1) := by decide +kernel
theorem dX4_up_9 : decode cX4_up 9 = .ok (.iconst 0, 1) := by decide +kernel
theorem dX4_up_10 : decode cX4_up 10 = .ok (.invokevirtual 51, 3) := by decide +kernel
theorem dX4_up_13 : decode cX4_up 13 = .ok (.ireturn, 1) := by decide +kernel
theorem dX4_up_14 : decode cX4_up 14 = .ok (.aload_n 0, 1) := by decide +kernel
theorem dX4_up_15 : decode cX4_up 15 = .ok (.iload_n 1, 1) := by decide +kernel
theorem dX4_up_16 : decode cX4_up 16 = .ok (.iconst 3, 1) := by decide +kernel
theorem dX4_up_17 : decode cX4_up 17 = .ok (.bipush 20, 2) := by decide +kernel
theorem dX4_up_19 : decode cX4_up 19 = .ok (.bipush 20, 2) := by decide +kernel
theorem dX4_up_21 : decode cX4_up 21 = .ok (.invokevirtual 150, 3) := by decide +kernel
theorem dX4_up_24 : decode cX4_up 24 = .ok (.ireturn, 1) := by decide +kernel
theorem dX4_weary_0 : decode cX4_weary 0 = .ok (.aload_n 0, 1) := by decide +kernel
theorem dX4_weary_1 : decode cX4_weary 1 = .ok (.iload_n 1, 1) := by decide +kernel
theorem dX4_weary_2 : decode cX4_weary 2 = .ok (.invokevirtual 83, 3) := by decide +kernel
theorem dX4_weary_5 : decode cX4_weary 5 = .ok (.ifCond .eq 13, 3) := by decide +kernel
theorem dX4_weary_8 : decode cX4_weary 8 = .ok (.iload_n 2, 1) := by decide +kernel
theorem dX4_weary_9 : decode cX4_weary 9 = .ok (.iconst 0, 1) := by decide +kernel
theorem dX4_weary_10 : decode cX4_weary 10 = .ok (.bipush 99, 2) := by decide +kernel
theorem dX4_weary_12 : decode cX4_weary 12 = .ok (.invokestatic 47, 3) := by decide +kernel
theorem dX4_weary_15 : decode cX4_weary 15 = .ok (.ifCond .ne 9, 3) := by decide +kernel
theorem dX4_weary_18 : decode cX4_weary 18 = .ok (.aload_n 0, 1) := by decide +kernel
theorem dX4_weary_19 : decode cX4_weary 19 = .ok (.iconst 0, 1) := by decide +kernel
theorem dX4_weary_20 : decode cX4_weary 20 = .ok (.invokevirtual 51, 3) := by decide +kernel
theorem dX4_weary_23 : decode cX4_weary 23 = .ok (.ireturn, 1) := by decide +kernel
theorem dX4_weary_24 : decode cX4_weary 24 = .ok (.aload_n 0, 1) := by decide +kernel
theorem dX4_weary_25 : decode cX4_weary 25 = .ok (.iload_n 1, 1) := by decide +kernel
theorem dX4_weary_26 : decode cX4_weary 26 = .ok (.iconst 1, 1) := by decide +kernel
theorem dX4_weary_27 : decode cX4_weary 27 = .ok (.iconst 0, 1) := by decide +kernel
theorem dX4_weary_28 : decode cX4_weary 28 = .ok (.iload_n 2, 1) := by decide +kernel
theorem dX4_weary_29 : decode cX4_weary 29 = .ok (.invokevirtual 150, 3) := by decide +kernel
theorem dX4_weary_32 : decode cX4_weary 32 = .ok (.ireturn, 1) := by decide +kernel
theorem dX4_saved_0 : decode cX4_saved 0 = .ok (.iload_n 1, 1) := by decide +kernel
theorem dX4_saved_1 : decode cX4_saved 1 = .ok (.iconst 0, 1) := by decide +kernel
theorem dX4_saved_2 : decode cX4_saved 2 = .ok (.sipush 900, 3) := by decide +kernel
theorem dX4_saved_5 : decode cX4_saved 5 = .ok (.invokestatic 47, 3) := by decide +kernel
theorem dX4_saved_8 : decode cX4_saved 8 = .ok (.ifCond .ne 9, 3) := by decide +kernel
theorem dX4_saved_11 : decode cX4_saved 11 = .ok (.aload_n 0, 1) := by decide +kernel
theorem dX4_saved_12 : decode cX4_saved 12 = .ok (.iconst 0, 1) := by decide +kernel
theorem dX4_saved_13 : decode cX4_saved 13 = .ok (.invokevirtual 51, 3) := by decide +kernel
theorem dX4_saved_16 : decode cX4_saved 16 = .ok (.ireturn, 1) := by decide +kernel
theorem dX4_saved_17 : decode cX4_saved 17 = .ok (.aload_n 0, 1) := by decide +kernel
theorem dX4_saved_18 : decode cX4_saved 18 = .ok (.getfield 19, 3) := by decide +kernel
theorem dX4_saved_21 : decode cX4_saved 21 = .ok (.aload_n 0, 1) := by decide +kernel
theorem dX4_saved_22 : decode cX4_saved 22 = .ok (.getfield 10, 3) := by decide +kernel
theorem dX4_saved_25 : decode cX4_saved 25 = .ok (.invokevirtual 147, 3) := by decide +kernel
theorem dX4_saved_28 : decode cX4_saved 28 = .ok (.iconst 0, 1) := by decide +kernel
theorem dX4_saved_29 : decode cX4_saved 29 = .ok (.istore_n 2, 1) := by decide +kernel
theorem dX4_saved_30 : decode cX4_saved 30 = .ok (.iload_n 2, 1) := by decide +kernel
theorem dX4_saved_31 : decode cX4_saved 31 = .ok (.sipush 200, 3) := by decide +kernel
theorem dX4_saved_34 : decode cX4_saved 34 = .ok (.if_icmp .gt 29, 3) := by decide +kernel
theorem dX4_saved_37 : decode cX4_saved 37 = .ok (.aload_n 0, 1) := by decide +kernel
theorem dX4_saved_38 : decode cX4_saved 38 = .ok (.getfield 19, 3) := by decide +kernel
theorem dX4_saved_41 : decode cX4_saved 41 = .ok (.getfield 124, 3) := by decide +kernel
theorem dX4_saved_44 : decode cX4_saved 44 = .ok (.iload_n 1, 1) := by decide +kernel
theorem dX4_saved_45 : decode cX4_saved 45 = .ok (.if_icmp .lt 5, 3) := by decide +kernel
theorem dX4_saved_48 : decode cX4_saved 48 = .ok (.iload_n 2, 1) := by decide +kernel
theorem dX4_saved_49 : decode cX4_saved 49 = .ok (.ireturn, 1) := by decide +kernel
theorem dX4_saved_50 : decode cX4_saved 50 = .ok (.aload_n 0, 1) := by decide +kernel
theorem dX4_saved_51 : decode cX4_saved 51 = .ok (.getfield 19, 3) := by decide +kernel
theorem dX4_saved_54 : decode cX4_saved 54 = .ok (.invokevirtual 154, 3) := by decide +kernel
theorem dX4_saved_57 : decode cX4_saved 57 = .ok (.iinc 2 1, 3) := by decide +kernel
theorem dX4_saved_60 : decode cX4_saved 60 = .ok (.goto (-30), 3) := by decide +kernel
theorem dX4_saved_63 : decode cX4_saved 63 = .ok (.aload_n 0, 1) := by decide +kernel
theorem dX4_saved_64 : decode cX4_saved 64 = .ok (.iconst 3, 1) := by decide +kernel
theorem dX4_saved_65 : decode cX4_saved 65 = .ok (.invokevirtual 51, 3) := by decide +kernel
theorem dX4_saved_68 : decode cX4_saved 68 = .ok (.ireturn, 1) := by decide +kernel
end
section
theorem dX4_sceneFor_0 : decode cX4_sceneFor 0 = .ok (.iload_n 1, 1) := by decide +kernel
theorem dX4_sceneFor_1 : decode cX4_sceneFor 1 = .ok (.invokestatic 59, 3) := by decide +kernel
theorem dX4_sceneFor_4 : decode cX4_sceneFor 4 = .ok (.ifCond .eq 13, 3) := by decide +kernel
theorem dX4_sceneFor_7 : decode cX4_sceneFor 7 = .ok (.iload_n 2, 1) := by decide +kernel
theorem dX4_sceneFor_8 : decode cX4_sceneFor 8 = .ok (.iconst 0, 1) := by decide +kernel
theorem dX4_sceneFor_9 : decode cX4_sceneFor 9 = .ok (.bipush 60, 2) := by decide +kernel
theorem dX4_sceneFor_11 : decode cX4_sceneFor 11 = .ok (.invokestatic 47, 3) := by decide +kernel
theorem dX4_sceneFor_14 : decode cX4_sceneFor 14 = .ok (.ifCond .ne 9, 3) := by decide +kernel
theorem dX4_sceneFor_17 : decode cX4_sceneFor 17 = .ok (.aload_n 0, 1) := by decide +kernel
theorem dX4_sceneFor_18 : decode cX4_sceneFor 18 = .ok (.iconst 0, 1) := by decide +kernel
theorem dX4_sceneFor_19 : decode cX4_sceneFor 19 = .ok (.invokevirtual 51, 3) := by decide +kernel
theorem dX4_sceneFor_22 : decode cX4_sceneFor 22 = .ok (.ireturn, 1) := by decide +kernel
theorem dX4_sceneFor_23 : decode cX4_sceneFor 23 = .ok (.iconst 0, 1) := by decide +kernel
theorem dX4_sceneFor_24 : decode cX4_sceneFor 24 = .ok (.istore_n 3, 1) := by decide +kernel
theorem dX4_sceneFor_25 : decode cX4_sceneFor 25 = .ok (.ldc 157, 2) := by decide +kernel
theorem dX4_sceneFor_27 : decode cX4_sceneFor 27 = .ok (.istore 4, 2) := by decide +kernel
theorem dX4_sceneFor_29 : decode cX4_sceneFor 29 = .ok (.iconst 0, 1) := by decide +kernel
theorem dX4_sceneFor_30 : decode cX4_sceneFor 30 = .ok (.istore 5, 2) := by decide +kernel
theorem dX4_sceneFor_32 : decode cX4_sceneFor 32 = .ok (.iload 5, 2) := by decide +kernel
theorem dX4_sceneFor_34 : decode cX4_sceneFor 34 = .ok (.bipush 12, 2) := by decide +kernel
theorem dX4_sceneFor_36 : decode cX4_sceneFor 36 = .ok (.if_icmp .ge 63, 3) := by decide +kernel
theorem dX4_sceneFor_39 : decode cX4_sceneFor 39 = .ok (.aload_n 0, 1) := by decide +kernel
theorem dX4_sceneFor_40 : decode cX4_sceneFor 40 = .ok (.getfield 19, 3) := by decide +kernel
theorem dX4_sceneFor_43 : decode cX4_sceneFor 43 = .ok (.aload_n 0, 1) := by decide +kernel
theorem dX4_sceneFor_44 : decode cX4_sceneFor 44 = .ok (.getfield 10, 3) := by decide +kernel
theorem dX4_sceneFor_47 : decode cX4_sceneFor 47 = .ok (.invokevirtual 147, 3) := by decide +kernel
theorem dX4_sceneFor_50 : decode cX4_sceneFor 50 = .ok (.aload_n 0, 1) := by decide +kernel
theorem dX4_sceneFor_51 : decode cX4_sceneFor 51 = .ok (.getfield 19, 3) := by decide +kernel
theorem dX4_sceneFor_54 : decode cX4_sceneFor 54 = .ok (.getfield 63, 3) := by decide +kernel
theorem dX4_sceneFor_57 : decode cX4_sceneFor 57 = .ok (.iload_n 1, 1) := by decide +kernel
theorem dX4_sceneFor_58 : decode cX4_sceneFor 58 = .ok (.iload 5, 2) := by decide +kernel
theorem dX4_sceneFor_60 : decode cX4_sceneFor 60 = .ok (.iastore, 1) := by decide +kernel
theorem dX4_sceneFor_61 : decode cX4_sceneFor 61 = .ok (.aload_n 0, 1) := by decide +kernel
theorem dX4_sceneFor_62 : decode cX4_sceneFor 62 = .ok (.getfield 19, 3) := by decide +kernel
theorem dX4_sceneFor_65 : decode cX4_sceneFor 65 = .ok (.iload_n 2, 1) := by decide +kernel
theorem dX4_sceneFor_66 : decode cX4_sceneFor 66 = .ok (.invokevirtual 118, 3) := by decide +kernel
theorem dX4_sceneFor_69 : decode cX4_sceneFor 69 = .ok (.aload_n 0, 1) := by decide +kernel
theorem dX4_sceneFor_70 : decode cX4_sceneFor 70 = .ok (.getfield 19, 3) := by decide +kernel
theorem dX4_sceneFor_73 : decode cX4_sceneFor 73 = .ok (.getfield 121, 3) := by decide +kernel
theorem dX4_sceneFor_76 : decode cX4_sceneFor 76 = .ok (.iload 4, 2) := by decide +kernel
theorem dX4_sceneFor_78 : decode cX4_sceneFor 78 = .ok (.if_icmp .ge 15, 3) := by decide +kernel
theorem dX4_sceneFor_81 : decode cX4_sceneFor 81 = .ok (.aload_n 0, 1) := by decide +kernel
theorem dX4_sceneFor_82 : decode cX4_sceneFor 82 = .ok (.getfield 19, 3) := by decide +kernel
theorem dX4_sceneFor_85 : decode cX4_sceneFor 85 = .ok (.getfield 121, 3) := by decide +kernel
theorem dX4_sceneFor_88 : decode cX4_sceneFor 88 = .ok (.istore 4, 2) := by decide +kernel
theorem dX4_sceneFor_90 : decode cX4_sceneFor 90 = .ok (.iload 5, 2) := by decide +kernel
theorem dX4_sceneFor_92 : decode cX4_sceneFor 92 = .ok (.istore_n 3, 1) := by decide +kernel
theorem dX4_sceneFor_93 : decode cX4_sceneFor 93 = .ok (.iinc 5 1, 3) := by decide +kernel
theorem dX4_sceneFor_96 : decode cX4_sceneFor 96 = .ok (.goto (-64), 3) := by decide +kernel
theorem dX4_sceneFor_99 : decode cX4_sceneFor 99 = .ok (.iload_n 3, 1) := by decide +kernel
theorem dX4_sceneFor_100 : decode cX4_sceneFor 100 = .ok (.ireturn, 1) := by decide +kernel
theorem dX4_kindFor_0 : decode cX4_kindFor 0 = .ok (.aload_n 0, 1) := by decide +kernel
theorem dX4_kindFor_1 : decode cX4_kindFor 1 = .ok (.iload_n 1, 1) := by decide +kernel
theorem dX4_kindFor_2 : decode cX4_kindFor 2 = .ok (.invokevirtual 83, 3) := by decide +kernel
theorem dX4_kindFor_5 : decode cX4_kindFor 5 = .ok (.ifCond .eq 13, 3) := by decide +kernel
theorem dX4_kindFor_8 : decode cX4_kindFor 8 = .ok (.iload_n 2, 1) := by decide +kernel
theorem dX4_kindFor_9 : decode cX4_kindFor 9 = .ok (.iconst 0, 1) := by decide +kernel
theorem dX4_kindFor_10 : decode cX4_kindFor 10 = .ok (.bipush 60, 2) := by decide +kernel
theorem dX4_kindFor_12 : decode cX4_kindFor 12 = .ok (.invokestatic 47, 3) := by decide +kernel
theorem dX4_kindFor_15 : decode cX4_kindFor 15 = .ok (.ifCond .ne 9, 3) := by decide +kernel
theorem dX4_kindFor_18 : decode cX4_kindFor 18 = .ok (.aload_n 0, 1) := by decide +kernel
theorem dX4_kindFor_19 : decode cX4_kindFor 19 = .ok (.iconst 0, 1) := by decide +kernel
theorem dX4_kindFor_20 : decode cX4_kindFor 20 = .ok (.invokevirtual 51, 3) := by decide +kernel
theorem dX4_kindFor_23 : decode cX4_kindFor 23 = .ok (.ireturn, 1) := by decide +kernel
theorem dX4_kindFor_24 : decode cX4_kindFor 24 = .ok (.iconst 0, 1) := by decide +kernel
theorem dX4_kindFor_25 : decode cX4_kindFor 25 = .ok (.istore_n 3, 1) := by decide +kernel
theorem dX4_kindFor_26 : decode cX4_kindFor 26 = .ok (.iconst (-1), 1) := by decide +kernel
theorem dX4_kindFor_27 : decode cX4_kindFor 27 = .ok (.istore 4, 2) := by decide +kernel
theorem dX4_kindFor_29 : decode cX4_kindFor 29 = .ok (.iconst 0, 1) := by decide +kernel
theorem dX4_kindFor_30 : decode cX4_kindFor 30 = .ok (.istore 5, 2) := by decide +kernel
theorem dX4_kindFor_32 : decode cX4_kindFor 32 = .ok (.iload 5, 2) := by decide +kernel
theorem dX4_kindFor_34 : decode cX4_kindFor 34 = .ok (.bipush 7, 2) := by decide +kernel
theorem dX4_kindFor_36 : decode cX4_kindFor 36 = .ok (.if_icmp .ge 64, 3) := by decide +kernel
theorem dX4_kindFor_39 : decode cX4_kindFor 39 = .ok (.aload_n 0, 1) := by decide +kernel
theorem dX4_kindFor_40 : decode cX4_kindFor 40 = .ok (.getfield 25, 3) := by decide +kernel
theorem dX4_kindFor_43 : decode cX4_kindFor 43 = .ok (.aload_n 0, 1) := by decide +kernel
theorem dX4_kindFor_44 : decode cX4_kindFor 44 = .ok (.getfield 10, 3) := by decide +kernel
theorem dX4_kindFor_47 : decode cX4_kindFor 47 = .ok (.getfield 86, 3) := by decide +kernel
theorem dX4_kindFor_50 : decode cX4_kindFor 50 = .ok (.iload_n 1, 1) := by decide +kernel
theorem dX4_kindFor_51 : decode cX4_kindFor 51 = .ok (.aaload, 1) := by decide +kernel
theorem dX4_kindFor_52 : decode cX4_kindFor 52 = .ok (.invokevirtual 140, 3) := by decide +kernel
theorem dX4_kindFor_55 : decode cX4_kindFor 55 = .ok (.aload_n 0, 1) := by decide +kernel
theorem dX4_kindFor_56 : decode cX4_kindFor 56 = .ok (.getfield 25, 3) := by decide +kernel
theorem dX4_kindFor_59 : decode cX4_kindFor 59 = .ok (.iload 5, 2) := by decide +kernel
theorem dX4_kindFor_61 : decode cX4_kindFor 61 = .ok (.putfield 158, 3) := by decide +kernel
theorem dX4_kindFor_64 : decode cX4_kindFor 64 = .ok (.aload_n 0, 1) := by decide +kernel
theorem dX4_kindFor_65 : decode cX4_kindFor 65 = .ok (.iload_n 2, 1) := by decide +kernel
theorem dX4_kindFor_66 : decode cX4_kindFor 66 = .ok (.invokevirtual 144, 3) := by decide +kernel
theorem dX4_kindFor_69 : decode cX4_kindFor 69 = .ok (.pop, 1) := by decide +kernel
theorem dX4_kindFor_70 : decode cX4_kindFor 70 = .ok (.aload_n 0, 1) := by decide +kernel
theorem dX4_kindFor_71 : decode cX4_kindFor 71 = .ok (.getfield 25, 3) := by decide +kernel
theorem dX4_kindFor_74 : decode cX4_kindFor 74 = .ok (.getfield 161, 3) := by decide +kernel
theorem dX4_kindFor_77 : decode cX4_kindFor 77 = .ok (.iload 4, 2) := by decide +kernel
theorem dX4_kindFor_79 : decode cX4_kindFor 79 = .ok (.if_icmp .le 15, 3) := by decide +kernel
theorem dX4_kindFor_82 : decode cX4_kindFor 82 = .ok (.aload_n 0, 1) := by decide +kernel
theorem dX4_kindFor_83 : decode cX4_kindFor 83 = .ok (.getfield 25, 3) := by decide +kernel
theorem dX4_kindFor_86 : decode cX4_kindFor 86 = .ok (.getfield 161, 3) := by decide +kernel
theorem dX4_kindFor_89 : decode cX4_kindFor 89 = .ok (.istore 4, 2) := by decide +kernel
theorem dX4_kindFor_91 : decode cX4_kindFor 91 = .ok (.iload 5, 2) := by decide +kernel
theorem dX4_kindFor_93 : decode cX4_kindFor 93 = .ok (.istore_n 3, 1) := by decide +kernel
theorem dX4_kindFor_94 : decode cX4_kindFor 94 = .ok (.iinc 5 1, 3) := by decide +kernel
theorem dX4_kindFor_97 : decode cX4_kindFor 97 = .ok (.goto (-65), 3) := by decide +kernel
theorem dX4_kindFor_100 : decode cX4_kindFor 100 = .ok (.iload_n 3, 1) := by decide +kernel
theorem dX4_kindFor_101 : decode cX4_kindFor 101 = .ok (.ireturn, 1) := by decide +kernel
theorem dX4_moodFor_0 : decode cX4_moodFor 0 = .ok (.aload_n 0, 1) := by decide +kernel
theorem dX4_moodFor_1 : decode cX4_moodFor 1 = .ok (.iload_n 1, 1) := by decide +kernel
theorem dX4_moodFor_2 : decode cX4_moodFor 2 = .ok (.invokevirtual 83, 3) := by decide +kernel
theorem dX4_moodFor_5 : decode cX4_moodFor 5 = .ok (.ifCond .eq 13, 3) := by decide +kernel
theorem dX4_moodFor_8 : decode cX4_moodFor 8 = .ok (.iload_n 2, 1) := by decide +kernel
theorem dX4_moodFor_9 : decode cX4_moodFor 9 = .ok (.iconst 0, 1) := by decide +kernel
theorem dX4_moodFor_10 : decode cX4_moodFor 10 = .ok (.bipush 60, 2) := by decide +kernel
theorem dX4_moodFor_12 : decode cX4_moodFor 12 = .ok (.invokestatic 47, 3) := by decide +kernel
theorem dX4_moodFor_15 : decode cX4_moodFor 15 = .ok (.ifCond .ne 9, 3) := by decide +kernel
theorem dX4_moodFor_18 : decode cX4_moodFor 18 = .ok (.aload_n 0, 1) := by decide +kernel
theorem dX4_moodFor_19 : decode cX4_moodFor 19 = .ok (.iconst 0, 1) := by decide +kernel
theorem dX4_moodFor_20 : decode cX4_moodFor 20 = .ok (.invokevirtual 51, 3) := by decide +kernel
theorem dX4_moodFor_23 : decode cX4_moodFor 23 = .ok (.ireturn, 1) := by decide +kernel
theorem dX4_moodFor_24 : decode cX4_moodFor 24 = .ok (.aload_n 0, 1) := by decide +kernel
theorem dX4_moodFor_25 : decode cX4_moodFor 25 = .ok (.getfield 10, 3) := by decide +kernel
theorem dX4_moodFor_28 : decode cX4_moodFor 28 = .ok (.getfield 86, 3) := by decide +kernel
theorem dX4_moodFor_31 : decode cX4_moodFor 31 = .ok (.iload_n 1, 1) := by decide +kernel
theorem dX4_moodFor_32 : decode cX4_moodFor 32 = .ok (.aaload, 1) := by decide +kernel
theorem dX4_moodFor_33 : decode cX4_moodFor 33 = .ok (.astore_n 3, 1) := by decide +kernel
theorem dX4_moodFor_34 : decode cX4_moodFor 34 = .ok (.iconst 0, 1) := by decide +kernel
theorem dX4_moodFor_35 : decode cX4_moodFor 35 = .ok (.istore 4, 2) := by decide +kernel
theorem dX4_moodFor_37 : decode cX4_moodFor 37 = .ok (.iload 4, 2) := by decide +kernel
theorem dX4_moodFor_39 : decode cX4_moodFor 39 = .ok (.bipush 99, 2) := by decide +kernel
theorem dX4_moodFor_41 : decode cX4_moodFor 41 = .ok (.if_icmp .gt 49, 3) := by decide +kernel
theorem dX4_moodFor_44 : decode cX4_moodFor 44 = .ok (.aload_n 0, 1) := by decide +kernel
theorem dX4_moodFor_45 : decode cX4_moodFor 45 = .ok (.getfield 25, 3) := by decide +kernel
theorem dX4_moodFor_48 : decode cX4_moodFor 48 = .ok (.aload_n 3, 1) := by decide +kernel
theorem dX4_moodFor_49 : decode cX4_moodFor 49 = .ok (.invokevirtual 140, 3) := by decide +kernel
theorem dX4_moodFor_52 : decode cX4_moodFor 52 = .ok (.aload_n 0, 1) := by decide +kernel
theorem dX4_moodFor_53 : decode cX4_moodFor 53 = .ok (.getfield 25, 3) := by decide +kernel
theorem dX4_moodFor_56 : decode cX4_moodFor 56 = .ok (.iload 4, 2) := by decide +kernel
theorem dX4_moodFor_58 : decode cX4_moodFor 58 = .ok (.putfield 161, 3) := by decide +kernel
theorem dX4_moodFor_61 : decode cX4_moodFor 61 = .ok (.aload_n 0, 1) := by decide +kernel
theorem dX4_moodFor_62 : decode cX4_moodFor 62 = .ok (.iload_n 2, 1) := by decide +kernel
theorem dX4_moodFor_63 : decode cX4_moodFor 63 = .ok (.invokevirtual 144, 3) := by decide +kernel
theorem dX4_moodFor_66 : decode cX4_moodFor 66 = .ok (.pop, 1) := by decide +kernel
theorem dX4_moodFor_67 : decode cX4_moodFor 67 = .ok (.aload_n 0, 1) := by decide +kernel
theorem dX4_moodFor_68 : decode cX4_moodFor 68 = .ok (.getfield 25, 3) := by decide +kernel
theorem dX4_moodFor_71 : decode cX4_moodFor 71 = .ok (.getfield 164, 3) := by decide +kernel
theorem dX4_moodFor_74 : decode cX4_moodFor 74 = .ok (.aload_n 3, 1) := by decide +kernel
theorem dX4_moodFor_75 : decode cX4_moodFor 75 = .ok (.getfield 164, 3) := by decide +kernel
theorem dX4_moodFor_78 : decode cX4_moodFor 78 = .ok (.if_icmp .ne 6, 3) := by decide +kernel
theorem dX4_moodFor_81 : decode cX4_moodFor 81 = .ok (.iload 4, 2) := by decide +kernel
theorem dX4_moodFor_83 : decode cX4_moodFor 83 = .ok (.ireturn, 1) := by decide +kernel
theorem dX4_moodFor_84 : decode cX4_moodFor 84 = .ok (.iinc 4 1, 3) := by decide +kernel
theorem dX4_moodFor_87 : decode cX4_moodFor 87 = .ok (.goto (-50), 3) := by decide +kernel
theorem dX4_moodFor_90 : decode cX4_moodFor 90 = .ok (.aload_n 0, 1) := by decide +kernel
theorem dX4_moodFor_91 : decode cX4_moodFor 91 = .ok (.iconst 3, 1) := by decide +kernel
theorem dX4_moodFor_92 : decode cX4_moodFor 92 = .ok (.invokevirtual 51, 3) := by decide +kernel
theorem dX4_moodFor_95 : decode cX4_moodFor 95 = .ok (.ireturn, 1) := by decide +kernel
theorem dX4_handsFor_0 : decode cX4_handsFor 0 = .ok (.aload_n 0, 1) := by decide +kernel
theorem dX4_handsFor_1 : decode cX4_handsFor 1 = .ok (.iload_n 1, 1) := by decide +kernel
theorem dX4_handsFor_2 : decode cX4_handsFor 2 = .ok (.invokevirtual 83, 3) := by decide +kernel
theorem dX4_handsFor_5 : decode cX4_handsFor 5 = .ok (.ifCond .eq 13, 3) := by decide +kernel
theorem dX4_handsFor_8 : decode cX4_handsFor 8 = .ok (.iload_n 2, 1) := by decide +kernel
theorem dX4_handsFor_9 : decode cX4_handsFor 9 = .ok (.iconst 0, 1) := by decide +kernel
theorem dX4_handsFor_10 : decode cX4_handsFor 10 = .ok (.bipush 60, 2) := by decide +kernel
theorem dX4_handsFor_12 : decode cX4_handsFor 12 = .ok (.invokestatic 47, 3) := by decide +kernel
theorem dX4_handsFor_15 : decode cX4_handsFor 15 = .ok (.ifCond .ne 9, 3) := by decide +kernel
theorem dX4_handsFor_18 : decode cX4_handsFor 18 = .ok (.aload_n 0, 1) := by decide +kernel
theorem dX4_handsFor_19 : decode cX4_handsFor 19 = .ok (.iconst 0, 1) := by decide +kernel
theorem dX4_handsFor_20 : decode cX4_handsFor 20 = .ok (.invokevirtual 51, 3) := by decide +kernel
theorem dX4_handsFor_23 : decode cX4_handsFor 23 = .ok (.ireturn, 1) := by decide +kernel
theorem dX4_handsFor_24 : decode cX4_handsFor 24 = .ok (.aload_n 0, 1) := by decide +kernel
theorem dX4_handsFor_25 : decode cX4_handsFor 25 = .ok (.getfield 10, 3) := by decide +kernel
theorem dX4_handsFor_28 : decode cX4_handsFor 28 = .ok (.getfield 86, 3) := by decide +kernel
theorem dX4_handsFor_31 : decode cX4_handsFor 31 = .ok (.iload_n 1, 1) := by decide +kernel
theorem dX4_handsFor_32 : decode cX4_handsFor 32 = .ok (.aaload, 1) := by decide +kernel
theorem dX4_handsFor_33 : decode cX4_handsFor 33 = .ok (.astore_n 3, 1) := by decide +kernel
theorem dX4_handsFor_34 : decode cX4_handsFor 34 = .ok (.aload_n 3, 1) := by decide +kernel
theorem dX4_handsFor_35 : decode cX4_handsFor 35 = .ok (.getfield 104, 3) := by decide +kernel
theorem dX4_handsFor_38 : decode cX4_handsFor 38 = .ok (.iconst 1, 1) := by decide +kernel
theorem dX4_handsFor_39 : decode cX4_handsFor 39 = .ok (.if_icmp .ne 9, 3) := by decide +kernel
theorem dX4_handsFor_42 : decode cX4_handsFor 42 = .ok (.aload_n 0, 1) := by decide +kernel
theorem dX4_handsFor_43 : decode cX4_handsFor 43 = .ok (.iconst 4, 1) := by decide +kernel
theorem dX4_handsFor_44 : decode cX4_handsFor 44 = .ok (.invokevirtual 51, 3) := by decide +kernel
theorem dX4_handsFor_47 : decode cX4_handsFor 47 = .ok (.ireturn, 1) := by decide +kernel
theorem dX4_handsFor_48 : decode cX4_handsFor 48 = .ok (.iconst 1, 1) := by decide +kernel
theorem dX4_handsFor_49 : decode cX4_handsFor 49 = .ok (.istore 4, 2) := by decide +kernel
theorem dX4_handsFor_51 : decode cX4_handsFor 51 = .ok (.iload 4, 2) := by decide +kernel
theorem dX4_handsFor_53 : decode cX4_handsFor 53 = .ok (.bipush 40, 2) := by decide +kernel
theorem dX4_handsFor_55 : decode cX4_handsFor 55 = .ok (.if_icmp .gt 45, 3) := by decide +kernel
theorem dX4_handsFor_58 : decode cX4_handsFor 58 = .ok (.aload_n 0, 1) := by decide +kernel
theorem dX4_handsFor_59 : decode cX4_handsFor 59 = .ok (.getfield 25, 3) := by decide +kernel
theorem dX4_handsFor_62 : decode cX4_handsFor 62 = .ok (.aload_n 3, 1) := by decide +kernel
theorem dX4_handsFor_63 : decode cX4_handsFor 63 = .ok (.invokevirtual 140, 3) := by decide +kernel
theorem dX4_handsFor_66 : decode cX4_handsFor 66 = .ok (.aload_n 0, 1) := by decide +kernel
theorem dX4_handsFor_67 : decode cX4_handsFor 67 = .ok (.getfield 25, 3) := by decide +kernel
theorem dX4_handsFor_70 : decode cX4_handsFor 70 = .ok (.iload 4, 2) := by decide +kernel
theorem dX4_handsFor_72 : decode cX4_handsFor 72 = .ok (.invokevirtual 107, 3) := by decide +kernel
theorem dX4_handsFor_75 : decode cX4_handsFor 75 = .ok (.aload_n 0, 1) := by decide +kernel
theorem dX4_handsFor_76 : decode cX4_handsFor 76 = .ok (.iload_n 2, 1) := by decide +kernel
theorem dX4_handsFor_77 : decode cX4_handsFor 77 = .ok (.invokevirtual 144, 3) := by decide +kernel
theorem dX4_handsFor_80 : decode cX4_handsFor 80 = .ok (.pop, 1) := by decide +kernel
theorem dX4_handsFor_81 : decode cX4_handsFor 81 = .ok (.aload_n 0, 1) := by decide +kernel
theorem dX4_handsFor_82 : decode cX4_handsFor 82 = .ok (.getfield 25, 3) := by decide +kernel
theorem dX4_handsFor_85 : decode cX4_handsFor 85 = .ok (.getfield 111, 3) := by decide +kernel
theorem dX4_handsFor_88 : decode cX4_handsFor 88 = .ok (.ifCond .le 6, 3) := by decide +kernel
theorem dX4_handsFor_91 : decode cX4_handsFor 91 = .ok (.iload 4, 2) := by decide +kernel
theorem dX4_handsFor_93 : decode cX4_handsFor 93 = .ok (.ireturn, 1) := by decide +kernel
theorem dX4_handsFor_94 : decode cX4_handsFor 94 = .ok (.iinc 4 1, 3) := by decide +kernel
theorem dX4_handsFor_97 : decode cX4_handsFor 97 = .ok (.goto (-46), 3) := by decide +kernel
theorem dX4_handsFor_100 : decode cX4_handsFor 100 = .ok (.aload_n 0, 1) := by decide +kernel
theorem dX4_handsFor_101 : decode cX4_handsFor 101 = .ok (.iconst 3, 1) := by decide +kernel
theorem dX4_handsFor_102 : decode cX4_handsFor 102 = .ok (.invokevirtual 51, 3) := by decide +kernel
theorem dX4_handsFor_105 : decode cX4_handsFor 105 = .ok (.ireturn, 1) := by decide +kernel
theorem dX4_tie_0 : decode cX4_tie 0 = .ok (.iload_n 1, 1) := by decide +kernel
theorem dX4_tie_1 : decode cX4_tie 1 = .ok (.iconst 0, 1) := by decide +kernel
theorem dX4_tie_2 : decode cX4_tie 2 = .ok (.bipush 20, 2) := by decide +kernel
theorem dX4_tie_4 : decode cX4_tie 4 = .ok (.invokestatic 47, 3) := by decide +kernel
theorem dX4_tie_7 : decode cX4_tie 7 = .ok (.ifCond .ne 9, 3) := by decide +kernel
theorem dX4_tie_10 : decode cX4_tie 10 = .ok (.aload_n 0, 1) := by decide +kernel
theorem dX4_tie_11 : decode cX4_tie 11 = .ok (.iconst 0, 1) := by decide +kernel
theorem dX4_tie_12 : decode cX4_tie 12 = .ok (.invokevirtual 51, 3) := by decide +kernel
theorem dX4_tie_15 : decode cX4_tie 15 = .ok (.ireturn, 1) := by decide +kernel
theorem dX4_tie_16 : decode cX4_tie 16 = .ok (.aload_n 0, 1) := by decide +kernel
theorem dX4_tie_17 : decode cX4_tie 17 = .ok (.getfield 10, 3) := by decide +kernel
theorem dX4_tie_20 : decode cX4_tie 20 = .ok (.getfield 121, 3) := by decide +kernel
theorem dX4_tie_23 : decode cX4_tie 23 = .ok (.ldc 117, 2) := by decide +kernel
theorem dX4_tie_25 : decode cX4_tie 25 = .ok (.if_icmp .ge 7, 3) := by decide +kernel
theorem dX4_tie_28 : decode cX4_tie 28 = .ok (.iconst 1, 1) := by decide +kernel
theorem dX4_tie_29 : decode cX4_tie 29 = .ok (.goto 4, 3) := by decide +kernel
theorem dX4_tie_32 : decode cX4_tie 32 = .ok (.iconst 0, 1) := by decide +kernel
theorem dX4_tie_33 : decode cX4_tie 33 = .ok (.istore_n 2, 1) := by decide +kernel
theorem dX4_tie_34 : decode cX4_tie 34 = .ok (.iconst 0, 1) := by decide +kernel
theorem dX4_tie_35 : decode cX4_tie 35 = .ok (.istore_n 3, 1) := by decide +kernel
theorem dX4_tie_36 : decode cX4_tie 36 = .ok (.iconst 0, 1) := by decide +kernel
theorem dX4_tie_37 : decode cX4_tie 37 = .ok (.istore 4, 2) := by decide +kernel
theorem dX4_tie_39 : decode cX4_tie 39 = .ok (.iload_n 2, 1) := by decide +kernel
theorem dX4_tie_40 : decode cX4_tie 40 = .ok (.ifCond .eq 53, 3) := by decide +kernel
theorem dX4_tie_43 : decode cX4_tie 43 = .ok (.iload 4, 2) := by decide +kernel
theorem dX4_tie_45 : decode cX4_tie 45 = .ok (.aload_n 0, 1) := by decide +kernel
theorem dX4_tie_46 : decode cX4_tie 46 = .ok (.getfield 10, 3) := by decide +kernel
theorem dX4_tie_49 : decode cX4_tie 49 = .ok (.getfield 80, 3) := by decide +kernel
theorem dX4_tie_52 : decode cX4_tie 52 = .ok (.if_icmp .ge 41, 3) := by decide +kernel
theorem dX4_tie_55 : decode cX4_tie 55 = .ok (.aload_n 0, 1) := by decide +kernel
theorem dX4_tie_56 : decode cX4_tie 56 = .ok (.getfield 25, 3) := by decide +kernel
theorem dX4_tie_59 : decode cX4_tie 59 = .ok (.aload_n 0, 1) := by decide +kernel
theorem dX4_tie_60 : decode cX4_tie 60 = .ok (.getfield 10, 3) := by decide +kernel
theorem dX4_tie_63 : decode cX4_tie 63 = .ok (.getfield 86, 3) := by decide +kernel
theorem dX4_tie_66 : decode cX4_tie 66 = .ok (.iload 4, 2) := by decide +kernel
theorem dX4_tie_68 : decode cX4_tie 68 = .ok (.aaload, 1) := by decide +kernel
theorem dX4_tie_69 : decode cX4_tie 69 = .ok (.invokevirtual 140, 3) := by decide +kernel
theorem dX4_tie_72 : decode cX4_tie 72 = .ok (.aload_n 0, 1) := by decide +kernel
theorem dX4_tie_73 : decode cX4_tie 73 = .ok (.iload_n 1, 1) := by decide +kernel
theorem dX4_tie_74 : decode cX4_tie 74 = .ok (.invokevirtual 144, 3) := by decide +kernel
theorem dX4_tie_77 : decode cX4_tie 77 = .ok (.ifCond .le 10, 3) := by decide +kernel
theorem dX4_tie_80 : decode cX4_tie 80 = .ok (.iload_n 3, 1) := by decide +kernel
theorem dX4_tie_81 : decode cX4_tie 81 = .ok (.iconst 1, 1) := by decide +kernel
theorem dX4_tie_82 : decode cX4_tie 82 = .ok (.iload 4, 2) := by decide +kernel
theorem dX4_tie_84 : decode cX4_tie 84 = .ok (.ishl, 1) := by decide +kernel
theorem dX4_tie_85 : decode cX4_tie 85 = .ok (.ior, 1) := by decide +kernel
theorem dX4_tie_86 : decode cX4_tie 86 = .ok (.istore_n 3, 1) := by decide +kernel
theorem dX4_tie_87 : decode cX4_tie 87 = .ok (.iinc 4 1, 3) := by decide +kernel
theorem dX4_tie_90 : decode cX4_tie 90 = .ok (.goto (-51), 3) := by decide +kernel
theorem dX4_tie_93 : decode cX4_tie 93 = .ok (.iload_n 3, 1) := by decide +kernel
theorem dX4_tie_94 : decode cX4_tie 94 = .ok (.ireturn, 1) := by decide +kernel
theorem dX4_please_0 : decode cX4_please 0 = .ok (.iconst 0, 1) := by decide +kernel
theorem dX4_please_1 : decode cX4_please 1 = .ok (.istore_n 1, 1) := by decide +kernel
theorem dX4_please_2 : decode cX4_please 2 = .ok (.bipush 13, 2) := by decide +kernel
theorem dX4_please_4 : decode cX4_please 4 = .ok (.istore_n 2, 1) := by decide +kernel
theorem dX4_please_5 : decode cX4_please 5 = .ok (.iconst 0, 1) := by decide +kernel
theorem dX4_please_6 : decode cX4_please 6 = .ok (.istore_n 3, 1) := by decide +kernel
theorem dX4_please_7 : decode cX4_please 7 = .ok (.iload_n 3, 1) := by decide +kernel
theorem dX4_please_8 : decode cX4_please 8 = .ok (.sipush 4095, 3) := by decide +kernel
theorem dX4_please_11 : decode cX4_please 11 = .ok (.if_icmp .gt 37, 3) := by decide +kernel
theorem dX4_please_14 : decode cX4_please 14 = .ok (.iload_n 3, 1) := by decide +kernel
theorem dX4_please_15 : decode cX4_please 15 = .ok (.invokestatic 167, 3) := by decide +kernel
theorem dX4_please_18 : decode cX4_please 18 = .ok (.istore 4, 2) := by decide +kernel
theorem dX4_please_20 : decode cX4_please 20 = .ok (.iload 4, 2) := by decide +kernel
theorem dX4_please_22 : decode cX4_please 22 = .ok (.iload_n 2, 1) := by decide +kernel
theorem dX4_please_23 : decode cX4_please 23 = .ok (.if_icmp .ge 19, 3) := by decide +kernel
theorem dX4_please_26 : decode cX4_please 26 = .ok (.aload_n 0, 1) := by decide +kernel
theorem dX4_please_27 : decode cX4_please 27 = .ok (.getfield 10, 3) := by decide +kernel
theorem dX4_please_30 : decode cX4_please 30 = .ok (.iload_n 3, 1) := by decide +kernel
theorem dX4_please_31 : decode cX4_please 31 = .ok (.invokevirtual 172, 3) := by decide +kernel
theorem dX4_please_34 : decode cX4_please 34 = .ok (.ifCond .eq 8, 3) := by decide +kernel
theorem dX4_please_37 : decode cX4_please 37 = .ok (.iload 4, 2) := by decide +kernel
theorem dX4_please_39 : decode cX4_please 39 = .ok (.istore_n 2, 1) := by decide +kernel
theorem dX4_please_40 : decode cX4_please 40 = .ok (.iload_n 3, 1) := by decide +kernel
theorem dX4_please_41 : decode cX4_please 41 = .ok (.istore_n 1, 1) := by decide +kernel
theorem dX4_please_42 : decode cX4_please 42 = .ok (.iinc 3 1, 3) := by decide +kernel
theorem dX4_please_45 : decode cX4_please 45 = .ok (.goto (-38), 3) := by decide +kernel
theorem dX4_please_48 : decode cX4_please 48 = .ok (.iload_n 1, 1) := by decide +kernel
theorem dX4_please_49 : decode cX4_please 49 = .ok (.ireturn, 1) := by decide +kernel
theorem dX4_fits_0 : decode cX4_fits 0 = .ok (.aload_n 0, 1) := by decide +kernel
theorem dX4_fits_1 : decode cX4_fits 1 = .ok (.iload_n 1, 1) := by decide +kernel
theorem dX4_fits_2 : decode cX4_fits 2 = .ok (.iload_n 2, 1) := by decide +kernel
theorem dX4_fits_3 : decode cX4_fits 3 = .ok (.invokevirtual 175, 3) := by decide +kernel
theorem dX4_fits_6 : decode cX4_fits 6 = .ok (.istore_n 3, 1) := by decide +kernel
theorem dX4_fits_7 : decode cX4_fits 7 = .ok (.iload_n 3, 1) := by decide +kernel
theorem dX4_fits_8 : decode cX4_fits 8 = .ok (.iconst (-1), 1) := by decide +kernel
theorem dX4_fits_9 : decode cX4_fits 9 = .ok (.if_icmp .eq 9, 3) := by decide +kernel
theorem dX4_fits_12 : decode cX4_fits 12 = .ok (.aload_n 0, 1) := by decide +kernel
theorem dX4_fits_13 : decode cX4_fits 13 = .ok (.iload_n 3, 1) := by decide +kernel
theorem dX4_fits_14 : decode cX4_fits 14 = .ok (.invokevirtual 51, 3) := by decide +kernel
theorem dX4_fits_17 : decode cX4_fits 17 = .ok (.ireturn, 1) := by decide +kernel
theorem dX4_fits_18 : decode cX4_fits 18 = .ok (.aload_n 0, 1) := by decide +kernel
theorem dX4_fits_19 : decode cX4_fits 19 = .ok (.getfield 19, 3) := by decide +kernel
theorem dX4_fits_22 : decode cX4_fits 22 = .ok (.aload_n 0, 1) := by decide +kernel
theorem dX4_fits_23 : decode cX4_fits 23 = .ok (.getfield 10, 3) := by decide +kernel
theorem dX4_fits_26 : decode cX4_fits 26 = .ok (.invokevirtual 147, 3) := by decide +kernel
theorem dX4_fits_29 : decode cX4_fits 29 = .ok (.aload_n 0, 1) := by decide +kernel
theorem dX4_fits_30 : decode cX4_fits 30 = .ok (.getfield 10, 3) := by decide +kernel
theorem dX4_fits_33 : decode cX4_fits 33 = .ok (.iconst 0, 1) := by decide +kernel
theorem dX4_fits_34 : decode cX4_fits 34 = .ok (.invokevirtual 179, 3) := by decide +kernel
theorem dX4_fits_37 : decode cX4_fits 37 = .ok (.istore 4, 2) := by decide +kernel
theorem dX4_fits_39 : decode cX4_fits 39 = .ok (.iconst 0, 1) := by decide +kernel
theorem dX4_fits_40 : decode cX4_fits 40 = .ok (.istore 5, 2) := by decide +kernel
theorem dX4_fits_42 : decode cX4_fits 42 = .ok (.iconst 0, 1) := by decide +kernel
theorem dX4_fits_43 : decode cX4_fits 43 = .ok (.istore 6, 2) := by decide +kernel
theorem dX4_fits_45 : decode cX4_fits 45 = .ok (.iload 6, 2) := by decide +kernel
theorem dX4_fits_47 : decode cX4_fits 47 = .ok (.bipush 12, 2) := by decide +kernel
theorem dX4_fits_49 : decode cX4_fits 49 = .ok (.if_icmp .ge 59, 3) := by decide +kernel
theorem dX4_fits_52 : decode cX4_fits 52 = .ok (.aload_n 0, 1) := by decide +kernel
theorem dX4_fits_53 : decode cX4_fits 53 = .ok (.getfield 19, 3) := by decide +kernel
theorem dX4_fits_56 : decode cX4_fits 56 = .ok (.getfield 63, 3) := by decide +kernel
theorem dX4_fits_59 : decode cX4_fits 59 = .ok (.iload 4, 2) := by decide +kernel
theorem dX4_fits_61 : decode cX4_fits 61 = .ok (.iload 6, 2) := by decide +kernel
theorem dX4_fits_63 : decode cX4_fits 63 = .ok (.iastore, 1) := by decide +kernel
theorem dX4_fits_64 : decode cX4_fits 64 = .ok (.aload_n 0, 1) := by decide +kernel
theorem dX4_fits_65 : decode cX4_fits 65 = .ok (.getfield 25, 3) := by decide +kernel
theorem dX4_fits_68 : decode cX4_fits 68 = .ok (.aload_n 0, 1) := by decide +kernel
theorem dX4_fits_69 : decode cX4_fits 69 = .ok (.getfield 10, 3) := by decide +kernel
theorem dX4_fits_72 : decode cX4_fits 72 = .ok (.getfield 86, 3) := by decide +kernel
theorem dX4_fits_75 : decode cX4_fits 75 = .ok (.iload_n 2, 1) := by decide +kernel
theorem dX4_fits_76 : decode cX4_fits 76 = .ok (.aaload, 1) := by decide +kernel
theorem dX4_fits_77 : decode cX4_fits 77 = .ok (.invokevirtual 140, 3) := by decide +kernel
theorem dX4_fits_80 : decode cX4_fits 80 = .ok (.aload_n 0, 1) := by decide +kernel
theorem dX4_fits_81 : decode cX4_fits 81 = .ok (.aload_n 0, 1) := by decide +kernel
theorem dX4_fits_82 : decode cX4_fits 82 = .ok (.getfield 38, 3) := by decide +kernel
theorem dX4_fits_85 : decode cX4_fits 85 = .ok (.iload_n 1, 1) := by decide +kernel
theorem dX4_fits_86 : decode cX4_fits 86 = .ok (.aaload, 1) := by decide +kernel
theorem dX4_fits_87 : decode cX4_fits 87 = .ok (.invokevirtual 182, 3) := by decide +kernel
theorem dX4_fits_90 : decode cX4_fits 90 = .ok (.ifCond .eq 12, 3) := by decide +kernel
theorem dX4_fits_93 : decode cX4_fits 93 = .ok (.iload 5, 2) := by decide +kernel
theorem dX4_fits_95 : decode cX4_fits 95 = .ok (.iconst 1, 1) := by decide +kernel
theorem dX4_fits_96 : decode cX4_fits 96 = .ok (.iload 6, 2) := by decide +kernel
theorem dX4_fits_98 : decode cX4_fits 98 = .ok (.ishl, 1) := by decide +kernel
theorem dX4_fits_99 : decode cX4_fits 99 = .ok (.ior, 1) := by decide +kernel
theorem dX4_fits_100 : decode cX4_fits 100 = .ok (.istore 5, 2) := by decide +kernel
theorem dX4_fits_102 : decode cX4_fits 102 = .ok (.iinc 6 1, 3) := by decide +kernel
theorem dX4_fits_105 : decode cX4_fits 105 = .ok (.goto (-60), 3) := by decide +kernel
theorem dX4_fits_108 : decode cX4_fits 108 = .ok (.iload 5, 2) := by decide +kernel
theorem dX4_fits_110 : decode cX4_fits 110 = .ok (.ireturn, 1) := by decide +kernel
theorem dX4_kinds_0 : decode cX4_kinds 0 = .ok (.aload_n 0, 1) := by decide +kernel
theorem dX4_kinds_1 : decode cX4_kinds 1 = .ok (.iload_n 1, 1) := by decide +kernel
theorem dX4_kinds_2 : decode cX4_kinds 2 = .ok (.iload_n 2, 1) := by decide +kernel
theorem dX4_kinds_3 : decode cX4_kinds 3 = .ok (.invokevirtual 175, 3) := by decide +kernel
theorem dX4_kinds_6 : decode cX4_kinds 6 = .ok (.istore_n 3, 1) := by decide +kernel
theorem dX4_kinds_7 : decode cX4_kinds 7 = .ok (.iload_n 3, 1) := by decide +kernel
theorem dX4_kinds_8 : decode cX4_kinds 8 = .ok (.iconst (-1), 1) := by decide +kernel
theorem dX4_kinds_9 : decode cX4_kinds 9 = .ok (.if_icmp .eq 9, 3) := by decide +kernel
theorem dX4_kinds_12 : decode cX4_kinds 12 = .ok (.aload_n 0, 1) := by decide +kernel
theorem dX4_kinds_13 : decode cX4_kinds 13 = .ok (.iload_n 3, 1) := by decide +kernel
theorem dX4_kinds_14 : decode cX4_kinds 14 = .ok (.invokevirtual 51, 3) := by decide +kernel
theorem dX4_kinds_17 : decode cX4_kinds 17 = .ok (.ireturn, 1) := by decide +kernel
theorem dX4_kinds_18 : decode cX4_kinds 18 = .ok (.aload_n 0, 1) := by decide +kernel
theorem dX4_kinds_19 : decode cX4_kinds 19 = .ok (.getfield 19, 3) := by decide +kernel
theorem dX4_kinds_22 : decode cX4_kinds 22 = .ok (.aload_n 0, 1) := by decide +kernel
theorem dX4_kinds_23 : decode cX4_kinds 23 = .ok (.getfield 10, 3) := by decide +kernel
theorem dX4_kinds_26 : decode cX4_kinds 26 = .ok (.invokevirtual 147, 3) := by decide +kernel
theorem dX4_kinds_29 : decode cX4_kinds 29 = .ok (.iconst 0, 1) := by decide +kernel
theorem dX4_kinds_30 : decode cX4_kinds 30 = .ok (.istore 4, 2) := by decide +kernel
theorem dX4_kinds_32 : decode cX4_kinds 32 = .ok (.iconst 0, 1) := by decide +kernel
theorem dX4_kinds_33 : decode cX4_kinds 33 = .ok (.istore 5, 2) := by decide +kernel
theorem dX4_kinds_35 : decode cX4_kinds 35 = .ok (.iload 5, 2) := by decide +kernel
theorem dX4_kinds_37 : decode cX4_kinds 37 = .ok (.bipush 7, 2) := by decide +kernel
theorem dX4_kinds_39 : decode cX4_kinds 39 = .ok (.if_icmp .ge 56, 3) := by decide +kernel
theorem dX4_kinds_42 : decode cX4_kinds 42 = .ok (.aload_n 0, 1) := by decide +kernel
theorem dX4_kinds_43 : decode cX4_kinds 43 = .ok (.getfield 25, 3) := by decide +kernel
theorem dX4_kinds_46 : decode cX4_kinds 46 = .ok (.aload_n 0, 1) := by decide +kernel
theorem dX4_kinds_47 : decode cX4_kinds 47 = .ok (.getfield 10, 3) := by decide +kernel
theorem dX4_kinds_50 : decode cX4_kinds 50 = .ok (.getfield 86, 3) := by decide +kernel
theorem dX4_kinds_53 : decode cX4_kinds 53 = .ok (.iload_n 2, 1) := by decide +kernel
theorem dX4_kinds_54 : decode cX4_kinds 54 = .ok (.aaload, 1) := by decide +kernel
theorem dX4_kinds_55 : decode cX4_kinds 55 = .ok (.invokevirtual 140, 3) := by decide +kernel
theorem dX4_kinds_58 : decode cX4_kinds 58 = .ok (.aload_n 0, 1) := by decide +kernel
theorem dX4_kinds_59 : decode cX4_kinds 59 = .ok (.getfield 25, 3) := by decide +kernel
theorem dX4_kinds_62 : decode cX4_kinds 62 = .ok (.iload 5, 2) := by decide +kernel
theorem dX4_kinds_64 : decode cX4_kinds 64 = .ok (.putfield 158, 3) := by decide +kernel
theorem dX4_kinds_67 : decode cX4_kinds 67 = .ok (.aload_n 0, 1) := by decide +kernel
theorem dX4_kinds_68 : decode cX4_kinds 68 = .ok (.aload_n 0, 1) := by decide +kernel
theorem dX4_kinds_69 : decode cX4_kinds 69 = .ok (.getfield 38, 3) := by decide +kernel
theorem dX4_kinds_72 : decode cX4_kinds 72 = .ok (.iload_n 1, 1) := by decide +kernel
theorem dX4_kinds_73 : decode cX4_kinds 73 = .ok (.aaload, 1) := by decide +kernel
theorem dX4_kinds_74 : decode cX4_kinds 74 = .ok (.invokevirtual 182, 3) := by decide +kernel
theorem dX4_kinds_77 : decode cX4_kinds 77 = .ok (.ifCond .eq 12, 3) := by decide +kernel
theorem dX4_kinds_80 : decode cX4_kinds 80 = .ok (.iload 4, 2) := by decide +kernel
theorem dX4_kinds_82 : decode cX4_kinds 82 = .ok (.iconst 1, 1) := by decide +kernel
theorem dX4_kinds_83 : decode cX4_kinds 83 = .ok (.iload 5, 2) := by decide +kernel
theorem dX4_kinds_85 : decode cX4_kinds 85 = .ok (.ishl, 1) := by decide +kernel
theorem dX4_kinds_86 : decode cX4_kinds 86 = .ok (.ior, 1) := by decide +kernel
theorem dX4_kinds_87 : decode cX4_kinds 87 = .ok (.istore 4, 2) := by decide +kernel
theorem dX4_kinds_89 : decode cX4_kinds 89 = .ok (.iinc 5 1, 3) := by decide +kernel
theorem dX4_kinds_92 : decode cX4_kinds 92 = .ok (.goto (-57), 3) := by decide +kernel
theorem dX4_kinds_95 : decode cX4_kinds 95 = .ok (.iload 4, 2) := by decide +kernel
theorem dX4_kinds_97 : decode cX4_kinds 97 = .ok (.ireturn, 1) := by decide +kernel
theorem dX4_evening_0 : decode cX4_evening 0 = .ok (.iload_n 1, 1) := by decide +kernel
theorem dX4_evening_1 : decode cX4_evening 1 = .ok (.iconst 1, 1) := by decide +kernel
theorem dX4_evening_2 : decode cX4_evening 2 = .ok (.bipush 20, 2) := by decide +kernel
theorem dX4_evening_4 : decode cX4_evening 4 = .ok (.invokestatic 47, 3) := by decide +kernel
theorem dX4_evening_7 : decode cX4_evening 7 = .ok (.ifCond .ne 9, 3) := by decide +kernel
theorem dX4_evening_10 : decode cX4_evening 10 = .ok (.aload_n 0, 1) := by decide +kernel
theorem dX4_evening_11 : decode cX4_evening 11 = .ok (.iconst 0, 1) := by decide +kernel
theorem dX4_evening_12 : decode cX4_evening 12 = .ok (.invokevirtual 51, 3) := by decide +kernel
theorem dX4_evening_15 : decode cX4_evening 15 = .ok (.ireturn, 1) := by decide +kernel
theorem dX4_evening_16 : decode cX4_evening 16 = .ok (.aload_n 0, 1) := by decide +kernel
theorem dX4_evening_17 : decode cX4_evening 17 = .ok (.getfield 10, 3) := by decide +kernel
theorem dX4_evening_20 : decode cX4_evening 20 = .ok (.getfield 114, 3) := by decide +kernel
theorem dX4_evening_23 : decode cX4_evening 23 = .ok (.ldc 117, 2) := by decide +kernel
theorem dX4_evening_25 : decode cX4_evening 25 = .ok (.iload_n 1, 1) := by decide +kernel
theorem dX4_evening_26 : decode cX4_evening 26 = .ok (.isub, 1) := by decide +kernel
theorem dX4_evening_27 : decode cX4_evening 27 = .ok (.if_icmp .le 9, 3) := by decide +kernel
theorem dX4_evening_30 : decode cX4_evening 30 = .ok (.aload_n 0, 1) := by decide +kernel
theorem dX4_evening_31 : decode cX4_evening 31 = .ok (.iconst 4, 1) := by decide +kernel
theorem dX4_evening_32 : decode cX4_evening 32 = .ok (.invokevirtual 51, 3) := by decide +kernel
theorem dX4_evening_35 : decode cX4_evening 35 = .ok (.ireturn, 1) := by decide +kernel
theorem dX4_evening_36 : decode cX4_evening 36 = .ok (.iconst 0, 1) := by decide +kernel
theorem dX4_evening_37 : decode cX4_evening 37 = .ok (.istore_n 2, 1) := by decide +kernel
theorem dX4_evening_38 : decode cX4_evening 38 = .ok (.iload_n 2, 1) := by decide +kernel
theorem dX4_evening_39 : decode cX4_evening 39 = .ok (.iload_n 1, 1) := by decide +kernel
theorem dX4_evening_40 : decode cX4_evening 40 = .ok (.if_icmp .ge 86, 3) := by decide +kernel
theorem dX4_evening_43 : decode cX4_evening 43 = .ok (.aload_n 0, 1) := by decide +kernel
theorem dX4_evening_44 : decode cX4_evening 44 = .ok (.getfield 10, 3) := by decide +kernel
theorem dX4_evening_47 : decode cX4_evening 47 = .ok (.invokevirtual 186, 3) := by decide +kernel
theorem dX4_evening_50 : decode cX4_evening 50 = .ok (.bipush 12, 2) := by decide +kernel
theorem dX4_evening_52 : decode cX4_evening 52 = .ok (.irem, 1) := by decide +kernel
theorem dX4_evening_53 : decode cX4_evening 53 = .ok (.istore_n 3, 1) := by decide +kernel
theorem dX4_evening_54 : decode cX4_evening 54 = .ok (.aload_n 0, 1) := by decide +kernel
theorem dX4_evening_55 : decode cX4_evening 55 = .ok (.getfield 10, 3) := by decide +kernel
theorem dX4_evening_58 : decode cX4_evening 58 = .ok (.invokevirtual 186, 3) := by decide +kernel
theorem dX4_evening_61 : decode cX4_evening 61 = .ok (.bipush 8, 2) := by decide +kernel
theorem dX4_evening_63 : decode cX4_evening 63 = .ok (.irem, 1) := by decide +kernel
theorem dX4_evening_64 : decode cX4_evening 64 = .ok (.istore 4, 2) := by decide +kernel
theorem dX4_evening_66 : decode cX4_evening 66 = .ok (.aload_n 0, 1) := by decide +kernel
theorem dX4_evening_67 : decode cX4_evening 67 = .ok (.getfield 10, 3) := by decide +kernel
theorem dX4_evening_70 : decode cX4_evening 70 = .ok (.getfield 63, 3) := by decide +kernel
theorem dX4_evening_73 : decode cX4_evening 73 = .ok (.aload_n 0, 1) := by decide +kernel
theorem dX4_evening_74 : decode cX4_evening 74 = .ok (.getfield 10, 3) := by decide +kernel
theorem dX4_evening_77 : decode cX4_evening 77 = .ok (.iconst 0, 1) := by decide +kernel
theorem dX4_evening_78 : decode cX4_evening 78 = .ok (.invokevirtual 179, 3) := by decide +kernel
theorem dX4_evening_81 : decode cX4_evening 81 = .ok (.iload_n 3, 1) := by decide +kernel
theorem dX4_evening_82 : decode cX4_evening 82 = .ok (.iastore, 1) := by decide +kernel
theorem dX4_evening_83 : decode cX4_evening 83 = .ok (.aload_n 0, 1) := by decide +kernel
theorem dX4_evening_84 : decode cX4_evening 84 = .ok (.iload 4, 2) := by decide +kernel
theorem dX4_evening_86 : decode cX4_evening 86 = .ok (.invokevirtual 83, 3) := by decide +kernel
theorem dX4_evening_89 : decode cX4_evening 89 = .ok (.ifCond .eq 24, 3) := by decide +kernel
theorem dX4_evening_92 : decode cX4_evening 92 = .ok (.aload_n 0, 1) := by decide +kernel
theorem dX4_evening_93 : decode cX4_evening 93 = .ok (.getfield 10, 3) := by decide +kernel
theorem dX4_evening_96 : decode cX4_evening 96 = .ok (.getfield 86, 3) := by decide +kernel
theorem dX4_evening_99 : decode cX4_evening 99 = .ok (.iload 4, 2) := by decide +kernel
theorem dX4_evening_101 : decode cX4_evening 101 = .ok (.aaload, 1) := by decide +kernel
theorem dX4_evening_102 : decode cX4_evening 102 = .ok (.dup, 1) := by decide +kernel
theorem dX4_evening_103 : decode cX4_evening 103 = .ok (.getfield 77, 3) := by decide +kernel
theorem dX4_evening_106 : decode cX4_evening 106 = .ok (.iconst 1, 1) := by decide +kernel
theorem dX4_evening_107 : decode cX4_evening 107 = .ok (.iload_n 3, 1) := by decide +kernel
theorem dX4_evening_108 : decode cX4_evening 108 = .ok (.ishl, 1) := by decide +kernel
theorem dX4_evening_109 : decode cX4_evening 109 = .ok (.ixor, 1) := by decide +kernel
theorem dX4_evening_110 : decode cX4_evening 110 = .ok (.putfield 77, 3) := by decide +kernel
theorem dX4_evening_113 : decode cX4_evening 113 = .ok (.aload_n 0, 1) := by decide +kernel
theorem dX4_evening_114 : decode cX4_evening 114 = .ok (.getfield 10, 3) := by decide +kernel
theorem dX4_evening_117 : decode cX4_evening 117 = .ok (.invokevirtual 154, 3) := by decide +kernel
theorem dX4_evening_120 : decode cX4_evening 120 = .ok (.iinc 2 1, 3) := by decide +kernel
theorem dX4_evening_123 : decode cX4_evening 123 = .ok (.goto (-85), 3) := by decide +kernel
theorem dX4_evening_126 : decode cX4_evening 126 = .ok (.aload_n 0, 1) := by decide +kernel
theorem dX4_evening_127 : decode cX4_evening 127 = .ok (.getfield 10, 3) := by decide +kernel
theorem dX4_evening_130 : decode cX4_evening 130 = .ok (.getfield 121, 3) := by decide +kernel
theorem dX4_evening_133 : decode cX4_evening 133 = .ok (.ireturn, 1) := by decide +kernel
theorem dX4_odds_0 : decode cX4_odds 0 = .ok (.aload_n 0, 1) := by decide +kernel
theorem dX4_odds_1 : decode cX4_odds 1 = .ok (.iload_n 1, 1) := by decide +kernel
theorem dX4_odds_2 : decode cX4_odds 2 = .ok (.invokevirtual 83, 3) := by decide +kernel
theorem dX4_odds_5 : decode cX4_odds 5 = .ok (.ifCond .eq 22, 3) := by decide +kernel
theorem dX4_odds_8 : decode cX4_odds 8 = .ok (.iload_n 2, 1) := by decide +kernel
theorem dX4_odds_9 : decode cX4_odds 9 = .ok (.iconst 0, 1) := by decide +kernel
theorem dX4_odds_10 : decode cX4_odds 10 = .ok (.bipush 17, 2) := by decide +kernel
theorem dX4_odds_12 : decode cX4_odds 12 = .ok (.invokestatic 47, 3) := by decide +kernel
theorem dX4_odds_15 : decode cX4_odds 15 = .ok (.ifCond .eq 12, 3) := by decide +kernel
theorem dX4_odds_18 : decode cX4_odds 18 = .ok (.iload_n 3, 1) := by decide +kernel
theorem dX4_odds_19 : decode cX4_odds 19 = .ok (.iconst 0, 1) := by decide +kernel
theorem dX4_odds_20 : decode cX4_odds 20 = .ok (.iconst 1, 1) := by decide +kernel
theorem dX4_odds_21 : decode cX4_odds 21 = .ok (.invokestatic 47, 3) := by decide +kernel
theorem dX4_odds_24 : decode cX4_odds 24 = .ok (.ifCond .ne 10, 3) := by decide +kernel
theorem dX4_odds_27 : decode cX4_odds 27 = .ok (.aload_n 0, 1) := by decide +kernel
theorem dX4_odds_28 : decode cX4_odds 28 = .ok (.iconst 0, 1) := by decide +kernel
theorem dX4_odds_29 : decode cX4_odds 29 = .ok (.invokevirtual 51, 3) := by decide +kernel
theorem dX4_odds_32 : decode cX4_odds 32 = .ok (.i2l, 1) := by decide +kernel
theorem dX4_odds_33 : decode cX4_odds 33 = .ok (.lreturn, 1) := by decide +kernel
theorem dX4_odds_34 : decode cX4_odds 34 = .ok (.aload_n 0, 1) := by decide +kernel
theorem dX4_odds_35 : decode cX4_odds 35 = .ok (.getfield 10, 3) := by decide +kernel
theorem dX4_odds_38 : decode cX4_odds 38 = .ok (.getfield 86, 3) := by decide +kernel
theorem dX4_odds_41 : decode cX4_odds 41 = .ok (.iload_n 1, 1) := by decide +kernel
theorem dX4_odds_42 : decode cX4_odds 42 = .ok (.aaload, 1) := by decide +kernel
theorem dX4_odds_43 : decode cX4_odds 43 = .ok (.getfield 77, 3) := by decide +kernel
theorem dX4_odds_46 : decode cX4_odds 46 = .ok (.invokestatic 167, 3) := by decide +kernel
theorem dX4_odds_49 : decode cX4_odds 49 = .ok (.istore 4, 2) := by decide +kernel
theorem dX4_odds_51 : decode cX4_odds 51 = .ok (.iload_n 3, 1) := by decide +kernel
theorem dX4_odds_52 : decode cX4_odds 52 = .ok (.ifCond .ne 8, 3) := by decide +kernel
theorem dX4_odds_55 : decode cX4_odds 55 = .ok (.iload 4, 2) := by decide +kernel
theorem dX4_odds_57 : decode cX4_odds 57 = .ok (.goto 5, 3) := by decide +kernel
theorem dX4_odds_60 : decode cX4_odds 60 = .ok (.bipush 12, 2) := by decide +kernel
theorem dX4_odds_62 : decode cX4_odds 62 = .ok (.iload 4, 2) := by decide +kernel
theorem dX4_odds_64 : decode cX4_odds 64 = .ok (.invokestatic 189, 3) := by decide +kernel
theorem dX4_odds_67 : decode cX4_odds 67 = .ok (.idiv, 1) := by decide +kernel
theorem dX4_odds_68 : decode cX4_odds 68 = .ok (.istore 5, 2) := by decide +kernel
theorem dX4_odds_70 : decode cX4_odds 70 = .ok (.lconst 1, 1) := by decide +kernel
theorem dX4_odds_71 : decode cX4_odds 71 = .ok (.lstore 6, 2) := by decide +kernel
theorem dX4_odds_73 : decode cX4_odds 73 = .ok (.iconst 0, 1) := by decide +kernel
theorem dX4_odds_74 : decode cX4_odds 74 = .ok (.istore 8, 2) := by decide +kernel
theorem dX4_odds_76 : decode cX4_odds 76 = .ok (.iload 8, 2) := by decide +kernel
theorem dX4_odds_78 : decode cX4_odds 78 = .ok (.iload_n 2, 1) := by decide +kernel
theorem dX4_odds_79 : decode cX4_odds 79 = .ok (.if_icmp .ge 17, 3) := by decide +kernel
theorem dX4_odds_82 : decode cX4_odds 82 = .ok (.lload 6, 2) := by decide +kernel
theorem dX4_odds_84 : decode cX4_odds 84 = .ok (.iload 5, 2) := by decide +kernel
theorem dX4_odds_86 : decode cX4_odds 86 = .ok (.i2l, 1) := by decide +kernel
theorem dX4_odds_87 : decode cX4_odds 87 = .ok (.lmul, 1) := by decide +kernel
theorem dX4_odds_88 : decode cX4_odds 88 = .ok (.lstore 6, 2) := by decide +kernel
theorem dX4_odds_90 : decode cX4_odds 90 = .ok (.iinc 8 1, 3) := by decide +kernel
theorem dX4_odds_93 : decode cX4_odds 93 = .ok (.goto (-17), 3) := by decide +kernel
theorem dX4_odds_96 : decode cX4_odds 96 = .ok (.lload 6, 2) := by decide +kernel
theorem dX4_odds_98 : decode cX4_odds 98 = .ok (.lreturn, 1) := by decide +kernel
theorem dX4_seed_0 : decode cX4_seed 0 = .ok (.aload_n 0, 1) := by decide +kernel
theorem dX4_seed_1 : decode cX4_seed 1 = .ok (.getfield 10, 3) := by decide +kernel
theorem dX4_seed_4 : decode cX4_seed 4 = .ok (.getfield 192, 3) := by decide +kernel
theorem dX4_seed_7 : decode cX4_seed 7 = .ok (.istore_n 2, 1) := by decide +kernel
theorem dX4_seed_8 : decode cX4_seed 8 = .ok (.aload_n 0, 1) := by decide +kernel
theorem dX4_seed_9 : decode cX4_seed 9 = .ok (.getfield 10, 3) := by decide +kernel
theorem dX4_seed_12 : decode cX4_seed 12 = .ok (.iload_n 1, 1) := by decide +kernel
theorem dX4_seed_13 : decode cX4_seed 13 = .ok (.putfield 192, 3) := by decide +kernel
theorem dX4_seed_16 : decode cX4_seed 16 = .ok (.iload_n 2, 1) := by decide +kernel
theorem dX4_seed_17 : decode cX4_seed 17 = .ok (.ireturn, 1) := by decide +kernel
theorem dX4_feed_0 : decode cX4_feed 0 = .ok (.iload_n 2, 1) := by decide +kernel
theorem dX4_feed_1 : decode cX4_feed 1 = .ok (.iconst 1, 1) := by decide +kernel
theorem dX4_feed_2 : decode cX4_feed 2 = .ok (.iconst 4, 1) := by decide +kernel
theorem dX4_feed_3 : decode cX4_feed 3 = .ok (.invokestatic 47, 3) := by decide +kernel
theorem dX4_feed_6 : decode cX4_feed 6 = .ok (.ifCond .ne 9, 3) := by decide +kernel
theorem dX4_feed_9 : decode cX4_feed 9 = .ok (.aload_n 0, 1) := by decide +kernel
theorem dX4_feed_10 : decode cX4_feed 10 = .ok (.iconst 0, 1) := by decide +kernel
theorem dX4_feed_11 : decode cX4_feed 11 = .ok (.invokevirtual 51, 3) := by decide +kernel
theorem dX4_feed_14 : decode cX4_feed 14 = .ok (.ireturn, 1) := by decide +kernel
theorem dX4_feed_15 : decode cX4_feed 15 = .ok (.aload_n 0, 1) := by decide +kernel
theorem dX4_feed_16 : decode cX4_feed 16 = .ok (.getfield 32, 3) := by decide +kernel
theorem dX4_feed_19 : decode cX4_feed 19 = .ok (.getfield 195, 3) := by decide +kernel
theorem dX4_feed_22 : decode cX4_feed 22 = .ok (.bipush 120, 2) := by decide +kernel
theorem dX4_feed_24 : decode cX4_feed 24 = .ok (.iload_n 2, 1) := by decide +kernel
theorem dX4_feed_25 : decode cX4_feed 25 = .ok (.isub, 1) := by decide +kernel
theorem dX4_feed_26 : decode cX4_feed 26 = .ok (.if_icmp .le 9, 3) := by decide +kernel
theorem dX4_feed_29 : decode cX4_feed 29 = .ok (.aload_n 0, 1) := by decide +kernel
theorem dX4_feed_30 : decode cX4_feed 30 = .ok (.iconst 1, 1) := by decide +kernel
theorem dX4_feed_31 : decode cX4_feed 31 = .ok (.invokevirtual 51, 3) := by decide +kernel
theorem dX4_feed_34 : decode cX4_feed 34 = .ok (.ireturn, 1) := by decide +kernel
theorem dX4_feed_35 : decode cX4_feed 35 = .ok (.iload_n 2, 1) := by decide +kernel
theorem dX4_feed_36 : decode cX4_feed 36 = .ok (.iconst 1, 1) := by decide +kernel
theorem dX4_feed_37 : decode cX4_feed 37 = .ok (.isub, 1) := by decide +kernel
theorem dX4_feed_38 : decode cX4_feed 38 = .ok (.istore_n 3, 1) := by decide +kernel
theorem dX4_feed_39 : decode cX4_feed 39 = .ok (.iload_n 3, 1) := by decide +kernel
theorem dX4_feed_40 : decode cX4_feed 40 = .ok (.ifCond .lt 23, 3) := by decide +kernel
theorem dX4_feed_43 : decode cX4_feed 43 = .ok (.aload_n 0, 1) := by decide +kernel
theorem dX4_feed_44 : decode cX4_feed 44 = .ok (.getfield 32, 3) := by decide +kernel
theorem dX4_feed_47 : decode cX4_feed 47 = .ok (.iload_n 1, 1) := by decide +kernel
theorem dX4_feed_48 : decode cX4_feed 48 = .ok (.bipush 8, 2) := by decide +kernel
theorem dX4_feed_50 : decode cX4_feed 50 = .ok (.iload_n 3, 1) := by decide +kernel
theorem dX4_feed_51 : decode cX4_feed 51 = .ok (.imul, 1) := by decide +kernel
theorem dX4_feed_52 : decode cX4_feed 52 = .ok (.ishr, 1) := by decide +kernel
theorem dX4_feed_53 : decode cX4_feed 53 = .ok (.i2b, 1) := by decide +kernel
theorem dX4_feed_54 : decode cX4_feed 54 = .ok (.invokevirtual 198, 3) := by decide +kernel
theorem dX4_feed_57 : decode cX4_feed 57 = .ok (.iinc 3 (-1), 3) := by decide +kernel
theorem dX4_feed_60 : decode cX4_feed 60 = .ok (.goto (-21), 3) := by decide +kernel
theorem dX4_feed_63 : decode cX4_feed 63 = .ok (.aload_n 0, 1) := by decide +kernel
theorem dX4_feed_64 : decode cX4_feed 64 = .ok (.getfield 32, 3) := by decide +kernel
theorem dX4_feed_67 : decode cX4_feed 67 = .ok (.getfield 195, 3) := by decide +kernel
theorem dX4_feed_70 : decode cX4_feed 70 = .ok (.ireturn, 1) := by decide +kernel
theorem dX4_wipe_0 : decode cX4_wipe 0 = .ok (.aload_n 0, 1) := by decide +kernel
theorem dX4_wipe_1 : decode cX4_wipe 1 = .ok (.getfield 32, 3) := by decide +kernel
theorem dX4_wipe_4 : decode cX4_wipe 4 = .ok (.getfield 195, 3) := by decide +kernel
theorem dX4_wipe_7 : decode cX4_wipe 7 = .ok (.istore_n 1, 1) := by decide +kernel
theorem dX4_wipe_8 : decode cX4_wipe 8 = .ok (.aload_n 0, 1) := by decide +kernel
theorem dX4_wipe_9 : decode cX4_wipe 9 = .ok (.getfield 32, 3) := by decide +kernel
theorem dX4_wipe_12 : decode cX4_wipe 12 = .ok (.iconst 0, 1) := by decide +kernel
theorem dX4_wipe_13 : decode cX4_wipe 13 = .ok (.putfield 195, 3) := by decide +kernel
theorem dX4_wipe_16 : decode cX4_wipe 16 = .ok (.iload_n 1, 1) := by decide +kernel
theorem dX4_wipe_17 : decode cX4_wipe 17 = .ok (.ireturn, 1) := by decide +kernel
theorem dX4_text_0 : decode cX4_text 0 = .ok (.aload_n 0, 1) := by decide +kernel
theorem dX4_text_1 : decode cX4_text 1 = .ok (.getfield 19, 3) := by decide +kernel
theorem dX4_text_4 : decode cX4_text 4 = .ok (.aload_n 0, 1) := by decide +kernel
theorem dX4_text_5 : decode cX4_text 5 = .ok (.getfield 10, 3) := by decide +kernel
theorem dX4_text_8 : decode cX4_text 8 = .ok (.invokevirtual 147, 3) := by decide +kernel
theorem dX4_text_11 : decode cX4_text 11 = .ok (.aload_n 0, 1) := by decide +kernel
theorem dX4_text_12 : decode cX4_text 12 = .ok (.getfield 32, 3) := by decide +kernel
theorem dX4_text_15 : decode cX4_text 15 = .ok (.aload_n 0, 1) := by decide +kernel
theorem dX4_text_16 : decode cX4_text 16 = .ok (.getfield 19, 3) := by decide +kernel
theorem dX4_text_19 : decode cX4_text 19 = .ok (.invokevirtual 202, 3) := by decide +kernel
theorem dX4_text_22 : decode cX4_text 22 = .ok (.istore_n 1, 1) := by decide +kernel
theorem dX4_text_23 : decode cX4_text 23 = .ok (.iload_n 1, 1) := by decide +kernel
theorem dX4_text_24 : decode cX4_text 24 = .ok (.ifCond .lt 14, 3) := by decide +kernel
theorem dX4_text_27 : decode cX4_text 27 = .ok (.aload_n 0, 1) := by decide +kernel
theorem dX4_text_28 : decode cX4_text 28 = .ok (.getfield 10, 3) := by decide +kernel
theorem dX4_text_31 : decode cX4_text 31 = .ok (.aload_n 0, 1) := by decide +kernel
theorem dX4_text_32 : decode cX4_text 32 = .ok (.getfield 19, 3) := by decide +kernel
theorem dX4_text_35 : decode cX4_text 35 = .ok (.invokevirtual 147, 3) := by decide +kernel
theorem dX4_text_38 : decode cX4_text 38 = .ok (.aload_n 0, 1) := by decide +kernel
theorem dX4_text_39 : decode cX4_text 39 = .ok (.getfield 32, 3) := by decide +kernel
theorem dX4_text_42 : decode cX4_text 42 = .ok (.iconst 0, 1) := by decide +kernel
theorem dX4_text_43 : decode cX4_text 43 = .ok (.putfield 195, 3) := by decide +kernel
theorem dX4_text_46 : decode cX4_text 46 = .ok (.iload_n 1, 1) := by decide +kernel
theorem dX4_text_47 : decode cX4_text 47 = .ok (.ireturn, 1) := by decide +kernel
theorem dX4_hold_0 : decode cX4_hold 0 = .ok (.iload_n 1, 1) := by decide +kernel
theorem dX4_hold_1 : decode cX4_hold 1 = .ok (.invokestatic 206, 3) := by decide +kernel
theorem dX4_hold_4 : decode cX4_hold 4 = .ok (.ifCond .eq 16, 3) := by decide +kernel
theorem dX4_hold_7 : decode cX4_hold 7 = .ok (.iload_n 2, 1) := by decide +kernel
theorem dX4_hold_8 : decode cX4_hold 8 = .ok (.iconst (-1), 1) := by decide +kernel
theorem dX4_hold_9 : decode cX4_hold 9 = .ok (.if_icmp .eq 17, 3) := by decide +kernel
theorem dX4_hold_12 : decode cX4_hold 12 = .ok (.aload_n 0, 1) := by decide +kernel
theorem dX4_hold_13 : decode cX4_hold 13 = .ok (.iload_n 2, 1) := by decide +kernel
theorem dX4_hold_14 : decode cX4_hold 14 = .ok (.invokevirtual 83, 3) := by decide +kernel
theorem dX4_hold_17 : decode cX4_hold 17 = .ok (.ifCond .ne 9, 3) := by decide +kernel
theorem dX4_hold_20 : decode cX4_hold 20 = .ok (.aload_n 0, 1) := by decide +kernel
theorem dX4_hold_21 : decode cX4_hold 21 = .ok (.iconst 0, 1) := by decide +kernel
theorem dX4_hold_22 : decode cX4_hold 22 = .ok (.invokevirtual 51, 3) := by decide +kernel
theorem dX4_hold_25 : decode cX4_hold 25 = .ok (.ireturn, 1) := by decide +kernel
theorem dX4_hold_26 : decode cX4_hold 26 = .ok (.aload_n 0, 1) := by decide +kernel
theorem dX4_hold_27 : decode cX4_hold 27 = .ok (.getfield 10, 3) := by decide +kernel
theorem dX4_hold_30 : decode cX4_hold 30 = .ok (.getfield 209, 3) := by decide +kernel
theorem dX4_hold_33 : decode cX4_hold 33 = .ok (.iload_n 1, 1) := by decide +kernel
theorem dX4_hold_34 : decode cX4_hold 34 = .ok (.iload_n 2, 1) := by decide +kernel
theorem dX4_hold_35 : decode cX4_hold 35 = .ok (.iastore, 1) := by decide +kernel
theorem dX4_hold_36 : decode cX4_hold 36 = .ok (.iconst 1, 1) := by decide +kernel
theorem dX4_hold_37 : decode cX4_hold 37 = .ok (.ireturn, 1) := by decide +kernel
theorem dX4_as_0 : decode cX4_as 0 = .ok (.iload_n 1, 1) := by decide +kernel
theorem dX4_as_1 : decode cX4_as 1 = .ok (.invokestatic 206, 3) := by decide +kernel
theorem dX4_as_4 : decode cX4_as 4 = .ok (.ifCond .eq 10, 3) := by decide +kernel
theorem dX4_as_7 : decode cX4_as 7 = .ok (.iload_n 2, 1) := by decide +kernel
theorem dX4_as_8 : decode cX4_as 8 = .ok (.invokestatic 66, 3) := by decide +kernel
theorem dX4_as_11 : decode cX4_as 11 = .ok (.ifCond .ne 9, 3) := by decide +kernel
theorem dX4_as_14 : decode cX4_as 14 = .ok (.aload_n 0, 1) := by decide +kernel
theorem dX4_as_15 : decode cX4_as 15 = .ok (.iconst 0, 1) := by decide +kernel
theorem dX4_as_16 : decode cX4_as 16 = .ok (.invokevirtual 51, 3) := by decide +kernel
theorem dX4_as_19 : decode cX4_as 19 = .ok (.ireturn, 1) := by decide +kernel
theorem dX4_as_20 : decode cX4_as 20 = .ok (.aload_n 0, 1) := by decide +kernel
theorem dX4_as_21 : decode cX4_as 21 = .ok (.getfield 10, 3) := by decide +kernel
theorem dX4_as_24 : decode cX4_as 24 = .ok (.getfield 209, 3) := by decide +kernel
theorem dX4_as_27 : decode cX4_as 27 = .ok (.iload_n 1, 1) := by decide +kernel
theorem dX4_as_28 : decode cX4_as 28 = .ok (.iaload, 1) := by decide +kernel
theorem dX4_as_29 : decode cX4_as 29 = .ok (.istore_n 3, 1) := by decide +kernel
theorem dX4_as_30 : decode cX4_as 30 = .ok (.aload_n 0, 1) := by decide +kernel
theorem dX4_as_31 : decode cX4_as 31 = .ok (.iload_n 3, 1) := by decide +kernel
theorem dX4_as_32 : decode cX4_as 32 = .ok (.invokevirtual 83, 3) := by decide +kernel
theorem dX4_as_35 : decode cX4_as 35 = .ok (.ifCond .ne 9, 3) := by decide +kernel
theorem dX4_as_38 : decode cX4_as 38 = .ok (.aload_n 0, 1) := by decide +kernel
theorem dX4_as_39 : decode cX4_as 39 = .ok (.iconst 5, 1) := by decide +kernel
theorem dX4_as_40 : decode cX4_as 40 = .ok (.invokevirtual 51, 3) := by decide +kernel
theorem dX4_as_43 : decode cX4_as 43 = .ok (.ireturn, 1) := by decide +kernel
theorem dX4_as_44 : decode cX4_as 44 = .ok (.aload_n 0, 1) := by decide +kernel
theorem dX4_as_45 : decode cX4_as 45 = .ok (.getfield 10, 3) := by decide +kernel
theorem dX4_as_48 : decode cX4_as 48 = .ok (.getfield 86, 3) := by decide +kernel
theorem dX4_as_51 : decode cX4_as 51 = .ok (.iload_n 3, 1) := by decide +kernel
theorem dX4_as_52 : decode cX4_as 52 = .ok (.aaload, 1) := by decide +kernel
theorem dX4_as_53 : decode cX4_as 53 = .ok (.iload_n 2, 1) := by decide +kernel
theorem dX4_as_54 : decode cX4_as 54 = .ok (.invokevirtual 212, 3) := by decide +kernel
theorem dX4_as_57 : decode cX4_as 57 = .ok (.ifCond .ne 9, 3) := by decide +kernel
theorem dX4_as_60 : decode cX4_as 60 = .ok (.aload_n 0, 1) := by decide +kernel
theorem dX4_as_61 : decode cX4_as 61 = .ok (.iconst 2, 1) := by decide +kernel
theorem dX4_as_62 : decode cX4_as 62 = .ok (.invokevirtual 51, 3) := by decide +kernel
theorem dX4_as_65 : decode cX4_as 65 = .ok (.ireturn, 1) := by decide +kernel
theorem dX4_as_66 : decode cX4_as 66 = .ok (.iload_n 3, 1) := by decide +kernel
theorem dX4_as_67 : decode cX4_as 67 = .ok (.ireturn, 1) := by decide +kernel
theorem dX4_sheet_0 : decode cX4_sheet 0 = .ok (.iload_n 1, 1) := by decide +kernel
theorem dX4_sheet_1 : decode cX4_sheet 1 = .ok (.invokestatic 215, 3) := by decide +kernel
theorem dX4_sheet_4 : decode cX4_sheet 4 = .ok (.ifCond .eq 25, 3) := by decide +kernel
theorem dX4_sheet_7 : decode cX4_sheet 7 = .ok (.iload_n 2, 1) := by decide +kernel
theorem dX4_sheet_8 : decode cX4_sheet 8 = .ok (.ifCond .eq 27, 3) := by decide +kernel
theorem dX4_sheet_11 : decode cX4_sheet 11 = .ok (.iload_n 2, 1) := by decide +kernel
theorem dX4_sheet_12 : decode cX4_sheet 12 = .ok (.bipush 8, 2) := by decide +kernel
theorem dX4_sheet_14 : decode cX4_sheet 14 = .ok (.if_icmp .eq 21, 3) := by decide +kernel
theorem dX4_sheet_17 : decode cX4_sheet 17 = .ok (.iload_n 2, 1) := by decide +kernel
theorem dX4_sheet_18 : decode cX4_sheet 18 = .ok (.bipush 16, 2) := by decide +kernel
theorem dX4_sheet_20 : decode cX4_sheet 20 = .ok (.if_icmp .eq 15, 3) := by decide +kernel
theorem dX4_sheet_23 : decode cX4_sheet 23 = .ok (.iload_n 2, 1) := by decide +kernel
theorem dX4_sheet_24 : decode cX4_sheet 24 = .ok (.bipush 32, 2) := by decide +kernel
theorem dX4_sheet_26 : decode cX4_sheet 26 = .ok (.if_icmp .eq 9, 3) := by decide +kernel
theorem dX4_sheet_29 : decode cX4_sheet 29 = .ok (.aload_n 0, 1) := by decide +kernel
theorem dX4_sheet_30 : decode cX4_sheet 30 = .ok (.iconst 0, 1) := by decide +kernel
theorem dX4_sheet_31 : decode cX4_sheet 31 = .ok (.invokevirtual 51, 3) := by decide +kernel
theorem dX4_sheet_34 : decode cX4_sheet 34 = .ok (.ireturn, 1) := by decide +kernel
theorem dX4_sheet_35 : decode cX4_sheet 35 = .ok (.iload_n 3, 1) := by decide +kernel
theorem dX4_sheet_36 : decode cX4_sheet 36 = .ok (.ifCond .ge 10, 3) := by decide +kernel
theorem dX4_sheet_39 : decode cX4_sheet 39 = .ok (.aload_n 0, 1) := by decide +kernel
theorem dX4_sheet_40 : decode cX4_sheet 40 = .ok (.bipush 6, 2) := by decide +kernel
theorem dX4_sheet_42 : decode cX4_sheet 42 = .ok (.invokevirtual 51, 3) := by decide +kernel
theorem dX4_sheet_45 : decode cX4_sheet 45 = .ok (.ireturn, 1) := by decide +kernel
theorem dX4_sheet_46 : decode cX4_sheet 46 = .ok (.iload_n 3, 1) := by decide +kernel
theorem dX4_sheet_47 : decode cX4_sheet 47 = .ok (.bipush 40, 2) := by decide +kernel
theorem dX4_sheet_49 : decode cX4_sheet 49 = .ok (.if_icmp .le 9, 3) := by decide +kernel
theorem dX4_sheet_52 : decode cX4_sheet 52 = .ok (.aload_n 0, 1) := by decide +kernel
theorem dX4_sheet_53 : decode cX4_sheet 53 = .ok (.iconst 0, 1) := by decide +kernel
theorem dX4_sheet_54 : decode cX4_sheet 54 = .ok (.invokevirtual 51, 3) := by decide +kernel
theorem dX4_sheet_57 : decode cX4_sheet 57 = .ok (.ireturn, 1) := by decide +kernel
theorem dX4_sheet_58 : decode cX4_sheet 58 = .ok (.aload_n 0, 1) := by decide +kernel
theorem dX4_sheet_59 : decode cX4_sheet 59 = .ok (.getfield 38, 3) := by decide +kernel
theorem dX4_sheet_62 : decode cX4_sheet 62 = .ok (.iload_n 1, 1) := by decide +kernel
theorem dX4_sheet_63 : decode cX4_sheet 63 = .ok (.aaload, 1) := by decide +kernel
theorem dX4_sheet_64 : decode cX4_sheet 64 = .ok (.iload_n 2, 1) := by decide +kernel
theorem dX4_sheet_65 : decode cX4_sheet 65 = .ok (.iload_n 2, 1) := by decide +kernel
theorem dX4_sheet_66 : decode cX4_sheet 66 = .ok (.ifCond .ne 7, 3) := by decide +kernel
theorem dX4_sheet_69 : decode cX4_sheet 69 = .ok (.iconst 0, 1) := by decide +kernel
theorem dX4_sheet_70 : decode cX4_sheet 70 = .ok (.goto 4, 3) := by decide +kernel
theorem dX4_sheet_73 : decode cX4_sheet 73 = .ok (.iload_n 3, 1) := by decide +kernel
theorem dX4_sheet_74 : decode cX4_sheet 74 = .ok (.invokevirtual 218, 3) := by decide +kernel
theorem dX4_sheet_77 : decode cX4_sheet 77 = .ok (.aload_n 0, 1) := by decide +kernel
theorem dX4_sheet_78 : decode cX4_sheet 78 = .ok (.getfield 38, 3) := by decide +kernel
theorem dX4_sheet_81 : decode cX4_sheet 81 = .ok (.iload_n 1, 1) := by decide +kernel
theorem dX4_sheet_82 : decode cX4_sheet 82 = .ok (.aaload, 1) := by decide +kernel
theorem dX4_sheet_83 : decode cX4_sheet 83 = .ok (.getfield 221, 3) := by decide +kernel
theorem dX4_sheet_86 : decode cX4_sheet 86 = .ok (.ireturn, 1) := by decide +kernel
theorem dX4_write_0 : decode cX4_write 0 = .ok (.iload_n 1, 1) := by decide +kernel
theorem dX4_write_1 : decode cX4_write 1 = .ok (.invokestatic 215, 3) := by decide +kernel
theorem dX4_write_4 : decode cX4_write 4 = .ok (.ifCond .ne 9, 3) := by decide +kernel
theorem dX4_write_7 : decode cX4_write 7 = .ok (.aload_n 0, 1) := by decide +kernel
theorem dX4_write_8 : decode cX4_write 8 = .ok (.iconst 0, 1) := by decide +kernel
theorem dX4_write_9 : decode cX4_write 9 = .ok (.invokevirtual 51, 3) := by decide +kernel
theorem dX4_write_12 : decode cX4_write 12 = .ok (.ireturn, 1) := by decide +kernel
theorem dX4_write_13 : decode cX4_write 13 = .ok (.aload_n 0, 1) := by decide +kernel
theorem dX4_write_14 : decode cX4_write 14 = .ok (.getfield 38, 3) := by decide +kernel
theorem dX4_write_17 : decode cX4_write 17 = .ok (.iload_n 1, 1) := by decide +kernel
theorem dX4_write_18 : decode cX4_write 18 = .ok (.aaload, 1) := by decide +kernel
theorem dX4_write_19 : decode cX4_write 19 = .ok (.invokevirtual 222, 3) := by decide +kernel
theorem dX4_write_22 : decode cX4_write 22 = .ok (.ifCond .eq 9, 3) := by decide +kernel
theorem dX4_write_25 : decode cX4_write 25 = .ok (.aload_n 0, 1) := by decide +kernel
theorem dX4_write_26 : decode cX4_write 26 = .ok (.iconst 5, 1) := by decide +kernel
theorem dX4_write_27 : decode cX4_write 27 = .ok (.invokevirtual 51, 3) := by decide +kernel
theorem dX4_write_30 : decode cX4_write 30 = .ok (.ireturn, 1) := by decide +kernel
theorem dX4_write_31 : decode cX4_write 31 = .ok (.iload_n 2, 1) := by decide +kernel
theorem dX4_write_32 : decode cX4_write 32 = .ok (.iconst 0, 1) := by decide +kernel
theorem dX4_write_33 : decode cX4_write 33 = .ok (.aload_n 0, 1) := by decide +kernel
theorem dX4_write_34 : decode cX4_write 34 = .ok (.getfield 38, 3) := by decide +kernel
theorem dX4_write_37 : decode cX4_write 37 = .ok (.iload_n 1, 1) := by decide +kernel
theorem dX4_write_38 : decode cX4_write 38 = .ok (.aaload, 1) := by decide +kernel
theorem dX4_write_39 : decode cX4_write 39 = .ok (.getfield 221, 3) := by decide +kernel
theorem dX4_write_42 : decode cX4_write 42 = .ok (.iconst 1, 1) := by decide +kernel
theorem dX4_write_43 : decode cX4_write 43 = .ok (.isub, 1) := by decide +kernel
theorem dX4_write_44 : decode cX4_write 44 = .ok (.invokestatic 47, 3) := by decide +kernel
theorem dX4_write_47 : decode cX4_write 47 = .ok (.ifCond .ne 9, 3) := by decide +kernel
theorem dX4_write_50 : decode cX4_write 50 = .ok (.aload_n 0, 1) := by decide +kernel
theorem dX4_write_51 : decode cX4_write 51 = .ok (.iconst 0, 1) := by decide +kernel
theorem dX4_write_52 : decode cX4_write 52 = .ok (.invokevirtual 51, 3) := by decide +kernel
theorem dX4_write_55 : decode cX4_write 55 = .ok (.ireturn, 1) := by decide +kernel
theorem dX4_write_56 : decode cX4_write 56 = .ok (.aload_n 0, 1) := by decide +kernel
theorem dX4_write_57 : decode cX4_write 57 = .ok (.getfield 38, 3) := by decide +kernel
theorem dX4_write_60 : decode cX4_write 60 = .ok (.iload_n 1, 1) := by decide +kernel
theorem dX4_write_61 : decode cX4_write 61 = .ok (.aaload, 1) := by decide +kernel
theorem dX4_write_62 : decode cX4_write 62 = .ok (.iload_n 2, 1) := by decide +kernel
theorem dX4_write_63 : decode cX4_write 63 = .ok (.iload_n 3, 1) := by decide +kernel
theorem dX4_write_64 : decode cX4_write 64 = .ok (.invokevirtual 225, 3) := by decide +kernel
theorem dX4_write_67 : decode cX4_write 67 = .ok (.iconst 1, 1) := by decide +kernel
theorem dX4_write_68 : decode cX4_write 68 = .ok (.ireturn, 1) := by decide +kernel
theorem dX4_copy_0 : decode cX4_copy 0 = .ok (.iload_n 1, 1) := by decide +kernel
theorem dX4_copy_1 : decode cX4_copy 1 = .ok (.invokestatic 215, 3) := by decide +kernel
theorem dX4_copy_4 : decode cX4_copy 4 = .ok (.ifCond .eq 10, 3) := by decide +kernel
theorem dX4_copy_7 : decode cX4_copy 7 = .ok (.iload_n 3, 1) := by decide +kernel
theorem dX4_copy_8 : decode cX4_copy 8 = .ok (.invokestatic 215, 3) := by decide +kernel
theorem dX4_copy_11 : decode cX4_copy 11 = .ok (.ifCond .ne 9, 3) := by decide +kernel
theorem dX4_copy_14 : decode cX4_copy 14 = .ok (.aload_n 0, 1) := by decide +kernel
theorem dX4_copy_15 : decode cX4_copy 15 = .ok (.iconst 0, 1) := by decide +kernel
theorem dX4_copy_16 : decode cX4_copy 16 = .ok (.invokevirtual 51, 3) := by decide +kernel
theorem dX4_copy_19 : decode cX4_copy 19 = .ok (.ireturn, 1) := by decide +kernel
theorem dX4_copy_20 : decode cX4_copy 20 = .ok (.aload_n 0, 1) := by decide +kernel
theorem dX4_copy_21 : decode cX4_copy 21 = .ok (.getfield 38, 3) := by decide +kernel
theorem dX4_copy_24 : decode cX4_copy 24 = .ok (.iload_n 1, 1) := by decide +kernel
theorem dX4_copy_25 : decode cX4_copy 25 = .ok (.aaload, 1) := by decide +kernel
theorem dX4_copy_26 : decode cX4_copy 26 = .ok (.astore 6, 2) := by decide +kernel
theorem dX4_copy_28 : decode cX4_copy 28 = .ok (.aload_n 0, 1) := by decide +kernel
theorem dX4_copy_29 : decode cX4_copy 29 = .ok (.getfield 38, 3) := by decide +kernel
theorem dX4_copy_32 : decode cX4_copy 32 = .ok (.iload_n 3, 1) := by decide +kernel
theorem dX4_copy_33 : decode cX4_copy 33 = .ok (.aaload, 1) := by decide +kernel
theorem dX4_copy_34 : decode cX4_copy 34 = .ok (.astore 7, 2) := by decide +kernel
theorem dX4_copy_36 : decode cX4_copy 36 = .ok (.aload 6, 2) := by decide +kernel
theorem dX4_copy_38 : decode cX4_copy 38 = .ok (.invokevirtual 222, 3) := by decide +kernel
theorem dX4_copy_41 : decode cX4_copy 41 = .ok (.ifCond .ne 11, 3) := by decide +kernel
theorem dX4_copy_44 : decode cX4_copy 44 = .ok (.aload 7, 2) := by decide +kernel
theorem dX4_copy_46 : decode cX4_copy 46 = .ok (.invokevirtual 222, 3) := by decide +kernel
theorem dX4_copy_49 : decode cX4_copy 49 = .ok (.ifCond .eq 9, 3) := by decide +kernel
theorem dX4_copy_52 : decode cX4_copy 52 = .ok (.aload_n 0, 1) := by decide +kernel
theorem dX4_copy_53 : decode cX4_copy 53 = .ok (.iconst 5, 1) := by decide +kernel
theorem dX4_copy_54 : decode cX4_copy 54 = .ok (.invokevirtual 51, 3) := by decide +kernel
theorem dX4_copy_57 : decode cX4_copy 57 = .ok (.ireturn, 1) := by decide +kernel
theorem dX4_copy_58 : decode cX4_copy 58 = .ok (.aload 6, 2) := by decide +kernel
theorem dX4_copy_60 : decode cX4_copy 60 = .ok (.getfield 228, 3) := by decide +kernel
theorem dX4_copy_63 : decode cX4_copy 63 = .ok (.aload 7, 2) := by decide +kernel
theorem dX4_copy_65 : decode cX4_copy 65 = .ok (.getfield 228, 3) := by decide +kernel
theorem dX4_copy_68 : decode cX4_copy 68 = .ok (.if_icmp .eq 9, 3) := by decide +kernel
theorem dX4_copy_71 : decode cX4_copy 71 = .ok (.aload_n 0, 1) := by decide +kernel
theorem dX4_copy_72 : decode cX4_copy 72 = .ok (.iconst 2, 1) := by decide +kernel
theorem dX4_copy_73 : decode cX4_copy 73 = .ok (.invokevirtual 51, 3) := by decide +kernel
theorem dX4_copy_76 : decode cX4_copy 76 = .ok (.ireturn, 1) := by decide +kernel
theorem dX4_copy_77 : decode cX4_copy 77 = .ok (.aload 6, 2) := by decide +kernel
theorem dX4_copy_79 : decode cX4_copy 79 = .ok (.iload_n 2, 1) := by decide +kernel
theorem dX4_copy_80 : decode cX4_copy 80 = .ok (.iload 5, 2) := by decide +kernel
theorem dX4_copy_82 : decode cX4_copy 82 = .ok (.invokevirtual 231, 3) := by decide +kernel
theorem dX4_copy_85 : decode cX4_copy 85 = .ok (.ifCond .eq 15, 3) := by decide +kernel
theorem dX4_copy_88 : decode cX4_copy 88 = .ok (.aload 7, 2) := by decide +kernel
theorem dX4_copy_90 : decode cX4_copy 90 = .ok (.iload 4, 2) := by decide +kernel
theorem dX4_copy_92 : decode cX4_copy 92 = .ok (.iload 5, 2) := by decide +kernel
theorem dX4_copy_94 : decode cX4_copy 94 = .ok (.invokevirtual 231, 3) := by decide +kernel
theorem dX4_copy_97 : decode cX4_copy 97 = .ok (.ifCond .ne 9, 3) := by decide +kernel
theorem dX4_copy_100 : decode cX4_copy 100 = .ok (.aload_n 0, 1) := by decide +kernel
theorem dX4_copy_101 : decode cX4_copy 101 = .ok (.iconst 0, 1) := by decide +kernel
theorem dX4_copy_102 : decode cX4_copy 102 = .ok (.invokevirtual 51, 3) := by decide +kernel
theorem dX4_copy_105 : decode cX4_copy 105 = .ok (.ireturn, 1) := by decide +kernel
theorem dX4_copy_106 : decode cX4_copy 106 = .ok (.aload 6, 2) := by decide +kernel
theorem dX4_copy_108 : decode cX4_copy 108 = .ok (.getfield 235, 3) := by decide +kernel
theorem dX4_copy_111 : decode cX4_copy 111 = .ok (.iload_n 2, 1) := by decide +kernel
theorem dX4_copy_112 : decode cX4_copy 112 = .ok (.aload 7, 2) := by decide +kernel
theorem dX4_copy_114 : decode cX4_copy 114 = .ok (.getfield 235, 3) := by decide +kernel
theorem dX4_copy_117 : decode cX4_copy 117 = .ok (.iload 4, 2) := by decide +kernel
theorem dX4_copy_119 : decode cX4_copy 119 = .ok (.iload 5, 2) := by decide +kernel
theorem dX4_copy_121 : decode cX4_copy 121 = .ok (.invokestatic 238, 3) := by decide +kernel
theorem dX4_copy_124 : decode cX4_copy 124 = .ok (.iload 5, 2) := by decide +kernel
theorem dX4_copy_126 : decode cX4_copy 126 = .ok (.ireturn, 1) := by decide +kernel
theorem dX4_load_0 : decode cX4_load 0 = .ok (.iload_n 1, 1) := by decide +kernel
theorem dX4_load_1 : decode cX4_load 1 = .ok (.invokestatic 215, 3) := by decide +kernel
theorem dX4_load_4 : decode cX4_load 4 = .ok (.ifCond .ne 9, 3) := by decide +kernel
theorem dX4_load_7 : decode cX4_load 7 = .ok (.aload_n 0, 1) := by decide +kernel
theorem dX4_load_8 : decode cX4_load 8 = .ok (.iconst 0, 1) := by decide +kernel
theorem dX4_load_9 : decode cX4_load 9 = .ok (.invokevirtual 51, 3) := by decide +kernel
theorem dX4_load_12 : decode cX4_load 12 = .ok (.ireturn, 1) := by decide +kernel
theorem dX4_load_13 : decode cX4_load 13 = .ok (.aload_n 0, 1) := by decide +kernel
theorem dX4_load_14 : decode cX4_load 14 = .ok (.getfield 38, 3) := by decide +kernel
theorem dX4_load_17 : decode cX4_load 17 = .ok (.iload_n 1, 1) := by decide +kernel
theorem dX4_load_18 : decode cX4_load 18 = .ok (.aaload, 1) := by decide +kernel
theorem dX4_load_19 : decode cX4_load 19 = .ok (.astore_n 2, 1) := by decide +kernel
theorem dX4_load_20 : decode cX4_load 20 = .ok (.aload_n 2, 1) := by decide +kernel
theorem dX4_load_21 : decode cX4_load 21 = .ok (.invokevirtual 222, 3) := by decide +kernel
theorem dX4_load_24 : decode cX4_load 24 = .ok (.ifCond .eq 9, 3) := by decide +kernel
theorem dX4_load_27 : decode cX4_load 27 = .ok (.aload_n 0, 1) := by decide +kernel
theorem dX4_load_28 : decode cX4_load 28 = .ok (.iconst 5, 1) := by decide +kernel
theorem dX4_load_29 : decode cX4_load 29 = .ok (.invokevirtual 51, 3) := by decide +kernel
theorem dX4_load_32 : decode cX4_load 32 = .ok (.ireturn, 1) := by decide +kernel
theorem dX4_load_33 : decode cX4_load 33 = .ok (.iconst 0, 1) := by decide +kernel
theorem dX4_load_34 : decode cX4_load 34 = .ok (.istore_n 3, 1) := by decide +kernel
theorem dX4_load_35 : decode cX4_load 35 = .ok (.iload_n 3, 1) := by decide +kernel
theorem dX4_load_36 : decode cX4_load 36 = .ok (.aload_n 2, 1) := by decide +kernel
theorem dX4_load_37 : decode cX4_load 37 = .ok (.getfield 221, 3) := by decide +kernel
theorem dX4_load_40 : decode cX4_load 40 = .ok (.if_icmp .ge 53, 3) := by decide +kernel
theorem dX4_load_43 : decode cX4_load 43 = .ok (.aload_n 0, 1) := by decide +kernel
theorem dX4_load_44 : decode cX4_load 44 = .ok (.iload_n 3, 1) := by decide +kernel
theorem dX4_load_45 : decode cX4_load 45 = .ok (.invokevirtual 83, 3) := by decide +kernel
theorem dX4_load_48 : decode cX4_load 48 = .ok (.ifCond .eq 19, 3) := by decide +kernel
theorem dX4_load_51 : decode cX4_load 51 = .ok (.aload_n 2, 1) := by decide +kernel
theorem dX4_load_52 : decode cX4_load 52 = .ok (.getfield 235, 3) := by decide +kernel
theorem dX4_load_55 : decode cX4_load 55 = .ok (.iload_n 3, 1) := by decide +kernel
theorem dX4_load_56 : decode cX4_load 56 = .ok (.iaload, 1) := by decide +kernel
theorem dX4_load_57 : decode cX4_load 57 = .ok (.iconst 0, 1) := by decide +kernel
theorem dX4_load_58 : decode cX4_load 58 = .ok (.sipush 4095, 3) := by decide +kernel
theorem dX4_load_61 : decode cX4_load 61 = .ok (.invokestatic 47, 3) := by decide +kernel
theorem dX4_load_64 : decode cX4_load 64 = .ok (.ifCond .ne 5, 3) := by decide +kernel
theorem dX4_load_67 : decode cX4_load 67 = .ok (.iload_n 3, 1) := by decide +kernel
theorem dX4_load_68 : decode cX4_load 68 = .ok (.ireturn, 1) := by decide +kernel
theorem dX4_load_69 : decode cX4_load 69 = .ok (.aload_n 0, 1) := by decide +kernel
theorem dX4_load_70 : decode cX4_load 70 = .ok (.getfield 10, 3) := by decide +kernel
theorem dX4_load_73 : decode cX4_load 73 = .ok (.getfield 86, 3) := by decide +kernel
theorem dX4_load_76 : decode cX4_load 76 = .ok (.iload_n 3, 1) := by decide +kernel
theorem dX4_load_77 : decode cX4_load 77 = .ok (.aaload, 1) := by decide +kernel
theorem dX4_load_78 : decode cX4_load 78 = .ok (.aload_n 2, 1) := by decide +kernel
theorem dX4_load_79 : decode cX4_load 79 = .ok (.getfield 235, 3) := by decide +kernel
theorem dX4_load_82 : decode cX4_load 82 = .ok (.iload_n 3, 1) := by decide +kernel
theorem dX4_load_83 : decode cX4_load 83 = .ok (.iaload, 1) := by decide +kernel
theorem dX4_load_84 : decode cX4_load 84 = .ok (.putfield 77, 3) := by decide +kernel
theorem dX4_load_87 : decode cX4_load 87 = .ok (.iinc 3 1, 3) := by decide +kernel
theorem dX4_load_90 : decode cX4_load 90 = .ok (.goto (-55), 3) := by decide +kernel
theorem dX4_load_93 : decode cX4_load 93 = .ok (.aload_n 2, 1) := by decide +kernel
theorem dX4_load_94 : decode cX4_load 94 = .ok (.getfield 221, 3) := by decide +kernel
theorem dX4_load_97 : decode cX4_load 97 = .ok (.ireturn, 1) := by decide +kernel
end
section
theorem dX4_judge_0 : decode cX4_judge 0 = .ok (.iload_n 1, 1) := by decide +kernel
theorem dX4_judge_1 : decode cX4_judge 1 = .ok (.invokestatic 215, 3) := by decide +kernel
theorem dX4_judge_4 : decode cX4_judge 4 = .ok (.ifCond .ne 9, 3) := by decide +kernel
theorem dX4_judge_7 : decode cX4_judge 7 = .ok (.aload_n 0, 1) := by decide +kernel
theorem dX4_judge_8 : decode cX4_judge 8 = .ok (.iconst 0, 1) := by decide +kernel
theorem dX4_judge_9 : decode cX4_judge 9 = .ok (.invokevirtual 51, 3) := by decide +kernel
theorem dX4_judge_12 : decode cX4_judge 12 = .ok (.ireturn, 1) := by decide +kernel
theorem dX4_judge_13 : decode cX4_judge 13 = .ok (.aload_n 0, 1) := by decide +kernel
theorem dX4_judge_14 : decode cX4_judge 14 = .ok (.getfield 38, 3) := by decide +kernel
theorem dX4_judge_17 : decode cX4_judge 17 = .ok (.iload_n 1, 1) := by decide +kernel
theorem dX4_judge_18 : decode cX4_judge 18 = .ok (.aaload, 1) := by decide +kernel
theorem dX4_judge_19 : decode cX4_judge 19 = .ok (.astore_n 2, 1) := by decide +kernel
theorem dX4_judge_20 : decode cX4_judge 20 = .ok (.aload_n 2, 1) := by decide +kernel
theorem dX4_judge_21 : decode cX4_judge 21 = .ok (.invokevirtual 222, 3) := by decide +kernel
theorem dX4_judge_24 : decode cX4_judge 24 = .ok (.ifCond .eq 9, 3) := by decide +kernel
theorem dX4_judge_27 : decode cX4_judge 27 = .ok (.aload_n 0, 1) := by decide +kernel
theorem dX4_judge_28 : decode cX4_judge 28 = .ok (.iconst 5, 1) := by decide +kernel
theorem dX4_judge_29 : decode cX4_judge 29 = .ok (.invokevirtual 51, 3) := by decide +kernel
theorem dX4_judge_32 : decode cX4_judge 32 = .ok (.ireturn, 1) := by decide +kernel
theorem dX4_judge_33 : decode cX4_judge 33 = .ok (.iconst 0, 1) := by decide +kernel
theorem dX4_judge_34 : decode cX4_judge 34 = .ok (.istore_n 3, 1) := by decide +kernel
theorem dX4_judge_35 : decode cX4_judge 35 = .ok (.iload_n 3, 1) := by decide +kernel
theorem dX4_judge_36 : decode cX4_judge 36 = .ok (.aload_n 2, 1) := by decide +kernel
theorem dX4_judge_37 : decode cX4_judge 37 = .ok (.getfield 221, 3) := by decide +kernel
theorem dX4_judge_40 : decode cX4_judge 40 = .ok (.if_icmp .ge 42, 3) := by decide +kernel
theorem dX4_judge_43 : decode cX4_judge 43 = .ok (.aload_n 0, 1) := by decide +kernel
theorem dX4_judge_44 : decode cX4_judge 44 = .ok (.iload_n 3, 1) := by decide +kernel
theorem dX4_judge_45 : decode cX4_judge 45 = .ok (.invokevirtual 83, 3) := by decide +kernel
theorem dX4_judge_48 : decode cX4_judge 48 = .ok (.ifCond .eq 24, 3) := by decide +kernel
theorem dX4_judge_51 : decode cX4_judge 51 = .ok (.aload_n 2, 1) := by decide +kernel
theorem dX4_judge_52 : decode cX4_judge 52 = .ok (.getfield 235, 3) := by decide +kernel
theorem dX4_judge_55 : decode cX4_judge 55 = .ok (.iload_n 3, 1) := by decide +kernel
theorem dX4_judge_56 : decode cX4_judge 56 = .ok (.iaload, 1) := by decide +kernel
theorem dX4_judge_57 : decode cX4_judge 57 = .ok (.aload_n 0, 1) := by decide +kernel
theorem dX4_judge_58 : decode cX4_judge 58 = .ok (.getfield 10, 3) := by decide +kernel
theorem dX4_judge_61 : decode cX4_judge 61 = .ok (.getfield 86, 3) := by decide +kernel
theorem dX4_judge_64 : decode cX4_judge 64 = .ok (.iload_n 3, 1) := by decide +kernel
theorem dX4_judge_65 : decode cX4_judge 65 = .ok (.aaload, 1) := by decide +kernel
theorem dX4_judge_66 : decode cX4_judge 66 = .ok (.getfield 111, 3) := by decide +kernel
theorem dX4_judge_69 : decode cX4_judge 69 = .ok (.if_icmp .eq 7, 3) := by decide +kernel
theorem dX4_judge_72 : decode cX4_judge 72 = .ok (.iconst 1, 1) := by decide +kernel
theorem dX4_judge_73 : decode cX4_judge 73 = .ok (.iload_n 3, 1) := by decide +kernel
theorem dX4_judge_74 : decode cX4_judge 74 = .ok (.iadd, 1) := by decide +kernel
theorem dX4_judge_75 : decode cX4_judge 75 = .ok (.ireturn, 1) := by decide +kernel
theorem dX4_judge_76 : decode cX4_judge 76 = .ok (.iinc 3 1, 3) := by decide +kernel
theorem dX4_judge_79 : decode cX4_judge 79 = .ok (.goto (-44), 3) := by decide +kernel
theorem dX4_judge_82 : decode cX4_judge 82 = .ok (.iconst 0, 1) := by decide +kernel
theorem dX4_judge_83 : decode cX4_judge 83 = .ok (.ireturn, 1) := by decide +kernel
theorem dX4_image_0 : decode cX4_image 0 = .ok (.aload_n 0, 1) := by decide +kernel
theorem dX4_image_1 : decode cX4_image 1 = .ok (.getfield 16, 3) := by decide +kernel
theorem dX4_image_4 : decode cX4_image 4 = .ok (.aload_n 0, 1) := by decide +kernel
theorem dX4_image_5 : decode cX4_image 5 = .ok (.getfield 10, 3) := by decide +kernel
theorem dX4_image_8 : decode cX4_image 8 = .ok (.invokevirtual 147, 3) := by decide +kernel
theorem dX4_image_11 : decode cX4_image 11 = .ok (.aload_n 0, 1) := by decide +kernel
theorem dX4_image_12 : decode cX4_image 12 = .ok (.iconst 1, 1) := by decide +kernel
theorem dX4_image_13 : decode cX4_image 13 = .ok (.putfield 244, 3) := by decide +kernel
theorem dX4_image_16 : decode cX4_image 16 = .ok (.iconst 1, 1) := by decide +kernel
theorem dX4_image_17 : decode cX4_image 17 = .ok (.ireturn, 1) := by decide +kernel
theorem dX4_undo_0 : decode cX4_undo 0 = .ok (.aload_n 0, 1) := by decide +kernel
theorem dX4_undo_1 : decode cX4_undo 1 = .ok (.getfield 244, 3) := by decide +kernel
theorem dX4_undo_4 : decode cX4_undo 4 = .ok (.ifCond .ne 9, 3) := by decide +kernel
theorem dX4_undo_7 : decode cX4_undo 7 = .ok (.aload_n 0, 1) := by decide +kernel
theorem dX4_undo_8 : decode cX4_undo 8 = .ok (.iconst 3, 1) := by decide +kernel
theorem dX4_undo_9 : decode cX4_undo 9 = .ok (.invokevirtual 51, 3) := by decide +kernel
theorem dX4_undo_12 : decode cX4_undo 12 = .ok (.ireturn, 1) := by decide +kernel
theorem dX4_undo_13 : decode cX4_undo 13 = .ok (.aload_n 0, 1) := by decide +kernel
theorem dX4_undo_14 : decode cX4_undo 14 = .ok (.getfield 10, 3) := by decide +kernel
theorem dX4_undo_17 : decode cX4_undo 17 = .ok (.aload_n 0, 1) := by decide +kernel
theorem dX4_undo_18 : decode cX4_undo 18 = .ok (.getfield 16, 3) := by decide +kernel
theorem dX4_undo_21 : decode cX4_undo 21 = .ok (.invokevirtual 147, 3) := by decide +kernel
theorem dX4_undo_24 : decode cX4_undo 24 = .ok (.aload_n 0, 1) := by decide +kernel
theorem dX4_undo_25 : decode cX4_undo 25 = .ok (.getfield 10, 3) := by decide +kernel
theorem dX4_undo_28 : decode cX4_undo 28 = .ok (.getfield 114, 3) := by decide +kernel
theorem dX4_undo_31 : decode cX4_undo 31 = .ok (.ireturn, 1) := by decide +kernel
theorem dX4_tear_0 : decode cX4_tear 0 = .ok (.aload_n 0, 1) := by decide +kernel
theorem dX4_tear_1 : decode cX4_tear 1 = .ok (.getfield 244, 3) := by decide +kernel
theorem dX4_tear_4 : decode cX4_tear 4 = .ok (.ifCond .eq 7, 3) := by decide +kernel
theorem dX4_tear_7 : decode cX4_tear 7 = .ok (.iconst 1, 1) := by decide +kernel
theorem dX4_tear_8 : decode cX4_tear 8 = .ok (.goto 4, 3) := by decide +kernel
theorem dX4_tear_11 : decode cX4_tear 11 = .ok (.iconst 0, 1) := by decide +kernel
theorem dX4_tear_12 : decode cX4_tear 12 = .ok (.istore_n 1, 1) := by decide +kernel
theorem dX4_tear_13 : decode cX4_tear 13 = .ok (.aload_n 0, 1) := by decide +kernel
theorem dX4_tear_14 : decode cX4_tear 14 = .ok (.iconst 0, 1) := by decide +kernel
theorem dX4_tear_15 : decode cX4_tear 15 = .ok (.putfield 244, 3) := by decide +kernel
theorem dX4_tear_18 : decode cX4_tear 18 = .ok (.iload_n 1, 1) := by decide +kernel
theorem dX4_tear_19 : decode cX4_tear 19 = .ok (.ireturn, 1) := by decide +kernel
theorem dX4_count_0 : decode cX4_count 0 = .ok (.iload_n 1, 1) := by decide +kernel
theorem dX4_count_1 : decode cX4_count 1 = .ok (.tableswitch 114 0 7 #[47, 55, 63, 71, 79, 90, 98, 106], 47) := by decide +kernel
theorem dX4_count_48 : decode cX4_count 48 = .ok (.aload_n 0, 1) := by decide +kernel
theorem dX4_count_49 : decode cX4_count 49 = .ok (.getfield 10, 3) := by decide +kernel
theorem dX4_count_52 : decode cX4_count 52 = .ok (.getfield 114, 3) := by decide +kernel
theorem dX4_count_55 : decode cX4_count 55 = .ok (.ireturn, 1) := by decide +kernel
theorem dX4_count_56 : decode cX4_count 56 = .ok (.aload_n 0, 1) := by decide +kernel
theorem dX4_count_57 : decode cX4_count 57 = .ok (.getfield 10, 3) := by decide +kernel
theorem dX4_count_60 : decode cX4_count 60 = .ok (.getfield 80, 3) := by decide +kernel
theorem dX4_count_63 : decode cX4_count 63 = .ok (.ireturn, 1) := by decide +kernel
theorem dX4_count_64 : decode cX4_count 64 = .ok (.aload_n 0, 1) := by decide +kernel
theorem dX4_count_65 : decode cX4_count 65 = .ok (.getfield 10, 3) := by decide +kernel
theorem dX4_count_68 : decode cX4_count 68 = .ok (.getfield 121, 3) := by decide +kernel
theorem dX4_count_71 : decode cX4_count 71 = .ok (.ireturn, 1) := by decide +kernel
theorem dX4_count_72 : decode cX4_count 72 = .ok (.aload_n 0, 1) := by decide +kernel
theorem dX4_count_73 : decode cX4_count 73 = .ok (.getfield 10, 3) := by decide +kernel
theorem dX4_count_76 : decode cX4_count 76 = .ok (.getfield 124, 3) := by decide +kernel
theorem dX4_count_79 : decode cX4_count 79 = .ok (.ireturn, 1) := by decide +kernel
theorem dX4_count_80 : decode cX4_count 80 = .ok (.aload_n 0, 1) := by decide +kernel
theorem dX4_count_81 : decode cX4_count 81 = .ok (.getfield 10, 3) := by decide +kernel
theorem dX4_count_84 : decode cX4_count 84 = .ok (.invokevirtual 127, 3) := by decide +kernel
theorem dX4_count_87 : decode cX4_count 87 = .ok (.invokestatic 167, 3) := by decide +kernel
theorem dX4_count_90 : decode cX4_count 90 = .ok (.ireturn, 1) := by decide +kernel
theorem dX4_count_91 : decode cX4_count 91 = .ok (.aload_n 0, 1) := by decide +kernel
theorem dX4_count_92 : decode cX4_count 92 = .ok (.getfield 32, 3) := by decide +kernel
theorem dX4_count_95 : decode cX4_count 95 = .ok (.getfield 195, 3) := by decide +kernel
theorem dX4_count_98 : decode cX4_count 98 = .ok (.ireturn, 1) := by decide +kernel
theorem dX4_count_99 : decode cX4_count 99 = .ok (.aload_n 0, 1) := by decide +kernel
theorem dX4_count_100 : decode cX4_count 100 = .ok (.getfield 10, 3) := by decide +kernel
theorem dX4_count_103 : decode cX4_count 103 = .ok (.getfield 192, 3) := by decide +kernel
theorem dX4_count_106 : decode cX4_count 106 = .ok (.ireturn, 1) := by decide +kernel
theorem dX4_count_107 : decode cX4_count 107 = .ok (.aload_n 0, 1) := by decide +kernel
theorem dX4_count_108 : decode cX4_count 108 = .ok (.getfield 10, 3) := by decide +kernel
theorem dX4_count_111 : decode cX4_count 111 = .ok (.invokevirtual 248, 3) := by decide +kernel
theorem dX4_count_114 : decode cX4_count 114 = .ok (.ireturn, 1) := by decide +kernel
theorem dX4_count_115 : decode cX4_count 115 = .ok (.aload_n 0, 1) := by decide +kernel
theorem dX4_count_116 : decode cX4_count 116 = .ok (.iconst 0, 1) := by decide +kernel
theorem dX4_count_117 : decode cX4_count 117 = .ok (.invokevirtual 51, 3) := by decide +kernel
theorem dX4_count_120 : decode cX4_count 120 = .ok (.ireturn, 1) := by decide +kernel
theorem dX4_status_0 : decode cX4_status 0 = .ok (.iload_n 1, 1) := by decide +kernel
theorem dX4_status_1 : decode cX4_status 1 = .ok (.iconst (-1), 1) := by decide +kernel
theorem dX4_status_2 : decode cX4_status 2 = .ok (.bipush 6, 2) := by decide +kernel
theorem dX4_status_4 : decode cX4_status 4 = .ok (.invokestatic 47, 3) := by decide +kernel
theorem dX4_status_7 : decode cX4_status 7 = .ok (.ifCond .ne 9, 3) := by decide +kernel
theorem dX4_status_10 : decode cX4_status 10 = .ok (.aload_n 0, 1) := by decide +kernel
theorem dX4_status_11 : decode cX4_status 11 = .ok (.iconst 0, 1) := by decide +kernel
theorem dX4_status_12 : decode cX4_status 12 = .ok (.invokevirtual 51, 3) := by decide +kernel
theorem dX4_status_15 : decode cX4_status 15 = .ok (.ireturn, 1) := by decide +kernel
theorem dX4_status_16 : decode cX4_status 16 = .ok (.iload_n 1, 1) := by decide +kernel
theorem dX4_status_17 : decode cX4_status 17 = .ok (.ifCond .lt 10, 3) := by decide +kernel
theorem dX4_status_20 : decode cX4_status 20 = .ok (.aload_n 0, 1) := by decide +kernel
theorem dX4_status_21 : decode cX4_status 21 = .ok (.getfield 42, 3) := by decide +kernel
theorem dX4_status_24 : decode cX4_status 24 = .ok (.iload_n 1, 1) := by decide +kernel
theorem dX4_status_25 : decode cX4_status 25 = .ok (.iaload, 1) := by decide +kernel
theorem dX4_status_26 : decode cX4_status 26 = .ok (.ireturn, 1) := by decide +kernel
theorem dX4_status_27 : decode cX4_status 27 = .ok (.iconst 0, 1) := by decide +kernel
theorem dX4_status_28 : decode cX4_status 28 = .ok (.istore_n 2, 1) := by decide +kernel
theorem dX4_status_29 : decode cX4_status 29 = .ok (.iconst 0, 1) := by decide +kernel
theorem dX4_status_30 : decode cX4_status 30 = .ok (.istore_n 3, 1) := by decide +kernel
theorem dX4_status_31 : decode cX4_status 31 = .ok (.iload_n 3, 1) := by decide +kernel
theorem dX4_status_32 : decode cX4_status 32 = .ok (.bipush 7, 2) := by decide +kernel
theorem dX4_status_34 : decode cX4_status 34 = .ok (.if_icmp .ge 18, 3) := by decide +kernel
theorem dX4_status_37 : decode cX4_status 37 = .ok (.iload_n 2, 1) := by decide +kernel
theorem dX4_status_38 : decode cX4_status 38 = .ok (.aload_n 0, 1) := by decide +kernel
theorem dX4_status_39 : decode cX4_status 39 = .ok (.getfield 42, 3) := by decide +kernel
theorem dX4_status_42 : decode cX4_status 42 = .ok (.iload_n 3, 1) := by decide +kernel
theorem dX4_status_43 : decode cX4_status 43 = .ok (.iaload, 1) := by decide +kernel
theorem dX4_status_44 : decode cX4_status 44 = .ok (.iadd, 1) := by decide +kernel
theorem dX4_status_45 : decode cX4_status 45 = .ok (.istore_n 2, 1) := by decide +kernel
theorem dX4_status_46 : decode cX4_status 46 = .ok (.iinc 3 1, 3) := by decide +kernel
theorem dX4_status_49 : decode cX4_status 49 = .ok (.goto (-18), 3) := by decide +kernel
theorem dX4_status_52 : decode cX4_status 52 = .ok (.iload_n 2, 1) := by decide +kernel
theorem dX4_status_53 : decode cX4_status 53 = .ok (.ireturn, 1) := by decide +kernel
theorem dX4_find_0 : decode cX4_find 0 = .ok (.aload_n 0, 1) := by decide +kernel
theorem dX4_find_1 : decode cX4_find 1 = .ok (.getfield 42, 3) := by decide +kernel
theorem dX4_find_4 : decode cX4_find 4 = .ok (.iload_n 1, 1) := by decide +kernel
theorem dX4_find_5 : decode cX4_find 5 = .ok (.dup2, 1) := by decide +kernel
theorem dX4_find_6 : decode cX4_find 6 = .ok (.iaload, 1) := by decide +kernel
theorem dX4_find_7 : decode cX4_find 7 = .ok (.iconst 1, 1) := by decide +kernel
theorem dX4_find_8 : decode cX4_find 8 = .ok (.iadd, 1) := by decide +kernel
theorem dX4_find_9 : decode cX4_find 9 = .ok (.iastore, 1) := by decide +kernel
theorem dX4_find_10 : decode cX4_find 10 = .ok (.ldc 251, 2) := by decide +kernel
theorem dX4_find_12 : decode cX4_find 12 = .ok (.iload_n 1, 1) := by decide +kernel
theorem dX4_find_13 : decode cX4_find 13 = .ok (.isub, 1) := by decide +kernel
theorem dX4_find_14 : decode cX4_find 14 = .ok (.ireturn, 1) := by decide +kernel
theorem dX4_isWithin_0 : decode cX4_isWithin 0 = .ok (.iload_n 0, 1) := by decide +kernel
theorem dX4_isWithin_1 : decode cX4_isWithin 1 = .ok (.iload_n 1, 1) := by decide +kernel
theorem dX4_isWithin_2 : decode cX4_isWithin 2 = .ok (.if_icmp .lt 12, 3) := by decide +kernel
theorem dX4_isWithin_5 : decode cX4_isWithin 5 = .ok (.iload_n 0, 1) := by decide +kernel
theorem dX4_isWithin_6 : decode cX4_isWithin 6 = .ok (.iload_n 2, 1) := by decide +kernel
theorem dX4_isWithin_7 : decode cX4_isWithin 7 = .ok (.if_icmp .gt 7, 3) := by decide +kernel
theorem dX4_isWithin_10 : decode cX4_isWithin 10 = .ok (.iconst 1, 1) := by decide +kernel
theorem dX4_isWithin_11 : decode cX4_isWithin 11 = .ok (.goto 4, 3) := by decide +kernel
theorem dX4_isWithin_14 : decode cX4_isWithin 14 = .ok (.iconst 0, 1) := by decide +kernel
theorem dX4_isWithin_15 : decode cX4_isWithin 15 = .ok (.ireturn, 1) := by decide +kernel
theorem dX4_isKind_0 : decode cX4_isKind 0 = .ok (.iload_n 0, 1) := by decide +kernel
theorem dX4_isKind_1 : decode cX4_isKind 1 = .ok (.iconst 0, 1) := by decide +kernel
theorem dX4_isKind_2 : decode cX4_isKind 2 = .ok (.bipush 6, 2) := by decide +kernel
theorem dX4_isKind_4 : decode cX4_isKind 4 = .ok (.invokestatic 47, 3) := by decide +kernel
theorem dX4_isKind_7 : decode cX4_isKind 7 = .ok (.ireturn, 1) := by decide +kernel
theorem dX4_isPlace_0 : decode cX4_isPlace 0 = .ok (.iload_n 0, 1) := by decide +kernel
theorem dX4_isPlace_1 : decode cX4_isPlace 1 = .ok (.iconst 0, 1) := by decide +kernel
theorem dX4_isPlace_2 : decode cX4_isPlace 2 = .ok (.iconst 5, 1) := by decide +kernel
theorem dX4_isPlace_3 : decode cX4_isPlace 3 = .ok (.invokestatic 47, 3) := by decide +kernel
theorem dX4_isPlace_6 : decode cX4_isPlace 6 = .ok (.ireturn, 1) := by decide +kernel
theorem dX4_isSpot_0 : decode cX4_isSpot 0 = .ok (.iload_n 0, 1) := by decide +kernel
theorem dX4_isSpot_1 : decode cX4_isSpot 1 = .ok (.iconst 0, 1) := by decide +kernel
theorem dX4_isSpot_2 : decode cX4_isSpot 2 = .ok (.bipush 9, 2) := by decide +kernel
theorem dX4_isSpot_4 : decode cX4_isSpot 4 = .ok (.invokestatic 47, 3) := by decide +kernel
theorem dX4_isSpot_7 : decode cX4_isSpot 7 = .ok (.ireturn, 1) := by decide +kernel
theorem dX4_isSheet_0 : decode cX4_isSheet 0 = .ok (.iload_n 0, 1) := by decide +kernel
theorem dX4_isSheet_1 : decode cX4_isSheet 1 = .ok (.iconst 0, 1) := by decide +kernel
theorem dX4_isSheet_2 : decode cX4_isSheet 2 = .ok (.iconst 3, 1) := by decide +kernel
theorem dX4_isSheet_3 : decode cX4_isSheet 3 = .ok (.invokestatic 47, 3) := by decide +kernel
theorem dX4_isSheet_6 : decode cX4_isSheet 6 = .ok (.ireturn, 1) := by decide +kernel
theorem dX4_isCurtain_0 : decode cX4_isCurtain 0 = .ok (.iload_n 1, 1) := by decide +kernel
theorem dX4_isCurtain_1 : decode cX4_isCurtain 1 = .ok (.iconst 0, 1) := by decide +kernel
theorem dX4_isCurtain_2 : decode cX4_isCurtain 2 = .ok (.aload_n 0, 1) := by decide +kernel
theorem dX4_isCurtain_3 : decode cX4_isCurtain 3 = .ok (.getfield 10, 3) := by decide +kernel
theorem dX4_isCurtain_6 : decode cX4_isCurtain 6 = .ok (.getfield 80, 3) := by decide +kernel
theorem dX4_isCurtain_9 : decode cX4_isCurtain 9 = .ok (.iconst 1, 1) := by decide +kernel
theorem dX4_isCurtain_10 : decode cX4_isCurtain 10 = .ok (.isub, 1) := by decide +kernel
theorem dX4_isCurtain_11 : decode cX4_isCurtain 11 = .ok (.invokestatic 47, 3) := by decide +kernel
theorem dX4_isCurtain_14 : decode cX4_isCurtain 14 = .ok (.ireturn, 1) := by decide +kernel
theorem dX4_passProbe_0 : decode cX4_passProbe 0 = .ok (.iconst 0, 1) := by decide +kernel
theorem dX4_passProbe_1 : decode cX4_passProbe 1 = .ok (.istore_n 2, 1) := by decide +kernel
theorem dX4_passProbe_2 : decode cX4_passProbe 2 = .ok (.iconst 0, 1) := by decide +kernel
theorem dX4_passProbe_3 : decode cX4_passProbe 3 = .ok (.istore_n 3, 1) := by decide +kernel
theorem dX4_passProbe_4 : decode cX4_passProbe 4 = .ok (.iload_n 3, 1) := by decide +kernel
theorem dX4_passProbe_5 : decode cX4_passProbe 5 = .ok (.iload_n 1, 1) := by decide +kernel
theorem dX4_passProbe_6 : decode cX4_passProbe 6 = .ok (.if_icmp .ge 47, 3) := by decide +kernel
theorem dX4_passProbe_9 : decode cX4_passProbe 9 = .ok (.aload_n 0, 1) := by decide +kernel
theorem dX4_passProbe_10 : decode cX4_passProbe 10 = .ok (.getfield 25, 3) := by decide +kernel
theorem dX4_passProbe_13 : decode cX4_passProbe 13 = .ok (.aload_n 0, 1) := by decide +kernel
theorem dX4_passProbe_14 : decode cX4_passProbe 14 = .ok (.getfield 10, 3) := by decide +kernel
theorem dX4_passProbe_17 : decode cX4_passProbe 17 = .ok (.iload_n 3, 1) := by decide +kernel
theorem dX4_passProbe_18 : decode cX4_passProbe 18 = .ok (.invokevirtual 90, 3) := by decide +kernel
theorem dX4_passProbe_21 : decode cX4_passProbe 21 = .ok (.aload_n 0, 1) := by decide +kernel
theorem dX4_passProbe_22 : decode cX4_passProbe 22 = .ok (.getfield 10, 3) := by decide +kernel
theorem dX4_passProbe_25 : decode cX4_passProbe 25 = .ok (.getfield 55, 3) := by decide +kernel
theorem dX4_passProbe_28 : decode cX4_passProbe 28 = .ok (.invokevirtual 252, 3) := by decide +kernel
theorem dX4_passProbe_31 : decode cX4_passProbe 31 = .ok (.ifCond .eq 16, 3) := by decide +kernel
theorem dX4_passProbe_34 : decode cX4_passProbe 34 = .ok (.aload_n 0, 1) := by decide +kernel
theorem dX4_passProbe_35 : decode cX4_passProbe 35 = .ok (.getfield 10, 3) := by decide +kernel
theorem dX4_passProbe_38 : decode cX4_passProbe 38 = .ok (.getfield 55, 3) := by decide +kernel
theorem dX4_passProbe_41 : decode cX4_passProbe 41 = .ok (.ifCond .ne 6, 3) := by decide +kernel
theorem dX4_passProbe_44 : decode cX4_passProbe 44 = .ok (.iinc 2 1, 3) := by decide +kernel
theorem dX4_passProbe_47 : decode cX4_passProbe 47 = .ok (.iinc 3 1, 3) := by decide +kernel
theorem dX4_passProbe_50 : decode cX4_passProbe 50 = .ok (.goto (-46), 3) := by decide +kernel
theorem dX4_passProbe_53 : decode cX4_passProbe 53 = .ok (.iload_n 2, 1) := by decide +kernel
theorem dX4_passProbe_54 : decode cX4_passProbe 54 = .ok (.ireturn, 1) := by decide +kernel
theorem dX4_beatsUntil_0 : decode cX4_beatsUntil 0 = .ok (.aload_n 0, 1) := by decide +kernel
theorem dX4_beatsUntil_1 : decode cX4_beatsUntil 1 = .ok (.getfield 25, 3) := by decide +kernel
theorem dX4_beatsUntil_4 : decode cX4_beatsUntil 4 = .ok (.aload_n 0, 1) := by decide +kernel
theorem dX4_beatsUntil_5 : decode cX4_beatsUntil 5 = .ok (.getfield 10, 3) := by decide +kernel
theorem dX4_beatsUntil_8 : decode cX4_beatsUntil 8 = .ok (.getfield 86, 3) := by decide +kernel
theorem dX4_beatsUntil_11 : decode cX4_beatsUntil 11 = .ok (.iload_n 1, 1) := by decide +kernel
theorem dX4_beatsUntil_12 : decode cX4_beatsUntil 12 = .ok (.aaload, 1) := by decide +kernel
theorem dX4_beatsUntil_13 : decode cX4_beatsUntil 13 = .ok (.invokevirtual 140, 3) := by decide +kernel
theorem dX4_beatsUntil_16 : decode cX4_beatsUntil 16 = .ok (.iconst 0, 1) := by decide +kernel
theorem dX4_beatsUntil_17 : decode cX4_beatsUntil 17 = .ok (.istore 5, 2) := by decide +kernel
theorem dX4_beatsUntil_19 : decode cX4_beatsUntil 19 = .ok (.iload 5, 2) := by decide +kernel
theorem dX4_beatsUntil_21 : decode cX4_beatsUntil 21 = .ok (.sipush 200, 3) := by decide +kernel
theorem dX4_beatsUntil_24 : decode cX4_beatsUntil 24 = .ok (.if_icmp .gt 66, 3) := by decide +kernel
theorem dX4_beatsUntil_27 : decode cX4_beatsUntil 27 = .ok (.aload_n 0, 1) := by decide +kernel
theorem dX4_beatsUntil_28 : decode cX4_beatsUntil 28 = .ok (.getfield 10, 3) := by decide +kernel
theorem dX4_beatsUntil_31 : decode cX4_beatsUntil 31 = .ok (.iload 5, 2) := by decide +kernel
theorem dX4_beatsUntil_33 : decode cX4_beatsUntil 33 = .ok (.invokevirtual 90, 3) := by decide +kernel
theorem dX4_beatsUntil_36 : decode cX4_beatsUntil 36 = .ok (.istore 6, 2) := by decide +kernel
theorem dX4_beatsUntil_38 : decode cX4_beatsUntil 38 = .ok (.aload_n 0, 1) := by decide +kernel
theorem dX4_beatsUntil_39 : decode cX4_beatsUntil 39 = .ok (.getfield 25, 3) := by decide +kernel
theorem dX4_beatsUntil_42 : decode cX4_beatsUntil 42 = .ok (.iload_n 2, 1) := by decide +kernel
theorem dX4_beatsUntil_43 : decode cX4_beatsUntil 43 = .ok (.iload 6, 2) := by decide +kernel
theorem dX4_beatsUntil_45 : decode cX4_beatsUntil 45 = .ok (.aload_n 0, 1) := by decide +kernel
theorem dX4_beatsUntil_46 : decode cX4_beatsUntil 46 = .ok (.getfield 10, 3) := by decide +kernel
theorem dX4_beatsUntil_49 : decode cX4_beatsUntil 49 = .ok (.getfield 55, 3) := by decide +kernel
theorem dX4_beatsUntil_52 : decode cX4_beatsUntil 52 = .ok (.invokevirtual 93, 3) := by decide +kernel
theorem dX4_beatsUntil_55 : decode cX4_beatsUntil 55 = .ok (.iload_n 3, 1) := by decide +kernel
theorem dX4_beatsUntil_56 : decode cX4_beatsUntil 56 = .ok (.iload 4, 2) := by decide +kernel
theorem dX4_beatsUntil_58 : decode cX4_beatsUntil 58 = .ok (.invokestatic 47, 3) := by decide +kernel
theorem dX4_beatsUntil_61 : decode cX4_beatsUntil 61 = .ok (.ifCond .eq 6, 3) := by decide +kernel
theorem dX4_beatsUntil_64 : decode cX4_beatsUntil 64 = .ok (.iload 5, 2) := by decide +kernel
theorem dX4_beatsUntil_66 : decode cX4_beatsUntil 66 = .ok (.ireturn, 1) := by decide +kernel
theorem dX4_beatsUntil_67 : decode cX4_beatsUntil 67 = .ok (.aload_n 0, 1) := by decide +kernel
theorem dX4_beatsUntil_68 : decode cX4_beatsUntil 68 = .ok (.getfield 25, 3) := by decide +kernel
theorem dX4_beatsUntil_71 : decode cX4_beatsUntil 71 = .ok (.iload 6, 2) := by decide +kernel
theorem dX4_beatsUntil_73 : decode cX4_beatsUntil 73 = .ok (.aload_n 0, 1) := by decide +kernel
theorem dX4_beatsUntil_74 : decode cX4_beatsUntil 74 = .ok (.getfield 10, 3) := by decide +kernel
theorem dX4_beatsUntil_77 : decode cX4_beatsUntil 77 = .ok (.getfield 55, 3) := by decide +kernel
theorem dX4_beatsUntil_80 : decode cX4_beatsUntil 80 = .ok (.invokevirtual 252, 3) := by decide +kernel
theorem dX4_beatsUntil_83 : decode cX4_beatsUntil 83 = .ok (.pop, 1) := by decide +kernel
theorem dX4_beatsUntil_84 : decode cX4_beatsUntil 84 = .ok (.iinc 5 1, 3) := by decide +kernel
theorem dX4_beatsUntil_87 : decode cX4_beatsUntil 87 = .ok (.goto (-68), 3) := by decide +kernel
theorem dX4_beatsUntil_90 : decode cX4_beatsUntil 90 = .ok (.aload_n 0, 1) := by decide +kernel
theorem dX4_beatsUntil_91 : decode cX4_beatsUntil 91 = .ok (.iconst 3, 1) := by decide +kernel
theorem dX4_beatsUntil_92 : decode cX4_beatsUntil 92 = .ok (.invokevirtual 51, 3) := by decide +kernel
theorem dX4_beatsUntil_95 : decode cX4_beatsUntil 95 = .ok (.ireturn, 1) := by decide +kernel
theorem dX4_findingForTold_0 : decode cX4_findingForTold 0 = .ok (.iload_n 1, 1) := by decide +kernel
theorem dX4_findingForTold_1 : decode cX4_findingForTold 1 = .ok (.invokestatic 215, 3) := by decide +kernel
theorem dX4_findingForTold_4 : decode cX4_findingForTold 4 = .ok (.ifCond .ne 5, 3) := by decide +kernel
theorem dX4_findingForTold_7 : decode cX4_findingForTold 7 = .ok (.iconst 0, 1) := by decide +kernel
theorem dX4_findingForTold_8 : decode cX4_findingForTold 8 = .ok (.ireturn, 1) := by decide +kernel
theorem dX4_findingForTold_9 : decode cX4_findingForTold 9 = .ok (.aload_n 0, 1) := by decide +kernel
theorem dX4_findingForTold_10 : decode cX4_findingForTold 10 = .ok (.getfield 38, 3) := by decide +kernel
theorem dX4_findingForTold_13 : decode cX4_findingForTold 13 = .ok (.iload_n 1, 1) := by decide +kernel
theorem dX4_findingForTold_14 : decode cX4_findingForTold 14 = .ok (.aaload, 1) := by decide +kernel
theorem dX4_findingForTold_15 : decode cX4_findingForTold 15 = .ok (.invokevirtual 222, 3) := by decide +kernel
theorem dX4_findingForTold_18 : decode cX4_findingForTold 18 = .ok (.ifCond .eq 5, 3) := by decide +kernel
theorem dX4_findingForTold_21 : decode cX4_findingForTold 21 = .ok (.iconst 5, 1) := by decide +kernel
theorem dX4_findingForTold_22 : decode cX4_findingForTold 22 = .ok (.ireturn, 1) := by decide +kernel
theorem dX4_findingForTold_23 : decode cX4_findingForTold 23 = .ok (.aload_n 0, 1) := by decide +kernel
theorem dX4_findingForTold_24 : decode cX4_findingForTold 24 = .ok (.iload_n 2, 1) := by decide +kernel
theorem dX4_findingForTold_25 : decode cX4_findingForTold 25 = .ok (.invokevirtual 83, 3) := by decide +kernel
theorem dX4_findingForTold_28 : decode cX4_findingForTold 28 = .ok (.ifCond .eq 7, 3) := by decide +kernel
theorem dX4_findingForTold_31 : decode cX4_findingForTold 31 = .ok (.iconst (-1), 1) := by decide +kernel
theorem dX4_findingForTold_32 : decode cX4_findingForTold 32 = .ok (.goto 4, 3) := by decide +kernel
theorem dX4_findingForTold_35 : decode cX4_findingForTold 35 = .ok (.iconst 0, 1) := by decide +kernel
theorem dX4_findingForTold_36 : decode cX4_findingForTold 36 = .ok (.ireturn, 1) := by decide +kernel
theorem dX4_isProbeAsTold_0 : decode cX4_isProbeAsTold 0 = .ok (.iconst 0, 1) := by decide +kernel
theorem dX4_isProbeAsTold_1 : decode cX4_isProbeAsTold 1 = .ok (.istore_n 2, 1) := by decide +kernel
theorem dX4_isProbeAsTold_2 : decode cX4_isProbeAsTold 2 = .ok (.iload_n 2, 1) := by decide +kernel
theorem dX4_isProbeAsTold_3 : decode cX4_isProbeAsTold 3 = .ok (.aload_n 1, 1) := by decide +kernel
theorem dX4_isProbeAsTold_4 : decode cX4_isProbeAsTold 4 = .ok (.getfield 221, 3) := by decide +kernel
theorem dX4_isProbeAsTold_7 : decode cX4_isProbeAsTold 7 = .ok (.if_icmp .ge 60, 3) := by decide +kernel
theorem dX4_isProbeAsTold_10 : decode cX4_isProbeAsTold 10 = .ok (.aload_n 1, 1) := by decide +kernel
theorem dX4_isProbeAsTold_11 : decode cX4_isProbeAsTold 11 = .ok (.getfield 235, 3) := by decide +kernel
theorem dX4_isProbeAsTold_14 : decode cX4_isProbeAsTold 14 = .ok (.iload_n 2, 1) := by decide +kernel
theorem dX4_isProbeAsTold_15 : decode cX4_isProbeAsTold 15 = .ok (.iaload, 1) := by decide +kernel
theorem dX4_isProbeAsTold_16 : decode cX4_isProbeAsTold 16 = .ok (.iconst (-1), 1) := by decide +kernel
theorem dX4_isProbeAsTold_17 : decode cX4_isProbeAsTold 17 = .ok (.if_icmp .eq 21, 3) := by decide +kernel
theorem dX4_isProbeAsTold_20 : decode cX4_isProbeAsTold 20 = .ok (.aload_n 1, 1) := by decide +kernel
theorem dX4_isProbeAsTold_21 : decode cX4_isProbeAsTold 21 = .ok (.getfield 235, 3) := by decide +kernel
theorem dX4_isProbeAsTold_24 : decode cX4_isProbeAsTold 24 = .ok (.iload_n 2, 1) := by decide +kernel
theorem dX4_isProbeAsTold_25 : decode cX4_isProbeAsTold 25 = .ok (.iaload, 1) := by decide +kernel
theorem dX4_isProbeAsTold_26 : decode cX4_isProbeAsTold 26 = .ok (.aload_n 0, 1) := by decide +kernel
theorem dX4_isProbeAsTold_27 : decode cX4_isProbeAsTold 27 = .ok (.getfield 25, 3) := by decide +kernel
theorem dX4_isProbeAsTold_30 : decode cX4_isProbeAsTold 30 = .ok (.getfield 111, 3) := by decide +kernel
theorem dX4_isProbeAsTold_33 : decode cX4_isProbeAsTold 33 = .ok (.if_icmp .eq 5, 3) := by decide +kernel
theorem dX4_isProbeAsTold_36 : decode cX4_isProbeAsTold 36 = .ok (.iconst 0, 1) := by decide +kernel
theorem dX4_isProbeAsTold_37 : decode cX4_isProbeAsTold 37 = .ok (.ireturn, 1) := by decide +kernel
theorem dX4_isProbeAsTold_38 : decode cX4_isProbeAsTold 38 = .ok (.aload_n 0, 1) := by decide +kernel
theorem dX4_isProbeAsTold_39 : decode cX4_isProbeAsTold 39 = .ok (.getfield 25, 3) := by decide +kernel
theorem dX4_isProbeAsTold_42 : decode cX4_isProbeAsTold 42 = .ok (.aload_n 0, 1) := by decide +kernel
theorem dX4_isProbeAsTold_43 : decode cX4_isProbeAsTold 43 = .ok (.getfield 19, 3) := by decide +kernel
theorem dX4_isProbeAsTold_46 : decode cX4_isProbeAsTold 46 = .ok (.iload_n 2, 1) := by decide +kernel
theorem dX4_isProbeAsTold_47 : decode cX4_isProbeAsTold 47 = .ok (.invokevirtual 90, 3) := by decide +kernel
theorem dX4_isProbeAsTold_50 : decode cX4_isProbeAsTold 50 = .ok (.aload_n 0, 1) := by decide +kernel
theorem dX4_isProbeAsTold_51 : decode cX4_isProbeAsTold 51 = .ok (.getfield 19, 3) := by decide +kernel
theorem dX4_isProbeAsTold_54 : decode cX4_isProbeAsTold 54 = .ok (.getfield 55, 3) := by decide +kernel
theorem dX4_isProbeAsTold_57 : decode cX4_isProbeAsTold 57 = .ok (.invokevirtual 252, 3) := by decide +kernel
theorem dX4_isProbeAsTold_60 : decode cX4_isProbeAsTold 60 = .ok (.pop, 1) := by decide +kernel
theorem dX4_isProbeAsTold_61 : decode cX4_isProbeAsTold 61 = .ok (.iinc 2 1, 3) := by decide +kernel
theorem dX4_isProbeAsTold_64 : decode cX4_isProbeAsTold 64 = .ok (.goto (-62), 3) := by decide +kernel
theorem dX4_isProbeAsTold_67 : decode cX4_isProbeAsTold 67 = .ok (.iconst 1, 1) := by decide +kernel
theorem dX4_isProbeAsTold_68 : decode cX4_isProbeAsTold 68 = .ok (.ireturn, 1) := by decide +kernel
theorem dX4_commonDivisorWithScenes_0 : decode cX4_commonDivisorWithScenes 0 = .ok (.bipush 12, 2) := by decide +kernel
theorem dX4_commonDivisorWithScenes_2 : decode cX4_commonDivisorWithScenes 2 = .ok (.istore_n 1, 1) := by decide +kernel
theorem dX4_commonDivisorWithScenes_3 : decode cX4_commonDivisorWithScenes 3 = .ok (.iload_n 1, 1) := by decide +kernel
theorem dX4_commonDivisorWithScenes_4 : decode cX4_commonDivisorWithScenes 4 = .ok (.iconst 1, 1) := by decide +kernel
theorem dX4_commonDivisorWithScenes_5 : decode cX4_commonDivisorWithScenes 5 = .ok (.if_icmp .le 24, 3) := by decide +kernel
theorem dX4_commonDivisorWithScenes_8 : decode cX4_commonDivisorWithScenes 8 = .ok (.bipush 12, 2) := by decide +kernel
theorem dX4_commonDivisorWithScenes_10 : decode cX4_commonDivisorWithScenes 10 = .ok (.iload_n 1, 1) := by decide +kernel
theorem dX4_commonDivisorWithScenes_11 : decode cX4_commonDivisorWithScenes 11 = .ok (.irem, 1) := by decide +kernel
theorem dX4_commonDivisorWithScenes_12 : decode cX4_commonDivisorWithScenes 12 = .ok (.ifCond .ne 11, 3) := by decide +kernel
theorem dX4_commonDivisorWithScenes_15 : decode cX4_commonDivisorWithScenes 15 = .ok (.iload_n 0, 1) := by decide +kernel
theorem dX4_commonDivisorWithScenes_16 : decode cX4_commonDivisorWithScenes 16 = .ok (.iload_n 1, 1) := by decide +kernel
theorem dX4_commonDivisorWithScenes_17 : decode cX4_commonDivisorWithScenes 17 = .ok (.irem, 1) := by decide +kernel
theorem dX4_commonDivisorWithScenes_18 : decode cX4_commonDivisorWithScenes 18 = .ok (.ifCond .ne 5, 3) := by decide +kernel
theorem dX4_commonDivisorWithScenes_21 : decode cX4_commonDivisorWithScenes 21 = .ok (.iload_n 1, 1) := by decide +kernel
theorem dX4_commonDivisorWithScenes_22 : decode cX4_commonDivisorWithScenes 22 = .ok (.ireturn, 1) := by decide +kernel
theorem dX4_commonDivisorWithScenes_23 : decode cX4_commonDivisorWithScenes 23 = .ok (.iinc 1 (-1), 3) := by decide +kernel
theorem dX4_commonDivisorWithScenes_26 : decode cX4_commonDivisorWithScenes 26 = .ok (.goto (-23), 3) := by decide +kernel
theorem dX4_commonDivisorWithScenes_29 : decode cX4_commonDivisorWithScenes 29 = .ok (.iconst 1, 1) := by decide +kernel
theorem dX4_commonDivisorWithScenes_30 : decode cX4_commonDivisorWithScenes 30 = .ok (.ireturn, 1) := by decide +kernel
theorem dX5_init_0 : decode cX5_init 0 = .ok (.aload_n 0, 1) := by decide +kernel
theorem dX5_init_1 : decode cX5_init 1 = .ok (.invokespecial 1, 3) := by decide +kernel
theorem dX5_init_4 : decode cX5_init 4 = .ok (.aload_n 0, 1) := by decide +kernel
theorem dX5_init_5 : decode cX5_init 5 = .ok (.bipush 70, 2) := by decide +kernel
theorem dX5_init_7 : decode cX5_init 7 = .ok (.newarray .int, 2) := by decide +kernel
theorem dX5_init_9 : decode cX5_init 9 = .ok (.putfield 9, 3) := by decide +kernel
theorem dX5_init_12 : decode cX5_init 12 = .ok (.aload_n 0, 1) := by decide +kernel
theorem dX5_init_13 : decode cX5_init 13 = .ok (.bipush 70, 2) := by decide +kernel
theorem dX5_init_15 : decode cX5_init 15 = .ok (.newarray .int, 2) := by decide +kernel
theorem dX5_init_17 : decode cX5_init 17 = .ok (.putfield 13, 3) := by decide +kernel
theorem dX5_init_20 : decode cX5_init 20 = .ok (.aload_n 0, 1) := by decide +kernel
theorem dX5_init_21 : decode cX5_init 21 = .ok (.bipush 70, 2) := by decide +kernel
theorem dX5_init_23 : decode cX5_init 23 = .ok (.newarray .int, 2) := by decide +kernel
theorem dX5_init_25 : decode cX5_init 25 = .ok (.putfield 16, 3) := by decide +kernel
theorem dX5_init_28 : decode cX5_init 28 = .ok (.aload_n 0, 1) := by decide +kernel
theorem dX5_init_29 : decode cX5_init 29 = .ok (.bipush 8, 2) := by decide +kernel
theorem dX5_init_31 : decode cX5_init 31 = .ok (.newarray .int, 2) := by decide +kernel
theorem dX5_init_33 : decode cX5_init 33 = .ok (.putfield 19, 3) := by decide +kernel
theorem dX5_init_36 : decode cX5_init 36 = .ok (.aload_n 0, 1) := by decide +kernel
theorem dX5_init_37 : decode cX5_init 37 = .ok (.bipush 120, 2) := by decide +kernel
theorem dX5_init_39 : decode cX5_init 39 = .ok (.newarray .int, 2) := by decide +kernel
theorem dX5_init_41 : decode cX5_init 41 = .ok (.putfield 22, 3) := by decide +kernel
theorem dX5_init_44 : decode cX5_init 44 = .ok (.aload_n 0, 1) := by decide +kernel
theorem dX5_init_45 : decode cX5_init 45 = .ok (.bipush 7, 2) := by decide +kernel
theorem dX5_init_47 : decode cX5_init 47 = .ok (.anewarray 25, 3) := by decide +kernel
theorem dX5_init_50 : decode cX5_init 50 = .ok (.dup, 1) := by decide +kernel
theorem dX5_init_51 : decode cX5_init 51 = .ok (.iconst 0, 1) := by decide +kernel
theorem dX5_init_52 : decode cX5_init 52 = .ok (.ldc 27, 2) := by decide +kernel
theorem dX5_init_54 : decode cX5_init 54 = .ok (.aastore, 1) := by decide +kernel
theorem dX5_init_55 : decode cX5_init 55 = .ok (.dup, 1) := by decide +kernel
theorem dX5_init_56 : decode cX5_init 56 = .ok (.iconst 1, 1) := by decide +kernel
theorem dX5_init_57 : decode cX5_init 57 = .ok (.ldc 29, 2) := by decide +kernel
theorem dX5_init_59 : decode cX5_init 59 = .ok (.aastore, 1) := by decide +kernel
theorem dX5_init_60 : decode cX5_init 60 = .ok (.dup, 1) := by decide +kernel
theorem dX5_init_61 : decode cX5_init 61 = .ok (.iconst 2, 1) := by decide +kernel
theorem dX5_init_62 : decode cX5_init 62 = .ok (.ldc 31, 2) := by decide +kernel
theorem dX5_init_64 : decode cX5_init 64 = .ok (.aastore, 1) := by decide +kernel
theorem dX5_init_65 : decode cX5_init 65 = .ok (.dup, 1) := by decide +kernel
theorem dX5_init_66 : decode cX5_init 66 = .ok (.iconst 3, 1) := by decide +kernel
theorem dX5_init_67 : decode cX5_init 67 = .ok (.ldc 33, 2) := by decide +kernel
theorem dX5_init_69 : decode cX5_init 69 = .ok (.aastore, 1) := by decide +kernel
theorem dX5_init_70 : decode cX5_init 70 = .ok (.dup, 1) := by decide +kernel
theorem dX5_init_71 : decode cX5_init 71 = .ok (.iconst 4, 1) := by decide +kernel
theorem dX5_init_72 : decode cX5_init 72 = .ok (.ldc 35, 2) := by decide +kernel
theorem dX5_init_74 : decode cX5_init 74 = .ok (.aastore, 1) := by decide +kernel
theorem dX5_init_75 : decode cX5_init 75 = .ok (.dup, 1) := by decide +kernel
theorem dX5_init_76 : decode cX5_init 76 = .ok (.iconst 5, 1) := by decide +kernel
theorem dX5_init_77 : decode cX5_init 77 = .ok (.ldc 37, 2) := by decide +kernel
theorem dX5_init_79 : decode cX5_init 79 = .ok (.aastore, 1) := by decide +kernel
theorem dX5_init_80 : decode cX5_init 80 = .ok (.dup, 1) := by decide +kernel
theorem dX5_init_81 : decode cX5_init 81 = .ok (.bipush 6, 2) := by decide +kernel
theorem dX5_init_83 : decode cX5_init 83 = .ok (.ldc 39, 2) := by decide +kernel
theorem dX5_init_85 : decode cX5_init 85 = .ok (.aastore, 1) := by decide +kernel
theorem dX5_init_86 : decode cX5_init 86 = .ok (.putfield 41, 3) := by decide +kernel
theorem dX5_init_89 : decode cX5_init 89 = .ok (.aload_n 0, 1) := by decide +kernel
theorem dX5_init_90 : decode cX5_init 90 = .ok (.sipush 600, 3) := by decide +kernel
theorem dX5_init_93 : decode cX5_init 93 = .ok (.newarray .int, 2) := by decide +kernel
theorem dX5_init_95 : decode cX5_init 95 = .ok (.putfield 45, 3) := by decide +kernel
theorem dX5_init_98 : decode cX5_init 98 = .ok (.aload_n 0, 1) := by decide +kernel
theorem dX5_init_99 : decode cX5_init 99 = .ok (.iconst 4, 1) := by decide +kernel
theorem dX5_init_100 : decode cX5_init 100 = .ok (.newarray .int, 2) := by decide +kernel
theorem dX5_init_102 : decode cX5_init 102 = .ok (.putfield 48, 3) := by decide +kernel
theorem dX5_init_105 : decode cX5_init 105 = .ok (.aload_n 0, 1) := by decide +kernel
theorem dX5_init_106 : decode cX5_init 106 = .ok (.iconst 4, 1) := by decide +kernel
theorem dX5_init_107 : decode cX5_init 107 = .ok (.newarray .int, 2) := by decide +kernel
theorem dX5_init_109 : decode cX5_init 109 = .ok (.putfield 51, 3) := by decide +kernel
theorem dX5_init_112 : decode cX5_init 112 = .ok (.aload_n 0, 1) := by decide +kernel
theorem dX5_init_113 : decode cX5_init 113 = .ok (.sipush 160, 3) := by decide +kernel
theorem dX5_init_116 : decode cX5_init 116 = .ok (.newarray .int, 2) := by decide +kernel
theorem dX5_init_118 : decode cX5_init 118 = .ok (.putfield 54, 3) := by decide +kernel
theorem dX5_init_121 : decode cX5_init 121 = .ok (.aload_n 0, 1) := by decide +kernel
theorem dX5_init_122 : decode cX5_init 122 = .ok (.bipush 40, 2) := by decide +kernel
theorem dX5_init_124 : decode cX5_init 124 = .ok (.newarray .int, 2) := by decide +kernel
theorem dX5_init_126 : decode cX5_init 126 = .ok (.putfield 57, 3) := by decide +kernel
theorem dX5_init_129 : decode cX5_init 129 = .ok (.aload_n 0, 1) := by decide +kernel
theorem dX5_init_130 : decode cX5_init 130 = .ok (.getfield 9, 3) := by decide +kernel
theorem dX5_init_133 : decode cX5_init 133 = .ok (.iconst 2, 1) := by decide +kernel
theorem dX5_init_134 : decode cX5_init 134 = .ok (.iconst 1, 1) := by decide +kernel
theorem dX5_init_135 : decode cX5_init 135 = .ok (.iastore, 1) := by decide +kernel
theorem dX5_init_136 : decode cX5_init 136 = .ok (.iconst 0, 1) := by decide +kernel
theorem dX5_init_137 : decode cX5_init 137 = .ok (.istore_n 1, 1) := by decide +kernel
theorem dX5_init_138 : decode cX5_init 138 = .ok (.iload_n 1, 1) := by decide +kernel
theorem dX5_init_139 : decode cX5_init 139 = .ok (.bipush 6, 2) := by decide +kernel
theorem dX5_init_141 : decode cX5_init 141 = .ok (.if_icmp .ge 19, 3) := by decide +kernel
theorem dX5_init_144 : decode cX5_init 144 = .ok (.aload_n 0, 1) := by decide +kernel
theorem dX5_init_145 : decode cX5_init 145 = .ok (.getfield 9, 3) := by decide +kernel
theorem dX5_init_148 : decode cX5_init 148 = .ok (.bipush 6, 2) := by decide +kernel
theorem dX5_init_150 : decode cX5_init 150 = .ok (.iload_n 1, 1) := by decide +kernel
theorem dX5_init_151 : decode cX5_init 151 = .ok (.iadd, 1) := by decide +kernel
theorem dX5_init_152 : decode cX5_init 152 = .ok (.iload_n 1, 1) := by decide +kernel
theorem dX5_init_153 : decode cX5_init 153 = .ok (.iastore, 1) := by decide +kernel
theorem dX5_init_154 : decode cX5_init 154 = .ok (.iinc 1 1, 3) := by decide +kernel
theorem dX5_init_157 : decode cX5_init 157 = .ok (.goto (-19), 3) := by decide +kernel
theorem dX5_init_160 : decode cX5_init 160 = .ok (.iconst 0, 1) := by decide +kernel
theorem dX5_init_161 : decode cX5_init 161 = .ok (.istore_n 1, 1) := by decide +kernel
theorem dX5_init_162 : decode cX5_init 162 = .ok (.iload_n 1, 1) := by decide +kernel
theorem dX5_init_163 : decode cX5_init 163 = .ok (.bipush 10, 2) := by decide +kernel
theorem dX5_init_165 : decode cX5_init 165 = .ok (.if_icmp .ge 19, 3) := by decide +kernel
theorem dX5_init_168 : decode cX5_init 168 = .ok (.aload_n 0, 1) := by decide +kernel
theorem dX5_init_169 : decode cX5_init 169 = .ok (.getfield 9, 3) := by decide +kernel
theorem dX5_init_172 : decode cX5_init 172 = .ok (.bipush 12, 2) := by decide +kernel
theorem dX5_init_174 : decode cX5_init 174 = .ok (.iload_n 1, 1) := by decide +kernel
theorem dX5_init_175 : decode cX5_init 175 = .ok (.iadd, 1) := by decide +kernel
theorem dX5_init_176 : decode cX5_init 176 = .ok (.iconst (-1), 1) := by decide +kernel
theorem dX5_init_177 : decode cX5_init 177 = .ok (.iastore, 1) := by decide +kernel
theorem dX5_init_178 : decode cX5_init 178 = .ok (.iinc 1 1, 3) := by decide +kernel
theorem dX5_init_181 : decode cX5_init 181 = .ok (.goto (-19), 3) := by decide +kernel
theorem dX5_init_184 : decode cX5_init 184 = .ok (.return_, 1) := by decide +kernel
theorem dX5_finding_0 : decode cX5_finding 0 = .ok (.aload_n 0, 1) := by decide +kernel
theorem dX5_finding_1 : decode cX5_finding 1 = .ok (.getfield 19, 3) := by decide +kernel
theorem dX5_finding_4 : decode cX5_finding 4 = .ok (.ldc 60, 2) := by decide +kernel
theorem dX5_finding_6 : decode cX5_finding 6 = .ok (.iload_n 1, 1) := by decide +kernel
theorem dX5_finding_7 : decode cX5_finding 7 = .ok (.isub, 1) := by decide +kernel
theorem dX5_finding_8 : decode cX5_finding 8 = .ok (.iconst 1, 1) := by decide +kernel
theorem dX5_finding_9 : decode cX5_finding 9 = .ok (.iadd, 1) := by decide +kernel
theorem dX5_finding_10 : decode cX5_finding 10 = .ok (.dup2, 1) := by decide +kernel
theorem dX5_finding_11 : decode cX5_finding 11 = .ok (.iaload, 1) := by decide +kernel
theorem dX5_finding_12 : decode cX5_finding 12 = .ok (.iconst 1, 1) := by decide +kernel
theorem dX5_finding_13 : decode cX5_finding 13 = .ok (.iadd, 1) := by decide +kernel
theorem dX5_finding_14 : decode cX5_finding 14 = .ok (.iastore, 1) := by decide +kernel
theorem dX5_finding_15 : decode cX5_finding 15 = .ok (.aload_n 0, 1) := by decide +kernel
theorem dX5_finding_16 : decode cX5_finding 16 = .ok (.getfield 19, 3) := by decide +kernel
theorem dX5_finding_19 : decode cX5_finding 19 = .ok (.iconst 0, 1) := by decide +kernel
theorem dX5_finding_20 : decode cX5_finding 20 = .ok (.dup2, 1) := by decide +kernel
theorem dX5_finding_21 : decode cX5_finding 21 = .ok (.iaload, 1) := by decide +kernel
theorem dX5_finding_22 : decode cX5_finding 22 = .ok (.iconst 1, 1) := by decide +kernel
theorem dX5_finding_23 : decode cX5_finding 23 = .ok (.iadd, 1) := by decide +kernel
theorem dX5_finding_24 : decode cX5_finding 24 = .ok (.iastore, 1) := by decide +kernel
theorem dX5_finding_25 : decode cX5_finding 25 = .ok (.iload_n 1, 1) := by decide +kernel
theorem dX5_finding_26 : decode cX5_finding 26 = .ok (.ireturn, 1) := by decide +kernel
theorem dX5_within_0 : decode cX5_within 0 = .ok (.iload_n 0, 1) := by decide +kernel
theorem dX5_within_1 : decode cX5_within 1 = .ok (.iload_n 1, 1) := by decide +kernel
theorem dX5_within_2 : decode cX5_within 2 = .ok (.if_icmp .lt 12, 3) := by decide +kernel
theorem dX5_within_5 : decode cX5_within 5 = .ok (.iload_n 0, 1) := by decide +kernel
theorem dX5_within_6 : decode cX5_within 6 = .ok (.iload_n 2, 1) := by decide +kernel
theorem dX5_within_7 : decode cX5_within 7 = .ok (.if_icmp .gt 7, 3) := by decide +kernel
theorem dX5_within_10 : decode cX5_within 10 = .ok (.iconst 1, 1) := by decide +kernel
theorem dX5_within_11 : decode cX5_within 11 = .ok (.goto 4, 3) := by decide +kernel
theorem dX5_within_14 : decode cX5_within 14 = .ok (.iconst 0, 1) := by decide +kernel
theorem dX5_within_15 : decode cX5_within 15 = .ok (.ireturn, 1) := by decide +kernel
theorem dX5_become_0 : decode cX5_become 0 = .ok (.aload_n 0, 1) := by decide +kernel
theorem dX5_become_1 : decode cX5_become 1 = .ok (.getfield 9, 3) := by decide +kernel
theorem dX5_become_4 : decode cX5_become 4 = .ok (.iload_n 1, 1) := by decide +kernel
theorem dX5_become_5 : decode cX5_become 5 = .ok (.iaload, 1) := by decide +kernel
theorem dX5_become_6 : decode cX5_become 6 = .ok (.istore_n 3, 1) := by decide +kernel
theorem dX5_become_7 : decode cX5_become 7 = .ok (.aload_n 0, 1) := by decide +kernel
theorem dX5_become_8 : decode cX5_become 8 = .ok (.getfield 9, 3) := by decide +kernel
theorem dX5_become_11 : decode cX5_become 11 = .ok (.iload_n 1, 1) := by decide +kernel
theorem dX5_become_12 : decode cX5_become 12 = .ok (.iload_n 2, 1) := by decide +kernel
theorem dX5_become_13 : decode cX5_become 13 = .ok (.iastore, 1) := by decide +kernel
theorem dX5_become_14 : decode cX5_become 14 = .ok (.iload_n 3, 1) := by decide +kernel
theorem dX5_become_15 : decode cX5_become 15 = .ok (.ireturn, 1) := by decide +kernel
theorem dX5_copyRow_0 : decode cX5_copyRow 0 = .ok (.iconst 0, 1) := by decide +kernel
theorem dX5_copyRow_1 : decode cX5_copyRow 1 = .ok (.istore_n 2, 1) := by decide +kernel
theorem dX5_copyRow_2 : decode cX5_copyRow 2 = .ok (.iload_n 2, 1) := by decide +kernel
theorem dX5_copyRow_3 : decode cX5_copyRow 3 = .ok (.bipush 70, 2) := by decide +kernel
theorem dX5_copyRow_5 : decode cX5_copyRow 5 = .ok (.if_icmp .ge 15, 3) := by decide +kernel
theorem dX5_copyRow_8 : decode cX5_copyRow 8 = .ok (.aload_n 1, 1) := by decide +kernel
theorem dX5_copyRow_9 : decode cX5_copyRow 9 = .ok (.iload_n 2, 1) := by decide +kernel
theorem dX5_copyRow_10 : decode cX5_copyRow 10 = .ok (.aload_n 0, 1) := by decide +kernel
theorem dX5_copyRow_11 : decode cX5_copyRow 11 = .ok (.iload_n 2, 1) := by decide +kernel
theorem dX5_copyRow_12 : decode cX5_copyRow 12 = .ok (.iaload, 1) := by decide +kernel
theorem dX5_copyRow_13 : decode cX5_copyRow 13 = .ok (.iastore, 1) := by decide +kernel
theorem dX5_copyRow_14 : decode cX5_copyRow 14 = .ok (.iinc 2 1, 3) := by decide +kernel
theorem dX5_copyRow_17 : decode cX5_copyRow 17 = .ok (.goto (-15), 3) := by decide +kernel
theorem dX5_copyRow_20 : decode cX5_copyRow 20 = .ok (.return_, 1) := by decide +kernel
theorem dX5_putBack_0 : decode cX5_putBack 0 = .ok (.aload_n 0, 1) := by decide +kernel
theorem dX5_putBack_1 : decode cX5_putBack 1 = .ok (.getfield 16, 3) := by decide +kernel
theorem dX5_putBack_4 : decode cX5_putBack 4 = .ok (.aload_n 0, 1) := by decide +kernel
theorem dX5_putBack_5 : decode cX5_putBack 5 = .ok (.getfield 9, 3) := by decide +kernel
theorem dX5_putBack_8 : decode cX5_putBack 8 = .ok (.invokestatic 61, 3) := by decide +kernel
theorem dX5_putBack_11 : decode cX5_putBack 11 = .ok (.iload_n 1, 1) := by decide +kernel
theorem dX5_putBack_12 : decode cX5_putBack 12 = .ok (.ireturn, 1) := by decide +kernel
theorem dX5_orNone_0 : decode cX5_orNone 0 = .ok (.iload_n 1, 1) := by decide +kernel
theorem dX5_orNone_1 : decode cX5_orNone 1 = .ok (.ifCond .ge 12, 3) := by decide +kernel
theorem dX5_orNone_4 : decode cX5_orNone 4 = .ok (.aload_n 0, 1) := by decide +kernel
theorem dX5_orNone_5 : decode cX5_orNone 5 = .ok (.ldc 65, 2) := by decide +kernel
theorem dX5_orNone_7 : decode cX5_orNone 7 = .ok (.invokevirtual 66, 3) := by decide +kernel
theorem dX5_orNone_10 : decode cX5_orNone 10 = .ok (.goto 4, 3) := by decide +kernel
theorem dX5_orNone_13 : decode cX5_orNone 13 = .ok (.iload_n 1, 1) := by decide +kernel
theorem dX5_orNone_14 : decode cX5_orNone 14 = .ok (.ireturn, 1) := by decide +kernel
theorem dX5_bits_0 : decode cX5_bits 0 = .ok (.iconst 0, 1) := by decide +kernel
theorem dX5_bits_1 : decode cX5_bits 1 = .ok (.istore_n 1, 1) := by decide +kernel
theorem dX5_bits_2 : decode cX5_bits 2 = .ok (.iload_n 0, 1) := by decide +kernel
theorem dX5_bits_3 : decode cX5_bits 3 = .ok (.istore_n 2, 1) := by decide +kernel
theorem dX5_bits_4 : decode cX5_bits 4 = .ok (.iload_n 2, 1) := by decide +kernel
theorem dX5_bits_5 : decode cX5_bits 5 = .ok (.ifCond .eq 15, 3) := by decide +kernel
theorem dX5_bits_8 : decode cX5_bits 8 = .ok (.iinc 1 1, 3) := by decide +kernel
theorem dX5_bits_11 : decode cX5_bits 11 = .ok (.iload_n 2, 1) := by decide +kernel
theorem dX5_bits_12 : decode cX5_bits 12 = .ok (.iload_n 2, 1) := by decide +kernel
theorem dX5_bits_13 : decode cX5_bits 13 = .ok (.iconst 1, 1) := by decide +kernel
theorem dX5_bits_14 : decode cX5_bits 14 = .ok (.isub, 1) := by decide +kernel
theorem dX5_bits_15 : decode cX5_bits 15 = .ok (.iand, 1) := by decide +kernel
theorem dX5_bits_16 : decode cX5_bits 16 = .ok (.istore_n 2, 1) := by decide +kernel
theorem dX5_bits_17 : decode cX5_bits 17 = .ok (.goto (-13), 3) := by decide +kernel
theorem dX5_bits_20 : decode cX5_bits 20 = .ok (.iload_n 1, 1) := by decide +kernel
theorem dX5_bits_21 : decode cX5_bits 21 = .ok (.ireturn, 1) := by decide +kernel
theorem dX5_isSet_0 : decode cX5_isSet 0 = .ok (.iload_n 0, 1) := by decide +kernel
theorem dX5_isSet_1 : decode cX5_isSet 1 = .ok (.iconst 0, 1) := by decide +kernel
theorem dX5_isSet_2 : decode cX5_isSet 2 = .ok (.sipush 4095, 3) := by decide +kernel
theorem dX5_isSet_5 : decode cX5_isSet 5 = .ok (.invokestatic 70, 3) := by decide +kernel
theorem dX5_isSet_8 : decode cX5_isSet 8 = .ok (.ireturn, 1) := by decide +kernel
theorem dX5_isScene_0 : decode cX5_isScene 0 = .ok (.iload_n 0, 1) := by decide +kernel
theorem dX5_isScene_1 : decode cX5_isScene 1 = .ok (.iconst 0, 1) := by decide +kernel
theorem dX5_isScene_2 : decode cX5_isScene 2 = .ok (.bipush 11, 2) := by decide +kernel
theorem dX5_isScene_4 : decode cX5_isScene 4 = .ok (.invokestatic 70, 3) := by decide +kernel
theorem dX5_isScene_7 : decode cX5_isScene 7 = .ok (.ireturn, 1) := by decide +kernel
theorem dX5_fire_0 : decode cX5_fire 0 = .ok (.iload_n 1, 1) := by decide +kernel
theorem dX5_fire_1 : decode cX5_fire 1 = .ok (.iconst 0, 1) := by decide +kernel
theorem dX5_fire_2 : decode cX5_fire 2 = .ok (.iconst 1, 1) := by decide +kernel
theorem dX5_fire_3 : decode cX5_fire 3 = .ok (.invokestatic 70, 3) := by decide +kernel
theorem dX5_fire_6 : decode cX5_fire 6 = .ok (.ifCond .eq 12, 3) := by decide +kernel
theorem dX5_fire_9 : decode cX5_fire 9 = .ok (.aload_n 0, 1) := by decide +kernel
theorem dX5_fire_10 : decode cX5_fire 10 = .ok (.iconst 3, 1) := by decide +kernel
theorem dX5_fire_11 : decode cX5_fire 11 = .ok (.iload_n 1, 1) := by decide +kernel
theorem dX5_fire_12 : decode cX5_fire 12 = .ok (.invokevirtual 74, 3) := by decide +kernel
theorem dX5_fire_15 : decode cX5_fire 15 = .ok (.goto 9, 3) := by decide +kernel
theorem dX5_fire_18 : decode cX5_fire 18 = .ok (.aload_n 0, 1) := by decide +kernel
theorem dX5_fire_19 : decode cX5_fire 19 = .ok (.ldc 60, 2) := by decide +kernel
theorem dX5_fire_21 : decode cX5_fire 21 = .ok (.invokevirtual 66, 3) := by decide +kernel
theorem dX5_fire_24 : decode cX5_fire 24 = .ok (.ireturn, 1) := by decide +kernel
theorem dX5_isPlace_0 : decode cX5_isPlace 0 = .ok (.iload_n 0, 1) := by decide +kernel
theorem dX5_isPlace_1 : decode cX5_isPlace 1 = .ok (.iconst 0, 1) := by decide +kernel
theorem dX5_isPlace_2 : decode cX5_isPlace 2 = .ok (.iconst 5, 1) := by decide +kernel
theorem dX5_isPlace_3 : decode cX5_isPlace 3 = .ok (.invokestatic 70, 3) := by decide +kernel
theorem dX5_isPlace_6 : decode cX5_isPlace 6 = .ok (.ireturn, 1) := by decide +kernel
theorem dX5_scene_0 : decode cX5_scene 0 = .ok (.iload_n 1, 1) := by decide +kernel
theorem dX5_scene_1 : decode cX5_scene 1 = .ok (.invokestatic 78, 3) := by decide +kernel
theorem dX5_scene_4 : decode cX5_scene 4 = .ok (.ifCond .eq 22, 3) := by decide +kernel
theorem dX5_scene_7 : decode cX5_scene 7 = .ok (.iload_n 2, 1) := by decide +kernel
theorem dX5_scene_8 : decode cX5_scene 8 = .ok (.invokestatic 82, 3) := by decide +kernel
theorem dX5_scene_11 : decode cX5_scene 11 = .ok (.ifCond .eq 15, 3) := by decide +kernel
theorem dX5_scene_14 : decode cX5_scene 14 = .ok (.aload_n 0, 1) := by decide +kernel
theorem dX5_scene_15 : decode cX5_scene 15 = .ok (.bipush 6, 2) := by decide +kernel
theorem dX5_scene_17 : decode cX5_scene 17 = .ok (.iload_n 1, 1) := by decide +kernel
theorem dX5_scene_18 : decode cX5_scene 18 = .ok (.iadd, 1) := by decide +kernel
theorem dX5_scene_19 : decode cX5_scene 19 = .ok (.iload_n 2, 1) := by decide +kernel
theorem dX5_scene_20 : decode cX5_scene 20 = .ok (.invokevirtual 74, 3) := by decide +kernel
theorem dX5_scene_23 : decode cX5_scene 23 = .ok (.goto 9, 3) := by decide +kernel
theorem dX5_scene_26 : decode cX5_scene 26 = .ok (.aload_n 0, 1) := by decide +kernel
theorem dX5_scene_27 : decode cX5_scene 27 = .ok (.ldc 60, 2) := by decide +kernel
theorem dX5_scene_29 : decode cX5_scene 29 = .ok (.invokevirtual 66, 3) := by decide +kernel
theorem dX5_scene_32 : decode cX5_scene 32 = .ok (.ireturn, 1) := by decide +kernel
theorem dX5_listed_0 : decode cX5_listed 0 = .ok (.iload_n 1, 1) := by decide +kernel
theorem dX5_listed_1 : decode cX5_listed 1 = .ok (.invokestatic 78, 3) := by decide +kernel
theorem dX5_listed_4 : decode cX5_listed 4 = .ok (.ifCond .eq 15, 3) := by decide +kernel
theorem dX5_listed_7 : decode cX5_listed 7 = .ok (.aload_n 0, 1) := by decide +kernel
theorem dX5_listed_8 : decode cX5_listed 8 = .ok (.getfield 9, 3) := by decide +kernel
theorem dX5_listed_11 : decode cX5_listed 11 = .ok (.bipush 6, 2) := by decide +kernel
theorem dX5_listed_13 : decode cX5_listed 13 = .ok (.iload_n 1, 1) := by decide +kernel
theorem dX5_listed_14 : decode cX5_listed 14 = .ok (.iadd, 1) := by decide +kernel
theorem dX5_listed_15 : decode cX5_listed 15 = .ok (.iaload, 1) := by decide +kernel
theorem dX5_listed_16 : decode cX5_listed 16 = .ok (.goto 9, 3) := by decide +kernel
theorem dX5_listed_19 : decode cX5_listed 19 = .ok (.aload_n 0, 1) := by decide +kernel
theorem dX5_listed_20 : decode cX5_listed 20 = .ok (.ldc 60, 2) := by decide +kernel
theorem dX5_listed_22 : decode cX5_listed 22 = .ok (.invokevirtual 66, 3) := by decide +kernel
theorem dX5_listed_25 : decode cX5_listed 25 = .ok (.ireturn, 1) := by decide +kernel
theorem dX5_placeNow_0 : decode cX5_placeNow 0 = .ok (.bipush 6, 2) := by decide +kernel
theorem dX5_placeNow_2 : decode cX5_placeNow 2 = .ok (.aload_n 0, 1) := by decide +kernel
theorem dX5_placeNow_3 : decode cX5_placeNow 3 = .ok (.getfield 9, 3) := by decide +kernel
theorem dX5_placeNow_6 : decode cX5_placeNow 6 = .ok (.iconst 0, 1) := by decide +kernel
theorem dX5_placeNow_7 : decode cX5_placeNow 7 = .ok (.iaload, 1) := by decide +kernel
theorem dX5_placeNow_8 : decode cX5_placeNow 8 = .ok (.bipush 6, 2) := by decide +kernel
theorem dX5_placeNow_10 : decode cX5_placeNow 10 = .ok (.irem, 1) := by decide +kernel
theorem dX5_placeNow_11 : decode cX5_placeNow 11 = .ok (.iadd, 1) := by decide +kernel
theorem dX5_placeNow_12 : decode cX5_placeNow 12 = .ok (.ireturn, 1) := by decide +kernel
theorem dX5_curtainAt_0 : decode cX5_curtainAt 0 = .ok (.bipush 22, 2) := by decide +kernel
theorem dX5_curtainAt_2 : decode cX5_curtainAt 2 = .ok (.bipush 6, 2) := by decide +kernel
theorem dX5_curtainAt_4 : decode cX5_curtainAt 4 = .ok (.iload_n 0, 1) := by decide +kernel
theorem dX5_curtainAt_5 : decode cX5_curtainAt 5 = .ok (.imul, 1) := by decide +kernel
theorem dX5_curtainAt_6 : decode cX5_curtainAt 6 = .ok (.iadd, 1) := by decide +kernel
theorem dX5_curtainAt_7 : decode cX5_curtainAt 7 = .ok (.iload_n 1, 1) := by decide +kernel
theorem dX5_curtainAt_8 : decode cX5_curtainAt 8 = .ok (.iadd, 1) := by decide +kernel
theorem dX5_curtainAt_9 : decode cX5_curtainAt 9 = .ok (.ireturn, 1) := by decide +kernel
theorem dX5_curtainIs_0 : decode cX5_curtainIs 0 = .ok (.aload_n 0, 1) := by decide +kernel
theorem dX5_curtainIs_1 : decode cX5_curtainIs 1 = .ok (.getfield 9, 3) := by decide +kernel
theorem dX5_curtainIs_4 : decode cX5_curtainIs 4 = .ok (.iload_n 1, 1) := by decide +kernel
theorem dX5_curtainIs_5 : decode cX5_curtainIs 5 = .ok (.iload_n 2, 1) := by decide +kernel
theorem dX5_curtainIs_6 : decode cX5_curtainIs 6 = .ok (.invokestatic 85, 3) := by decide +kernel
theorem dX5_curtainIs_9 : decode cX5_curtainIs 9 = .ok (.iaload, 1) := by decide +kernel
theorem dX5_curtainIs_10 : decode cX5_curtainIs 10 = .ok (.ireturn, 1) := by decide +kernel
theorem dX5_isCurtain_0 : decode cX5_isCurtain 0 = .ok (.iload_n 1, 1) := by decide +kernel
theorem dX5_isCurtain_1 : decode cX5_isCurtain 1 = .ok (.iconst 0, 1) := by decide +kernel
theorem dX5_isCurtain_2 : decode cX5_isCurtain 2 = .ok (.aload_n 0, 1) := by decide +kernel
theorem dX5_isCurtain_3 : decode cX5_isCurtain 3 = .ok (.getfield 9, 3) := by decide +kernel
theorem dX5_isCurtain_6 : decode cX5_isCurtain 6 = .ok (.iconst 1, 1) := by decide +kernel
theorem dX5_isCurtain_7 : decode cX5_isCurtain 7 = .ok (.iaload, 1) := by decide +kernel
theorem dX5_isCurtain_8 : decode cX5_isCurtain 8 = .ok (.iconst 1, 1) := by decide +kernel
theorem dX5_isCurtain_9 : decode cX5_isCurtain 9 = .ok (.isub, 1) := by decide +kernel
theorem dX5_isCurtain_10 : decode cX5_isCurtain 10 = .ok (.invokestatic 70, 3) := by decide +kernel
theorem dX5_isCurtain_13 : decode cX5_isCurtain 13 = .ok (.ireturn, 1) := by decide +kernel
theorem dX5_isKind_0 : decode cX5_isKind 0 = .ok (.iload_n 0, 1) := by decide +kernel
theorem dX5_isKind_1 : decode cX5_isKind 1 = .ok (.iconst 0, 1) := by decide +kernel
theorem dX5_isKind_2 : decode cX5_isKind 2 = .ok (.bipush 6, 2) := by decide +kernel
theorem dX5_isKind_4 : decode cX5_isKind 4 = .ok (.invokestatic 70, 3) := by decide +kernel
theorem dX5_isKind_7 : decode cX5_isKind 7 = .ok (.ireturn, 1) := by decide +kernel
theorem dX5_comes_0 : decode cX5_comes 0 = .ok (.aload_n 0, 1) := by decide +kernel
theorem dX5_comes_1 : decode cX5_comes 1 = .ok (.getfield 9, 3) := by decide +kernel
theorem dX5_comes_4 : decode cX5_comes 4 = .ok (.iconst 1, 1) := by decide +kernel
theorem dX5_comes_5 : decode cX5_comes 5 = .ok (.iaload, 1) := by decide +kernel
theorem dX5_comes_6 : decode cX5_comes 6 = .ok (.istore_n 3, 1) := by decide +kernel
theorem dX5_comes_7 : decode cX5_comes 7 = .ok (.iconst 0, 1) := by decide +kernel
theorem dX5_comes_8 : decode cX5_comes 8 = .ok (.istore 4, 2) := by decide +kernel
theorem dX5_comes_10 : decode cX5_comes 10 = .ok (.iload 4, 2) := by decide +kernel
theorem dX5_comes_12 : decode cX5_comes 12 = .ok (.bipush 6, 2) := by decide +kernel
theorem dX5_comes_14 : decode cX5_comes 14 = .ok (.if_icmp .ge 21, 3) := by decide +kernel
theorem dX5_comes_17 : decode cX5_comes 17 = .ok (.aload_n 0, 1) := by decide +kernel
theorem dX5_comes_18 : decode cX5_comes 18 = .ok (.getfield 9, 3) := by decide +kernel
theorem dX5_comes_21 : decode cX5_comes 21 = .ok (.iload_n 3, 1) := by decide +kernel
theorem dX5_comes_22 : decode cX5_comes 22 = .ok (.iload 4, 2) := by decide +kernel
theorem dX5_comes_24 : decode cX5_comes 24 = .ok (.invokestatic 85, 3) := by decide +kernel
theorem dX5_comes_27 : decode cX5_comes 27 = .ok (.iconst 0, 1) := by decide +kernel
theorem dX5_comes_28 : decode cX5_comes 28 = .ok (.iastore, 1) := by decide +kernel
theorem dX5_comes_29 : decode cX5_comes 29 = .ok (.iinc 4 1, 3) := by decide +kernel
theorem dX5_comes_32 : decode cX5_comes 32 = .ok (.goto (-22), 3) := by decide +kernel
theorem dX5_comes_35 : decode cX5_comes 35 = .ok (.aload_n 0, 1) := by decide +kernel
theorem dX5_comes_36 : decode cX5_comes 36 = .ok (.getfield 9, 3) := by decide +kernel
theorem dX5_comes_39 : decode cX5_comes 39 = .ok (.iload_n 3, 1) := by decide +kernel
theorem dX5_comes_40 : decode cX5_comes 40 = .ok (.iconst 0, 1) := by decide +kernel
theorem dX5_comes_41 : decode cX5_comes 41 = .ok (.invokestatic 85, 3) := by decide +kernel
theorem dX5_comes_44 : decode cX5_comes 44 = .ok (.iload_n 1, 1) := by decide +kernel
theorem dX5_comes_45 : decode cX5_comes 45 = .ok (.iastore, 1) := by decide +kernel
theorem dX5_comes_46 : decode cX5_comes 46 = .ok (.aload_n 0, 1) := by decide +kernel
theorem dX5_comes_47 : decode cX5_comes 47 = .ok (.getfield 9, 3) := by decide +kernel
theorem dX5_comes_50 : decode cX5_comes 50 = .ok (.iload_n 3, 1) := by decide +kernel
theorem dX5_comes_51 : decode cX5_comes 51 = .ok (.iconst 1, 1) := by decide +kernel
theorem dX5_comes_52 : decode cX5_comes 52 = .ok (.invokestatic 85, 3) := by decide +kernel
theorem dX5_comes_55 : decode cX5_comes 55 = .ok (.bipush 60, 2) := by decide +kernel
theorem dX5_comes_57 : decode cX5_comes 57 = .ok (.iastore, 1) := by decide +kernel
theorem dX5_comes_58 : decode cX5_comes 58 = .ok (.aload_n 0, 1) := by decide +kernel
theorem dX5_comes_59 : decode cX5_comes 59 = .ok (.getfield 9, 3) := by decide +kernel
theorem dX5_comes_62 : decode cX5_comes 62 = .ok (.iload_n 3, 1) := by decide +kernel
theorem dX5_comes_63 : decode cX5_comes 63 = .ok (.iconst 2, 1) := by decide +kernel
theorem dX5_comes_64 : decode cX5_comes 64 = .ok (.invokestatic 85, 3) := by decide +kernel
theorem dX5_comes_67 : decode cX5_comes 67 = .ok (.iload_n 2, 1) := by decide +kernel
theorem dX5_comes_68 : decode cX5_comes 68 = .ok (.iastore, 1) := by decide +kernel
theorem dX5_comes_69 : decode cX5_comes 69 = .ok (.aload_n 0, 1) := by decide +kernel
theorem dX5_comes_70 : decode cX5_comes 70 = .ok (.getfield 9, 3) := by decide +kernel
theorem dX5_comes_73 : decode cX5_comes 73 = .ok (.iload_n 3, 1) := by decide +kernel
theorem dX5_comes_74 : decode cX5_comes 74 = .ok (.iconst 3, 1) := by decide +kernel
theorem dX5_comes_75 : decode cX5_comes 75 = .ok (.invokestatic 85, 3) := by decide +kernel
theorem dX5_comes_78 : decode cX5_comes 78 = .ok (.bipush 20, 2) := by decide +kernel
theorem dX5_comes_80 : decode cX5_comes 80 = .ok (.iastore, 1) := by decide +kernel
theorem dX5_comes_81 : decode cX5_comes 81 = .ok (.aload_n 0, 1) := by decide +kernel
theorem dX5_comes_82 : decode cX5_comes 82 = .ok (.getfield 9, 3) := by decide +kernel
theorem dX5_comes_85 : decode cX5_comes 85 = .ok (.iconst 1, 1) := by decide +kernel
theorem dX5_comes_86 : decode cX5_comes 86 = .ok (.dup2, 1) := by decide +kernel
theorem dX5_comes_87 : decode cX5_comes 87 = .ok (.iaload, 1) := by decide +kernel
theorem dX5_comes_88 : decode cX5_comes 88 = .ok (.iconst 1, 1) := by decide +kernel
theorem dX5_comes_89 : decode cX5_comes 89 = .ok (.iadd, 1) := by decide +kernel
theorem dX5_comes_90 : decode cX5_comes 90 = .ok (.iastore, 1) := by decide +kernel
theorem dX5_comes_91 : decode cX5_comes 91 = .ok (.iload_n 3, 1) := by decide +kernel
theorem dX5_comes_92 : decode cX5_comes 92 = .ok (.ireturn, 1) := by decide +kernel
theorem dX5_curtain_0 : decode cX5_curtain 0 = .ok (.iload_n 1, 1) := by decide +kernel
theorem dX5_curtain_1 : decode cX5_curtain 1 = .ok (.invokestatic 88, 3) := by decide +kernel
theorem dX5_curtain_4 : decode cX5_curtain 4 = .ok (.ifCond .eq 10, 3) := by decide +kernel
theorem dX5_curtain_7 : decode cX5_curtain 7 = .ok (.iload_n 2, 1) := by decide +kernel
theorem dX5_curtain_8 : decode cX5_curtain 8 = .ok (.invokestatic 91, 3) := by decide +kernel
theorem dX5_curtain_11 : decode cX5_curtain 11 = .ok (.ifCond .ne 10, 3) := by decide +kernel
theorem dX5_curtain_14 : decode cX5_curtain 14 = .ok (.aload_n 0, 1) := by decide +kernel
theorem dX5_curtain_15 : decode cX5_curtain 15 = .ok (.ldc 60, 2) := by decide +kernel
theorem dX5_curtain_17 : decode cX5_curtain 17 = .ok (.invokevirtual 66, 3) := by decide +kernel
theorem dX5_curtain_20 : decode cX5_curtain 20 = .ok (.ireturn, 1) := by decide +kernel
theorem dX5_curtain_21 : decode cX5_curtain 21 = .ok (.aload_n 0, 1) := by decide +kernel
theorem dX5_curtain_22 : decode cX5_curtain 22 = .ok (.getfield 9, 3) := by decide +kernel
theorem dX5_curtain_25 : decode cX5_curtain 25 = .ok (.iconst 1, 1) := by decide +kernel
theorem dX5_curtain_26 : decode cX5_curtain 26 = .ok (.iaload, 1) := by decide +kernel
theorem dX5_curtain_27 : decode cX5_curtain 27 = .ok (.bipush 8, 2) := by decide +kernel
theorem dX5_curtain_29 : decode cX5_curtain 29 = .ok (.if_icmp .ne 12, 3) := by decide +kernel
theorem dX5_curtain_32 : decode cX5_curtain 32 = .ok (.aload_n 0, 1) := by decide +kernel
theorem dX5_curtain_33 : decode cX5_curtain 33 = .ok (.ldc 94, 2) := by decide +kernel
theorem dX5_curtain_35 : decode cX5_curtain 35 = .ok (.invokevirtual 66, 3) := by decide +kernel
theorem dX5_curtain_38 : decode cX5_curtain 38 = .ok (.goto 9, 3) := by decide +kernel
theorem dX5_curtain_41 : decode cX5_curtain 41 = .ok (.aload_n 0, 1) := by decide +kernel
theorem dX5_curtain_42 : decode cX5_curtain 42 = .ok (.iload_n 1, 1) := by decide +kernel
theorem dX5_curtain_43 : decode cX5_curtain 43 = .ok (.iload_n 2, 1) := by decide +kernel
theorem dX5_curtain_44 : decode cX5_curtain 44 = .ok (.invokevirtual 95, 3) := by decide +kernel
theorem dX5_curtain_47 : decode cX5_curtain 47 = .ok (.ireturn, 1) := by decide +kernel
theorem dX5_gladdens_0 : decode cX5_gladdens 0 = .ok (.aload_n 0, 1) := by decide +kernel
theorem dX5_gladdens_1 : decode cX5_gladdens 1 = .ok (.iload_n 1, 1) := by decide +kernel
theorem dX5_gladdens_2 : decode cX5_gladdens 2 = .ok (.iconst 0, 1) := by decide +kernel
theorem dX5_gladdens_3 : decode cX5_gladdens 3 = .ok (.invokevirtual 98, 3) := by decide +kernel
theorem dX5_gladdens_6 : decode cX5_gladdens 6 = .ok (.tableswitch 60 1 6 #[38, 44, 44, 46, 58, 41], 38) := by decide +kernel
theorem dX5_gladdens_44 : decode cX5_gladdens 44 = .ok (.bipush 10, 2) := by decide +kernel
theorem dX5_gladdens_46 : decode cX5_gladdens 46 = .ok (.ireturn, 1) := by decide +kernel
theorem dX5_gladdens_47 : decode cX5_gladdens 47 = .ok (.bipush 8, 2) := by decide +kernel
theorem dX5_gladdens_49 : decode cX5_gladdens 49 = .ok (.ireturn, 1) := by decide +kernel
theorem dX5_gladdens_50 : decode cX5_gladdens 50 = .ok (.iconst 4, 1) := by decide +kernel
theorem dX5_gladdens_51 : decode cX5_gladdens 51 = .ok (.ireturn, 1) := by decide +kernel
theorem dX5_gladdens_52 : decode cX5_gladdens 52 = .ok (.iconst 4, 1) := by decide +kernel
theorem dX5_gladdens_53 : decode cX5_gladdens 53 = .ok (.aload_n 0, 1) := by decide +kernel
theorem dX5_gladdens_54 : decode cX5_gladdens 54 = .ok (.iload_n 1, 1) := by decide +kernel
theorem dX5_gladdens_55 : decode cX5_gladdens 55 = .ok (.iconst 2, 1) := by decide +kernel
theorem dX5_gladdens_56 : decode cX5_gladdens 56 = .ok (.invokevirtual 98, 3) := by decide +kernel
theorem dX5_gladdens_59 : decode cX5_gladdens 59 = .ok (.invokestatic 101, 3) := by decide +kernel
theorem dX5_gladdens_62 : decode cX5_gladdens 62 = .ok (.iadd, 1) := by decide +kernel
theorem dX5_gladdens_63 : decode cX5_gladdens 63 = .ok (.ireturn, 1) := by decide +kernel
theorem dX5_gladdens_64 : decode cX5_gladdens 64 = .ok (.iconst 0, 1) := by decide +kernel
theorem dX5_gladdens_65 : decode cX5_gladdens 65 = .ok (.ireturn, 1) := by decide +kernel
theorem dX5_gladdens_66 : decode cX5_gladdens 66 = .ok (.iconst 5, 1) := by decide +kernel
theorem dX5_gladdens_67 : decode cX5_gladdens 67 = .ok (.ireturn, 1) := by decide +kernel
theorem dX5_tires_0 : decode cX5_tires 0 = .ok (.aload_n 0, 1) := by decide +kernel
theorem dX5_tires_1 : decode cX5_tires 1 = .ok (.iload_n 1, 1) := by decide +kernel
theorem dX5_tires_2 : decode cX5_tires 2 = .ok (.iconst 0, 1) := by decide +kernel
theorem dX5_tires_3 : decode cX5_tires 3 = .ok (.invokevirtual 98, 3) := by decide +kernel
theorem dX5_tires_6 : decode cX5_tires 6 = .ok (.tableswitch 73 1 6 #[38, 57, 59, 65, 71, 41], 38) := by decide +kernel
theorem dX5_tires_44 : decode cX5_tires 44 = .ok (.bipush 6, 2) := by decide +kernel
theorem dX5_tires_46 : decode cX5_tires 46 = .ok (.ireturn, 1) := by decide +kernel
theorem dX5_tires_47 : decode cX5_tires 47 = .ok (.aload_n 0, 1) := by decide +kernel
theorem dX5_tires_48 : decode cX5_tires 48 = .ok (.iload_n 1, 1) := by decide +kernel
theorem dX5_tires_49 : decode cX5_tires 49 = .ok (.iconst 3, 1) := by decide +kernel
theorem dX5_tires_50 : decode cX5_tires 50 = .ok (.invokevirtual 98, 3) := by decide +kernel
theorem dX5_tires_53 : decode cX5_tires 53 = .ok (.ifCond .ne 7, 3) := by decide +kernel
theorem dX5_tires_56 : decode cX5_tires 56 = .ok (.iconst 0, 1) := by decide +kernel
theorem dX5_tires_57 : decode cX5_tires 57 = .ok (.goto 5, 3) := by decide +kernel
theorem dX5_tires_60 : decode cX5_tires 60 = .ok (.bipush 6, 2) := by decide +kernel
theorem dX5_tires_62 : decode cX5_tires 62 = .ok (.ireturn, 1) := by decide +kernel
theorem dX5_tires_63 : decode cX5_tires 63 = .ok (.iconst 2, 1) := by decide +kernel
theorem dX5_tires_64 : decode cX5_tires 64 = .ok (.ireturn, 1) := by decide +kernel
theorem dX5_tires_65 : decode cX5_tires 65 = .ok (.iconst 2, 1) := by decide +kernel
theorem dX5_tires_66 : decode cX5_tires 66 = .ok (.iload_n 2, 1) := by decide +kernel
theorem dX5_tires_67 : decode cX5_tires 67 = .ok (.iconst 1, 1) := by decide +kernel
theorem dX5_tires_68 : decode cX5_tires 68 = .ok (.iand, 1) := by decide +kernel
theorem dX5_tires_69 : decode cX5_tires 69 = .ok (.iadd, 1) := by decide +kernel
theorem dX5_tires_70 : decode cX5_tires 70 = .ok (.ireturn, 1) := by decide +kernel
theorem dX5_tires_71 : decode cX5_tires 71 = .ok (.iconst 1, 1) := by decide +kernel
theorem dX5_tires_72 : decode cX5_tires 72 = .ok (.iload_n 2, 1) := by decide +kernel
theorem dX5_tires_73 : decode cX5_tires 73 = .ok (.iconst 1, 1) := by decide +kernel
theorem dX5_tires_74 : decode cX5_tires 74 = .ok (.iand, 1) := by decide +kernel
theorem dX5_tires_75 : decode cX5_tires 75 = .ok (.iadd, 1) := by decide +kernel
theorem dX5_tires_76 : decode cX5_tires 76 = .ok (.ireturn, 1) := by decide +kernel
theorem dX5_tires_77 : decode cX5_tires 77 = .ok (.iconst 0, 1) := by decide +kernel
theorem dX5_tires_78 : decode cX5_tires 78 = .ok (.ireturn, 1) := by decide +kernel
theorem dX5_tires_79 : decode cX5_tires 79 = .ok (.iconst 4, 1) := by decide +kernel
theorem dX5_tires_80 : decode cX5_tires 80 = .ok (.ireturn, 1) := by decide +kernel
theorem dX5_bears_0 : decode cX5_bears 0 = .ok (.aload_n 0, 1) := by decide +kernel
theorem dX5_bears_1 : decode cX5_bears 1 = .ok (.iload_n 1, 1) := by decide +kernel
theorem dX5_bears_2 : decode cX5_bears 2 = .ok (.iconst 0, 1) := by decide +kernel
theorem dX5_bears_3 : decode cX5_bears 3 = .ok (.invokevirtual 98, 3) := by decide +kernel
theorem dX5_bears_6 : decode cX5_bears 6 = .ok (.tableswitch 46 1 6 #[38, 41, 41, 38, 44, 38], 38) := by decide +kernel
theorem dX5_bears_44 : decode cX5_bears 44 = .ok (.bipush 40, 2) := by decide +kernel
theorem dX5_bears_46 : decode cX5_bears 46 = .ok (.ireturn, 1) := by decide +kernel
theorem dX5_bears_47 : decode cX5_bears 47 = .ok (.bipush 20, 2) := by decide +kernel
theorem dX5_bears_49 : decode cX5_bears 49 = .ok (.ireturn, 1) := by decide +kernel
theorem dX5_bears_50 : decode cX5_bears 50 = .ok (.iconst 0, 1) := by decide +kernel
theorem dX5_bears_51 : decode cX5_bears 51 = .ok (.ireturn, 1) := by decide +kernel
theorem dX5_bears_52 : decode cX5_bears 52 = .ok (.bipush 30, 2) := by decide +kernel
theorem dX5_bears_54 : decode cX5_bears 54 = .ok (.ireturn, 1) := by decide +kernel
theorem dX5_falls_0 : decode cX5_falls 0 = .ok (.aload_n 0, 1) := by decide +kernel
theorem dX5_falls_1 : decode cX5_falls 1 = .ok (.iload_n 1, 1) := by decide +kernel
theorem dX5_falls_2 : decode cX5_falls 2 = .ok (.iconst 0, 1) := by decide +kernel
theorem dX5_falls_3 : decode cX5_falls 3 = .ok (.invokevirtual 98, 3) := by decide +kernel
theorem dX5_falls_6 : decode cX5_falls 6 = .ok (.tableswitch 67 1 6 #[38, 57, 60, 63, 65, 40], 38) := by decide +kernel
theorem dX5_falls_44 : decode cX5_falls 44 = .ok (.iconst 2, 1) := by decide +kernel
theorem dX5_falls_45 : decode cX5_falls 45 = .ok (.ireturn, 1) := by decide +kernel
theorem dX5_falls_46 : decode cX5_falls 46 = .ok (.aload_n 0, 1) := by decide +kernel
theorem dX5_falls_47 : decode cX5_falls 47 = .ok (.getfield 9, 3) := by decide +kernel
theorem dX5_falls_50 : decode cX5_falls 50 = .ok (.iconst 3, 1) := by decide +kernel
theorem dX5_falls_51 : decode cX5_falls 51 = .ok (.iaload, 1) := by decide +kernel
theorem dX5_falls_52 : decode cX5_falls 52 = .ok (.iconst 1, 1) := by decide +kernel
theorem dX5_falls_53 : decode cX5_falls 53 = .ok (.if_icmp .ne 8, 3) := by decide +kernel
theorem dX5_falls_56 : decode cX5_falls 56 = .ok (.bipush 8, 2) := by decide +kernel
theorem dX5_falls_58 : decode cX5_falls 58 = .ok (.goto 4, 3) := by decide +kernel
theorem dX5_falls_61 : decode cX5_falls 61 = .ok (.iconst 2, 1) := by decide +kernel
theorem dX5_falls_62 : decode cX5_falls 62 = .ok (.ireturn, 1) := by decide +kernel
theorem dX5_falls_63 : decode cX5_falls 63 = .ok (.bipush 6, 2) := by decide +kernel
theorem dX5_falls_65 : decode cX5_falls 65 = .ok (.ireturn, 1) := by decide +kernel
theorem dX5_falls_66 : decode cX5_falls 66 = .ok (.bipush 20, 2) := by decide +kernel
theorem dX5_falls_68 : decode cX5_falls 68 = .ok (.ireturn, 1) := by decide +kernel
theorem dX5_falls_69 : decode cX5_falls 69 = .ok (.iconst 5, 1) := by decide +kernel
theorem dX5_falls_70 : decode cX5_falls 70 = .ok (.ireturn, 1) := by decide +kernel
theorem dX5_falls_71 : decode cX5_falls 71 = .ok (.iconst 1, 1) := by decide +kernel
theorem dX5_falls_72 : decode cX5_falls 72 = .ok (.ireturn, 1) := by decide +kernel
theorem dX5_falls_73 : decode cX5_falls 73 = .ok (.iconst 4, 1) := by decide +kernel
theorem dX5_falls_74 : decode cX5_falls 74 = .ok (.ireturn, 1) := by decide +kernel
theorem dX5_rises_0 : decode cX5_rises 0 = .ok (.aload_n 0, 1) := by decide +kernel
theorem dX5_rises_1 : decode cX5_rises 1 = .ok (.iload_n 1, 1) := by decide +kernel
theorem dX5_rises_2 : decode cX5_rises 2 = .ok (.iconst 0, 1) := by decide +kernel
theorem dX5_rises_3 : decode cX5_rises 3 = .ok (.invokevirtual 98, 3) := by decide +kernel
theorem dX5_rises_6 : decode cX5_rises 6 = .ok (.tableswitch 45 1 6 #[38, 40, 42, 42, 38, 38], 38) := by decide +kernel
theorem dX5_rises_44 : decode cX5_rises 44 = .ok (.iconst 1, 1) := by decide +kernel
theorem dX5_rises_45 : decode cX5_rises 45 = .ok (.ireturn, 1) := by decide +kernel
theorem dX5_rises_46 : decode cX5_rises 46 = .ok (.iconst 3, 1) := by decide +kernel
theorem dX5_rises_47 : decode cX5_rises 47 = .ok (.ireturn, 1) := by decide +kernel
theorem dX5_rises_48 : decode cX5_rises 48 = .ok (.bipush 6, 2) := by decide +kernel
theorem dX5_rises_50 : decode cX5_rises 50 = .ok (.ireturn, 1) := by decide +kernel
theorem dX5_rises_51 : decode cX5_rises 51 = .ok (.iconst 2, 1) := by decide +kernel
theorem dX5_rises_52 : decode cX5_rises 52 = .ok (.ireturn, 1) := by decide +kernel
theorem dX5_told_0 : decode cX5_told 0 = .ok (.iload_n 2, 1) := by decide +kernel
theorem dX5_told_1 : decode cX5_told 1 = .ok (.tableswitch 74 6 10 #[35, 41, 56, 62, 68], 35) := by decide +kernel
theorem dX5_told_36 : decode cX5_told 36 = .ok (.aload_n 0, 1) := by decide +kernel
theorem dX5_told_37 : decode cX5_told 37 = .ok (.iload_n 1, 1) := by decide +kernel
theorem dX5_told_38 : decode cX5_told 38 = .ok (.invokevirtual 104, 3) := by decide +kernel
theorem dX5_told_41 : decode cX5_told 41 = .ok (.ireturn, 1) := by decide +kernel
theorem dX5_told_42 : decode cX5_told 42 = .ok (.aload_n 0, 1) := by decide +kernel
theorem dX5_told_43 : decode cX5_told 43 = .ok (.iload_n 1, 1) := by decide +kernel
theorem dX5_told_44 : decode cX5_told 44 = .ok (.aload_n 0, 1) := by decide +kernel
theorem dX5_told_45 : decode cX5_told 45 = .ok (.getfield 9, 3) := by decide +kernel
theorem dX5_told_48 : decode cX5_told 48 = .ok (.aload_n 0, 1) := by decide +kernel
theorem dX5_told_49 : decode cX5_told 49 = .ok (.invokevirtual 107, 3) := by decide +kernel
theorem dX5_told_52 : decode cX5_told 52 = .ok (.iaload, 1) := by decide +kernel
theorem dX5_told_53 : decode cX5_told 53 = .ok (.invokevirtual 111, 3) := by decide +kernel
theorem dX5_told_56 : decode cX5_told 56 = .ok (.ireturn, 1) := by decide +kernel
theorem dX5_told_57 : decode cX5_told 57 = .ok (.aload_n 0, 1) := by decide +kernel
theorem dX5_told_58 : decode cX5_told 58 = .ok (.iload_n 1, 1) := by decide +kernel
theorem dX5_told_59 : decode cX5_told 59 = .ok (.invokevirtual 114, 3) := by decide +kernel
theorem dX5_told_62 : decode cX5_told 62 = .ok (.ireturn, 1) := by decide +kernel
theorem dX5_told_63 : decode cX5_told 63 = .ok (.aload_n 0, 1) := by decide +kernel
theorem dX5_told_64 : decode cX5_told 64 = .ok (.iload_n 1, 1) := by decide +kernel
theorem dX5_told_65 : decode cX5_told 65 = .ok (.invokevirtual 117, 3) := by decide +kernel
theorem dX5_told_68 : decode cX5_told 68 = .ok (.ireturn, 1) := by decide +kernel
theorem dX5_told_69 : decode cX5_told 69 = .ok (.aload_n 0, 1) := by decide +kernel
theorem dX5_told_70 : decode cX5_told 70 = .ok (.iload_n 1, 1) := by decide +kernel
theorem dX5_told_71 : decode cX5_told 71 = .ok (.invokevirtual 120, 3) := by decide +kernel
theorem dX5_told_74 : decode cX5_told 74 = .ok (.ireturn, 1) := by decide +kernel
theorem dX5_told_75 : decode cX5_told 75 = .ok (.aload_n 0, 1) := by decide +kernel
theorem dX5_told_76 : decode cX5_told 76 = .ok (.iload_n 1, 1) := by decide +kernel
theorem dX5_told_77 : decode cX5_told 77 = .ok (.iload_n 2, 1) := by decide +kernel
theorem dX5_told_78 : decode cX5_told 78 = .ok (.invokevirtual 98, 3) := by decide +kernel
theorem dX5_told_81 : decode cX5_told 81 = .ok (.ireturn, 1) := by decide +kernel
theorem dX5_of_0 : decode cX5_of 0 = .ok (.aload_n 0, 1) := by decide +kernel
theorem dX5_of_1 : decode cX5_of 1 = .ok (.iload_n 1, 1) := by decide +kernel
theorem dX5_of_2 : decode cX5_of 2 = .ok (.invokevirtual 123, 3) := by decide +kernel
theorem dX5_of_5 : decode cX5_of 5 = .ok (.ifCond .eq 22, 3) := by decide +kernel
theorem dX5_of_8 : decode cX5_of 8 = .ok (.iload_n 2, 1) := by decide +kernel
theorem dX5_of_9 : decode cX5_of 9 = .ok (.iconst 0, 1) := by decide +kernel
theorem dX5_of_10 : decode cX5_of 10 = .ok (.bipush 10, 2) := by decide +kernel
theorem dX5_of_12 : decode cX5_of 12 = .ok (.invokestatic 70, 3) := by decide +kernel
theorem dX5_of_15 : decode cX5_of 15 = .ok (.ifCond .eq 12, 3) := by decide +kernel
theorem dX5_of_18 : decode cX5_of 18 = .ok (.aload_n 0, 1) := by decide +kernel
theorem dX5_of_19 : decode cX5_of 19 = .ok (.iload_n 1, 1) := by decide +kernel
theorem dX5_of_20 : decode cX5_of 20 = .ok (.iload_n 2, 1) := by decide +kernel
theorem dX5_of_21 : decode cX5_of 21 = .ok (.invokevirtual 126, 3) := by decide +kernel
theorem dX5_of_24 : decode cX5_of 24 = .ok (.goto 9, 3) := by decide +kernel
theorem dX5_of_27 : decode cX5_of 27 = .ok (.aload_n 0, 1) := by decide +kernel
theorem dX5_of_28 : decode cX5_of 28 = .ok (.ldc 60, 2) := by decide +kernel
theorem dX5_of_30 : decode cX5_of 30 = .ok (.invokevirtual 66, 3) := by decide +kernel
theorem dX5_of_33 : decode cX5_of 33 = .ok (.ireturn, 1) := by decide +kernel
end
section
theorem dX5_isField_0 : decode cX5_isField 0 = .ok (.iload_n 0, 1) := by decide +kernel
theorem dX5_isField_1 : decode cX5_isField 1 = .ok (.tableswitch 81 0 5 #[39, 44, 52, 57, 65, 72], 39) := by decide +kernel
theorem dX5_isField_40 : decode cX5_isField 40 = .ok (.iload_n 1, 1) := by decide +kernel
theorem dX5_isField_41 : decode cX5_isField 41 = .ok (.invokestatic 88, 3) := by decide +kernel
theorem dX5_isField_44 : decode cX5_isField 44 = .ok (.ireturn, 1) := by decide +kernel
theorem dX5_isField_45 : decode cX5_isField 45 = .ok (.iload_n 1, 1) := by decide +kernel
theorem dX5_isField_46 : decode cX5_isField 46 = .ok (.iconst 0, 1) := by decide +kernel
theorem dX5_isField_47 : decode cX5_isField 47 = .ok (.bipush 99, 2) := by decide +kernel
theorem dX5_isField_49 : decode cX5_isField 49 = .ok (.invokestatic 70, 3) := by decide +kernel
theorem dX5_isField_52 : decode cX5_isField 52 = .ok (.ireturn, 1) := by decide +kernel
theorem dX5_isField_53 : decode cX5_isField 53 = .ok (.iload_n 1, 1) := by decide +kernel
theorem dX5_isField_54 : decode cX5_isField 54 = .ok (.invokestatic 91, 3) := by decide +kernel
theorem dX5_isField_57 : decode cX5_isField 57 = .ok (.ireturn, 1) := by decide +kernel
theorem dX5_isField_58 : decode cX5_isField 58 = .ok (.iload_n 1, 1) := by decide +kernel
theorem dX5_isField_59 : decode cX5_isField 59 = .ok (.iconst 0, 1) := by decide +kernel
theorem dX5_isField_60 : decode cX5_isField 60 = .ok (.bipush 20, 2) := by decide +kernel
theorem dX5_isField_62 : decode cX5_isField 62 = .ok (.invokestatic 70, 3) := by decide +kernel
theorem dX5_isField_65 : decode cX5_isField 65 = .ok (.ireturn, 1) := by decide +kernel
theorem dX5_isField_66 : decode cX5_isField 66 = .ok (.iload_n 1, 1) := by decide +kernel
theorem dX5_isField_67 : decode cX5_isField 67 = .ok (.iconst 0, 1) := by decide +kernel
theorem dX5_isField_68 : decode cX5_isField 68 = .ok (.iconst 1, 1) := by decide +kernel
theorem dX5_isField_69 : decode cX5_isField 69 = .ok (.invokestatic 70, 3) := by decide +kernel
theorem dX5_isField_72 : decode cX5_isField 72 = .ok (.ireturn, 1) := by decide +kernel
theorem dX5_isField_73 : decode cX5_isField 73 = .ok (.iload_n 1, 1) := by decide +kernel
theorem dX5_isField_74 : decode cX5_isField 74 = .ok (.iconst 0, 1) := by decide +kernel
theorem dX5_isField_75 : decode cX5_isField 75 = .ok (.sipush 9999, 3) := by decide +kernel
theorem dX5_isField_78 : decode cX5_isField 78 = .ok (.invokestatic 70, 3) := by decide +kernel
theorem dX5_isField_81 : decode cX5_isField 81 = .ok (.ireturn, 1) := by decide +kernel
theorem dX5_isField_82 : decode cX5_isField 82 = .ok (.iconst 0, 1) := by decide +kernel
theorem dX5_isField_83 : decode cX5_isField 83 = .ok (.ireturn, 1) := by decide +kernel
theorem dX5_change_0 : decode cX5_change 0 = .ok (.aload_n 0, 1) := by decide +kernel
theorem dX5_change_1 : decode cX5_change 1 = .ok (.iload_n 1, 1) := by decide +kernel
theorem dX5_change_2 : decode cX5_change 2 = .ok (.invokevirtual 123, 3) := by decide +kernel
theorem dX5_change_5 : decode cX5_change 5 = .ok (.ifCond .eq 24, 3) := by decide +kernel
theorem dX5_change_8 : decode cX5_change 8 = .ok (.iload_n 2, 1) := by decide +kernel
theorem dX5_change_9 : decode cX5_change 9 = .ok (.iload_n 3, 1) := by decide +kernel
theorem dX5_change_10 : decode cX5_change 10 = .ok (.invokestatic 129, 3) := by decide +kernel
theorem dX5_change_13 : decode cX5_change 13 = .ok (.ifCond .eq 16, 3) := by decide +kernel
theorem dX5_change_16 : decode cX5_change 16 = .ok (.aload_n 0, 1) := by decide +kernel
theorem dX5_change_17 : decode cX5_change 17 = .ok (.iload_n 1, 1) := by decide +kernel
theorem dX5_change_18 : decode cX5_change 18 = .ok (.iload_n 2, 1) := by decide +kernel
theorem dX5_change_19 : decode cX5_change 19 = .ok (.invokestatic 85, 3) := by decide +kernel
theorem dX5_change_22 : decode cX5_change 22 = .ok (.iload_n 3, 1) := by decide +kernel
theorem dX5_change_23 : decode cX5_change 23 = .ok (.invokevirtual 74, 3) := by decide +kernel
theorem dX5_change_26 : decode cX5_change 26 = .ok (.goto 9, 3) := by decide +kernel
theorem dX5_change_29 : decode cX5_change 29 = .ok (.aload_n 0, 1) := by decide +kernel
theorem dX5_change_30 : decode cX5_change 30 = .ok (.ldc 60, 2) := by decide +kernel
theorem dX5_change_32 : decode cX5_change 32 = .ok (.invokevirtual 66, 3) := by decide +kernel
theorem dX5_change_35 : decode cX5_change 35 = .ok (.ireturn, 1) := by decide +kernel
theorem dX5_more_0 : decode cX5_more 0 = .ok (.aload_n 0, 1) := by decide +kernel
theorem dX5_more_1 : decode cX5_more 1 = .ok (.getfield 9, 3) := by decide +kernel
theorem dX5_more_4 : decode cX5_more 4 = .ok (.iload_n 1, 1) := by decide +kernel
theorem dX5_more_5 : decode cX5_more 5 = .ok (.iload_n 3, 1) := by decide +kernel
theorem dX5_more_6 : decode cX5_more 6 = .ok (.aload_n 0, 1) := by decide +kernel
theorem dX5_more_7 : decode cX5_more 7 = .ok (.getfield 9, 3) := by decide +kernel
theorem dX5_more_10 : decode cX5_more 10 = .ok (.iload_n 1, 1) := by decide +kernel
theorem dX5_more_11 : decode cX5_more 11 = .ok (.iaload, 1) := by decide +kernel
theorem dX5_more_12 : decode cX5_more 12 = .ok (.iload_n 2, 1) := by decide +kernel
theorem dX5_more_13 : decode cX5_more 13 = .ok (.iadd, 1) := by decide +kernel
theorem dX5_more_14 : decode cX5_more 14 = .ok (.invokestatic 133, 3) := by decide +kernel
theorem dX5_more_17 : decode cX5_more 17 = .ok (.iastore, 1) := by decide +kernel
theorem dX5_more_18 : decode cX5_more 18 = .ok (.return_, 1) := by decide +kernel
theorem dX5_less_0 : decode cX5_less 0 = .ok (.aload_n 0, 1) := by decide +kernel
theorem dX5_less_1 : decode cX5_less 1 = .ok (.getfield 9, 3) := by decide +kernel
theorem dX5_less_4 : decode cX5_less 4 = .ok (.iload_n 1, 1) := by decide +kernel
theorem dX5_less_5 : decode cX5_less 5 = .ok (.iconst 0, 1) := by decide +kernel
theorem dX5_less_6 : decode cX5_less 6 = .ok (.aload_n 0, 1) := by decide +kernel
theorem dX5_less_7 : decode cX5_less 7 = .ok (.getfield 9, 3) := by decide +kernel
theorem dX5_less_10 : decode cX5_less 10 = .ok (.iload_n 1, 1) := by decide +kernel
theorem dX5_less_11 : decode cX5_less 11 = .ok (.iaload, 1) := by decide +kernel
theorem dX5_less_12 : decode cX5_less 12 = .ok (.iload_n 2, 1) := by decide +kernel
theorem dX5_less_13 : decode cX5_less 13 = .ok (.isub, 1) := by decide +kernel
theorem dX5_less_14 : decode cX5_less 14 = .ok (.invokestatic 138, 3) := by decide +kernel
theorem dX5_less_17 : decode cX5_less 17 = .ok (.iastore, 1) := by decide +kernel
theorem dX5_less_18 : decode cX5_less 18 = .ok (.return_, 1) := by decide +kernel
theorem dX5_pulled_0 : decode cX5_pulled 0 = .ok (.aload_n 0, 1) := by decide +kernel
theorem dX5_pulled_1 : decode cX5_pulled 1 = .ok (.iload_n 1, 1) := by decide +kernel
theorem dX5_pulled_2 : decode cX5_pulled 2 = .ok (.iconst 3, 1) := by decide +kernel
theorem dX5_pulled_3 : decode cX5_pulled 3 = .ok (.invokestatic 85, 3) := by decide +kernel
theorem dX5_pulled_6 : decode cX5_pulled 6 = .ok (.iload_n 2, 1) := by decide +kernel
theorem dX5_pulled_7 : decode cX5_pulled 7 = .ok (.bipush 10, 2) := by decide +kernel
theorem dX5_pulled_9 : decode cX5_pulled 9 = .ok (.idiv, 1) := by decide +kernel
theorem dX5_pulled_10 : decode cX5_pulled 10 = .ok (.aload_n 0, 1) := by decide +kernel
theorem dX5_pulled_11 : decode cX5_pulled 11 = .ok (.iload_n 1, 1) := by decide +kernel
theorem dX5_pulled_12 : decode cX5_pulled 12 = .ok (.invokevirtual 120, 3) := by decide +kernel
theorem dX5_pulled_15 : decode cX5_pulled 15 = .ok (.iadd, 1) := by decide +kernel
theorem dX5_pulled_16 : decode cX5_pulled 16 = .ok (.bipush 20, 2) := by decide +kernel
theorem dX5_pulled_18 : decode cX5_pulled 18 = .ok (.invokevirtual 141, 3) := by decide +kernel
theorem dX5_pulled_21 : decode cX5_pulled 21 = .ok (.aload_n 0, 1) := by decide +kernel
theorem dX5_pulled_22 : decode cX5_pulled 22 = .ok (.iload_n 1, 1) := by decide +kernel
theorem dX5_pulled_23 : decode cX5_pulled 23 = .ok (.iconst 1, 1) := by decide +kernel
theorem dX5_pulled_24 : decode cX5_pulled 24 = .ok (.invokestatic 85, 3) := by decide +kernel
theorem dX5_pulled_27 : decode cX5_pulled 27 = .ok (.iload_n 2, 1) := by decide +kernel
theorem dX5_pulled_28 : decode cX5_pulled 28 = .ok (.iconst 5, 1) := by decide +kernel
theorem dX5_pulled_29 : decode cX5_pulled 29 = .ok (.idiv, 1) := by decide +kernel
theorem dX5_pulled_30 : decode cX5_pulled 30 = .ok (.invokevirtual 145, 3) := by decide +kernel
theorem dX5_pulled_33 : decode cX5_pulled 33 = .ok (.aload_n 0, 1) := by decide +kernel
theorem dX5_pulled_34 : decode cX5_pulled 34 = .ok (.iload_n 1, 1) := by decide +kernel
theorem dX5_pulled_35 : decode cX5_pulled 35 = .ok (.iconst 3, 1) := by decide +kernel
theorem dX5_pulled_36 : decode cX5_pulled 36 = .ok (.invokevirtual 98, 3) := by decide +kernel
theorem dX5_pulled_39 : decode cX5_pulled 39 = .ok (.ireturn, 1) := by decide +kernel
theorem dX5_isTied_0 : decode cX5_isTied 0 = .ok (.aload_n 0, 1) := by decide +kernel
theorem dX5_isTied_1 : decode cX5_isTied 1 = .ok (.iload_n 1, 1) := by decide +kernel
theorem dX5_isTied_2 : decode cX5_isTied 2 = .ok (.iconst 4, 1) := by decide +kernel
theorem dX5_isTied_3 : decode cX5_isTied 3 = .ok (.invokevirtual 98, 3) := by decide +kernel
theorem dX5_isTied_6 : decode cX5_isTied 6 = .ok (.iconst 1, 1) := by decide +kernel
theorem dX5_isTied_7 : decode cX5_isTied 7 = .ok (.if_icmp .ne 7, 3) := by decide +kernel
theorem dX5_isTied_10 : decode cX5_isTied 10 = .ok (.iconst 1, 1) := by decide +kernel
theorem dX5_isTied_11 : decode cX5_isTied 11 = .ok (.goto 4, 3) := by decide +kernel
theorem dX5_isTied_14 : decode cX5_isTied 14 = .ok (.iconst 0, 1) := by decide +kernel
theorem dX5_isTied_15 : decode cX5_isTied 15 = .ok (.ireturn, 1) := by decide +kernel
theorem dX5_pull_0 : decode cX5_pull 0 = .ok (.aload_n 0, 1) := by decide +kernel
theorem dX5_pull_1 : decode cX5_pull 1 = .ok (.iload_n 1, 1) := by decide +kernel
theorem dX5_pull_2 : decode cX5_pull 2 = .ok (.invokevirtual 123, 3) := by decide +kernel
theorem dX5_pull_5 : decode cX5_pull 5 = .ok (.ifCond .eq 13, 3) := by decide +kernel
theorem dX5_pull_8 : decode cX5_pull 8 = .ok (.iload_n 2, 1) := by decide +kernel
theorem dX5_pull_9 : decode cX5_pull 9 = .ok (.iconst 1, 1) := by decide +kernel
theorem dX5_pull_10 : decode cX5_pull 10 = .ok (.bipush 40, 2) := by decide +kernel
theorem dX5_pull_12 : decode cX5_pull 12 = .ok (.invokestatic 70, 3) := by decide +kernel
theorem dX5_pull_15 : decode cX5_pull 15 = .ok (.ifCond .ne 10, 3) := by decide +kernel
theorem dX5_pull_18 : decode cX5_pull 18 = .ok (.aload_n 0, 1) := by decide +kernel
theorem dX5_pull_19 : decode cX5_pull 19 = .ok (.ldc 60, 2) := by decide +kernel
theorem dX5_pull_21 : decode cX5_pull 21 = .ok (.invokevirtual 66, 3) := by decide +kernel
theorem dX5_pull_24 : decode cX5_pull 24 = .ok (.ireturn, 1) := by decide +kernel
theorem dX5_pull_25 : decode cX5_pull 25 = .ok (.aload_n 0, 1) := by decide +kernel
theorem dX5_pull_26 : decode cX5_pull 26 = .ok (.iload_n 1, 1) := by decide +kernel
theorem dX5_pull_27 : decode cX5_pull 27 = .ok (.invokevirtual 149, 3) := by decide +kernel
theorem dX5_pull_30 : decode cX5_pull 30 = .ok (.ifCond .eq 12, 3) := by decide +kernel
theorem dX5_pull_33 : decode cX5_pull 33 = .ok (.aload_n 0, 1) := by decide +kernel
theorem dX5_pull_34 : decode cX5_pull 34 = .ok (.ldc 152, 2) := by decide +kernel
theorem dX5_pull_36 : decode cX5_pull 36 = .ok (.invokevirtual 66, 3) := by decide +kernel
theorem dX5_pull_39 : decode cX5_pull 39 = .ok (.goto 9, 3) := by decide +kernel
theorem dX5_pull_42 : decode cX5_pull 42 = .ok (.aload_n 0, 1) := by decide +kernel
theorem dX5_pull_43 : decode cX5_pull 43 = .ok (.iload_n 1, 1) := by decide +kernel
theorem dX5_pull_44 : decode cX5_pull 44 = .ok (.iload_n 2, 1) := by decide +kernel
theorem dX5_pull_45 : decode cX5_pull 45 = .ok (.invokevirtual 153, 3) := by decide +kernel
theorem dX5_pull_48 : decode cX5_pull 48 = .ok (.ireturn, 1) := by decide +kernel
theorem dX5_comesDown_0 : decode cX5_comesDown 0 = .ok (.aload_n 0, 1) := by decide +kernel
theorem dX5_comesDown_1 : decode cX5_comesDown 1 = .ok (.iload_n 1, 1) := by decide +kernel
theorem dX5_comesDown_2 : decode cX5_comesDown 2 = .ok (.iconst 5, 1) := by decide +kernel
theorem dX5_comesDown_3 : decode cX5_comesDown 3 = .ok (.invokestatic 85, 3) := by decide +kernel
theorem dX5_comesDown_6 : decode cX5_comesDown 6 = .ok (.iconst 1, 1) := by decide +kernel
theorem dX5_comesDown_7 : decode cX5_comesDown 7 = .ok (.sipush 9999, 3) := by decide +kernel
theorem dX5_comesDown_10 : decode cX5_comesDown 10 = .ok (.invokevirtual 141, 3) := by decide +kernel
theorem dX5_comesDown_13 : decode cX5_comesDown 13 = .ok (.aload_n 0, 1) := by decide +kernel
theorem dX5_comesDown_14 : decode cX5_comesDown 14 = .ok (.getfield 9, 3) := by decide +kernel
theorem dX5_comesDown_17 : decode cX5_comesDown 17 = .ok (.iconst 3, 1) := by decide +kernel
theorem dX5_comesDown_18 : decode cX5_comesDown 18 = .ok (.iaload, 1) := by decide +kernel
theorem dX5_comesDown_19 : decode cX5_comesDown 19 = .ok (.iconst 1, 1) := by decide +kernel
theorem dX5_comesDown_20 : decode cX5_comesDown 20 = .ok (.if_icmp .ne 16, 3) := by decide +kernel
theorem dX5_comesDown_23 : decode cX5_comesDown 23 = .ok (.aload_n 0, 1) := by decide +kernel
theorem dX5_comesDown_24 : decode cX5_comesDown 24 = .ok (.iconst 5, 1) := by decide +kernel
theorem dX5_comesDown_25 : decode cX5_comesDown 25 = .ok (.bipush 100, 2) := by decide +kernel
theorem dX5_comesDown_27 : decode cX5_comesDown 27 = .ok (.sipush 900, 3) := by decide +kernel
theorem dX5_comesDown_30 : decode cX5_comesDown 30 = .ok (.invokevirtual 141, 3) := by decide +kernel
theorem dX5_comesDown_33 : decode cX5_comesDown 33 = .ok (.goto 24, 3) := by decide +kernel
theorem dX5_comesDown_36 : decode cX5_comesDown 36 = .ok (.aload_n 0, 1) := by decide +kernel
theorem dX5_comesDown_37 : decode cX5_comesDown 37 = .ok (.iconst 4, 1) := by decide +kernel
theorem dX5_comesDown_38 : decode cX5_comesDown 38 = .ok (.iconst 1, 1) := by decide +kernel
theorem dX5_comesDown_39 : decode cX5_comesDown 39 = .ok (.ldc 156, 2) := by decide +kernel
theorem dX5_comesDown_41 : decode cX5_comesDown 41 = .ok (.invokevirtual 141, 3) := by decide +kernel
theorem dX5_comesDown_44 : decode cX5_comesDown 44 = .ok (.aload_n 0, 1) := by decide +kernel
theorem dX5_comesDown_45 : decode cX5_comesDown 45 = .ok (.iload_n 1, 1) := by decide +kernel
theorem dX5_comesDown_46 : decode cX5_comesDown 46 = .ok (.iconst 1, 1) := by decide +kernel
theorem dX5_comesDown_47 : decode cX5_comesDown 47 = .ok (.invokestatic 85, 3) := by decide +kernel
theorem dX5_comesDown_50 : decode cX5_comesDown 50 = .ok (.bipush 25, 2) := by decide +kernel
theorem dX5_comesDown_52 : decode cX5_comesDown 52 = .ok (.bipush 99, 2) := by decide +kernel
theorem dX5_comesDown_54 : decode cX5_comesDown 54 = .ok (.invokevirtual 141, 3) := by decide +kernel
theorem dX5_comesDown_57 : decode cX5_comesDown 57 = .ok (.return_, 1) := by decide +kernel
theorem dX5_plays_0 : decode cX5_plays 0 = .ok (.aload_n 0, 1) := by decide +kernel
theorem dX5_plays_1 : decode cX5_plays 1 = .ok (.iload_n 1, 1) := by decide +kernel
theorem dX5_plays_2 : decode cX5_plays 2 = .ok (.iconst 2, 1) := by decide +kernel
theorem dX5_plays_3 : decode cX5_plays 3 = .ok (.invokevirtual 98, 3) := by decide +kernel
theorem dX5_plays_6 : decode cX5_plays 6 = .ok (.iload_n 2, 1) := by decide +kernel
theorem dX5_plays_7 : decode cX5_plays 7 = .ok (.ishr, 1) := by decide +kernel
theorem dX5_plays_8 : decode cX5_plays 8 = .ok (.iconst 1, 1) := by decide +kernel
theorem dX5_plays_9 : decode cX5_plays 9 = .ok (.iand, 1) := by decide +kernel
theorem dX5_plays_10 : decode cX5_plays 10 = .ok (.iconst 1, 1) := by decide +kernel
theorem dX5_plays_11 : decode cX5_plays 11 = .ok (.if_icmp .ne 22, 3) := by decide +kernel
theorem dX5_plays_14 : decode cX5_plays 14 = .ok (.aload_n 0, 1) := by decide +kernel
theorem dX5_plays_15 : decode cX5_plays 15 = .ok (.iload_n 1, 1) := by decide +kernel
theorem dX5_plays_16 : decode cX5_plays 16 = .ok (.iconst 1, 1) := by decide +kernel
theorem dX5_plays_17 : decode cX5_plays 17 = .ok (.invokestatic 85, 3) := by decide +kernel
theorem dX5_plays_20 : decode cX5_plays 20 = .ok (.aload_n 0, 1) := by decide +kernel
theorem dX5_plays_21 : decode cX5_plays 21 = .ok (.iload_n 1, 1) := by decide +kernel
theorem dX5_plays_22 : decode cX5_plays 22 = .ok (.invokevirtual 104, 3) := by decide +kernel
theorem dX5_plays_25 : decode cX5_plays 25 = .ok (.bipush 99, 2) := by decide +kernel
theorem dX5_plays_27 : decode cX5_plays 27 = .ok (.invokevirtual 141, 3) := by decide +kernel
theorem dX5_plays_30 : decode cX5_plays 30 = .ok (.goto 18, 3) := by decide +kernel
theorem dX5_plays_33 : decode cX5_plays 33 = .ok (.aload_n 0, 1) := by decide +kernel
theorem dX5_plays_34 : decode cX5_plays 34 = .ok (.iload_n 1, 1) := by decide +kernel
theorem dX5_plays_35 : decode cX5_plays 35 = .ok (.iconst 1, 1) := by decide +kernel
theorem dX5_plays_36 : decode cX5_plays 36 = .ok (.invokestatic 85, 3) := by decide +kernel
theorem dX5_plays_39 : decode cX5_plays 39 = .ok (.aload_n 0, 1) := by decide +kernel
theorem dX5_plays_40 : decode cX5_plays 40 = .ok (.iload_n 1, 1) := by decide +kernel
theorem dX5_plays_41 : decode cX5_plays 41 = .ok (.iload_n 2, 1) := by decide +kernel
theorem dX5_plays_42 : decode cX5_plays 42 = .ok (.invokevirtual 111, 3) := by decide +kernel
theorem dX5_plays_45 : decode cX5_plays 45 = .ok (.invokevirtual 145, 3) := by decide +kernel
theorem dX5_plays_48 : decode cX5_plays 48 = .ok (.aload_n 0, 1) := by decide +kernel
theorem dX5_plays_49 : decode cX5_plays 49 = .ok (.iload_n 1, 1) := by decide +kernel
theorem dX5_plays_50 : decode cX5_plays 50 = .ok (.invokevirtual 149, 3) := by decide +kernel
theorem dX5_plays_53 : decode cX5_plays 53 = .ok (.ifCond .ne 85, 3) := by decide +kernel
theorem dX5_plays_56 : decode cX5_plays 56 = .ok (.aload_n 0, 1) := by decide +kernel
theorem dX5_plays_57 : decode cX5_plays 57 = .ok (.iload_n 1, 1) := by decide +kernel
theorem dX5_plays_58 : decode cX5_plays 58 = .ok (.iconst 3, 1) := by decide +kernel
theorem dX5_plays_59 : decode cX5_plays 59 = .ok (.invokevirtual 98, 3) := by decide +kernel
theorem dX5_plays_62 : decode cX5_plays 62 = .ok (.istore_n 3, 1) := by decide +kernel
theorem dX5_plays_63 : decode cX5_plays 63 = .ok (.aload_n 0, 1) := by decide +kernel
theorem dX5_plays_64 : decode cX5_plays 64 = .ok (.getfield 9, 3) := by decide +kernel
theorem dX5_plays_67 : decode cX5_plays 67 = .ok (.iconst 3, 1) := by decide +kernel
theorem dX5_plays_68 : decode cX5_plays 68 = .ok (.iaload, 1) := by decide +kernel
theorem dX5_plays_69 : decode cX5_plays 69 = .ok (.iconst 1, 1) := by decide +kernel
theorem dX5_plays_70 : decode cX5_plays 70 = .ok (.if_icmp .eq 17, 3) := by decide +kernel
theorem dX5_plays_73 : decode cX5_plays 73 = .ok (.aload_n 0, 1) := by decide +kernel
theorem dX5_plays_74 : decode cX5_plays 74 = .ok (.iload_n 1, 1) := by decide +kernel
theorem dX5_plays_75 : decode cX5_plays 75 = .ok (.iconst 1, 1) := by decide +kernel
theorem dX5_plays_76 : decode cX5_plays 76 = .ok (.invokevirtual 98, 3) := by decide +kernel
theorem dX5_plays_79 : decode cX5_plays 79 = .ok (.aload_n 0, 1) := by decide +kernel
theorem dX5_plays_80 : decode cX5_plays 80 = .ok (.iload_n 1, 1) := by decide +kernel
theorem dX5_plays_81 : decode cX5_plays 81 = .ok (.invokevirtual 114, 3) := by decide +kernel
theorem dX5_plays_84 : decode cX5_plays 84 = .ok (.if_icmp .ge 20, 3) := by decide +kernel
theorem dX5_plays_87 : decode cX5_plays 87 = .ok (.aload_n 0, 1) := by decide +kernel
theorem dX5_plays_88 : decode cX5_plays 88 = .ok (.iload_n 1, 1) := by decide +kernel
theorem dX5_plays_89 : decode cX5_plays 89 = .ok (.iconst 3, 1) := by decide +kernel
theorem dX5_plays_90 : decode cX5_plays 90 = .ok (.invokestatic 85, 3) := by decide +kernel
theorem dX5_plays_93 : decode cX5_plays 93 = .ok (.aload_n 0, 1) := by decide +kernel
theorem dX5_plays_94 : decode cX5_plays 94 = .ok (.iload_n 1, 1) := by decide +kernel
theorem dX5_plays_95 : decode cX5_plays 95 = .ok (.invokevirtual 117, 3) := by decide +kernel
theorem dX5_plays_98 : decode cX5_plays 98 = .ok (.invokevirtual 145, 3) := by decide +kernel
theorem dX5_plays_101 : decode cX5_plays 101 = .ok (.goto 19, 3) := by decide +kernel
theorem dX5_plays_104 : decode cX5_plays 104 = .ok (.aload_n 0, 1) := by decide +kernel
theorem dX5_plays_105 : decode cX5_plays 105 = .ok (.iload_n 1, 1) := by decide +kernel
theorem dX5_plays_106 : decode cX5_plays 106 = .ok (.iconst 3, 1) := by decide +kernel
theorem dX5_plays_107 : decode cX5_plays 107 = .ok (.invokestatic 85, 3) := by decide +kernel
theorem dX5_plays_110 : decode cX5_plays 110 = .ok (.aload_n 0, 1) := by decide +kernel
theorem dX5_plays_111 : decode cX5_plays 111 = .ok (.iload_n 1, 1) := by decide +kernel
theorem dX5_plays_112 : decode cX5_plays 112 = .ok (.invokevirtual 120, 3) := by decide +kernel
theorem dX5_plays_115 : decode cX5_plays 115 = .ok (.bipush 20, 2) := by decide +kernel
theorem dX5_plays_117 : decode cX5_plays 117 = .ok (.invokevirtual 141, 3) := by decide +kernel
theorem dX5_plays_120 : decode cX5_plays 120 = .ok (.iload_n 3, 1) := by decide +kernel
theorem dX5_plays_121 : decode cX5_plays 121 = .ok (.ifCond .le 17, 3) := by decide +kernel
theorem dX5_plays_124 : decode cX5_plays 124 = .ok (.aload_n 0, 1) := by decide +kernel
theorem dX5_plays_125 : decode cX5_plays 125 = .ok (.iload_n 1, 1) := by decide +kernel
theorem dX5_plays_126 : decode cX5_plays 126 = .ok (.iconst 3, 1) := by decide +kernel
theorem dX5_plays_127 : decode cX5_plays 127 = .ok (.invokevirtual 98, 3) := by decide +kernel
theorem dX5_plays_130 : decode cX5_plays 130 = .ok (.ifCond .ne 8, 3) := by decide +kernel
theorem dX5_plays_133 : decode cX5_plays 133 = .ok (.aload_n 0, 1) := by decide +kernel
theorem dX5_plays_134 : decode cX5_plays 134 = .ok (.iload_n 1, 1) := by decide +kernel
theorem dX5_plays_135 : decode cX5_plays 135 = .ok (.invokevirtual 157, 3) := by decide +kernel
theorem dX5_plays_138 : decode cX5_plays 138 = .ok (.return_, 1) := by decide +kernel
theorem dX5_beat_0 : decode cX5_beat 0 = .ok (.aload_n 0, 1) := by decide +kernel
theorem dX5_beat_1 : decode cX5_beat 1 = .ok (.getfield 9, 3) := by decide +kernel
theorem dX5_beat_4 : decode cX5_beat 4 = .ok (.aload_n 0, 1) := by decide +kernel
theorem dX5_beat_5 : decode cX5_beat 5 = .ok (.invokevirtual 107, 3) := by decide +kernel
theorem dX5_beat_8 : decode cX5_beat 8 = .ok (.iaload, 1) := by decide +kernel
theorem dX5_beat_9 : decode cX5_beat 9 = .ok (.istore_n 1, 1) := by decide +kernel
theorem dX5_beat_10 : decode cX5_beat 10 = .ok (.iconst 0, 1) := by decide +kernel
theorem dX5_beat_11 : decode cX5_beat 11 = .ok (.istore_n 2, 1) := by decide +kernel
theorem dX5_beat_12 : decode cX5_beat 12 = .ok (.iload_n 2, 1) := by decide +kernel
theorem dX5_beat_13 : decode cX5_beat 13 = .ok (.aload_n 0, 1) := by decide +kernel
theorem dX5_beat_14 : decode cX5_beat 14 = .ok (.getfield 9, 3) := by decide +kernel
theorem dX5_beat_17 : decode cX5_beat 17 = .ok (.iconst 1, 1) := by decide +kernel
theorem dX5_beat_18 : decode cX5_beat 18 = .ok (.iaload, 1) := by decide +kernel
theorem dX5_beat_19 : decode cX5_beat 19 = .ok (.if_icmp .ge 15, 3) := by decide +kernel
theorem dX5_beat_22 : decode cX5_beat 22 = .ok (.aload_n 0, 1) := by decide +kernel
theorem dX5_beat_23 : decode cX5_beat 23 = .ok (.iload_n 2, 1) := by decide +kernel
theorem dX5_beat_24 : decode cX5_beat 24 = .ok (.iload_n 1, 1) := by decide +kernel
theorem dX5_beat_25 : decode cX5_beat 25 = .ok (.invokevirtual 161, 3) := by decide +kernel
theorem dX5_beat_28 : decode cX5_beat 28 = .ok (.iinc 2 1, 3) := by decide +kernel
theorem dX5_beat_31 : decode cX5_beat 31 = .ok (.goto (-19), 3) := by decide +kernel
theorem dX5_beat_34 : decode cX5_beat 34 = .ok (.aload_n 0, 1) := by decide +kernel
theorem dX5_beat_35 : decode cX5_beat 35 = .ok (.iconst 0, 1) := by decide +kernel
theorem dX5_beat_36 : decode cX5_beat 36 = .ok (.iconst 1, 1) := by decide +kernel
theorem dX5_beat_37 : decode cX5_beat 37 = .ok (.ldc 156, 2) := by decide +kernel
theorem dX5_beat_39 : decode cX5_beat 39 = .ok (.invokevirtual 141, 3) := by decide +kernel
theorem dX5_beat_42 : decode cX5_beat 42 = .ok (.return_, 1) := by decide +kernel
theorem dX5_beatsGo_0 : decode cX5_beatsGo 0 = .ok (.iconst 0, 1) := by decide +kernel
theorem dX5_beatsGo_1 : decode cX5_beatsGo 1 = .ok (.istore_n 2, 1) := by decide +kernel
theorem dX5_beatsGo_2 : decode cX5_beatsGo 2 = .ok (.iload_n 2, 1) := by decide +kernel
theorem dX5_beatsGo_3 : decode cX5_beatsGo 3 = .ok (.iload_n 1, 1) := by decide +kernel
theorem dX5_beatsGo_4 : decode cX5_beatsGo 4 = .ok (.if_icmp .ge 13, 3) := by decide +kernel
theorem dX5_beatsGo_7 : decode cX5_beatsGo 7 = .ok (.aload_n 0, 1) := by decide +kernel
theorem dX5_beatsGo_8 : decode cX5_beatsGo 8 = .ok (.invokevirtual 164, 3) := by decide +kernel
theorem dX5_beatsGo_11 : decode cX5_beatsGo 11 = .ok (.iinc 2 1, 3) := by decide +kernel
theorem dX5_beatsGo_14 : decode cX5_beatsGo 14 = .ok (.goto (-12), 3) := by decide +kernel
theorem dX5_beatsGo_17 : decode cX5_beatsGo 17 = .ok (.return_, 1) := by decide +kernel
theorem dX5_go_0 : decode cX5_go 0 = .ok (.iload_n 1, 1) := by decide +kernel
theorem dX5_go_1 : decode cX5_go 1 = .ok (.iconst 1, 1) := by decide +kernel
theorem dX5_go_2 : decode cX5_go 2 = .ok (.bipush 60, 2) := by decide +kernel
theorem dX5_go_4 : decode cX5_go 4 = .ok (.invokestatic 70, 3) := by decide +kernel
theorem dX5_go_7 : decode cX5_go 7 = .ok (.ifCond .ne 10, 3) := by decide +kernel
theorem dX5_go_10 : decode cX5_go 10 = .ok (.aload_n 0, 1) := by decide +kernel
theorem dX5_go_11 : decode cX5_go 11 = .ok (.ldc 60, 2) := by decide +kernel
theorem dX5_go_13 : decode cX5_go 13 = .ok (.invokevirtual 66, 3) := by decide +kernel
theorem dX5_go_16 : decode cX5_go 16 = .ok (.ireturn, 1) := by decide +kernel
theorem dX5_go_17 : decode cX5_go 17 = .ok (.aload_n 0, 1) := by decide +kernel
theorem dX5_go_18 : decode cX5_go 18 = .ok (.getfield 9, 3) := by decide +kernel
theorem dX5_go_21 : decode cX5_go 21 = .ok (.iconst 0, 1) := by decide +kernel
theorem dX5_go_22 : decode cX5_go 22 = .ok (.iaload, 1) := by decide +kernel
theorem dX5_go_23 : decode cX5_go 23 = .ok (.iload_n 1, 1) := by decide +kernel
theorem dX5_go_24 : decode cX5_go 24 = .ok (.iadd, 1) := by decide +kernel
theorem dX5_go_25 : decode cX5_go 25 = .ok (.ldc 156, 2) := by decide +kernel
theorem dX5_go_27 : decode cX5_go 27 = .ok (.if_icmp .le 10, 3) := by decide +kernel
theorem dX5_go_30 : decode cX5_go 30 = .ok (.aload_n 0, 1) := by decide +kernel
theorem dX5_go_31 : decode cX5_go 31 = .ok (.ldc 152, 2) := by decide +kernel
theorem dX5_go_33 : decode cX5_go 33 = .ok (.invokevirtual 66, 3) := by decide +kernel
theorem dX5_go_36 : decode cX5_go 36 = .ok (.ireturn, 1) := by decide +kernel
theorem dX5_go_37 : decode cX5_go 37 = .ok (.aload_n 0, 1) := by decide +kernel
theorem dX5_go_38 : decode cX5_go 38 = .ok (.iload_n 1, 1) := by decide +kernel
theorem dX5_go_39 : decode cX5_go 39 = .ok (.invokevirtual 167, 3) := by decide +kernel
theorem dX5_go_42 : decode cX5_go 42 = .ok (.aload_n 0, 1) := by decide +kernel
theorem dX5_go_43 : decode cX5_go 43 = .ok (.getfield 9, 3) := by decide +kernel
theorem dX5_go_46 : decode cX5_go 46 = .ok (.iconst 4, 1) := by decide +kernel
theorem dX5_go_47 : decode cX5_go 47 = .ok (.iaload, 1) := by decide +kernel
theorem dX5_go_48 : decode cX5_go 48 = .ok (.ireturn, 1) := by decide +kernel
theorem dX5_downOnes_0 : decode cX5_downOnes 0 = .ok (.iconst 0, 1) := by decide +kernel
theorem dX5_downOnes_1 : decode cX5_downOnes 1 = .ok (.istore_n 1, 1) := by decide +kernel
theorem dX5_downOnes_2 : decode cX5_downOnes 2 = .ok (.iconst 0, 1) := by decide +kernel
theorem dX5_downOnes_3 : decode cX5_downOnes 3 = .ok (.istore_n 2, 1) := by decide +kernel
theorem dX5_downOnes_4 : decode cX5_downOnes 4 = .ok (.iload_n 2, 1) := by decide +kernel
theorem dX5_downOnes_5 : decode cX5_downOnes 5 = .ok (.aload_n 0, 1) := by decide +kernel
theorem dX5_downOnes_6 : decode cX5_downOnes 6 = .ok (.getfield 9, 3) := by decide +kernel
theorem dX5_downOnes_9 : decode cX5_downOnes 9 = .ok (.iconst 1, 1) := by decide +kernel
theorem dX5_downOnes_10 : decode cX5_downOnes 10 = .ok (.iaload, 1) := by decide +kernel
theorem dX5_downOnes_11 : decode cX5_downOnes 11 = .ok (.if_icmp .ge 28, 3) := by decide +kernel
theorem dX5_downOnes_14 : decode cX5_downOnes 14 = .ok (.iload_n 1, 1) := by decide +kernel
theorem dX5_downOnes_15 : decode cX5_downOnes 15 = .ok (.aload_n 0, 1) := by decide +kernel
theorem dX5_downOnes_16 : decode cX5_downOnes 16 = .ok (.iload_n 2, 1) := by decide +kernel
theorem dX5_downOnes_17 : decode cX5_downOnes 17 = .ok (.iconst 3, 1) := by decide +kernel
theorem dX5_downOnes_18 : decode cX5_downOnes 18 = .ok (.invokevirtual 98, 3) := by decide +kernel
theorem dX5_downOnes_21 : decode cX5_downOnes 21 = .ok (.ifCond .ne 9, 3) := by decide +kernel
theorem dX5_downOnes_24 : decode cX5_downOnes 24 = .ok (.iconst 1, 1) := by decide +kernel
theorem dX5_downOnes_25 : decode cX5_downOnes 25 = .ok (.iload_n 2, 1) := by decide +kernel
theorem dX5_downOnes_26 : decode cX5_downOnes 26 = .ok (.ishl, 1) := by decide +kernel
theorem dX5_downOnes_27 : decode cX5_downOnes 27 = .ok (.goto 4, 3) := by decide +kernel
theorem dX5_downOnes_30 : decode cX5_downOnes 30 = .ok (.iconst 0, 1) := by decide +kernel
theorem dX5_downOnes_31 : decode cX5_downOnes 31 = .ok (.ior, 1) := by decide +kernel
theorem dX5_downOnes_32 : decode cX5_downOnes 32 = .ok (.istore_n 1, 1) := by decide +kernel
theorem dX5_downOnes_33 : decode cX5_downOnes 33 = .ok (.iinc 2 1, 3) := by decide +kernel
theorem dX5_downOnes_36 : decode cX5_downOnes 36 = .ok (.goto (-32), 3) := by decide +kernel
theorem dX5_downOnes_39 : decode cX5_downOnes 39 = .ok (.iload_n 1, 1) := by decide +kernel
theorem dX5_downOnes_40 : decode cX5_downOnes 40 = .ok (.ireturn, 1) := by decide +kernel
theorem dX5_wearyOnes_0 : decode cX5_wearyOnes 0 = .ok (.iconst 0, 1) := by decide +kernel
theorem dX5_wearyOnes_1 : decode cX5_wearyOnes 1 = .ok (.istore_n 1, 1) := by decide +kernel
theorem dX5_wearyOnes_2 : decode cX5_wearyOnes 2 = .ok (.iconst 0, 1) := by decide +kernel
theorem dX5_wearyOnes_3 : decode cX5_wearyOnes 3 = .ok (.istore_n 2, 1) := by decide +kernel
theorem dX5_wearyOnes_4 : decode cX5_wearyOnes 4 = .ok (.iload_n 2, 1) := by decide +kernel
theorem dX5_wearyOnes_5 : decode cX5_wearyOnes 5 = .ok (.aload_n 0, 1) := by decide +kernel
theorem dX5_wearyOnes_6 : decode cX5_wearyOnes 6 = .ok (.getfield 9, 3) := by decide +kernel
theorem dX5_wearyOnes_9 : decode cX5_wearyOnes 9 = .ok (.iconst 1, 1) := by decide +kernel
theorem dX5_wearyOnes_10 : decode cX5_wearyOnes 10 = .ok (.iaload, 1) := by decide +kernel
theorem dX5_wearyOnes_11 : decode cX5_wearyOnes 11 = .ok (.if_icmp .ge 33, 3) := by decide +kernel
theorem dX5_wearyOnes_14 : decode cX5_wearyOnes 14 = .ok (.iload_n 1, 1) := by decide +kernel
theorem dX5_wearyOnes_15 : decode cX5_wearyOnes 15 = .ok (.aload_n 0, 1) := by decide +kernel
theorem dX5_wearyOnes_16 : decode cX5_wearyOnes 16 = .ok (.iload_n 2, 1) := by decide +kernel
theorem dX5_wearyOnes_17 : decode cX5_wearyOnes 17 = .ok (.iconst 1, 1) := by decide +kernel
theorem dX5_wearyOnes_18 : decode cX5_wearyOnes 18 = .ok (.invokevirtual 98, 3) := by decide +kernel
theorem dX5_wearyOnes_21 : decode cX5_wearyOnes 21 = .ok (.aload_n 0, 1) := by decide +kernel
theorem dX5_wearyOnes_22 : decode cX5_wearyOnes 22 = .ok (.iload_n 2, 1) := by decide +kernel
theorem dX5_wearyOnes_23 : decode cX5_wearyOnes 23 = .ok (.invokevirtual 114, 3) := by decide +kernel
theorem dX5_wearyOnes_26 : decode cX5_wearyOnes 26 = .ok (.if_icmp .ge 9, 3) := by decide +kernel
theorem dX5_wearyOnes_29 : decode cX5_wearyOnes 29 = .ok (.iconst 1, 1) := by decide +kernel
theorem dX5_wearyOnes_30 : decode cX5_wearyOnes 30 = .ok (.iload_n 2, 1) := by decide +kernel
theorem dX5_wearyOnes_31 : decode cX5_wearyOnes 31 = .ok (.ishl, 1) := by decide +kernel
theorem dX5_wearyOnes_32 : decode cX5_wearyOnes 32 = .ok (.goto 4, 3) := by decide +kernel
theorem dX5_wearyOnes_35 : decode cX5_wearyOnes 35 = .ok (.iconst 0, 1) := by decide +kernel
theorem dX5_wearyOnes_36 : decode cX5_wearyOnes 36 = .ok (.ior, 1) := by decide +kernel
theorem dX5_wearyOnes_37 : decode cX5_wearyOnes 37 = .ok (.istore_n 1, 1) := by decide +kernel
theorem dX5_wearyOnes_38 : decode cX5_wearyOnes 38 = .ok (.iinc 2 1, 3) := by decide +kernel
theorem dX5_wearyOnes_41 : decode cX5_wearyOnes 41 = .ok (.goto (-37), 3) := by decide +kernel
theorem dX5_wearyOnes_44 : decode cX5_wearyOnes 44 = .ok (.iload_n 1, 1) := by decide +kernel
theorem dX5_wearyOnes_45 : decode cX5_wearyOnes 45 = .ok (.ireturn, 1) := by decide +kernel
theorem dX5_moods_0 : decode cX5_moods 0 = .ok (.iconst 0, 1) := by decide +kernel
theorem dX5_moods_1 : decode cX5_moods 1 = .ok (.istore_n 1, 1) := by decide +kernel
theorem dX5_moods_2 : decode cX5_moods 2 = .ok (.iconst 0, 1) := by decide +kernel
theorem dX5_moods_3 : decode cX5_moods 3 = .ok (.istore_n 2, 1) := by decide +kernel
theorem dX5_moods_4 : decode cX5_moods 4 = .ok (.iload_n 2, 1) := by decide +kernel
theorem dX5_moods_5 : decode cX5_moods 5 = .ok (.aload_n 0, 1) := by decide +kernel
theorem dX5_moods_6 : decode cX5_moods 6 = .ok (.getfield 9, 3) := by decide +kernel
theorem dX5_moods_9 : decode cX5_moods 9 = .ok (.iconst 1, 1) := by decide +kernel
theorem dX5_moods_10 : decode cX5_moods 10 = .ok (.iaload, 1) := by decide +kernel
theorem dX5_moods_11 : decode cX5_moods 11 = .ok (.if_icmp .ge 18, 3) := by decide +kernel
theorem dX5_moods_14 : decode cX5_moods 14 = .ok (.iload_n 1, 1) := by decide +kernel
theorem dX5_moods_15 : decode cX5_moods 15 = .ok (.aload_n 0, 1) := by decide +kernel
theorem dX5_moods_16 : decode cX5_moods 16 = .ok (.iload_n 2, 1) := by decide +kernel
theorem dX5_moods_17 : decode cX5_moods 17 = .ok (.iconst 1, 1) := by decide +kernel
theorem dX5_moods_18 : decode cX5_moods 18 = .ok (.invokevirtual 98, 3) := by decide +kernel
theorem dX5_moods_21 : decode cX5_moods 21 = .ok (.iadd, 1) := by decide +kernel
theorem dX5_moods_22 : decode cX5_moods 22 = .ok (.istore_n 1, 1) := by decide +kernel
theorem dX5_moods_23 : decode cX5_moods 23 = .ok (.iinc 2 1, 3) := by decide +kernel
theorem dX5_moods_26 : decode cX5_moods 26 = .ok (.goto (-22), 3) := by decide +kernel
theorem dX5_moods_29 : decode cX5_moods 29 = .ok (.iload_n 1, 1) := by decide +kernel
theorem dX5_moods_30 : decode cX5_moods 30 = .ok (.ireturn, 1) := by decide +kernel
theorem dX5_liked_0 : decode cX5_liked 0 = .ok (.iconst 0, 1) := by decide +kernel
theorem dX5_liked_1 : decode cX5_liked 1 = .ok (.istore_n 1, 1) := by decide +kernel
theorem dX5_liked_2 : decode cX5_liked 2 = .ok (.iconst 0, 1) := by decide +kernel
theorem dX5_liked_3 : decode cX5_liked 3 = .ok (.istore_n 2, 1) := by decide +kernel
theorem dX5_liked_4 : decode cX5_liked 4 = .ok (.iload_n 2, 1) := by decide +kernel
theorem dX5_liked_5 : decode cX5_liked 5 = .ok (.aload_n 0, 1) := by decide +kernel
theorem dX5_liked_6 : decode cX5_liked 6 = .ok (.getfield 9, 3) := by decide +kernel
theorem dX5_liked_9 : decode cX5_liked 9 = .ok (.iconst 1, 1) := by decide +kernel
theorem dX5_liked_10 : decode cX5_liked 10 = .ok (.iaload, 1) := by decide +kernel
theorem dX5_liked_11 : decode cX5_liked 11 = .ok (.if_icmp .ge 18, 3) := by decide +kernel
theorem dX5_liked_14 : decode cX5_liked 14 = .ok (.iload_n 1, 1) := by decide +kernel
theorem dX5_liked_15 : decode cX5_liked 15 = .ok (.aload_n 0, 1) := by decide +kernel
theorem dX5_liked_16 : decode cX5_liked 16 = .ok (.iload_n 2, 1) := by decide +kernel
theorem dX5_liked_17 : decode cX5_liked 17 = .ok (.iconst 2, 1) := by decide +kernel
theorem dX5_liked_18 : decode cX5_liked 18 = .ok (.invokevirtual 98, 3) := by decide +kernel
theorem dX5_liked_21 : decode cX5_liked 21 = .ok (.ior, 1) := by decide +kernel
theorem dX5_liked_22 : decode cX5_liked 22 = .ok (.istore_n 1, 1) := by decide +kernel
theorem dX5_liked_23 : decode cX5_liked 23 = .ok (.iinc 2 1, 3) := by decide +kernel
theorem dX5_liked_26 : decode cX5_liked 26 = .ok (.goto (-22), 3) := by decide +kernel
theorem dX5_liked_29 : decode cX5_liked 29 = .ok (.iload_n 1, 1) := by decide +kernel
theorem dX5_liked_30 : decode cX5_liked 30 = .ok (.ireturn, 1) := by decide +kernel
theorem dX5_now_0 : decode cX5_now 0 = .ok (.iload_n 1, 1) := by decide +kernel
theorem dX5_now_1 : decode cX5_now 1 = .ok (.tableswitch 95 0 7 #[47, 54, 61, 68, 73, 78, 83, 88], 47) := by decide +kernel
theorem dX5_now_48 : decode cX5_now 48 = .ok (.aload_n 0, 1) := by decide +kernel
theorem dX5_now_49 : decode cX5_now 49 = .ok (.getfield 9, 3) := by decide +kernel
theorem dX5_now_52 : decode cX5_now 52 = .ok (.iconst 0, 1) := by decide +kernel
theorem dX5_now_53 : decode cX5_now 53 = .ok (.iaload, 1) := by decide +kernel
theorem dX5_now_54 : decode cX5_now 54 = .ok (.ireturn, 1) := by decide +kernel
theorem dX5_now_55 : decode cX5_now 55 = .ok (.aload_n 0, 1) := by decide +kernel
theorem dX5_now_56 : decode cX5_now 56 = .ok (.getfield 9, 3) := by decide +kernel
theorem dX5_now_59 : decode cX5_now 59 = .ok (.iconst 4, 1) := by decide +kernel
theorem dX5_now_60 : decode cX5_now 60 = .ok (.iaload, 1) := by decide +kernel
theorem dX5_now_61 : decode cX5_now 61 = .ok (.ireturn, 1) := by decide +kernel
theorem dX5_now_62 : decode cX5_now 62 = .ok (.aload_n 0, 1) := by decide +kernel
theorem dX5_now_63 : decode cX5_now 63 = .ok (.getfield 9, 3) := by decide +kernel
theorem dX5_now_66 : decode cX5_now 66 = .ok (.iconst 5, 1) := by decide +kernel
theorem dX5_now_67 : decode cX5_now 67 = .ok (.iaload, 1) := by decide +kernel
theorem dX5_now_68 : decode cX5_now 68 = .ok (.ireturn, 1) := by decide +kernel
theorem dX5_now_69 : decode cX5_now 69 = .ok (.aload_n 0, 1) := by decide +kernel
theorem dX5_now_70 : decode cX5_now 70 = .ok (.invokevirtual 170, 3) := by decide +kernel
theorem dX5_now_73 : decode cX5_now 73 = .ok (.ireturn, 1) := by decide +kernel
theorem dX5_now_74 : decode cX5_now 74 = .ok (.aload_n 0, 1) := by decide +kernel
theorem dX5_now_75 : decode cX5_now 75 = .ok (.invokevirtual 173, 3) := by decide +kernel
theorem dX5_now_78 : decode cX5_now 78 = .ok (.ireturn, 1) := by decide +kernel
theorem dX5_now_79 : decode cX5_now 79 = .ok (.aload_n 0, 1) := by decide +kernel
theorem dX5_now_80 : decode cX5_now 80 = .ok (.invokevirtual 176, 3) := by decide +kernel
theorem dX5_now_83 : decode cX5_now 83 = .ok (.ireturn, 1) := by decide +kernel
theorem dX5_now_84 : decode cX5_now 84 = .ok (.aload_n 0, 1) := by decide +kernel
theorem dX5_now_85 : decode cX5_now 85 = .ok (.invokevirtual 179, 3) := by decide +kernel
theorem dX5_now_88 : decode cX5_now 88 = .ok (.ireturn, 1) := by decide +kernel
theorem dX5_now_89 : decode cX5_now 89 = .ok (.aload_n 0, 1) := by decide +kernel
theorem dX5_now_90 : decode cX5_now 90 = .ok (.getfield 9, 3) := by decide +kernel
theorem dX5_now_93 : decode cX5_now 93 = .ok (.iconst 3, 1) := by decide +kernel
theorem dX5_now_94 : decode cX5_now 94 = .ok (.iaload, 1) := by decide +kernel
theorem dX5_now_95 : decode cX5_now 95 = .ok (.ireturn, 1) := by decide +kernel
theorem dX5_now_96 : decode cX5_now 96 = .ok (.aload_n 0, 1) := by decide +kernel
theorem dX5_now_97 : decode cX5_now 97 = .ok (.ldc 60, 2) := by decide +kernel
theorem dX5_now_99 : decode cX5_now 99 = .ok (.invokevirtual 66, 3) := by decide +kernel
theorem dX5_now_102 : decode cX5_now 102 = .ok (.ireturn, 1) := by decide +kernel
theorem dX5_behind_0 : decode cX5_behind 0 = .ok (.aload_n 0, 1) := by decide +kernel
theorem dX5_behind_1 : decode cX5_behind 1 = .ok (.getfield 9, 3) := by decide +kernel
theorem dX5_behind_4 : decode cX5_behind 4 = .ok (.aload_n 0, 1) := by decide +kernel
theorem dX5_behind_5 : decode cX5_behind 5 = .ok (.getfield 16, 3) := by decide +kernel
theorem dX5_behind_8 : decode cX5_behind 8 = .ok (.invokestatic 61, 3) := by decide +kernel
theorem dX5_behind_11 : decode cX5_behind 11 = .ok (.aload_n 0, 1) := by decide +kernel
theorem dX5_behind_12 : decode cX5_behind 12 = .ok (.iload_n 2, 1) := by decide +kernel
theorem dX5_behind_13 : decode cX5_behind 13 = .ok (.invokevirtual 167, 3) := by decide +kernel
theorem dX5_behind_16 : decode cX5_behind 16 = .ok (.aload_n 0, 1) := by decide +kernel
theorem dX5_behind_17 : decode cX5_behind 17 = .ok (.aload_n 0, 1) := by decide +kernel
theorem dX5_behind_18 : decode cX5_behind 18 = .ok (.getfield 9, 3) := by decide +kernel
theorem dX5_behind_21 : decode cX5_behind 21 = .ok (.iload_n 1, 1) := by decide +kernel
theorem dX5_behind_22 : decode cX5_behind 22 = .ok (.iaload, 1) := by decide +kernel
theorem dX5_behind_23 : decode cX5_behind 23 = .ok (.invokevirtual 182, 3) := by decide +kernel
theorem dX5_behind_26 : decode cX5_behind 26 = .ok (.ireturn, 1) := by decide +kernel
theorem dX5_ahead_0 : decode cX5_ahead 0 = .ok (.iload_n 2, 1) := by decide +kernel
theorem dX5_ahead_1 : decode cX5_ahead 1 = .ok (.iconst 1, 1) := by decide +kernel
theorem dX5_ahead_2 : decode cX5_ahead 2 = .ok (.if_icmp .eq 19, 3) := by decide +kernel
theorem dX5_ahead_5 : decode cX5_ahead 5 = .ok (.iload_n 2, 1) := by decide +kernel
theorem dX5_ahead_6 : decode cX5_ahead 6 = .ok (.iconst 3, 1) := by decide +kernel
theorem dX5_ahead_7 : decode cX5_ahead 7 = .ok (.if_icmp .eq 14, 3) := by decide +kernel
theorem dX5_ahead_10 : decode cX5_ahead 10 = .ok (.iload_n 2, 1) := by decide +kernel
theorem dX5_ahead_11 : decode cX5_ahead 11 = .ok (.iconst 5, 1) := by decide +kernel
theorem dX5_ahead_12 : decode cX5_ahead 12 = .ok (.if_icmp .eq 9, 3) := by decide +kernel
theorem dX5_ahead_15 : decode cX5_ahead 15 = .ok (.iload_n 2, 1) := by decide +kernel
theorem dX5_ahead_16 : decode cX5_ahead 16 = .ok (.bipush 8, 2) := by decide +kernel
theorem dX5_ahead_18 : decode cX5_ahead 18 = .ok (.if_icmp .ne 7, 3) := by decide +kernel
theorem dX5_ahead_21 : decode cX5_ahead 21 = .ok (.iconst 1, 1) := by decide +kernel
theorem dX5_ahead_22 : decode cX5_ahead 22 = .ok (.goto 4, 3) := by decide +kernel
theorem dX5_ahead_25 : decode cX5_ahead 25 = .ok (.iconst 0, 1) := by decide +kernel
theorem dX5_ahead_26 : decode cX5_ahead 26 = .ok (.istore 4, 2) := by decide +kernel
theorem dX5_ahead_28 : decode cX5_ahead 28 = .ok (.aload_n 0, 1) := by decide +kernel
theorem dX5_ahead_29 : decode cX5_ahead 29 = .ok (.iload_n 1, 1) := by decide +kernel
theorem dX5_ahead_30 : decode cX5_ahead 30 = .ok (.invokevirtual 123, 3) := by decide +kernel
theorem dX5_ahead_33 : decode cX5_ahead 33 = .ok (.ifCond .eq 18, 3) := by decide +kernel
theorem dX5_ahead_36 : decode cX5_ahead 36 = .ok (.iload 4, 2) := by decide +kernel
theorem dX5_ahead_38 : decode cX5_ahead 38 = .ok (.ifCond .eq 13, 3) := by decide +kernel
theorem dX5_ahead_41 : decode cX5_ahead 41 = .ok (.iload_n 3, 1) := by decide +kernel
theorem dX5_ahead_42 : decode cX5_ahead 42 = .ok (.iconst 0, 1) := by decide +kernel
theorem dX5_ahead_43 : decode cX5_ahead 43 = .ok (.bipush 100, 2) := by decide +kernel
theorem dX5_ahead_45 : decode cX5_ahead 45 = .ok (.invokestatic 70, 3) := by decide +kernel
theorem dX5_ahead_48 : decode cX5_ahead 48 = .ok (.ifCond .ne 10, 3) := by decide +kernel
theorem dX5_ahead_51 : decode cX5_ahead 51 = .ok (.aload_n 0, 1) := by decide +kernel
theorem dX5_ahead_52 : decode cX5_ahead 52 = .ok (.ldc 60, 2) := by decide +kernel
theorem dX5_ahead_54 : decode cX5_ahead 54 = .ok (.invokevirtual 66, 3) := by decide +kernel
theorem dX5_ahead_57 : decode cX5_ahead 57 = .ok (.ireturn, 1) := by decide +kernel
theorem dX5_ahead_58 : decode cX5_ahead 58 = .ok (.aload_n 0, 1) := by decide +kernel
theorem dX5_ahead_59 : decode cX5_ahead 59 = .ok (.getfield 9, 3) := by decide +kernel
theorem dX5_ahead_62 : decode cX5_ahead 62 = .ok (.aload_n 0, 1) := by decide +kernel
theorem dX5_ahead_63 : decode cX5_ahead 63 = .ok (.getfield 16, 3) := by decide +kernel
theorem dX5_ahead_66 : decode cX5_ahead 66 = .ok (.invokestatic 61, 3) := by decide +kernel
theorem dX5_ahead_69 : decode cX5_ahead 69 = .ok (.aload_n 0, 1) := by decide +kernel
theorem dX5_ahead_70 : decode cX5_ahead 70 = .ok (.iload_n 3, 1) := by decide +kernel
theorem dX5_ahead_71 : decode cX5_ahead 71 = .ok (.invokevirtual 167, 3) := by decide +kernel
theorem dX5_ahead_74 : decode cX5_ahead 74 = .ok (.aload_n 0, 1) := by decide +kernel
theorem dX5_ahead_75 : decode cX5_ahead 75 = .ok (.aload_n 0, 1) := by decide +kernel
theorem dX5_ahead_76 : decode cX5_ahead 76 = .ok (.iload_n 1, 1) := by decide +kernel
theorem dX5_ahead_77 : decode cX5_ahead 77 = .ok (.iload_n 2, 1) := by decide +kernel
theorem dX5_ahead_78 : decode cX5_ahead 78 = .ok (.invokevirtual 126, 3) := by decide +kernel
theorem dX5_ahead_81 : decode cX5_ahead 81 = .ok (.invokevirtual 182, 3) := by decide +kernel
theorem dX5_ahead_84 : decode cX5_ahead 84 = .ok (.ireturn, 1) := by decide +kernel
theorem dX5_cut_0 : decode cX5_cut 0 = .ok (.iload_n 1, 1) := by decide +kernel
theorem dX5_cut_1 : decode cX5_cut 1 = .ok (.iconst 0, 1) := by decide +kernel
theorem dX5_cut_2 : decode cX5_cut 2 = .ok (.bipush 100, 2) := by decide +kernel
theorem dX5_cut_4 : decode cX5_cut 4 = .ok (.invokestatic 70, 3) := by decide +kernel
theorem dX5_cut_7 : decode cX5_cut 7 = .ok (.ifCond .eq 12, 3) := by decide +kernel
theorem dX5_cut_10 : decode cX5_cut 10 = .ok (.aload_n 0, 1) := by decide +kernel
theorem dX5_cut_11 : decode cX5_cut 11 = .ok (.iconst 4, 1) := by decide +kernel
theorem dX5_cut_12 : decode cX5_cut 12 = .ok (.iload_n 1, 1) := by decide +kernel
theorem dX5_cut_13 : decode cX5_cut 13 = .ok (.invokevirtual 185, 3) := by decide +kernel
theorem dX5_cut_16 : decode cX5_cut 16 = .ok (.goto 9, 3) := by decide +kernel
theorem dX5_cut_19 : decode cX5_cut 19 = .ok (.aload_n 0, 1) := by decide +kernel
theorem dX5_cut_20 : decode cX5_cut 20 = .ok (.ldc 60, 2) := by decide +kernel
theorem dX5_cut_22 : decode cX5_cut 22 = .ok (.invokevirtual 66, 3) := by decide +kernel
theorem dX5_cut_25 : decode cX5_cut 25 = .ok (.ireturn, 1) := by decide +kernel
theorem dX5_beatsTo_0 : decode cX5_beatsTo 0 = .ok (.aload_n 0, 1) := by decide +kernel
theorem dX5_beatsTo_1 : decode cX5_beatsTo 1 = .ok (.getfield 9, 3) := by decide +kernel
theorem dX5_beatsTo_4 : decode cX5_beatsTo 4 = .ok (.aload_n 0, 1) := by decide +kernel
theorem dX5_beatsTo_5 : decode cX5_beatsTo 5 = .ok (.getfield 16, 3) := by decide +kernel
theorem dX5_beatsTo_8 : decode cX5_beatsTo 8 = .ok (.invokestatic 61, 3) := by decide +kernel
theorem dX5_beatsTo_11 : decode cX5_beatsTo 11 = .ok (.iconst 0, 1) := by decide +kernel
theorem dX5_beatsTo_12 : decode cX5_beatsTo 12 = .ok (.istore 4, 2) := by decide +kernel
theorem dX5_beatsTo_14 : decode cX5_beatsTo 14 = .ok (.iload 4, 2) := by decide +kernel
theorem dX5_beatsTo_16 : decode cX5_beatsTo 16 = .ok (.sipush 200, 3) := by decide +kernel
theorem dX5_beatsTo_19 : decode cX5_beatsTo 19 = .ok (.if_icmp .ge 27, 3) := by decide +kernel
theorem dX5_beatsTo_22 : decode cX5_beatsTo 22 = .ok (.aload_n 0, 1) := by decide +kernel
theorem dX5_beatsTo_23 : decode cX5_beatsTo 23 = .ok (.getfield 9, 3) := by decide +kernel
theorem dX5_beatsTo_26 : decode cX5_beatsTo 26 = .ok (.iload_n 1, 1) := by decide +kernel
theorem dX5_beatsTo_27 : decode cX5_beatsTo 27 = .ok (.iaload, 1) := by decide +kernel
theorem dX5_beatsTo_28 : decode cX5_beatsTo 28 = .ok (.iload_n 2, 1) := by decide +kernel
theorem dX5_beatsTo_29 : decode cX5_beatsTo 29 = .ok (.iload_n 3, 1) := by decide +kernel
theorem dX5_beatsTo_30 : decode cX5_beatsTo 30 = .ok (.invokestatic 70, 3) := by decide +kernel
theorem dX5_beatsTo_33 : decode cX5_beatsTo 33 = .ok (.ifCond .ne 13, 3) := by decide +kernel
theorem dX5_beatsTo_36 : decode cX5_beatsTo 36 = .ok (.aload_n 0, 1) := by decide +kernel
theorem dX5_beatsTo_37 : decode cX5_beatsTo 37 = .ok (.invokevirtual 164, 3) := by decide +kernel
theorem dX5_beatsTo_40 : decode cX5_beatsTo 40 = .ok (.iinc 4 1, 3) := by decide +kernel
theorem dX5_beatsTo_43 : decode cX5_beatsTo 43 = .ok (.goto (-29), 3) := by decide +kernel
theorem dX5_beatsTo_46 : decode cX5_beatsTo 46 = .ok (.aload_n 0, 1) := by decide +kernel
theorem dX5_beatsTo_47 : decode cX5_beatsTo 47 = .ok (.aload_n 0, 1) := by decide +kernel
theorem dX5_beatsTo_48 : decode cX5_beatsTo 48 = .ok (.getfield 9, 3) := by decide +kernel
theorem dX5_beatsTo_51 : decode cX5_beatsTo 51 = .ok (.iload_n 1, 1) := by decide +kernel
theorem dX5_beatsTo_52 : decode cX5_beatsTo 52 = .ok (.iaload, 1) := by decide +kernel
theorem dX5_beatsTo_53 : decode cX5_beatsTo 53 = .ok (.iload_n 2, 1) := by decide +kernel
theorem dX5_beatsTo_54 : decode cX5_beatsTo 54 = .ok (.iload_n 3, 1) := by decide +kernel
theorem dX5_beatsTo_55 : decode cX5_beatsTo 55 = .ok (.invokestatic 70, 3) := by decide +kernel
theorem dX5_beatsTo_58 : decode cX5_beatsTo 58 = .ok (.ifCond .eq 8, 3) := by decide +kernel
theorem dX5_beatsTo_61 : decode cX5_beatsTo 61 = .ok (.iload 4, 2) := by decide +kernel
theorem dX5_beatsTo_63 : decode cX5_beatsTo 63 = .ok (.goto 4, 3) := by decide +kernel
theorem dX5_beatsTo_66 : decode cX5_beatsTo 66 = .ok (.iconst (-1), 1) := by decide +kernel
theorem dX5_beatsTo_67 : decode cX5_beatsTo 67 = .ok (.invokevirtual 182, 3) := by decide +kernel
theorem dX5_beatsTo_70 : decode cX5_beatsTo 70 = .ok (.ireturn, 1) := by decide +kernel
theorem dX5_down_0 : decode cX5_down 0 = .ok (.aload_n 0, 1) := by decide +kernel
theorem dX5_down_1 : decode cX5_down 1 = .ok (.iload_n 1, 1) := by decide +kernel
theorem dX5_down_2 : decode cX5_down 2 = .ok (.invokevirtual 123, 3) := by decide +kernel
theorem dX5_down_5 : decode cX5_down 5 = .ok (.ifCond .eq 21, 3) := by decide +kernel
theorem dX5_down_8 : decode cX5_down 8 = .ok (.aload_n 0, 1) := by decide +kernel
theorem dX5_down_9 : decode cX5_down 9 = .ok (.aload_n 0, 1) := by decide +kernel
theorem dX5_down_10 : decode cX5_down 10 = .ok (.iload_n 1, 1) := by decide +kernel
theorem dX5_down_11 : decode cX5_down 11 = .ok (.iconst 3, 1) := by decide +kernel
theorem dX5_down_12 : decode cX5_down 12 = .ok (.invokestatic 85, 3) := by decide +kernel
theorem dX5_down_15 : decode cX5_down 15 = .ok (.iconst 0, 1) := by decide +kernel
theorem dX5_down_16 : decode cX5_down 16 = .ok (.iconst 0, 1) := by decide +kernel
theorem dX5_down_17 : decode cX5_down 17 = .ok (.invokevirtual 188, 3) := by decide +kernel
theorem dX5_down_20 : decode cX5_down 20 = .ok (.invokevirtual 192, 3) := by decide +kernel
theorem dX5_down_23 : decode cX5_down 23 = .ok (.goto 9, 3) := by decide +kernel
theorem dX5_down_26 : decode cX5_down 26 = .ok (.aload_n 0, 1) := by decide +kernel
theorem dX5_down_27 : decode cX5_down 27 = .ok (.ldc 60, 2) := by decide +kernel
theorem dX5_down_29 : decode cX5_down 29 = .ok (.invokevirtual 66, 3) := by decide +kernel
theorem dX5_down_32 : decode cX5_down 32 = .ok (.ireturn, 1) := by decide +kernel
theorem dX5_up_0 : decode cX5_up 0 = .ok (.aload_n 0, 1) := by decide +kernel
theorem dX5_up_1 : decode cX5_up 1 = .ok (.iload_n 1, 1) := by decide +kernel
theorem dX5_up_2 : decode cX5_up 2 = .ok (.invokevirtual 123, 3) := by decide +kernel
theorem dX5_up_5 : decode cX5_up 5 = .ok (.ifCond .eq 23, 3) := by decide +kernel
theorem dX5_up_8 : decode cX5_up 8 = .ok (.aload_n 0, 1) := by decide +kernel
theorem dX5_up_9 : decode cX5_up 9 = .ok (.aload_n 0, 1) := by decide +kernel
theorem dX5_up_10 : decode cX5_up 10 = .ok (.iload_n 1, 1) := by decide +kernel
theorem dX5_up_11 : decode cX5_up 11 = .ok (.iconst 3, 1) := by decide +kernel
theorem dX5_up_12 : decode cX5_up 12 = .ok (.invokestatic 85, 3) := by decide +kernel
theorem dX5_up_15 : decode cX5_up 15 = .ok (.bipush 20, 2) := by decide +kernel
theorem dX5_up_17 : decode cX5_up 17 = .ok (.bipush 20, 2) := by decide +kernel
theorem dX5_up_19 : decode cX5_up 19 = .ok (.invokevirtual 188, 3) := by decide +kernel
theorem dX5_up_22 : decode cX5_up 22 = .ok (.invokevirtual 192, 3) := by decide +kernel
theorem dX5_up_25 : decode cX5_up 25 = .ok (.goto 9, 3) := by decide +kernel
theorem dX5_up_28 : decode cX5_up 28 = .ok (.aload_n 0, 1) := by decide +kernel
theorem dX5_up_29 : decode cX5_up 29 = .ok (.ldc 60, 2) := by decide +kernel
theorem dX5_up_31 : decode cX5_up 31 = .ok (.invokevirtual 66, 3) := by decide +kernel
theorem dX5_up_34 : decode cX5_up 34 = .ok (.ireturn, 1) := by decide +kernel
theorem dX5_weary_0 : decode cX5_weary 0 = .ok (.aload_n 0, 1) := by decide +kernel
theorem dX5_weary_1 : decode cX5_weary 1 = .ok (.iload_n 1, 1) := by decide +kernel
theorem dX5_weary_2 : decode cX5_weary 2 = .ok (.invokevirtual 123, 3) := by decide +kernel
theorem dX5_weary_5 : decode cX5_weary 5 = .ok (.ifCond .eq 31, 3) := by decide +kernel
theorem dX5_weary_8 : decode cX5_weary 8 = .ok (.iload_n 2, 1) := by decide +kernel
theorem dX5_weary_9 : decode cX5_weary 9 = .ok (.iconst 0, 1) := by decide +kernel
theorem dX5_weary_10 : decode cX5_weary 10 = .ok (.bipush 99, 2) := by decide +kernel
theorem dX5_weary_12 : decode cX5_weary 12 = .ok (.invokestatic 70, 3) := by decide +kernel
theorem dX5_weary_15 : decode cX5_weary 15 = .ok (.ifCond .eq 21, 3) := by decide +kernel
theorem dX5_weary_18 : decode cX5_weary 18 = .ok (.aload_n 0, 1) := by decide +kernel
theorem dX5_weary_19 : decode cX5_weary 19 = .ok (.aload_n 0, 1) := by decide +kernel
theorem dX5_weary_20 : decode cX5_weary 20 = .ok (.iload_n 1, 1) := by decide +kernel
theorem dX5_weary_21 : decode cX5_weary 21 = .ok (.iconst 1, 1) := by decide +kernel
theorem dX5_weary_22 : decode cX5_weary 22 = .ok (.invokestatic 85, 3) := by decide +kernel
theorem dX5_weary_25 : decode cX5_weary 25 = .ok (.iconst 0, 1) := by decide +kernel
theorem dX5_weary_26 : decode cX5_weary 26 = .ok (.iload_n 2, 1) := by decide +kernel
theorem dX5_weary_27 : decode cX5_weary 27 = .ok (.invokevirtual 188, 3) := by decide +kernel
theorem dX5_weary_30 : decode cX5_weary 30 = .ok (.invokevirtual 192, 3) := by decide +kernel
theorem dX5_weary_33 : decode cX5_weary 33 = .ok (.goto 9, 3) := by decide +kernel
theorem dX5_weary_36 : decode cX5_weary 36 = .ok (.aload_n 0, 1) := by decide +kernel
theorem dX5_weary_37 : decode cX5_weary 37 = .ok (.ldc 60, 2) := by decide +kernel
theorem dX5_weary_39 : decode cX5_weary 39 = .ok (.invokevirtual 66, 3) := by decide +kernel
theorem dX5_weary_42 : decode cX5_weary 42 = .ok (.ireturn, 1) := by decide +kernel
theorem dX5_saved_0 : decode cX5_saved 0 = .ok (.iload_n 1, 1) := by decide +kernel
theorem dX5_saved_1 : decode cX5_saved 1 = .ok (.iconst 0, 1) := by decide +kernel
theorem dX5_saved_2 : decode cX5_saved 2 = .ok (.sipush 900, 3) := by decide +kernel
theorem dX5_saved_5 : decode cX5_saved 5 = .ok (.invokestatic 70, 3) := by decide +kernel
theorem dX5_saved_8 : decode cX5_saved 8 = .ok (.ifCond .eq 19, 3) := by decide +kernel
theorem dX5_saved_11 : decode cX5_saved 11 = .ok (.aload_n 0, 1) := by decide +kernel
theorem dX5_saved_12 : decode cX5_saved 12 = .ok (.aload_n 0, 1) := by decide +kernel
theorem dX5_saved_13 : decode cX5_saved 13 = .ok (.iconst 5, 1) := by decide +kernel
theorem dX5_saved_14 : decode cX5_saved 14 = .ok (.iload_n 1, 1) := by decide +kernel
theorem dX5_saved_15 : decode cX5_saved 15 = .ok (.sipush 900, 3) := by decide +kernel
theorem dX5_saved_18 : decode cX5_saved 18 = .ok (.invokevirtual 188, 3) := by decide +kernel
theorem dX5_saved_21 : decode cX5_saved 21 = .ok (.invokevirtual 192, 3) := by decide +kernel
theorem dX5_saved_24 : decode cX5_saved 24 = .ok (.goto 9, 3) := by decide +kernel
theorem dX5_saved_27 : decode cX5_saved 27 = .ok (.aload_n 0, 1) := by decide +kernel
theorem dX5_saved_28 : decode cX5_saved 28 = .ok (.ldc 60, 2) := by decide +kernel
theorem dX5_saved_30 : decode cX5_saved 30 = .ok (.invokevirtual 66, 3) := by decide +kernel
theorem dX5_saved_33 : decode cX5_saved 33 = .ok (.ireturn, 1) := by decide +kernel
theorem dX5_isThought_0 : decode cX5_isThought 0 = .ok (.iload_n 0, 1) := by decide +kernel
theorem dX5_isThought_1 : decode cX5_isThought 1 = .ok (.iconst 0, 1) := by decide +kernel
theorem dX5_isThought_2 : decode cX5_isThought 2 = .ok (.bipush 60, 2) := by decide +kernel
theorem dX5_isThought_4 : decode cX5_isThought 4 = .ok (.invokestatic 70, 3) := by decide +kernel
theorem dX5_isThought_7 : decode cX5_isThought 7 = .ok (.ireturn, 1) := by decide +kernel
theorem dX5_sceneFor_0 : decode cX5_sceneFor 0 = .ok (.iload_n 1, 1) := by decide +kernel
theorem dX5_sceneFor_1 : decode cX5_sceneFor 1 = .ok (.invokestatic 78, 3) := by decide +kernel
theorem dX5_sceneFor_4 : decode cX5_sceneFor 4 = .ok (.ifCond .eq 10, 3) := by decide +kernel
theorem dX5_sceneFor_7 : decode cX5_sceneFor 7 = .ok (.iload_n 2, 1) := by decide +kernel
theorem dX5_sceneFor_8 : decode cX5_sceneFor 8 = .ok (.invokestatic 195, 3) := by decide +kernel
theorem dX5_sceneFor_11 : decode cX5_sceneFor 11 = .ok (.ifCond .ne 10, 3) := by decide +kernel
theorem dX5_sceneFor_14 : decode cX5_sceneFor 14 = .ok (.aload_n 0, 1) := by decide +kernel
theorem dX5_sceneFor_15 : decode cX5_sceneFor 15 = .ok (.ldc 60, 2) := by decide +kernel
theorem dX5_sceneFor_17 : decode cX5_sceneFor 17 = .ok (.invokevirtual 66, 3) := by decide +kernel
theorem dX5_sceneFor_20 : decode cX5_sceneFor 20 = .ok (.ireturn, 1) := by decide +kernel
theorem dX5_sceneFor_21 : decode cX5_sceneFor 21 = .ok (.aload_n 0, 1) := by decide +kernel
theorem dX5_sceneFor_22 : decode cX5_sceneFor 22 = .ok (.getfield 9, 3) := by decide +kernel
theorem dX5_sceneFor_25 : decode cX5_sceneFor 25 = .ok (.bipush 6, 2) := by decide +kernel
theorem dX5_sceneFor_27 : decode cX5_sceneFor 27 = .ok (.iload_n 1, 1) := by decide +kernel
theorem dX5_sceneFor_28 : decode cX5_sceneFor 28 = .ok (.iadd, 1) := by decide +kernel
theorem dX5_sceneFor_29 : decode cX5_sceneFor 29 = .ok (.iaload, 1) := by decide +kernel
theorem dX5_sceneFor_30 : decode cX5_sceneFor 30 = .ok (.istore_n 3, 1) := by decide +kernel
theorem dX5_sceneFor_31 : decode cX5_sceneFor 31 = .ok (.iconst 0, 1) := by decide +kernel
theorem dX5_sceneFor_32 : decode cX5_sceneFor 32 = .ok (.istore 4, 2) := by decide +kernel
theorem dX5_sceneFor_34 : decode cX5_sceneFor 34 = .ok (.ldc 198, 2) := by decide +kernel
theorem dX5_sceneFor_36 : decode cX5_sceneFor 36 = .ok (.istore 5, 2) := by decide +kernel
theorem dX5_sceneFor_38 : decode cX5_sceneFor 38 = .ok (.iconst 0, 1) := by decide +kernel
theorem dX5_sceneFor_39 : decode cX5_sceneFor 39 = .ok (.istore 6, 2) := by decide +kernel
theorem dX5_sceneFor_41 : decode cX5_sceneFor 41 = .ok (.iload 6, 2) := by decide +kernel
theorem dX5_sceneFor_43 : decode cX5_sceneFor 43 = .ok (.bipush 12, 2) := by decide +kernel
theorem dX5_sceneFor_45 : decode cX5_sceneFor 45 = .ok (.if_icmp .ge 43, 3) := by decide +kernel
theorem dX5_sceneFor_48 : decode cX5_sceneFor 48 = .ok (.aload_n 0, 1) := by decide +kernel
theorem dX5_sceneFor_49 : decode cX5_sceneFor 49 = .ok (.getfield 9, 3) := by decide +kernel
theorem dX5_sceneFor_52 : decode cX5_sceneFor 52 = .ok (.bipush 6, 2) := by decide +kernel
theorem dX5_sceneFor_54 : decode cX5_sceneFor 54 = .ok (.iload_n 1, 1) := by decide +kernel
theorem dX5_sceneFor_55 : decode cX5_sceneFor 55 = .ok (.iadd, 1) := by decide +kernel
theorem dX5_sceneFor_56 : decode cX5_sceneFor 56 = .ok (.iload 6, 2) := by decide +kernel
theorem dX5_sceneFor_58 : decode cX5_sceneFor 58 = .ok (.iastore, 1) := by decide +kernel
theorem dX5_sceneFor_59 : decode cX5_sceneFor 59 = .ok (.aload_n 0, 1) := by decide +kernel
theorem dX5_sceneFor_60 : decode cX5_sceneFor 60 = .ok (.iconst 4, 1) := by decide +kernel
theorem dX5_sceneFor_61 : decode cX5_sceneFor 61 = .ok (.iload_n 2, 1) := by decide +kernel
theorem dX5_sceneFor_62 : decode cX5_sceneFor 62 = .ok (.invokevirtual 185, 3) := by decide +kernel
theorem dX5_sceneFor_65 : decode cX5_sceneFor 65 = .ok (.istore 7, 2) := by decide +kernel
theorem dX5_sceneFor_67 : decode cX5_sceneFor 67 = .ok (.iload 7, 2) := by decide +kernel
theorem dX5_sceneFor_69 : decode cX5_sceneFor 69 = .ok (.iload 5, 2) := by decide +kernel
theorem dX5_sceneFor_71 : decode cX5_sceneFor 71 = .ok (.if_icmp .ge 11, 3) := by decide +kernel
theorem dX5_sceneFor_74 : decode cX5_sceneFor 74 = .ok (.iload 6, 2) := by decide +kernel
theorem dX5_sceneFor_76 : decode cX5_sceneFor 76 = .ok (.istore 4, 2) := by decide +kernel
theorem dX5_sceneFor_78 : decode cX5_sceneFor 78 = .ok (.iload 7, 2) := by decide +kernel
theorem dX5_sceneFor_80 : decode cX5_sceneFor 80 = .ok (.istore 5, 2) := by decide +kernel
theorem dX5_sceneFor_82 : decode cX5_sceneFor 82 = .ok (.iinc 6 1, 3) := by decide +kernel
theorem dX5_sceneFor_85 : decode cX5_sceneFor 85 = .ok (.goto (-44), 3) := by decide +kernel
theorem dX5_sceneFor_88 : decode cX5_sceneFor 88 = .ok (.aload_n 0, 1) := by decide +kernel
theorem dX5_sceneFor_89 : decode cX5_sceneFor 89 = .ok (.getfield 9, 3) := by decide +kernel
theorem dX5_sceneFor_92 : decode cX5_sceneFor 92 = .ok (.bipush 6, 2) := by decide +kernel
theorem dX5_sceneFor_94 : decode cX5_sceneFor 94 = .ok (.iload_n 1, 1) := by decide +kernel
theorem dX5_sceneFor_95 : decode cX5_sceneFor 95 = .ok (.iadd, 1) := by decide +kernel
theorem dX5_sceneFor_96 : decode cX5_sceneFor 96 = .ok (.iload_n 3, 1) := by decide +kernel
theorem dX5_sceneFor_97 : decode cX5_sceneFor 97 = .ok (.iastore, 1) := by decide +kernel
theorem dX5_sceneFor_98 : decode cX5_sceneFor 98 = .ok (.iload 4, 2) := by decide +kernel
theorem dX5_sceneFor_100 : decode cX5_sceneFor 100 = .ok (.ireturn, 1) := by decide +kernel
theorem dX5_kindFor_0 : decode cX5_kindFor 0 = .ok (.aload_n 0, 1) := by decide +kernel
theorem dX5_kindFor_1 : decode cX5_kindFor 1 = .ok (.iload_n 1, 1) := by decide +kernel
theorem dX5_kindFor_2 : decode cX5_kindFor 2 = .ok (.invokevirtual 123, 3) := by decide +kernel
theorem dX5_kindFor_5 : decode cX5_kindFor 5 = .ok (.ifCond .eq 10, 3) := by decide +kernel
theorem dX5_kindFor_8 : decode cX5_kindFor 8 = .ok (.iload_n 2, 1) := by decide +kernel
theorem dX5_kindFor_9 : decode cX5_kindFor 9 = .ok (.invokestatic 195, 3) := by decide +kernel
theorem dX5_kindFor_12 : decode cX5_kindFor 12 = .ok (.ifCond .ne 10, 3) := by decide +kernel
theorem dX5_kindFor_15 : decode cX5_kindFor 15 = .ok (.aload_n 0, 1) := by decide +kernel
theorem dX5_kindFor_16 : decode cX5_kindFor 16 = .ok (.ldc 60, 2) := by decide +kernel
theorem dX5_kindFor_18 : decode cX5_kindFor 18 = .ok (.invokevirtual 66, 3) := by decide +kernel
theorem dX5_kindFor_21 : decode cX5_kindFor 21 = .ok (.ireturn, 1) := by decide +kernel
theorem dX5_kindFor_22 : decode cX5_kindFor 22 = .ok (.iload_n 1, 1) := by decide +kernel
theorem dX5_kindFor_23 : decode cX5_kindFor 23 = .ok (.iconst 0, 1) := by decide +kernel
theorem dX5_kindFor_24 : decode cX5_kindFor 24 = .ok (.invokestatic 85, 3) := by decide +kernel
theorem dX5_kindFor_27 : decode cX5_kindFor 27 = .ok (.istore_n 3, 1) := by decide +kernel
theorem dX5_kindFor_28 : decode cX5_kindFor 28 = .ok (.aload_n 0, 1) := by decide +kernel
theorem dX5_kindFor_29 : decode cX5_kindFor 29 = .ok (.getfield 9, 3) := by decide +kernel
theorem dX5_kindFor_32 : decode cX5_kindFor 32 = .ok (.iload_n 3, 1) := by decide +kernel
theorem dX5_kindFor_33 : decode cX5_kindFor 33 = .ok (.iaload, 1) := by decide +kernel
theorem dX5_kindFor_34 : decode cX5_kindFor 34 = .ok (.istore 4, 2) := by decide +kernel
theorem dX5_kindFor_36 : decode cX5_kindFor 36 = .ok (.iconst 0, 1) := by decide +kernel
theorem dX5_kindFor_37 : decode cX5_kindFor 37 = .ok (.istore 5, 2) := by decide +kernel
theorem dX5_kindFor_39 : decode cX5_kindFor 39 = .ok (.iconst (-1), 1) := by decide +kernel
theorem dX5_kindFor_40 : decode cX5_kindFor 40 = .ok (.istore 6, 2) := by decide +kernel
theorem dX5_kindFor_42 : decode cX5_kindFor 42 = .ok (.iconst 0, 1) := by decide +kernel
theorem dX5_kindFor_43 : decode cX5_kindFor 43 = .ok (.istore 7, 2) := by decide +kernel
theorem dX5_kindFor_45 : decode cX5_kindFor 45 = .ok (.iload 7, 2) := by decide +kernel
theorem dX5_kindFor_47 : decode cX5_kindFor 47 = .ok (.bipush 6, 2) := by decide +kernel
theorem dX5_kindFor_49 : decode cX5_kindFor 49 = .ok (.if_icmp .gt 44, 3) := by decide +kernel
theorem dX5_kindFor_52 : decode cX5_kindFor 52 = .ok (.aload_n 0, 1) := by decide +kernel
theorem dX5_kindFor_53 : decode cX5_kindFor 53 = .ok (.getfield 9, 3) := by decide +kernel
theorem dX5_kindFor_56 : decode cX5_kindFor 56 = .ok (.iload_n 3, 1) := by decide +kernel
theorem dX5_kindFor_57 : decode cX5_kindFor 57 = .ok (.iload 7, 2) := by decide +kernel
theorem dX5_kindFor_59 : decode cX5_kindFor 59 = .ok (.iastore, 1) := by decide +kernel
theorem dX5_kindFor_60 : decode cX5_kindFor 60 = .ok (.aload_n 0, 1) := by decide +kernel
theorem dX5_kindFor_61 : decode cX5_kindFor 61 = .ok (.iload_n 1, 1) := by decide +kernel
theorem dX5_kindFor_62 : decode cX5_kindFor 62 = .ok (.iconst 1, 1) := by decide +kernel
theorem dX5_kindFor_63 : decode cX5_kindFor 63 = .ok (.invokestatic 85, 3) := by decide +kernel
theorem dX5_kindFor_66 : decode cX5_kindFor 66 = .ok (.iload_n 2, 1) := by decide +kernel
theorem dX5_kindFor_67 : decode cX5_kindFor 67 = .ok (.invokevirtual 185, 3) := by decide +kernel
theorem dX5_kindFor_70 : decode cX5_kindFor 70 = .ok (.istore 8, 2) := by decide +kernel
theorem dX5_kindFor_72 : decode cX5_kindFor 72 = .ok (.iload 8, 2) := by decide +kernel
theorem dX5_kindFor_74 : decode cX5_kindFor 74 = .ok (.iload 6, 2) := by decide +kernel
theorem dX5_kindFor_76 : decode cX5_kindFor 76 = .ok (.if_icmp .le 11, 3) := by decide +kernel
theorem dX5_kindFor_79 : decode cX5_kindFor 79 = .ok (.iload 7, 2) := by decide +kernel
theorem dX5_kindFor_81 : decode cX5_kindFor 81 = .ok (.istore 5, 2) := by decide +kernel
theorem dX5_kindFor_83 : decode cX5_kindFor 83 = .ok (.iload 8, 2) := by decide +kernel
theorem dX5_kindFor_85 : decode cX5_kindFor 85 = .ok (.istore 6, 2) := by decide +kernel
theorem dX5_kindFor_87 : decode cX5_kindFor 87 = .ok (.iinc 7 1, 3) := by decide +kernel
theorem dX5_kindFor_90 : decode cX5_kindFor 90 = .ok (.goto (-45), 3) := by decide +kernel
theorem dX5_kindFor_93 : decode cX5_kindFor 93 = .ok (.aload_n 0, 1) := by decide +kernel
theorem dX5_kindFor_94 : decode cX5_kindFor 94 = .ok (.getfield 9, 3) := by decide +kernel
theorem dX5_kindFor_97 : decode cX5_kindFor 97 = .ok (.iload_n 3, 1) := by decide +kernel
theorem dX5_kindFor_98 : decode cX5_kindFor 98 = .ok (.iload 4, 2) := by decide +kernel
theorem dX5_kindFor_100 : decode cX5_kindFor 100 = .ok (.iastore, 1) := by decide +kernel
theorem dX5_kindFor_101 : decode cX5_kindFor 101 = .ok (.iload 5, 2) := by decide +kernel
theorem dX5_kindFor_103 : decode cX5_kindFor 103 = .ok (.ireturn, 1) := by decide +kernel
theorem dX5_moodFor_0 : decode cX5_moodFor 0 = .ok (.aload_n 0, 1) := by decide +kernel
theorem dX5_moodFor_1 : decode cX5_moodFor 1 = .ok (.iload_n 1, 1) := by decide +kernel
theorem dX5_moodFor_2 : decode cX5_moodFor 2 = .ok (.invokevirtual 123, 3) := by decide +kernel
theorem dX5_moodFor_5 : decode cX5_moodFor 5 = .ok (.ifCond .eq 10, 3) := by decide +kernel
theorem dX5_moodFor_8 : decode cX5_moodFor 8 = .ok (.iload_n 2, 1) := by decide +kernel
theorem dX5_moodFor_9 : decode cX5_moodFor 9 = .ok (.invokestatic 195, 3) := by decide +kernel
theorem dX5_moodFor_12 : decode cX5_moodFor 12 = .ok (.ifCond .ne 10, 3) := by decide +kernel
theorem dX5_moodFor_15 : decode cX5_moodFor 15 = .ok (.aload_n 0, 1) := by decide +kernel
theorem dX5_moodFor_16 : decode cX5_moodFor 16 = .ok (.ldc 60, 2) := by decide +kernel
theorem dX5_moodFor_18 : decode cX5_moodFor 18 = .ok (.invokevirtual 66, 3) := by decide +kernel
theorem dX5_moodFor_21 : decode cX5_moodFor 21 = .ok (.ireturn, 1) := by decide +kernel
theorem dX5_moodFor_22 : decode cX5_moodFor 22 = .ok (.iload_n 1, 1) := by decide +kernel
theorem dX5_moodFor_23 : decode cX5_moodFor 23 = .ok (.iconst 1, 1) := by decide +kernel
theorem dX5_moodFor_24 : decode cX5_moodFor 24 = .ok (.invokestatic 85, 3) := by decide +kernel
theorem dX5_moodFor_27 : decode cX5_moodFor 27 = .ok (.istore_n 3, 1) := by decide +kernel
theorem dX5_moodFor_28 : decode cX5_moodFor 28 = .ok (.aload_n 0, 1) := by decide +kernel
theorem dX5_moodFor_29 : decode cX5_moodFor 29 = .ok (.iload_n 1, 1) := by decide +kernel
theorem dX5_moodFor_30 : decode cX5_moodFor 30 = .ok (.iconst 5, 1) := by decide +kernel
theorem dX5_moodFor_31 : decode cX5_moodFor 31 = .ok (.invokevirtual 98, 3) := by decide +kernel
theorem dX5_moodFor_34 : decode cX5_moodFor 34 = .ok (.istore 4, 2) := by decide +kernel
theorem dX5_moodFor_36 : decode cX5_moodFor 36 = .ok (.aload_n 0, 1) := by decide +kernel
theorem dX5_moodFor_37 : decode cX5_moodFor 37 = .ok (.getfield 9, 3) := by decide +kernel
theorem dX5_moodFor_40 : decode cX5_moodFor 40 = .ok (.iload_n 3, 1) := by decide +kernel
theorem dX5_moodFor_41 : decode cX5_moodFor 41 = .ok (.iaload, 1) := by decide +kernel
theorem dX5_moodFor_42 : decode cX5_moodFor 42 = .ok (.istore 5, 2) := by decide +kernel
theorem dX5_moodFor_44 : decode cX5_moodFor 44 = .ok (.iconst (-1), 1) := by decide +kernel
theorem dX5_moodFor_45 : decode cX5_moodFor 45 = .ok (.istore 6, 2) := by decide +kernel
theorem dX5_moodFor_47 : decode cX5_moodFor 47 = .ok (.bipush 99, 2) := by decide +kernel
theorem dX5_moodFor_49 : decode cX5_moodFor 49 = .ok (.istore 7, 2) := by decide +kernel
theorem dX5_moodFor_51 : decode cX5_moodFor 51 = .ok (.iload 7, 2) := by decide +kernel
theorem dX5_moodFor_53 : decode cX5_moodFor 53 = .ok (.ifCond .lt 41, 3) := by decide +kernel
theorem dX5_moodFor_56 : decode cX5_moodFor 56 = .ok (.aload_n 0, 1) := by decide +kernel
theorem dX5_moodFor_57 : decode cX5_moodFor 57 = .ok (.getfield 9, 3) := by decide +kernel
theorem dX5_moodFor_60 : decode cX5_moodFor 60 = .ok (.iload_n 3, 1) := by decide +kernel
theorem dX5_moodFor_61 : decode cX5_moodFor 61 = .ok (.iload 7, 2) := by decide +kernel
theorem dX5_moodFor_63 : decode cX5_moodFor 63 = .ok (.iastore, 1) := by decide +kernel
theorem dX5_moodFor_64 : decode cX5_moodFor 64 = .ok (.aload_n 0, 1) := by decide +kernel
theorem dX5_moodFor_65 : decode cX5_moodFor 65 = .ok (.iload_n 1, 1) := by decide +kernel
theorem dX5_moodFor_66 : decode cX5_moodFor 66 = .ok (.iconst 5, 1) := by decide +kernel
theorem dX5_moodFor_67 : decode cX5_moodFor 67 = .ok (.invokestatic 85, 3) := by decide +kernel
theorem dX5_moodFor_70 : decode cX5_moodFor 70 = .ok (.iload_n 2, 1) := by decide +kernel
theorem dX5_moodFor_71 : decode cX5_moodFor 71 = .ok (.invokevirtual 185, 3) := by decide +kernel
theorem dX5_moodFor_74 : decode cX5_moodFor 74 = .ok (.iload 4, 2) := by decide +kernel
theorem dX5_moodFor_76 : decode cX5_moodFor 76 = .ok (.if_icmp .ne 8, 3) := by decide +kernel
theorem dX5_moodFor_79 : decode cX5_moodFor 79 = .ok (.iload 7, 2) := by decide +kernel
theorem dX5_moodFor_81 : decode cX5_moodFor 81 = .ok (.goto 5, 3) := by decide +kernel
theorem dX5_moodFor_84 : decode cX5_moodFor 84 = .ok (.iload 6, 2) := by decide +kernel
theorem dX5_moodFor_86 : decode cX5_moodFor 86 = .ok (.istore 6, 2) := by decide +kernel
theorem dX5_moodFor_88 : decode cX5_moodFor 88 = .ok (.iinc 7 (-1), 3) := by decide +kernel
theorem dX5_moodFor_91 : decode cX5_moodFor 91 = .ok (.goto (-40), 3) := by decide +kernel
theorem dX5_moodFor_94 : decode cX5_moodFor 94 = .ok (.aload_n 0, 1) := by decide +kernel
theorem dX5_moodFor_95 : decode cX5_moodFor 95 = .ok (.getfield 9, 3) := by decide +kernel
theorem dX5_moodFor_98 : decode cX5_moodFor 98 = .ok (.iload_n 3, 1) := by decide +kernel
theorem dX5_moodFor_99 : decode cX5_moodFor 99 = .ok (.iload 5, 2) := by decide +kernel
theorem dX5_moodFor_101 : decode cX5_moodFor 101 = .ok (.iastore, 1) := by decide +kernel
theorem dX5_moodFor_102 : decode cX5_moodFor 102 = .ok (.aload_n 0, 1) := by decide +kernel
theorem dX5_moodFor_103 : decode cX5_moodFor 103 = .ok (.iload 6, 2) := by decide +kernel
theorem dX5_moodFor_105 : decode cX5_moodFor 105 = .ok (.invokevirtual 192, 3) := by decide +kernel
theorem dX5_moodFor_108 : decode cX5_moodFor 108 = .ok (.ireturn, 1) := by decide +kernel
theorem dX5_staysUp_0 : decode cX5_staysUp 0 = .ok (.aload_n 0, 1) := by decide +kernel
theorem dX5_staysUp_1 : decode cX5_staysUp 1 = .ok (.getfield 9, 3) := by decide +kernel
theorem dX5_staysUp_4 : decode cX5_staysUp 4 = .ok (.aload_n 0, 1) := by decide +kernel
theorem dX5_staysUp_5 : decode cX5_staysUp 5 = .ok (.getfield 16, 3) := by decide +kernel
theorem dX5_staysUp_8 : decode cX5_staysUp 8 = .ok (.invokestatic 61, 3) := by decide +kernel
theorem dX5_staysUp_11 : decode cX5_staysUp 11 = .ok (.aload_n 0, 1) := by decide +kernel
theorem dX5_staysUp_12 : decode cX5_staysUp 12 = .ok (.iload_n 1, 1) := by decide +kernel
theorem dX5_staysUp_13 : decode cX5_staysUp 13 = .ok (.iload_n 2, 1) := by decide +kernel
theorem dX5_staysUp_14 : decode cX5_staysUp 14 = .ok (.invokevirtual 153, 3) := by decide +kernel
theorem dX5_staysUp_17 : decode cX5_staysUp 17 = .ok (.pop, 1) := by decide +kernel
theorem dX5_staysUp_18 : decode cX5_staysUp 18 = .ok (.aload_n 0, 1) := by decide +kernel
theorem dX5_staysUp_19 : decode cX5_staysUp 19 = .ok (.iload_n 3, 1) := by decide +kernel
theorem dX5_staysUp_20 : decode cX5_staysUp 20 = .ok (.invokevirtual 167, 3) := by decide +kernel
theorem dX5_staysUp_23 : decode cX5_staysUp 23 = .ok (.aload_n 0, 1) := by decide +kernel
theorem dX5_staysUp_24 : decode cX5_staysUp 24 = .ok (.iload_n 1, 1) := by decide +kernel
theorem dX5_staysUp_25 : decode cX5_staysUp 25 = .ok (.iconst 3, 1) := by decide +kernel
theorem dX5_staysUp_26 : decode cX5_staysUp 26 = .ok (.invokevirtual 98, 3) := by decide +kernel
theorem dX5_staysUp_29 : decode cX5_staysUp 29 = .ok (.ifCond .le 7, 3) := by decide +kernel
theorem dX5_staysUp_32 : decode cX5_staysUp 32 = .ok (.iconst 1, 1) := by decide +kernel
theorem dX5_staysUp_33 : decode cX5_staysUp 33 = .ok (.goto 4, 3) := by decide +kernel
theorem dX5_staysUp_36 : decode cX5_staysUp 36 = .ok (.iconst 0, 1) := by decide +kernel
theorem dX5_staysUp_37 : decode cX5_staysUp 37 = .ok (.istore 4, 2) := by decide +kernel
theorem dX5_staysUp_39 : decode cX5_staysUp 39 = .ok (.aload_n 0, 1) := by decide +kernel
theorem dX5_staysUp_40 : decode cX5_staysUp 40 = .ok (.getfield 16, 3) := by decide +kernel
theorem dX5_staysUp_43 : decode cX5_staysUp 43 = .ok (.aload_n 0, 1) := by decide +kernel
theorem dX5_staysUp_44 : decode cX5_staysUp 44 = .ok (.getfield 9, 3) := by decide +kernel
theorem dX5_staysUp_47 : decode cX5_staysUp 47 = .ok (.invokestatic 61, 3) := by decide +kernel
theorem dX5_staysUp_50 : decode cX5_staysUp 50 = .ok (.iload 4, 2) := by decide +kernel
theorem dX5_staysUp_52 : decode cX5_staysUp 52 = .ok (.ireturn, 1) := by decide +kernel
theorem dX5_handsFor_0 : decode cX5_handsFor 0 = .ok (.aload_n 0, 1) := by decide +kernel
theorem dX5_handsFor_1 : decode cX5_handsFor 1 = .ok (.iload_n 1, 1) := by decide +kernel
theorem dX5_handsFor_2 : decode cX5_handsFor 2 = .ok (.invokevirtual 123, 3) := by decide +kernel
theorem dX5_handsFor_5 : decode cX5_handsFor 5 = .ok (.ifCond .eq 10, 3) := by decide +kernel
theorem dX5_handsFor_8 : decode cX5_handsFor 8 = .ok (.iload_n 2, 1) := by decide +kernel
theorem dX5_handsFor_9 : decode cX5_handsFor 9 = .ok (.invokestatic 195, 3) := by decide +kernel
theorem dX5_handsFor_12 : decode cX5_handsFor 12 = .ok (.ifCond .ne 10, 3) := by decide +kernel
theorem dX5_handsFor_15 : decode cX5_handsFor 15 = .ok (.aload_n 0, 1) := by decide +kernel
theorem dX5_handsFor_16 : decode cX5_handsFor 16 = .ok (.ldc 60, 2) := by decide +kernel
theorem dX5_handsFor_18 : decode cX5_handsFor 18 = .ok (.invokevirtual 66, 3) := by decide +kernel
theorem dX5_handsFor_21 : decode cX5_handsFor 21 = .ok (.ireturn, 1) := by decide +kernel
theorem dX5_handsFor_22 : decode cX5_handsFor 22 = .ok (.aload_n 0, 1) := by decide +kernel
theorem dX5_handsFor_23 : decode cX5_handsFor 23 = .ok (.iload_n 1, 1) := by decide +kernel
theorem dX5_handsFor_24 : decode cX5_handsFor 24 = .ok (.invokevirtual 149, 3) := by decide +kernel
theorem dX5_handsFor_27 : decode cX5_handsFor 27 = .ok (.ifCond .eq 10, 3) := by decide +kernel
theorem dX5_handsFor_30 : decode cX5_handsFor 30 = .ok (.aload_n 0, 1) := by decide +kernel
theorem dX5_handsFor_31 : decode cX5_handsFor 31 = .ok (.ldc 152, 2) := by decide +kernel
theorem dX5_handsFor_33 : decode cX5_handsFor 33 = .ok (.invokevirtual 66, 3) := by decide +kernel
theorem dX5_handsFor_36 : decode cX5_handsFor 36 = .ok (.ireturn, 1) := by decide +kernel
theorem dX5_handsFor_37 : decode cX5_handsFor 37 = .ok (.iconst (-1), 1) := by decide +kernel
theorem dX5_handsFor_38 : decode cX5_handsFor 38 = .ok (.istore_n 3, 1) := by decide +kernel
theorem dX5_handsFor_39 : decode cX5_handsFor 39 = .ok (.bipush 40, 2) := by decide +kernel
theorem dX5_handsFor_41 : decode cX5_handsFor 41 = .ok (.istore 4, 2) := by decide +kernel
theorem dX5_handsFor_43 : decode cX5_handsFor 43 = .ok (.iload 4, 2) := by decide +kernel
theorem dX5_handsFor_45 : decode cX5_handsFor 45 = .ok (.ifCond .le 27, 3) := by decide +kernel
theorem dX5_handsFor_48 : decode cX5_handsFor 48 = .ok (.aload_n 0, 1) := by decide +kernel
theorem dX5_handsFor_49 : decode cX5_handsFor 49 = .ok (.iload_n 1, 1) := by decide +kernel
theorem dX5_handsFor_50 : decode cX5_handsFor 50 = .ok (.iload 4, 2) := by decide +kernel
theorem dX5_handsFor_52 : decode cX5_handsFor 52 = .ok (.iload_n 2, 1) := by decide +kernel
theorem dX5_handsFor_53 : decode cX5_handsFor 53 = .ok (.invokevirtual 199, 3) := by decide +kernel
theorem dX5_handsFor_56 : decode cX5_handsFor 56 = .ok (.ifCond .eq 8, 3) := by decide +kernel
theorem dX5_handsFor_59 : decode cX5_handsFor 59 = .ok (.iload 4, 2) := by decide +kernel
theorem dX5_handsFor_61 : decode cX5_handsFor 61 = .ok (.goto 4, 3) := by decide +kernel
theorem dX5_handsFor_64 : decode cX5_handsFor 64 = .ok (.iload_n 3, 1) := by decide +kernel
theorem dX5_handsFor_65 : decode cX5_handsFor 65 = .ok (.istore_n 3, 1) := by decide +kernel
theorem dX5_handsFor_66 : decode cX5_handsFor 66 = .ok (.iinc 4 (-1), 3) := by decide +kernel
theorem dX5_handsFor_69 : decode cX5_handsFor 69 = .ok (.goto (-26), 3) := by decide +kernel
theorem dX5_handsFor_72 : decode cX5_handsFor 72 = .ok (.aload_n 0, 1) := by decide +kernel
theorem dX5_handsFor_73 : decode cX5_handsFor 73 = .ok (.iload_n 3, 1) := by decide +kernel
theorem dX5_handsFor_74 : decode cX5_handsFor 74 = .ok (.invokevirtual 192, 3) := by decide +kernel
theorem dX5_handsFor_77 : decode cX5_handsFor 77 = .ok (.ireturn, 1) := by decide +kernel
end
section
theorem dX5_nothingIsCut_0 : decode cX5_nothingIsCut 0 = .ok (.aload_n 0, 1) := by decide +kernel
theorem dX5_nothingIsCut_1 : decode cX5_nothingIsCut 1 = .ok (.getfield 9, 3) := by decide +kernel
theorem dX5_nothingIsCut_4 : decode cX5_nothingIsCut 4 = .ok (.iconst 4, 1) := by decide +kernel
theorem dX5_nothingIsCut_5 : decode cX5_nothingIsCut 5 = .ok (.iaload, 1) := by decide +kernel
theorem dX5_nothingIsCut_6 : decode cX5_nothingIsCut 6 = .ok (.istore_n 3, 1) := by decide +kernel
theorem dX5_nothingIsCut_7 : decode cX5_nothingIsCut 7 = .ok (.aload_n 0, 1) := by decide +kernel
theorem dX5_nothingIsCut_8 : decode cX5_nothingIsCut 8 = .ok (.getfield 9, 3) := by decide +kernel
theorem dX5_nothingIsCut_11 : decode cX5_nothingIsCut 11 = .ok (.aload_n 0, 1) := by decide +kernel
theorem dX5_nothingIsCut_12 : decode cX5_nothingIsCut 12 = .ok (.getfield 16, 3) := by decide +kernel
theorem dX5_nothingIsCut_15 : decode cX5_nothingIsCut 15 = .ok (.invokestatic 61, 3) := by decide +kernel
theorem dX5_nothingIsCut_18 : decode cX5_nothingIsCut 18 = .ok (.iconst 0, 1) := by decide +kernel
theorem dX5_nothingIsCut_19 : decode cX5_nothingIsCut 19 = .ok (.istore 4, 2) := by decide +kernel
theorem dX5_nothingIsCut_21 : decode cX5_nothingIsCut 21 = .ok (.iload 4, 2) := by decide +kernel
theorem dX5_nothingIsCut_23 : decode cX5_nothingIsCut 23 = .ok (.aload_n 0, 1) := by decide +kernel
theorem dX5_nothingIsCut_24 : decode cX5_nothingIsCut 24 = .ok (.getfield 9, 3) := by decide +kernel
theorem dX5_nothingIsCut_27 : decode cX5_nothingIsCut 27 = .ok (.iconst 1, 1) := by decide +kernel
theorem dX5_nothingIsCut_28 : decode cX5_nothingIsCut 28 = .ok (.iaload, 1) := by decide +kernel
theorem dX5_nothingIsCut_29 : decode cX5_nothingIsCut 29 = .ok (.if_icmp .ge 31, 3) := by decide +kernel
theorem dX5_nothingIsCut_32 : decode cX5_nothingIsCut 32 = .ok (.iload_n 1, 1) := by decide +kernel
theorem dX5_nothingIsCut_33 : decode cX5_nothingIsCut 33 = .ok (.iload 4, 2) := by decide +kernel
theorem dX5_nothingIsCut_35 : decode cX5_nothingIsCut 35 = .ok (.ishr, 1) := by decide +kernel
theorem dX5_nothingIsCut_36 : decode cX5_nothingIsCut 36 = .ok (.iconst 1, 1) := by decide +kernel
theorem dX5_nothingIsCut_37 : decode cX5_nothingIsCut 37 = .ok (.iand, 1) := by decide +kernel
theorem dX5_nothingIsCut_38 : decode cX5_nothingIsCut 38 = .ok (.iconst 1, 1) := by decide +kernel
theorem dX5_nothingIsCut_39 : decode cX5_nothingIsCut 39 = .ok (.if_icmp .ne 15, 3) := by decide +kernel
theorem dX5_nothingIsCut_42 : decode cX5_nothingIsCut 42 = .ok (.aload_n 0, 1) := by decide +kernel
theorem dX5_nothingIsCut_43 : decode cX5_nothingIsCut 43 = .ok (.getfield 9, 3) := by decide +kernel
theorem dX5_nothingIsCut_46 : decode cX5_nothingIsCut 46 = .ok (.iload 4, 2) := by decide +kernel
theorem dX5_nothingIsCut_48 : decode cX5_nothingIsCut 48 = .ok (.iconst 4, 1) := by decide +kernel
theorem dX5_nothingIsCut_49 : decode cX5_nothingIsCut 49 = .ok (.invokestatic 85, 3) := by decide +kernel
theorem dX5_nothingIsCut_52 : decode cX5_nothingIsCut 52 = .ok (.iconst 1, 1) := by decide +kernel
theorem dX5_nothingIsCut_53 : decode cX5_nothingIsCut 53 = .ok (.iastore, 1) := by decide +kernel
theorem dX5_nothingIsCut_54 : decode cX5_nothingIsCut 54 = .ok (.iinc 4 1, 3) := by decide +kernel
theorem dX5_nothingIsCut_57 : decode cX5_nothingIsCut 57 = .ok (.goto (-36), 3) := by decide +kernel
theorem dX5_nothingIsCut_60 : decode cX5_nothingIsCut 60 = .ok (.aload_n 0, 1) := by decide +kernel
theorem dX5_nothingIsCut_61 : decode cX5_nothingIsCut 61 = .ok (.iload_n 2, 1) := by decide +kernel
theorem dX5_nothingIsCut_62 : decode cX5_nothingIsCut 62 = .ok (.invokevirtual 167, 3) := by decide +kernel
theorem dX5_nothingIsCut_65 : decode cX5_nothingIsCut 65 = .ok (.aload_n 0, 1) := by decide +kernel
theorem dX5_nothingIsCut_66 : decode cX5_nothingIsCut 66 = .ok (.getfield 9, 3) := by decide +kernel
theorem dX5_nothingIsCut_69 : decode cX5_nothingIsCut 69 = .ok (.iconst 4, 1) := by decide +kernel
theorem dX5_nothingIsCut_70 : decode cX5_nothingIsCut 70 = .ok (.iaload, 1) := by decide +kernel
theorem dX5_nothingIsCut_71 : decode cX5_nothingIsCut 71 = .ok (.iload_n 3, 1) := by decide +kernel
theorem dX5_nothingIsCut_72 : decode cX5_nothingIsCut 72 = .ok (.if_icmp .ne 7, 3) := by decide +kernel
theorem dX5_nothingIsCut_75 : decode cX5_nothingIsCut 75 = .ok (.iconst 1, 1) := by decide +kernel
theorem dX5_nothingIsCut_76 : decode cX5_nothingIsCut 76 = .ok (.goto 4, 3) := by decide +kernel
theorem dX5_nothingIsCut_79 : decode cX5_nothingIsCut 79 = .ok (.iconst 0, 1) := by decide +kernel
theorem dX5_nothingIsCut_80 : decode cX5_nothingIsCut 80 = .ok (.istore 4, 2) := by decide +kernel
theorem dX5_nothingIsCut_82 : decode cX5_nothingIsCut 82 = .ok (.aload_n 0, 1) := by decide +kernel
theorem dX5_nothingIsCut_83 : decode cX5_nothingIsCut 83 = .ok (.getfield 16, 3) := by decide +kernel
theorem dX5_nothingIsCut_86 : decode cX5_nothingIsCut 86 = .ok (.aload_n 0, 1) := by decide +kernel
theorem dX5_nothingIsCut_87 : decode cX5_nothingIsCut 87 = .ok (.getfield 9, 3) := by decide +kernel
theorem dX5_nothingIsCut_90 : decode cX5_nothingIsCut 90 = .ok (.invokestatic 61, 3) := by decide +kernel
theorem dX5_nothingIsCut_93 : decode cX5_nothingIsCut 93 = .ok (.iload 4, 2) := by decide +kernel
theorem dX5_nothingIsCut_95 : decode cX5_nothingIsCut 95 = .ok (.ireturn, 1) := by decide +kernel
theorem dX5_tie_0 : decode cX5_tie 0 = .ok (.iload_n 1, 1) := by decide +kernel
theorem dX5_tie_1 : decode cX5_tie 1 = .ok (.iconst 0, 1) := by decide +kernel
theorem dX5_tie_2 : decode cX5_tie 2 = .ok (.bipush 20, 2) := by decide +kernel
theorem dX5_tie_4 : decode cX5_tie 4 = .ok (.invokestatic 70, 3) := by decide +kernel
theorem dX5_tie_7 : decode cX5_tie 7 = .ok (.ifCond .ne 10, 3) := by decide +kernel
theorem dX5_tie_10 : decode cX5_tie 10 = .ok (.aload_n 0, 1) := by decide +kernel
theorem dX5_tie_11 : decode cX5_tie 11 = .ok (.ldc 60, 2) := by decide +kernel
theorem dX5_tie_13 : decode cX5_tie 13 = .ok (.invokevirtual 66, 3) := by decide +kernel
theorem dX5_tie_16 : decode cX5_tie 16 = .ok (.ireturn, 1) := by decide +kernel
theorem dX5_tie_17 : decode cX5_tie 17 = .ok (.iconst (-1), 1) := by decide +kernel
theorem dX5_tie_18 : decode cX5_tie 18 = .ok (.istore_n 2, 1) := by decide +kernel
theorem dX5_tie_19 : decode cX5_tie 19 = .ok (.iconst 1, 1) := by decide +kernel
theorem dX5_tie_20 : decode cX5_tie 20 = .ok (.aload_n 0, 1) := by decide +kernel
theorem dX5_tie_21 : decode cX5_tie 21 = .ok (.getfield 9, 3) := by decide +kernel
theorem dX5_tie_24 : decode cX5_tie 24 = .ok (.iconst 1, 1) := by decide +kernel
theorem dX5_tie_25 : decode cX5_tie 25 = .ok (.iaload, 1) := by decide +kernel
theorem dX5_tie_26 : decode cX5_tie 26 = .ok (.ishl, 1) := by decide +kernel
theorem dX5_tie_27 : decode cX5_tie 27 = .ok (.iconst 1, 1) := by decide +kernel
theorem dX5_tie_28 : decode cX5_tie 28 = .ok (.isub, 1) := by decide +kernel
theorem dX5_tie_29 : decode cX5_tie 29 = .ok (.istore_n 3, 1) := by decide +kernel
theorem dX5_tie_30 : decode cX5_tie 30 = .ok (.iload_n 3, 1) := by decide +kernel
theorem dX5_tie_31 : decode cX5_tie 31 = .ok (.ifCond .lt 39, 3) := by decide +kernel
theorem dX5_tie_34 : decode cX5_tie 34 = .ok (.iload_n 2, 1) := by decide +kernel
theorem dX5_tie_35 : decode cX5_tie 35 = .ok (.ifCond .lt 14, 3) := by decide +kernel
theorem dX5_tie_38 : decode cX5_tie 38 = .ok (.iload_n 3, 1) := by decide +kernel
theorem dX5_tie_39 : decode cX5_tie 39 = .ok (.invokestatic 101, 3) := by decide +kernel
theorem dX5_tie_42 : decode cX5_tie 42 = .ok (.iload_n 2, 1) := by decide +kernel
theorem dX5_tie_43 : decode cX5_tie 43 = .ok (.invokestatic 101, 3) := by decide +kernel
theorem dX5_tie_46 : decode cX5_tie 46 = .ok (.if_icmp .gt 16, 3) := by decide +kernel
theorem dX5_tie_49 : decode cX5_tie 49 = .ok (.aload_n 0, 1) := by decide +kernel
theorem dX5_tie_50 : decode cX5_tie 50 = .ok (.iload_n 3, 1) := by decide +kernel
theorem dX5_tie_51 : decode cX5_tie 51 = .ok (.iload_n 1, 1) := by decide +kernel
theorem dX5_tie_52 : decode cX5_tie 52 = .ok (.invokevirtual 202, 3) := by decide +kernel
theorem dX5_tie_55 : decode cX5_tie 55 = .ok (.ifCond .eq 7, 3) := by decide +kernel
theorem dX5_tie_58 : decode cX5_tie 58 = .ok (.iload_n 3, 1) := by decide +kernel
theorem dX5_tie_59 : decode cX5_tie 59 = .ok (.goto 4, 3) := by decide +kernel
theorem dX5_tie_62 : decode cX5_tie 62 = .ok (.iload_n 2, 1) := by decide +kernel
theorem dX5_tie_63 : decode cX5_tie 63 = .ok (.istore_n 2, 1) := by decide +kernel
theorem dX5_tie_64 : decode cX5_tie 64 = .ok (.iinc 3 (-1), 3) := by decide +kernel
theorem dX5_tie_67 : decode cX5_tie 67 = .ok (.goto (-37), 3) := by decide +kernel
theorem dX5_tie_70 : decode cX5_tie 70 = .ok (.aload_n 0, 1) := by decide +kernel
theorem dX5_tie_71 : decode cX5_tie 71 = .ok (.iload_n 2, 1) := by decide +kernel
theorem dX5_tie_72 : decode cX5_tie 72 = .ok (.invokevirtual 192, 3) := by decide +kernel
theorem dX5_tie_75 : decode cX5_tie 75 = .ok (.ireturn, 1) := by decide +kernel
theorem dX5_pleases_0 : decode cX5_pleases 0 = .ok (.iconst 1, 1) := by decide +kernel
theorem dX5_pleases_1 : decode cX5_pleases 1 = .ok (.istore_n 2, 1) := by decide +kernel
theorem dX5_pleases_2 : decode cX5_pleases 2 = .ok (.iconst 0, 1) := by decide +kernel
theorem dX5_pleases_3 : decode cX5_pleases 3 = .ok (.istore_n 3, 1) := by decide +kernel
theorem dX5_pleases_4 : decode cX5_pleases 4 = .ok (.iload_n 3, 1) := by decide +kernel
theorem dX5_pleases_5 : decode cX5_pleases 5 = .ok (.aload_n 0, 1) := by decide +kernel
theorem dX5_pleases_6 : decode cX5_pleases 6 = .ok (.getfield 9, 3) := by decide +kernel
theorem dX5_pleases_9 : decode cX5_pleases 9 = .ok (.iconst 1, 1) := by decide +kernel
theorem dX5_pleases_10 : decode cX5_pleases 10 = .ok (.iaload, 1) := by decide +kernel
theorem dX5_pleases_11 : decode cX5_pleases 11 = .ok (.if_icmp .ge 39, 3) := by decide +kernel
theorem dX5_pleases_14 : decode cX5_pleases 14 = .ok (.iload_n 2, 1) := by decide +kernel
theorem dX5_pleases_15 : decode cX5_pleases 15 = .ok (.ifCond .eq 27, 3) := by decide +kernel
theorem dX5_pleases_18 : decode cX5_pleases 18 = .ok (.aload_n 0, 1) := by decide +kernel
theorem dX5_pleases_19 : decode cX5_pleases 19 = .ok (.iload_n 3, 1) := by decide +kernel
theorem dX5_pleases_20 : decode cX5_pleases 20 = .ok (.iconst 2, 1) := by decide +kernel
theorem dX5_pleases_21 : decode cX5_pleases 21 = .ok (.invokevirtual 98, 3) := by decide +kernel
theorem dX5_pleases_24 : decode cX5_pleases 24 = .ok (.ifCond .eq 14, 3) := by decide +kernel
theorem dX5_pleases_27 : decode cX5_pleases 27 = .ok (.aload_n 0, 1) := by decide +kernel
theorem dX5_pleases_28 : decode cX5_pleases 28 = .ok (.iload_n 3, 1) := by decide +kernel
theorem dX5_pleases_29 : decode cX5_pleases 29 = .ok (.iconst 2, 1) := by decide +kernel
theorem dX5_pleases_30 : decode cX5_pleases 30 = .ok (.invokevirtual 98, 3) := by decide +kernel
theorem dX5_pleases_33 : decode cX5_pleases 33 = .ok (.iload_n 1, 1) := by decide +kernel
theorem dX5_pleases_34 : decode cX5_pleases 34 = .ok (.iand, 1) := by decide +kernel
theorem dX5_pleases_35 : decode cX5_pleases 35 = .ok (.ifCond .eq 7, 3) := by decide +kernel
theorem dX5_pleases_38 : decode cX5_pleases 38 = .ok (.iconst 1, 1) := by decide +kernel
theorem dX5_pleases_39 : decode cX5_pleases 39 = .ok (.goto 4, 3) := by decide +kernel
theorem dX5_pleases_42 : decode cX5_pleases 42 = .ok (.iconst 0, 1) := by decide +kernel
theorem dX5_pleases_43 : decode cX5_pleases 43 = .ok (.istore_n 2, 1) := by decide +kernel
theorem dX5_pleases_44 : decode cX5_pleases 44 = .ok (.iinc 3 1, 3) := by decide +kernel
theorem dX5_pleases_47 : decode cX5_pleases 47 = .ok (.goto (-43), 3) := by decide +kernel
theorem dX5_pleases_50 : decode cX5_pleases 50 = .ok (.iload_n 2, 1) := by decide +kernel
theorem dX5_pleases_51 : decode cX5_pleases 51 = .ok (.ireturn, 1) := by decide +kernel
theorem dX5_please_0 : decode cX5_please 0 = .ok (.sipush 4095, 3) := by decide +kernel
theorem dX5_please_3 : decode cX5_please 3 = .ok (.istore_n 1, 1) := by decide +kernel
theorem dX5_please_4 : decode cX5_please 4 = .ok (.sipush 4095, 3) := by decide +kernel
theorem dX5_please_7 : decode cX5_please 7 = .ok (.istore_n 2, 1) := by decide +kernel
theorem dX5_please_8 : decode cX5_please 8 = .ok (.iload_n 2, 1) := by decide +kernel
theorem dX5_please_9 : decode cX5_please 9 = .ok (.ifCond .lt 34, 3) := by decide +kernel
theorem dX5_please_12 : decode cX5_please 12 = .ok (.iload_n 2, 1) := by decide +kernel
theorem dX5_please_13 : decode cX5_please 13 = .ok (.invokestatic 101, 3) := by decide +kernel
theorem dX5_please_16 : decode cX5_please 16 = .ok (.iload_n 1, 1) := by decide +kernel
theorem dX5_please_17 : decode cX5_please 17 = .ok (.invokestatic 101, 3) := by decide +kernel
theorem dX5_please_20 : decode cX5_please 20 = .ok (.if_icmp .gt 15, 3) := by decide +kernel
theorem dX5_please_23 : decode cX5_please 23 = .ok (.aload_n 0, 1) := by decide +kernel
theorem dX5_please_24 : decode cX5_please 24 = .ok (.iload_n 2, 1) := by decide +kernel
theorem dX5_please_25 : decode cX5_please 25 = .ok (.invokevirtual 205, 3) := by decide +kernel
theorem dX5_please_28 : decode cX5_please 28 = .ok (.ifCond .eq 7, 3) := by decide +kernel
theorem dX5_please_31 : decode cX5_please 31 = .ok (.iload_n 2, 1) := by decide +kernel
theorem dX5_please_32 : decode cX5_please 32 = .ok (.goto 4, 3) := by decide +kernel
theorem dX5_please_35 : decode cX5_please 35 = .ok (.iload_n 1, 1) := by decide +kernel
theorem dX5_please_36 : decode cX5_please 36 = .ok (.istore_n 1, 1) := by decide +kernel
theorem dX5_please_37 : decode cX5_please 37 = .ok (.iinc 2 (-1), 3) := by decide +kernel
theorem dX5_please_40 : decode cX5_please 40 = .ok (.goto (-32), 3) := by decide +kernel
theorem dX5_please_43 : decode cX5_please 43 = .ok (.iload_n 1, 1) := by decide +kernel
theorem dX5_please_44 : decode cX5_please 44 = .ok (.ireturn, 1) := by decide +kernel
theorem dX5_lacks_0 : decode cX5_lacks 0 = .ok (.iload_n 1, 1) := by decide +kernel
theorem dX5_lacks_1 : decode cX5_lacks 1 = .ok (.invokestatic 208, 3) := by decide +kernel
theorem dX5_lacks_4 : decode cX5_lacks 4 = .ok (.ifCond .ne 8, 3) := by decide +kernel
theorem dX5_lacks_7 : decode cX5_lacks 7 = .ok (.ldc 60, 2) := by decide +kernel
theorem dX5_lacks_9 : decode cX5_lacks 9 = .ok (.goto 27, 3) := by decide +kernel
theorem dX5_lacks_12 : decode cX5_lacks 12 = .ok (.aload_n 0, 1) := by decide +kernel
theorem dX5_lacks_13 : decode cX5_lacks 13 = .ok (.getfield 48, 3) := by decide +kernel
theorem dX5_lacks_16 : decode cX5_lacks 16 = .ok (.iload_n 1, 1) := by decide +kernel
theorem dX5_lacks_17 : decode cX5_lacks 17 = .ok (.iaload, 1) := by decide +kernel
theorem dX5_lacks_18 : decode cX5_lacks 18 = .ok (.ifCond .ne 8, 3) := by decide +kernel
theorem dX5_lacks_21 : decode cX5_lacks 21 = .ok (.ldc 211, 2) := by decide +kernel
theorem dX5_lacks_23 : decode cX5_lacks 23 = .ok (.goto 13, 3) := by decide +kernel
theorem dX5_lacks_26 : decode cX5_lacks 26 = .ok (.iload_n 2, 1) := by decide +kernel
theorem dX5_lacks_27 : decode cX5_lacks 27 = .ok (.ifCond .eq 7, 3) := by decide +kernel
theorem dX5_lacks_30 : decode cX5_lacks 30 = .ok (.iconst 0, 1) := by decide +kernel
theorem dX5_lacks_31 : decode cX5_lacks 31 = .ok (.goto 5, 3) := by decide +kernel
theorem dX5_lacks_34 : decode cX5_lacks 34 = .ok (.ldc 60, 2) := by decide +kernel
theorem dX5_lacks_36 : decode cX5_lacks 36 = .ok (.ireturn, 1) := by decide +kernel
theorem dX5_isSo_0 : decode cX5_isSo 0 = .ok (.aload_n 0, 1) := by decide +kernel
theorem dX5_isSo_1 : decode cX5_isSo 1 = .ok (.getfield 9, 3) := by decide +kernel
theorem dX5_isSo_4 : decode cX5_isSo 4 = .ok (.aload_n 0, 1) := by decide +kernel
theorem dX5_isSo_5 : decode cX5_isSo 5 = .ok (.getfield 16, 3) := by decide +kernel
theorem dX5_isSo_8 : decode cX5_isSo 8 = .ok (.invokestatic 61, 3) := by decide +kernel
theorem dX5_isSo_11 : decode cX5_isSo 11 = .ok (.iconst 1, 1) := by decide +kernel
theorem dX5_isSo_12 : decode cX5_isSo 12 = .ok (.istore_n 3, 1) := by decide +kernel
theorem dX5_isSo_13 : decode cX5_isSo 13 = .ok (.iconst 0, 1) := by decide +kernel
theorem dX5_isSo_14 : decode cX5_isSo 14 = .ok (.istore 4, 2) := by decide +kernel
theorem dX5_isSo_16 : decode cX5_isSo 16 = .ok (.iload 4, 2) := by decide +kernel
theorem dX5_isSo_18 : decode cX5_isSo 18 = .ok (.aload_n 0, 1) := by decide +kernel
theorem dX5_isSo_19 : decode cX5_isSo 19 = .ok (.getfield 51, 3) := by decide +kernel
theorem dX5_isSo_22 : decode cX5_isSo 22 = .ok (.iload_n 1, 1) := by decide +kernel
theorem dX5_isSo_23 : decode cX5_isSo 23 = .ok (.iaload, 1) := by decide +kernel
theorem dX5_isSo_24 : decode cX5_isSo 24 = .ok (.if_icmp .ge 54, 3) := by decide +kernel
theorem dX5_isSo_27 : decode cX5_isSo 27 = .ok (.iload_n 3, 1) := by decide +kernel
theorem dX5_isSo_28 : decode cX5_isSo 28 = .ok (.ifCond .eq 50, 3) := by decide +kernel
theorem dX5_isSo_31 : decode cX5_isSo 31 = .ok (.aload_n 0, 1) := by decide +kernel
theorem dX5_isSo_32 : decode cX5_isSo 32 = .ok (.getfield 54, 3) := by decide +kernel
theorem dX5_isSo_35 : decode cX5_isSo 35 = .ok (.bipush 40, 2) := by decide +kernel
theorem dX5_isSo_37 : decode cX5_isSo 37 = .ok (.iload_n 1, 1) := by decide +kernel
theorem dX5_isSo_38 : decode cX5_isSo 38 = .ok (.imul, 1) := by decide +kernel
theorem dX5_isSo_39 : decode cX5_isSo 39 = .ok (.iload 4, 2) := by decide +kernel
theorem dX5_isSo_41 : decode cX5_isSo 41 = .ok (.iadd, 1) := by decide +kernel
theorem dX5_isSo_42 : decode cX5_isSo 42 = .ok (.iaload, 1) := by decide +kernel
theorem dX5_isSo_43 : decode cX5_isSo 43 = .ok (.istore 5, 2) := by decide +kernel
theorem dX5_isSo_45 : decode cX5_isSo 45 = .ok (.iload 5, 2) := by decide +kernel
theorem dX5_isSo_47 : decode cX5_isSo 47 = .ok (.iconst (-1), 1) := by decide +kernel
theorem dX5_isSo_48 : decode cX5_isSo 48 = .ok (.if_icmp .eq 14, 3) := by decide +kernel
theorem dX5_isSo_51 : decode cX5_isSo 51 = .ok (.iload 5, 2) := by decide +kernel
theorem dX5_isSo_53 : decode cX5_isSo 53 = .ok (.aload_n 0, 1) := by decide +kernel
theorem dX5_isSo_54 : decode cX5_isSo 54 = .ok (.iload_n 2, 1) := by decide +kernel
theorem dX5_isSo_55 : decode cX5_isSo 55 = .ok (.iconst 3, 1) := by decide +kernel
theorem dX5_isSo_56 : decode cX5_isSo 56 = .ok (.invokevirtual 98, 3) := by decide +kernel
theorem dX5_isSo_59 : decode cX5_isSo 59 = .ok (.if_icmp .ne 7, 3) := by decide +kernel
theorem dX5_isSo_62 : decode cX5_isSo 62 = .ok (.iconst 1, 1) := by decide +kernel
theorem dX5_isSo_63 : decode cX5_isSo 63 = .ok (.goto 4, 3) := by decide +kernel
theorem dX5_isSo_66 : decode cX5_isSo 66 = .ok (.iconst 0, 1) := by decide +kernel
theorem dX5_isSo_67 : decode cX5_isSo 67 = .ok (.istore_n 3, 1) := by decide +kernel
theorem dX5_isSo_68 : decode cX5_isSo 68 = .ok (.aload_n 0, 1) := by decide +kernel
theorem dX5_isSo_69 : decode cX5_isSo 69 = .ok (.invokevirtual 164, 3) := by decide +kernel
theorem dX5_isSo_72 : decode cX5_isSo 72 = .ok (.iinc 4 1, 3) := by decide +kernel
theorem dX5_isSo_75 : decode cX5_isSo 75 = .ok (.goto (-59), 3) := by decide +kernel
theorem dX5_isSo_78 : decode cX5_isSo 78 = .ok (.aload_n 0, 1) := by decide +kernel
theorem dX5_isSo_79 : decode cX5_isSo 79 = .ok (.getfield 16, 3) := by decide +kernel
theorem dX5_isSo_82 : decode cX5_isSo 82 = .ok (.aload_n 0, 1) := by decide +kernel
theorem dX5_isSo_83 : decode cX5_isSo 83 = .ok (.getfield 9, 3) := by decide +kernel
theorem dX5_isSo_86 : decode cX5_isSo 86 = .ok (.invokestatic 61, 3) := by decide +kernel
theorem dX5_isSo_89 : decode cX5_isSo 89 = .ok (.iload_n 3, 1) := by decide +kernel
theorem dX5_isSo_90 : decode cX5_isSo 90 = .ok (.ireturn, 1) := by decide +kernel
theorem dX5_fitting_0 : decode cX5_fitting 0 = .ok (.aload_n 0, 1) := by decide +kernel
theorem dX5_fitting_1 : decode cX5_fitting 1 = .ok (.getfield 9, 3) := by decide +kernel
theorem dX5_fitting_4 : decode cX5_fitting 4 = .ok (.iload_n 3, 1) := by decide +kernel
theorem dX5_fitting_5 : decode cX5_fitting 5 = .ok (.iaload, 1) := by decide +kernel
theorem dX5_fitting_6 : decode cX5_fitting 6 = .ok (.istore 5, 2) := by decide +kernel
theorem dX5_fitting_8 : decode cX5_fitting 8 = .ok (.iconst 0, 1) := by decide +kernel
theorem dX5_fitting_9 : decode cX5_fitting 9 = .ok (.istore 6, 2) := by decide +kernel
theorem dX5_fitting_11 : decode cX5_fitting 11 = .ok (.iconst 0, 1) := by decide +kernel
theorem dX5_fitting_12 : decode cX5_fitting 12 = .ok (.istore 7, 2) := by decide +kernel
theorem dX5_fitting_14 : decode cX5_fitting 14 = .ok (.iload 7, 2) := by decide +kernel
theorem dX5_fitting_16 : decode cX5_fitting 16 = .ok (.iload 4, 2) := by decide +kernel
theorem dX5_fitting_18 : decode cX5_fitting 18 = .ok (.if_icmp .ge 39, 3) := by decide +kernel
theorem dX5_fitting_21 : decode cX5_fitting 21 = .ok (.aload_n 0, 1) := by decide +kernel
theorem dX5_fitting_22 : decode cX5_fitting 22 = .ok (.getfield 9, 3) := by decide +kernel
theorem dX5_fitting_25 : decode cX5_fitting 25 = .ok (.iload_n 3, 1) := by decide +kernel
theorem dX5_fitting_26 : decode cX5_fitting 26 = .ok (.iload 7, 2) := by decide +kernel
theorem dX5_fitting_28 : decode cX5_fitting 28 = .ok (.iastore, 1) := by decide +kernel
theorem dX5_fitting_29 : decode cX5_fitting 29 = .ok (.iload 6, 2) := by decide +kernel
theorem dX5_fitting_31 : decode cX5_fitting 31 = .ok (.aload_n 0, 1) := by decide +kernel
theorem dX5_fitting_32 : decode cX5_fitting 32 = .ok (.iload_n 1, 1) := by decide +kernel
theorem dX5_fitting_33 : decode cX5_fitting 33 = .ok (.iload_n 2, 1) := by decide +kernel
theorem dX5_fitting_34 : decode cX5_fitting 34 = .ok (.invokevirtual 212, 3) := by decide +kernel
theorem dX5_fitting_37 : decode cX5_fitting 37 = .ok (.ifCond .eq 10, 3) := by decide +kernel
theorem dX5_fitting_40 : decode cX5_fitting 40 = .ok (.iconst 1, 1) := by decide +kernel
theorem dX5_fitting_41 : decode cX5_fitting 41 = .ok (.iload 7, 2) := by decide +kernel
theorem dX5_fitting_43 : decode cX5_fitting 43 = .ok (.ishl, 1) := by decide +kernel
theorem dX5_fitting_44 : decode cX5_fitting 44 = .ok (.goto 4, 3) := by decide +kernel
theorem dX5_fitting_47 : decode cX5_fitting 47 = .ok (.iconst 0, 1) := by decide +kernel
theorem dX5_fitting_48 : decode cX5_fitting 48 = .ok (.ior, 1) := by decide +kernel
theorem dX5_fitting_49 : decode cX5_fitting 49 = .ok (.istore 6, 2) := by decide +kernel
theorem dX5_fitting_51 : decode cX5_fitting 51 = .ok (.iinc 7 1, 3) := by decide +kernel
theorem dX5_fitting_54 : decode cX5_fitting 54 = .ok (.goto (-40), 3) := by decide +kernel
theorem dX5_fitting_57 : decode cX5_fitting 57 = .ok (.aload_n 0, 1) := by decide +kernel
theorem dX5_fitting_58 : decode cX5_fitting 58 = .ok (.getfield 9, 3) := by decide +kernel
theorem dX5_fitting_61 : decode cX5_fitting 61 = .ok (.iload_n 3, 1) := by decide +kernel
theorem dX5_fitting_62 : decode cX5_fitting 62 = .ok (.iload 5, 2) := by decide +kernel
theorem dX5_fitting_64 : decode cX5_fitting 64 = .ok (.iastore, 1) := by decide +kernel
theorem dX5_fitting_65 : decode cX5_fitting 65 = .ok (.iload 6, 2) := by decide +kernel
theorem dX5_fitting_67 : decode cX5_fitting 67 = .ok (.ireturn, 1) := by decide +kernel
theorem dX5_fits_0 : decode cX5_fits 0 = .ok (.aload_n 0, 1) := by decide +kernel
theorem dX5_fits_1 : decode cX5_fits 1 = .ok (.iload_n 1, 1) := by decide +kernel
theorem dX5_fits_2 : decode cX5_fits 2 = .ok (.aload_n 0, 1) := by decide +kernel
theorem dX5_fits_3 : decode cX5_fits 3 = .ok (.iload_n 2, 1) := by decide +kernel
theorem dX5_fits_4 : decode cX5_fits 4 = .ok (.invokevirtual 123, 3) := by decide +kernel
theorem dX5_fits_7 : decode cX5_fits 7 = .ok (.invokevirtual 215, 3) := by decide +kernel
theorem dX5_fits_10 : decode cX5_fits 10 = .ok (.istore_n 3, 1) := by decide +kernel
theorem dX5_fits_11 : decode cX5_fits 11 = .ok (.iload_n 3, 1) := by decide +kernel
theorem dX5_fits_12 : decode cX5_fits 12 = .ok (.ifCond .eq 11, 3) := by decide +kernel
theorem dX5_fits_15 : decode cX5_fits 15 = .ok (.aload_n 0, 1) := by decide +kernel
theorem dX5_fits_16 : decode cX5_fits 16 = .ok (.iload_n 3, 1) := by decide +kernel
theorem dX5_fits_17 : decode cX5_fits 17 = .ok (.invokevirtual 66, 3) := by decide +kernel
theorem dX5_fits_20 : decode cX5_fits 20 = .ok (.goto 15, 3) := by decide +kernel
theorem dX5_fits_23 : decode cX5_fits 23 = .ok (.aload_n 0, 1) := by decide +kernel
theorem dX5_fits_24 : decode cX5_fits 24 = .ok (.iload_n 1, 1) := by decide +kernel
theorem dX5_fits_25 : decode cX5_fits 25 = .ok (.iload_n 2, 1) := by decide +kernel
theorem dX5_fits_26 : decode cX5_fits 26 = .ok (.aload_n 0, 1) := by decide +kernel
theorem dX5_fits_27 : decode cX5_fits 27 = .ok (.invokevirtual 107, 3) := by decide +kernel
theorem dX5_fits_30 : decode cX5_fits 30 = .ok (.bipush 12, 2) := by decide +kernel
theorem dX5_fits_32 : decode cX5_fits 32 = .ok (.invokevirtual 219, 3) := by decide +kernel
theorem dX5_fits_35 : decode cX5_fits 35 = .ok (.ireturn, 1) := by decide +kernel
theorem dX5_kinds_0 : decode cX5_kinds 0 = .ok (.aload_n 0, 1) := by decide +kernel
theorem dX5_kinds_1 : decode cX5_kinds 1 = .ok (.iload_n 1, 1) := by decide +kernel
theorem dX5_kinds_2 : decode cX5_kinds 2 = .ok (.aload_n 0, 1) := by decide +kernel
theorem dX5_kinds_3 : decode cX5_kinds 3 = .ok (.iload_n 2, 1) := by decide +kernel
theorem dX5_kinds_4 : decode cX5_kinds 4 = .ok (.invokevirtual 123, 3) := by decide +kernel
theorem dX5_kinds_7 : decode cX5_kinds 7 = .ok (.invokevirtual 215, 3) := by decide +kernel
theorem dX5_kinds_10 : decode cX5_kinds 10 = .ok (.istore_n 3, 1) := by decide +kernel
theorem dX5_kinds_11 : decode cX5_kinds 11 = .ok (.iload_n 3, 1) := by decide +kernel
theorem dX5_kinds_12 : decode cX5_kinds 12 = .ok (.ifCond .eq 11, 3) := by decide +kernel
theorem dX5_kinds_15 : decode cX5_kinds 15 = .ok (.aload_n 0, 1) := by decide +kernel
theorem dX5_kinds_16 : decode cX5_kinds 16 = .ok (.iload_n 3, 1) := by decide +kernel
theorem dX5_kinds_17 : decode cX5_kinds 17 = .ok (.invokevirtual 66, 3) := by decide +kernel
theorem dX5_kinds_20 : decode cX5_kinds 20 = .ok (.goto 16, 3) := by decide +kernel
theorem dX5_kinds_23 : decode cX5_kinds 23 = .ok (.aload_n 0, 1) := by decide +kernel
theorem dX5_kinds_24 : decode cX5_kinds 24 = .ok (.iload_n 1, 1) := by decide +kernel
theorem dX5_kinds_25 : decode cX5_kinds 25 = .ok (.iload_n 2, 1) := by decide +kernel
theorem dX5_kinds_26 : decode cX5_kinds 26 = .ok (.iload_n 2, 1) := by decide +kernel
theorem dX5_kinds_27 : decode cX5_kinds 27 = .ok (.iconst 0, 1) := by decide +kernel
theorem dX5_kinds_28 : decode cX5_kinds 28 = .ok (.invokestatic 85, 3) := by decide +kernel
theorem dX5_kinds_31 : decode cX5_kinds 31 = .ok (.bipush 7, 2) := by decide +kernel
theorem dX5_kinds_33 : decode cX5_kinds 33 = .ok (.invokevirtual 219, 3) := by decide +kernel
theorem dX5_kinds_36 : decode cX5_kinds 36 = .ok (.ireturn, 1) := by decide +kernel
theorem dX5_drawn_0 : decode cX5_drawn 0 = .ok (.aload_n 0, 1) := by decide +kernel
theorem dX5_drawn_1 : decode cX5_drawn 1 = .ok (.getfield 9, 3) := by decide +kernel
theorem dX5_drawn_4 : decode cX5_drawn 4 = .ok (.iconst 2, 1) := by decide +kernel
theorem dX5_drawn_5 : decode cX5_drawn 5 = .ok (.aload_n 0, 1) := by decide +kernel
theorem dX5_drawn_6 : decode cX5_drawn 6 = .ok (.getfield 9, 3) := by decide +kernel
theorem dX5_drawn_9 : decode cX5_drawn 9 = .ok (.iconst 2, 1) := by decide +kernel
theorem dX5_drawn_10 : decode cX5_drawn 10 = .ok (.iaload, 1) := by decide +kernel
theorem dX5_drawn_11 : decode cX5_drawn 11 = .ok (.ldc 223, 2) := by decide +kernel
theorem dX5_drawn_13 : decode cX5_drawn 13 = .ok (.imul, 1) := by decide +kernel
theorem dX5_drawn_14 : decode cX5_drawn 14 = .ok (.sipush 12345, 3) := by decide +kernel
theorem dX5_drawn_17 : decode cX5_drawn 17 = .ok (.iadd, 1) := by decide +kernel
theorem dX5_drawn_18 : decode cX5_drawn 18 = .ok (.iastore, 1) := by decide +kernel
theorem dX5_drawn_19 : decode cX5_drawn 19 = .ok (.aload_n 0, 1) := by decide +kernel
theorem dX5_drawn_20 : decode cX5_drawn 20 = .ok (.getfield 9, 3) := by decide +kernel
theorem dX5_drawn_23 : decode cX5_drawn 23 = .ok (.iconst 2, 1) := by decide +kernel
theorem dX5_drawn_24 : decode cX5_drawn 24 = .ok (.iaload, 1) := by decide +kernel
theorem dX5_drawn_25 : decode cX5_drawn 25 = .ok (.bipush 8, 2) := by decide +kernel
theorem dX5_drawn_27 : decode cX5_drawn 27 = .ok (.iushr, 1) := by decide +kernel
theorem dX5_drawn_28 : decode cX5_drawn 28 = .ok (.ireturn, 1) := by decide +kernel
theorem dX5_evening_0 : decode cX5_evening 0 = .ok (.iload_n 1, 1) := by decide +kernel
theorem dX5_evening_1 : decode cX5_evening 1 = .ok (.iconst 1, 1) := by decide +kernel
theorem dX5_evening_2 : decode cX5_evening 2 = .ok (.bipush 20, 2) := by decide +kernel
theorem dX5_evening_4 : decode cX5_evening 4 = .ok (.invokestatic 70, 3) := by decide +kernel
theorem dX5_evening_7 : decode cX5_evening 7 = .ok (.ifCond .ne 10, 3) := by decide +kernel
theorem dX5_evening_10 : decode cX5_evening 10 = .ok (.aload_n 0, 1) := by decide +kernel
theorem dX5_evening_11 : decode cX5_evening 11 = .ok (.ldc 60, 2) := by decide +kernel
theorem dX5_evening_13 : decode cX5_evening 13 = .ok (.invokevirtual 66, 3) := by decide +kernel
theorem dX5_evening_16 : decode cX5_evening 16 = .ok (.ireturn, 1) := by decide +kernel
theorem dX5_evening_17 : decode cX5_evening 17 = .ok (.aload_n 0, 1) := by decide +kernel
theorem dX5_evening_18 : decode cX5_evening 18 = .ok (.getfield 9, 3) := by decide +kernel
theorem dX5_evening_21 : decode cX5_evening 21 = .ok (.iconst 0, 1) := by decide +kernel
theorem dX5_evening_22 : decode cX5_evening 22 = .ok (.iaload, 1) := by decide +kernel
theorem dX5_evening_23 : decode cX5_evening 23 = .ok (.iload_n 1, 1) := by decide +kernel
theorem dX5_evening_24 : decode cX5_evening 24 = .ok (.iadd, 1) := by decide +kernel
theorem dX5_evening_25 : decode cX5_evening 25 = .ok (.ldc 156, 2) := by decide +kernel
theorem dX5_evening_27 : decode cX5_evening 27 = .ok (.if_icmp .le 10, 3) := by decide +kernel
theorem dX5_evening_30 : decode cX5_evening 30 = .ok (.aload_n 0, 1) := by decide +kernel
theorem dX5_evening_31 : decode cX5_evening 31 = .ok (.ldc 152, 2) := by decide +kernel
theorem dX5_evening_33 : decode cX5_evening 33 = .ok (.invokevirtual 66, 3) := by decide +kernel
theorem dX5_evening_36 : decode cX5_evening 36 = .ok (.ireturn, 1) := by decide +kernel
theorem dX5_evening_37 : decode cX5_evening 37 = .ok (.iconst 0, 1) := by decide +kernel
theorem dX5_evening_38 : decode cX5_evening 38 = .ok (.istore_n 2, 1) := by decide +kernel
theorem dX5_evening_39 : decode cX5_evening 39 = .ok (.iload_n 2, 1) := by decide +kernel
theorem dX5_evening_40 : decode cX5_evening 40 = .ok (.iload_n 1, 1) := by decide +kernel
theorem dX5_evening_41 : decode cX5_evening 41 = .ok (.if_icmp .ge 66, 3) := by decide +kernel
theorem dX5_evening_44 : decode cX5_evening 44 = .ok (.aload_n 0, 1) := by decide +kernel
theorem dX5_evening_45 : decode cX5_evening 45 = .ok (.invokevirtual 224, 3) := by decide +kernel
theorem dX5_evening_48 : decode cX5_evening 48 = .ok (.bipush 12, 2) := by decide +kernel
theorem dX5_evening_50 : decode cX5_evening 50 = .ok (.irem, 1) := by decide +kernel
theorem dX5_evening_51 : decode cX5_evening 51 = .ok (.istore_n 3, 1) := by decide +kernel
theorem dX5_evening_52 : decode cX5_evening 52 = .ok (.aload_n 0, 1) := by decide +kernel
theorem dX5_evening_53 : decode cX5_evening 53 = .ok (.getfield 9, 3) := by decide +kernel
theorem dX5_evening_56 : decode cX5_evening 56 = .ok (.aload_n 0, 1) := by decide +kernel
theorem dX5_evening_57 : decode cX5_evening 57 = .ok (.invokevirtual 107, 3) := by decide +kernel
theorem dX5_evening_60 : decode cX5_evening 60 = .ok (.iload_n 3, 1) := by decide +kernel
theorem dX5_evening_61 : decode cX5_evening 61 = .ok (.iastore, 1) := by decide +kernel
theorem dX5_evening_62 : decode cX5_evening 62 = .ok (.aload_n 0, 1) := by decide +kernel
theorem dX5_evening_63 : decode cX5_evening 63 = .ok (.invokevirtual 224, 3) := by decide +kernel
theorem dX5_evening_66 : decode cX5_evening 66 = .ok (.bipush 8, 2) := by decide +kernel
theorem dX5_evening_68 : decode cX5_evening 68 = .ok (.irem, 1) := by decide +kernel
theorem dX5_evening_69 : decode cX5_evening 69 = .ok (.istore 4, 2) := by decide +kernel
theorem dX5_evening_71 : decode cX5_evening 71 = .ok (.aload_n 0, 1) := by decide +kernel
theorem dX5_evening_72 : decode cX5_evening 72 = .ok (.iload 4, 2) := by decide +kernel
theorem dX5_evening_74 : decode cX5_evening 74 = .ok (.invokevirtual 123, 3) := by decide +kernel
theorem dX5_evening_77 : decode cX5_evening 77 = .ok (.ifCond .eq 20, 3) := by decide +kernel
theorem dX5_evening_80 : decode cX5_evening 80 = .ok (.aload_n 0, 1) := by decide +kernel
theorem dX5_evening_81 : decode cX5_evening 81 = .ok (.getfield 9, 3) := by decide +kernel
theorem dX5_evening_84 : decode cX5_evening 84 = .ok (.iload 4, 2) := by decide +kernel
theorem dX5_evening_86 : decode cX5_evening 86 = .ok (.iconst 2, 1) := by decide +kernel
theorem dX5_evening_87 : decode cX5_evening 87 = .ok (.invokestatic 85, 3) := by decide +kernel
theorem dX5_evening_90 : decode cX5_evening 90 = .ok (.dup2, 1) := by decide +kernel
theorem dX5_evening_91 : decode cX5_evening 91 = .ok (.iaload, 1) := by decide +kernel
theorem dX5_evening_92 : decode cX5_evening 92 = .ok (.iconst 1, 1) := by decide +kernel
theorem dX5_evening_93 : decode cX5_evening 93 = .ok (.iload_n 3, 1) := by decide +kernel
theorem dX5_evening_94 : decode cX5_evening 94 = .ok (.ishl, 1) := by decide +kernel
theorem dX5_evening_95 : decode cX5_evening 95 = .ok (.ixor, 1) := by decide +kernel
theorem dX5_evening_96 : decode cX5_evening 96 = .ok (.iastore, 1) := by decide +kernel
theorem dX5_evening_97 : decode cX5_evening 97 = .ok (.aload_n 0, 1) := by decide +kernel
theorem dX5_evening_98 : decode cX5_evening 98 = .ok (.invokevirtual 164, 3) := by decide +kernel
theorem dX5_evening_101 : decode cX5_evening 101 = .ok (.iinc 2 1, 3) := by decide +kernel
theorem dX5_evening_104 : decode cX5_evening 104 = .ok (.goto (-65), 3) := by decide +kernel
theorem dX5_evening_107 : decode cX5_evening 107 = .ok (.aload_n 0, 1) := by decide +kernel
theorem dX5_evening_108 : decode cX5_evening 108 = .ok (.getfield 9, 3) := by decide +kernel
theorem dX5_evening_111 : decode cX5_evening 111 = .ok (.iconst 4, 1) := by decide +kernel
theorem dX5_evening_112 : decode cX5_evening 112 = .ok (.iaload, 1) := by decide +kernel
theorem dX5_evening_113 : decode cX5_evening 113 = .ok (.ireturn, 1) := by decide +kernel
theorem dX5_odds_0 : decode cX5_odds 0 = .ok (.aload_n 0, 1) := by decide +kernel
theorem dX5_odds_1 : decode cX5_odds 1 = .ok (.iload_n 1, 1) := by decide +kernel
theorem dX5_odds_2 : decode cX5_odds 2 = .ok (.invokevirtual 123, 3) := by decide +kernel
theorem dX5_odds_5 : decode cX5_odds 5 = .ok (.ifCond .eq 22, 3) := by decide +kernel
theorem dX5_odds_8 : decode cX5_odds 8 = .ok (.iload_n 2, 1) := by decide +kernel
theorem dX5_odds_9 : decode cX5_odds 9 = .ok (.iconst 0, 1) := by decide +kernel
theorem dX5_odds_10 : decode cX5_odds 10 = .ok (.bipush 17, 2) := by decide +kernel
theorem dX5_odds_12 : decode cX5_odds 12 = .ok (.invokestatic 70, 3) := by decide +kernel
theorem dX5_odds_15 : decode cX5_odds 15 = .ok (.ifCond .eq 12, 3) := by decide +kernel
theorem dX5_odds_18 : decode cX5_odds 18 = .ok (.iload_n 3, 1) := by decide +kernel
theorem dX5_odds_19 : decode cX5_odds 19 = .ok (.iconst 0, 1) := by decide +kernel
theorem dX5_odds_20 : decode cX5_odds 20 = .ok (.iconst 1, 1) := by decide +kernel
theorem dX5_odds_21 : decode cX5_odds 21 = .ok (.invokestatic 70, 3) := by decide +kernel
theorem dX5_odds_24 : decode cX5_odds 24 = .ok (.ifCond .ne 11, 3) := by decide +kernel
theorem dX5_odds_27 : decode cX5_odds 27 = .ok (.aload_n 0, 1) := by decide +kernel
theorem dX5_odds_28 : decode cX5_odds 28 = .ok (.ldc 60, 2) := by decide +kernel
theorem dX5_odds_30 : decode cX5_odds 30 = .ok (.invokevirtual 66, 3) := by decide +kernel
theorem dX5_odds_33 : decode cX5_odds 33 = .ok (.i2l, 1) := by decide +kernel
theorem dX5_odds_34 : decode cX5_odds 34 = .ok (.lreturn, 1) := by decide +kernel
theorem dX5_odds_35 : decode cX5_odds 35 = .ok (.aload_n 0, 1) := by decide +kernel
theorem dX5_odds_36 : decode cX5_odds 36 = .ok (.iload_n 1, 1) := by decide +kernel
theorem dX5_odds_37 : decode cX5_odds 37 = .ok (.iconst 2, 1) := by decide +kernel
theorem dX5_odds_38 : decode cX5_odds 38 = .ok (.invokevirtual 98, 3) := by decide +kernel
theorem dX5_odds_41 : decode cX5_odds 41 = .ok (.invokestatic 101, 3) := by decide +kernel
theorem dX5_odds_44 : decode cX5_odds 44 = .ok (.istore 4, 2) := by decide +kernel
theorem dX5_odds_46 : decode cX5_odds 46 = .ok (.bipush 12, 2) := by decide +kernel
theorem dX5_odds_48 : decode cX5_odds 48 = .ok (.istore 5, 2) := by decide +kernel
theorem dX5_odds_50 : decode cX5_odds 50 = .ok (.iload 4, 2) := by decide +kernel
theorem dX5_odds_52 : decode cX5_odds 52 = .ok (.istore 6, 2) := by decide +kernel
theorem dX5_odds_54 : decode cX5_odds 54 = .ok (.iload 6, 2) := by decide +kernel
theorem dX5_odds_56 : decode cX5_odds 56 = .ok (.ifCond .eq 21, 3) := by decide +kernel
theorem dX5_odds_59 : decode cX5_odds 59 = .ok (.iload 5, 2) := by decide +kernel
theorem dX5_odds_61 : decode cX5_odds 61 = .ok (.iload 6, 2) := by decide +kernel
theorem dX5_odds_63 : decode cX5_odds 63 = .ok (.irem, 1) := by decide +kernel
theorem dX5_odds_64 : decode cX5_odds 64 = .ok (.istore 7, 2) := by decide +kernel
theorem dX5_odds_66 : decode cX5_odds 66 = .ok (.iload 6, 2) := by decide +kernel
theorem dX5_odds_68 : decode cX5_odds 68 = .ok (.istore 5, 2) := by decide +kernel
theorem dX5_odds_70 : decode cX5_odds 70 = .ok (.iload 7, 2) := by decide +kernel
theorem dX5_odds_72 : decode cX5_odds 72 = .ok (.istore 6, 2) := by decide +kernel
theorem dX5_odds_74 : decode cX5_odds 74 = .ok (.goto (-20), 3) := by decide +kernel
theorem dX5_odds_77 : decode cX5_odds 77 = .ok (.lconst 1, 1) := by decide +kernel
theorem dX5_odds_78 : decode cX5_odds 78 = .ok (.lstore 7, 2) := by decide +kernel
theorem dX5_odds_80 : decode cX5_odds 80 = .ok (.iconst 0, 1) := by decide +kernel
theorem dX5_odds_81 : decode cX5_odds 81 = .ok (.istore 9, 2) := by decide +kernel
theorem dX5_odds_83 : decode cX5_odds 83 = .ok (.iload 9, 2) := by decide +kernel
theorem dX5_odds_85 : decode cX5_odds 85 = .ok (.iload_n 2, 1) := by decide +kernel
theorem dX5_odds_86 : decode cX5_odds 86 = .ok (.if_icmp .ge 29, 3) := by decide +kernel
theorem dX5_odds_89 : decode cX5_odds 89 = .ok (.lload 7, 2) := by decide +kernel
theorem dX5_odds_91 : decode cX5_odds 91 = .ok (.iload_n 3, 1) := by decide +kernel
theorem dX5_odds_92 : decode cX5_odds 92 = .ok (.ifCond .ne 8, 3) := by decide +kernel
theorem dX5_odds_95 : decode cX5_odds 95 = .ok (.iload 4, 2) := by decide +kernel
theorem dX5_odds_97 : decode cX5_odds 97 = .ok (.goto 5, 3) := by decide +kernel
theorem dX5_odds_100 : decode cX5_odds 100 = .ok (.bipush 12, 2) := by decide +kernel
theorem dX5_odds_102 : decode cX5_odds 102 = .ok (.iload 5, 2) := by decide +kernel
theorem dX5_odds_104 : decode cX5_odds 104 = .ok (.idiv, 1) := by decide +kernel
theorem dX5_odds_105 : decode cX5_odds 105 = .ok (.i2l, 1) := by decide +kernel
theorem dX5_odds_106 : decode cX5_odds 106 = .ok (.lmul, 1) := by decide +kernel
theorem dX5_odds_107 : decode cX5_odds 107 = .ok (.lstore 7, 2) := by decide +kernel
theorem dX5_odds_109 : decode cX5_odds 109 = .ok (.iinc 9 1, 3) := by decide +kernel
theorem dX5_odds_112 : decode cX5_odds 112 = .ok (.goto (-29), 3) := by decide +kernel
theorem dX5_odds_115 : decode cX5_odds 115 = .ok (.lload 7, 2) := by decide +kernel
theorem dX5_odds_117 : decode cX5_odds 117 = .ok (.lreturn, 1) := by decide +kernel
theorem dX5_seed_0 : decode cX5_seed 0 = .ok (.aload_n 0, 1) := by decide +kernel
theorem dX5_seed_1 : decode cX5_seed 1 = .ok (.iconst 2, 1) := by decide +kernel
theorem dX5_seed_2 : decode cX5_seed 2 = .ok (.iload_n 1, 1) := by decide +kernel
theorem dX5_seed_3 : decode cX5_seed 3 = .ok (.invokevirtual 74, 3) := by decide +kernel
theorem dX5_seed_6 : decode cX5_seed 6 = .ok (.ireturn, 1) := by decide +kernel
theorem dX5_feed_0 : decode cX5_feed 0 = .ok (.iload_n 2, 1) := by decide +kernel
theorem dX5_feed_1 : decode cX5_feed 1 = .ok (.iconst 1, 1) := by decide +kernel
theorem dX5_feed_2 : decode cX5_feed 2 = .ok (.iconst 4, 1) := by decide +kernel
theorem dX5_feed_3 : decode cX5_feed 3 = .ok (.invokestatic 70, 3) := by decide +kernel
theorem dX5_feed_6 : decode cX5_feed 6 = .ok (.ifCond .ne 10, 3) := by decide +kernel
theorem dX5_feed_9 : decode cX5_feed 9 = .ok (.aload_n 0, 1) := by decide +kernel
theorem dX5_feed_10 : decode cX5_feed 10 = .ok (.ldc 60, 2) := by decide +kernel
theorem dX5_feed_12 : decode cX5_feed 12 = .ok (.invokevirtual 66, 3) := by decide +kernel
theorem dX5_feed_15 : decode cX5_feed 15 = .ok (.ireturn, 1) := by decide +kernel
theorem dX5_feed_16 : decode cX5_feed 16 = .ok (.aload_n 0, 1) := by decide +kernel
theorem dX5_feed_17 : decode cX5_feed 17 = .ok (.getfield 227, 3) := by decide +kernel
theorem dX5_feed_20 : decode cX5_feed 20 = .ok (.iload_n 2, 1) := by decide +kernel
theorem dX5_feed_21 : decode cX5_feed 21 = .ok (.iadd, 1) := by decide +kernel
theorem dX5_feed_22 : decode cX5_feed 22 = .ok (.bipush 120, 2) := by decide +kernel
theorem dX5_feed_24 : decode cX5_feed 24 = .ok (.if_icmp .le 10, 3) := by decide +kernel
theorem dX5_feed_27 : decode cX5_feed 27 = .ok (.aload_n 0, 1) := by decide +kernel
theorem dX5_feed_28 : decode cX5_feed 28 = .ok (.ldc 94, 2) := by decide +kernel
theorem dX5_feed_30 : decode cX5_feed 30 = .ok (.invokevirtual 66, 3) := by decide +kernel
theorem dX5_feed_33 : decode cX5_feed 33 = .ok (.ireturn, 1) := by decide +kernel
theorem dX5_feed_34 : decode cX5_feed 34 = .ok (.iload_n 2, 1) := by decide +kernel
theorem dX5_feed_35 : decode cX5_feed 35 = .ok (.iconst 1, 1) := by decide +kernel
theorem dX5_feed_36 : decode cX5_feed 36 = .ok (.isub, 1) := by decide +kernel
theorem dX5_feed_37 : decode cX5_feed 37 = .ok (.istore_n 3, 1) := by decide +kernel
theorem dX5_feed_38 : decode cX5_feed 38 = .ok (.iload_n 3, 1) := by decide +kernel
theorem dX5_feed_39 : decode cX5_feed 39 = .ok (.ifCond .lt 38, 3) := by decide +kernel
theorem dX5_feed_42 : decode cX5_feed 42 = .ok (.aload_n 0, 1) := by decide +kernel
theorem dX5_feed_43 : decode cX5_feed 43 = .ok (.getfield 22, 3) := by decide +kernel
theorem dX5_feed_46 : decode cX5_feed 46 = .ok (.aload_n 0, 1) := by decide +kernel
theorem dX5_feed_47 : decode cX5_feed 47 = .ok (.getfield 227, 3) := by decide +kernel
theorem dX5_feed_50 : decode cX5_feed 50 = .ok (.iload_n 1, 1) := by decide +kernel
theorem dX5_feed_51 : decode cX5_feed 51 = .ok (.bipush 8, 2) := by decide +kernel
theorem dX5_feed_53 : decode cX5_feed 53 = .ok (.iload_n 3, 1) := by decide +kernel
theorem dX5_feed_54 : decode cX5_feed 54 = .ok (.imul, 1) := by decide +kernel
theorem dX5_feed_55 : decode cX5_feed 55 = .ok (.ishr, 1) := by decide +kernel
theorem dX5_feed_56 : decode cX5_feed 56 = .ok (.sipush 255, 3) := by decide +kernel
theorem dX5_feed_59 : decode cX5_feed 59 = .ok (.iand, 1) := by decide +kernel
theorem dX5_feed_60 : decode cX5_feed 60 = .ok (.iastore, 1) := by decide +kernel
theorem dX5_feed_61 : decode cX5_feed 61 = .ok (.aload_n 0, 1) := by decide +kernel
theorem dX5_feed_62 : decode cX5_feed 62 = .ok (.dup, 1) := by decide +kernel
theorem dX5_feed_63 : decode cX5_feed 63 = .ok (.getfield 227, 3) := by decide +kernel
theorem dX5_feed_66 : decode cX5_feed 66 = .ok (.iconst 1, 1) := by decide +kernel
theorem dX5_feed_67 : decode cX5_feed 67 = .ok (.iadd, 1) := by decide +kernel
theorem dX5_feed_68 : decode cX5_feed 68 = .ok (.putfield 227, 3) := by decide +kernel
theorem dX5_feed_71 : decode cX5_feed 71 = .ok (.iinc 3 (-1), 3) := by decide +kernel
theorem dX5_feed_74 : decode cX5_feed 74 = .ok (.goto (-36), 3) := by decide +kernel
theorem dX5_feed_77 : decode cX5_feed 77 = .ok (.aload_n 0, 1) := by decide +kernel
theorem dX5_feed_78 : decode cX5_feed 78 = .ok (.getfield 227, 3) := by decide +kernel
theorem dX5_feed_81 : decode cX5_feed 81 = .ok (.ireturn, 1) := by decide +kernel
theorem dX5_wipe_0 : decode cX5_wipe 0 = .ok (.aload_n 0, 1) := by decide +kernel
theorem dX5_wipe_1 : decode cX5_wipe 1 = .ok (.getfield 227, 3) := by decide +kernel
theorem dX5_wipe_4 : decode cX5_wipe 4 = .ok (.istore_n 1, 1) := by decide +kernel
theorem dX5_wipe_5 : decode cX5_wipe 5 = .ok (.aload_n 0, 1) := by decide +kernel
theorem dX5_wipe_6 : decode cX5_wipe 6 = .ok (.iconst 0, 1) := by decide +kernel
theorem dX5_wipe_7 : decode cX5_wipe 7 = .ok (.putfield 227, 3) := by decide +kernel
theorem dX5_wipe_10 : decode cX5_wipe 10 = .ok (.iload_n 1, 1) := by decide +kernel
theorem dX5_wipe_11 : decode cX5_wipe 11 = .ok (.ireturn, 1) := by decide +kernel
theorem dX5_byteAt_0 : decode cX5_byteAt 0 = .ok (.iload_n 1, 1) := by decide +kernel
theorem dX5_byteAt_1 : decode cX5_byteAt 1 = .ok (.aload_n 0, 1) := by decide +kernel
theorem dX5_byteAt_2 : decode cX5_byteAt 2 = .ok (.getfield 227, 3) := by decide +kernel
theorem dX5_byteAt_5 : decode cX5_byteAt 5 = .ok (.if_icmp .ge 12, 3) := by decide +kernel
theorem dX5_byteAt_8 : decode cX5_byteAt 8 = .ok (.aload_n 0, 1) := by decide +kernel
theorem dX5_byteAt_9 : decode cX5_byteAt 9 = .ok (.getfield 22, 3) := by decide +kernel
theorem dX5_byteAt_12 : decode cX5_byteAt 12 = .ok (.iload_n 1, 1) := by decide +kernel
theorem dX5_byteAt_13 : decode cX5_byteAt 13 = .ok (.iaload, 1) := by decide +kernel
theorem dX5_byteAt_14 : decode cX5_byteAt 14 = .ok (.goto 4, 3) := by decide +kernel
theorem dX5_byteAt_17 : decode cX5_byteAt 17 = .ok (.iconst (-1), 1) := by decide +kernel
theorem dX5_byteAt_18 : decode cX5_byteAt 18 = .ok (.ireturn, 1) := by decide +kernel
theorem dX5_token_0 : decode cX5_token 0 = .ok (.aload_n 0, 1) := by decide +kernel
theorem dX5_token_1 : decode cX5_token 1 = .ok (.aload_n 0, 1) := by decide +kernel
theorem dX5_token_2 : decode cX5_token 2 = .ok (.getfield 231, 3) := by decide +kernel
theorem dX5_token_5 : decode cX5_token 5 = .ok (.putfield 234, 3) := by decide +kernel
theorem dX5_token_8 : decode cX5_token 8 = .ok (.aload_n 0, 1) := by decide +kernel
theorem dX5_token_9 : decode cX5_token 9 = .ok (.aload_n 0, 1) := by decide +kernel
theorem dX5_token_10 : decode cX5_token 10 = .ok (.getfield 234, 3) := by decide +kernel
theorem dX5_token_13 : decode cX5_token 13 = .ok (.invokevirtual 237, 3) := by decide +kernel
theorem dX5_token_16 : decode cX5_token 16 = .ok (.bipush 32, 2) := by decide +kernel
theorem dX5_token_18 : decode cX5_token 18 = .ok (.if_icmp .ne 16, 3) := by decide +kernel
theorem dX5_token_21 : decode cX5_token 21 = .ok (.aload_n 0, 1) := by decide +kernel
theorem dX5_token_22 : decode cX5_token 22 = .ok (.dup, 1) := by decide +kernel
theorem dX5_token_23 : decode cX5_token 23 = .ok (.getfield 234, 3) := by decide +kernel
theorem dX5_token_26 : decode cX5_token 26 = .ok (.iconst 1, 1) := by decide +kernel
theorem dX5_token_27 : decode cX5_token 27 = .ok (.iadd, 1) := by decide +kernel
theorem dX5_token_28 : decode cX5_token 28 = .ok (.putfield 234, 3) := by decide +kernel
theorem dX5_token_31 : decode cX5_token 31 = .ok (.goto (-23), 3) := by decide +kernel
theorem dX5_token_34 : decode cX5_token 34 = .ok (.aload_n 0, 1) := by decide +kernel
theorem dX5_token_35 : decode cX5_token 35 = .ok (.aload_n 0, 1) := by decide +kernel
theorem dX5_token_36 : decode cX5_token 36 = .ok (.getfield 234, 3) := by decide +kernel
theorem dX5_token_39 : decode cX5_token 39 = .ok (.invokevirtual 237, 3) := by decide +kernel
theorem dX5_token_42 : decode cX5_token 42 = .ok (.istore_n 1, 1) := by decide +kernel
theorem dX5_token_43 : decode cX5_token 43 = .ok (.aload_n 0, 1) := by decide +kernel
theorem dX5_token_44 : decode cX5_token 44 = .ok (.aload_n 0, 1) := by decide +kernel
theorem dX5_token_45 : decode cX5_token 45 = .ok (.getfield 234, 3) := by decide +kernel
theorem dX5_token_48 : decode cX5_token 48 = .ok (.putfield 231, 3) := by decide +kernel
theorem dX5_token_51 : decode cX5_token 51 = .ok (.aload_n 0, 1) := by decide +kernel
theorem dX5_token_52 : decode cX5_token 52 = .ok (.iconst 0, 1) := by decide +kernel
theorem dX5_token_53 : decode cX5_token 53 = .ok (.putfield 240, 3) := by decide +kernel
theorem dX5_token_56 : decode cX5_token 56 = .ok (.iload_n 1, 1) := by decide +kernel
theorem dX5_token_57 : decode cX5_token 57 = .ok (.ifCond .ge 11, 3) := by decide +kernel
theorem dX5_token_60 : decode cX5_token 60 = .ok (.aload_n 0, 1) := by decide +kernel
theorem dX5_token_61 : decode cX5_token 61 = .ok (.iconst 0, 1) := by decide +kernel
theorem dX5_token_62 : decode cX5_token 62 = .ok (.putfield 243, 3) := by decide +kernel
theorem dX5_token_65 : decode cX5_token 65 = .ok (.goto 141, 3) := by decide +kernel
theorem dX5_token_68 : decode cX5_token 68 = .ok (.iload_n 1, 1) := by decide +kernel
theorem dX5_token_69 : decode cX5_token 69 = .ok (.bipush 97, 2) := by decide +kernel
theorem dX5_token_71 : decode cX5_token 71 = .ok (.bipush 122, 2) := by decide +kernel
theorem dX5_token_73 : decode cX5_token 73 = .ok (.invokestatic 70, 3) := by decide +kernel
theorem dX5_token_76 : decode cX5_token 76 = .ok (.ifCond .eq 39, 3) := by decide +kernel
theorem dX5_token_79 : decode cX5_token 79 = .ok (.aload_n 0, 1) := by decide +kernel
theorem dX5_token_80 : decode cX5_token 80 = .ok (.iconst 1, 1) := by decide +kernel
theorem dX5_token_81 : decode cX5_token 81 = .ok (.putfield 243, 3) := by decide +kernel
theorem dX5_token_84 : decode cX5_token 84 = .ok (.aload_n 0, 1) := by decide +kernel
theorem dX5_token_85 : decode cX5_token 85 = .ok (.aload_n 0, 1) := by decide +kernel
theorem dX5_token_86 : decode cX5_token 86 = .ok (.getfield 231, 3) := by decide +kernel
theorem dX5_token_89 : decode cX5_token 89 = .ok (.invokevirtual 237, 3) := by decide +kernel
theorem dX5_token_92 : decode cX5_token 92 = .ok (.bipush 97, 2) := by decide +kernel
theorem dX5_token_94 : decode cX5_token 94 = .ok (.bipush 122, 2) := by decide +kernel
theorem dX5_token_96 : decode cX5_token 96 = .ok (.invokestatic 70, 3) := by decide +kernel
theorem dX5_token_99 : decode cX5_token 99 = .ok (.ifCond .eq 107, 3) := by decide +kernel
theorem dX5_token_102 : decode cX5_token 102 = .ok (.aload_n 0, 1) := by decide +kernel
theorem dX5_token_103 : decode cX5_token 103 = .ok (.dup, 1) := by decide +kernel
theorem dX5_token_104 : decode cX5_token 104 = .ok (.getfield 231, 3) := by decide +kernel
theorem dX5_token_107 : decode cX5_token 107 = .ok (.iconst 1, 1) := by decide +kernel
theorem dX5_token_108 : decode cX5_token 108 = .ok (.iadd, 1) := by decide +kernel
theorem dX5_token_109 : decode cX5_token 109 = .ok (.putfield 231, 3) := by decide +kernel
theorem dX5_token_112 : decode cX5_token 112 = .ok (.goto (-28), 3) := by decide +kernel
theorem dX5_token_115 : decode cX5_token 115 = .ok (.iload_n 1, 1) := by decide +kernel
theorem dX5_token_116 : decode cX5_token 116 = .ok (.bipush 48, 2) := by decide +kernel
theorem dX5_token_118 : decode cX5_token 118 = .ok (.bipush 57, 2) := by decide +kernel
theorem dX5_token_120 : decode cX5_token 120 = .ok (.invokestatic 70, 3) := by decide +kernel
theorem dX5_token_123 : decode cX5_token 123 = .ok (.ifCond .eq 68, 3) := by decide +kernel
theorem dX5_token_126 : decode cX5_token 126 = .ok (.aload_n 0, 1) := by decide +kernel
theorem dX5_token_127 : decode cX5_token 127 = .ok (.iconst 2, 1) := by decide +kernel
theorem dX5_token_128 : decode cX5_token 128 = .ok (.putfield 243, 3) := by decide +kernel
theorem dX5_token_131 : decode cX5_token 131 = .ok (.aload_n 0, 1) := by decide +kernel
theorem dX5_token_132 : decode cX5_token 132 = .ok (.aload_n 0, 1) := by decide +kernel
theorem dX5_token_133 : decode cX5_token 133 = .ok (.getfield 231, 3) := by decide +kernel
theorem dX5_token_136 : decode cX5_token 136 = .ok (.invokevirtual 237, 3) := by decide +kernel
theorem dX5_token_139 : decode cX5_token 139 = .ok (.bipush 48, 2) := by decide +kernel
theorem dX5_token_141 : decode cX5_token 141 = .ok (.bipush 57, 2) := by decide +kernel
theorem dX5_token_143 : decode cX5_token 143 = .ok (.invokestatic 70, 3) := by decide +kernel
theorem dX5_token_146 : decode cX5_token 146 = .ok (.ifCond .eq 60, 3) := by decide +kernel
theorem dX5_token_149 : decode cX5_token 149 = .ok (.aload_n 0, 1) := by decide +kernel
theorem dX5_token_150 : decode cX5_token 150 = .ok (.sipush 10000, 3) := by decide +kernel
theorem dX5_token_153 : decode cX5_token 153 = .ok (.bipush 10, 2) := by decide +kernel
theorem dX5_token_155 : decode cX5_token 155 = .ok (.aload_n 0, 1) := by decide +kernel
theorem dX5_token_156 : decode cX5_token 156 = .ok (.getfield 240, 3) := by decide +kernel
theorem dX5_token_159 : decode cX5_token 159 = .ok (.imul, 1) := by decide +kernel
theorem dX5_token_160 : decode cX5_token 160 = .ok (.aload_n 0, 1) := by decide +kernel
theorem dX5_token_161 : decode cX5_token 161 = .ok (.aload_n 0, 1) := by decide +kernel
theorem dX5_token_162 : decode cX5_token 162 = .ok (.getfield 231, 3) := by decide +kernel
theorem dX5_token_165 : decode cX5_token 165 = .ok (.invokevirtual 237, 3) := by decide +kernel
theorem dX5_token_168 : decode cX5_token 168 = .ok (.iadd, 1) := by decide +kernel
theorem dX5_token_169 : decode cX5_token 169 = .ok (.bipush 48, 2) := by decide +kernel
theorem dX5_token_171 : decode cX5_token 171 = .ok (.isub, 1) := by decide +kernel
theorem dX5_token_172 : decode cX5_token 172 = .ok (.invokestatic 133, 3) := by decide +kernel
theorem dX5_token_175 : decode cX5_token 175 = .ok (.putfield 240, 3) := by decide +kernel
theorem dX5_token_178 : decode cX5_token 178 = .ok (.aload_n 0, 1) := by decide +kernel
theorem dX5_token_179 : decode cX5_token 179 = .ok (.dup, 1) := by decide +kernel
theorem dX5_token_180 : decode cX5_token 180 = .ok (.getfield 231, 3) := by decide +kernel
theorem dX5_token_183 : decode cX5_token 183 = .ok (.iconst 1, 1) := by decide +kernel
theorem dX5_token_184 : decode cX5_token 184 = .ok (.iadd, 1) := by decide +kernel
theorem dX5_token_185 : decode cX5_token 185 = .ok (.putfield 231, 3) := by decide +kernel
theorem dX5_token_188 : decode cX5_token 188 = .ok (.goto (-57), 3) := by decide +kernel
theorem dX5_token_191 : decode cX5_token 191 = .ok (.aload_n 0, 1) := by decide +kernel
theorem dX5_token_192 : decode cX5_token 192 = .ok (.iconst 3, 1) := by decide +kernel
theorem dX5_token_193 : decode cX5_token 193 = .ok (.putfield 243, 3) := by decide +kernel
theorem dX5_token_196 : decode cX5_token 196 = .ok (.aload_n 0, 1) := by decide +kernel
theorem dX5_token_197 : decode cX5_token 197 = .ok (.dup, 1) := by decide +kernel
theorem dX5_token_198 : decode cX5_token 198 = .ok (.getfield 231, 3) := by decide +kernel
theorem dX5_token_201 : decode cX5_token 201 = .ok (.iconst 1, 1) := by decide +kernel
theorem dX5_token_202 : decode cX5_token 202 = .ok (.iadd, 1) := by decide +kernel
theorem dX5_token_203 : decode cX5_token 203 = .ok (.putfield 231, 3) := by decide +kernel
theorem dX5_token_206 : decode cX5_token 206 = .ok (.return_, 1) := by decide +kernel
theorem dX5_isWord_0 : decode cX5_isWord 0 = .ok (.aload_n 0, 1) := by decide +kernel
theorem dX5_isWord_1 : decode cX5_isWord 1 = .ok (.getfield 243, 3) := by decide +kernel
theorem dX5_isWord_4 : decode cX5_isWord 4 = .ok (.iconst 1, 1) := by decide +kernel
theorem dX5_isWord_5 : decode cX5_isWord 5 = .ok (.if_icmp .ne 23, 3) := by decide +kernel
theorem dX5_isWord_8 : decode cX5_isWord 8 = .ok (.aload_n 0, 1) := by decide +kernel
theorem dX5_isWord_9 : decode cX5_isWord 9 = .ok (.getfield 231, 3) := by decide +kernel
theorem dX5_isWord_12 : decode cX5_isWord 12 = .ok (.aload_n 0, 1) := by decide +kernel
theorem dX5_isWord_13 : decode cX5_isWord 13 = .ok (.getfield 234, 3) := by decide +kernel
theorem dX5_isWord_16 : decode cX5_isWord 16 = .ok (.isub, 1) := by decide +kernel
theorem dX5_isWord_17 : decode cX5_isWord 17 = .ok (.aload_n 1, 1) := by decide +kernel
theorem dX5_isWord_18 : decode cX5_isWord 18 = .ok (.invokevirtual 246, 3) := by decide +kernel
theorem dX5_isWord_21 : decode cX5_isWord 21 = .ok (.if_icmp .ne 7, 3) := by decide +kernel
theorem dX5_isWord_24 : decode cX5_isWord 24 = .ok (.iconst 1, 1) := by decide +kernel
theorem dX5_isWord_25 : decode cX5_isWord 25 = .ok (.goto 4, 3) := by decide +kernel
theorem dX5_isWord_28 : decode cX5_isWord 28 = .ok (.iconst 0, 1) := by decide +kernel
theorem dX5_isWord_29 : decode cX5_isWord 29 = .ok (.istore_n 2, 1) := by decide +kernel
theorem dX5_isWord_30 : decode cX5_isWord 30 = .ok (.iconst 0, 1) := by decide +kernel
theorem dX5_isWord_31 : decode cX5_isWord 31 = .ok (.istore_n 3, 1) := by decide +kernel
theorem dX5_isWord_32 : decode cX5_isWord 32 = .ok (.iload_n 3, 1) := by decide +kernel
theorem dX5_isWord_33 : decode cX5_isWord 33 = .ok (.aload_n 1, 1) := by decide +kernel
theorem dX5_isWord_34 : decode cX5_isWord 34 = .ok (.invokevirtual 246, 3) := by decide +kernel
theorem dX5_isWord_37 : decode cX5_isWord 37 = .ok (.if_icmp .ge 38, 3) := by decide +kernel
theorem dX5_isWord_40 : decode cX5_isWord 40 = .ok (.iload_n 2, 1) := by decide +kernel
theorem dX5_isWord_41 : decode cX5_isWord 41 = .ok (.ifCond .eq 34, 3) := by decide +kernel
theorem dX5_isWord_44 : decode cX5_isWord 44 = .ok (.aload_n 0, 1) := by decide +kernel
theorem dX5_isWord_45 : decode cX5_isWord 45 = .ok (.getfield 22, 3) := by decide +kernel
theorem dX5_isWord_48 : decode cX5_isWord 48 = .ok (.aload_n 0, 1) := by decide +kernel
theorem dX5_isWord_49 : decode cX5_isWord 49 = .ok (.getfield 234, 3) := by decide +kernel
theorem dX5_isWord_52 : decode cX5_isWord 52 = .ok (.iload_n 3, 1) := by decide +kernel
theorem dX5_isWord_53 : decode cX5_isWord 53 = .ok (.iadd, 1) := by decide +kernel
theorem dX5_isWord_54 : decode cX5_isWord 54 = .ok (.iaload, 1) := by decide +kernel
theorem dX5_isWord_55 : decode cX5_isWord 55 = .ok (.aload_n 1, 1) := by decide +kernel
theorem dX5_isWord_56 : decode cX5_isWord 56 = .ok (.iload_n 3, 1) := by decide +kernel
theorem dX5_isWord_57 : decode cX5_isWord 57 = .ok (.invokevirtual 249, 3) := by decide +kernel
theorem dX5_isWord_60 : decode cX5_isWord 60 = .ok (.if_icmp .ne 7, 3) := by decide +kernel
theorem dX5_isWord_63 : decode cX5_isWord 63 = .ok (.iconst 1, 1) := by decide +kernel
theorem dX5_isWord_64 : decode cX5_isWord 64 = .ok (.goto 4, 3) := by decide +kernel
theorem dX5_isWord_67 : decode cX5_isWord 67 = .ok (.iconst 0, 1) := by decide +kernel
theorem dX5_isWord_68 : decode cX5_isWord 68 = .ok (.istore_n 2, 1) := by decide +kernel
theorem dX5_isWord_69 : decode cX5_isWord 69 = .ok (.iinc 3 1, 3) := by decide +kernel
theorem dX5_isWord_72 : decode cX5_isWord 72 = .ok (.goto (-40), 3) := by decide +kernel
theorem dX5_isWord_75 : decode cX5_isWord 75 = .ok (.iload_n 2, 1) := by decide +kernel
theorem dX5_isWord_76 : decode cX5_isWord 76 = .ok (.ireturn, 1) := by decide +kernel
theorem dX5_must_0 : decode cX5_must 0 = .ok (.aload_n 0, 1) := by decide +kernel
theorem dX5_must_1 : decode cX5_must 1 = .ok (.aload_n 0, 1) := by decide +kernel
theorem dX5_must_2 : decode cX5_must 2 = .ok (.getfield 253, 3) := by decide +kernel
theorem dX5_must_5 : decode cX5_must 5 = .ok (.ifCond .ne 7, 3) := by decide +kernel
theorem dX5_must_8 : decode cX5_must 8 = .ok (.iload_n 1, 1) := by decide +kernel
theorem dX5_must_9 : decode cX5_must 9 = .ok (.ifCond .ne 7, 3) := by decide +kernel
theorem dX5_must_12 : decode cX5_must 12 = .ok (.iconst 1, 1) := by decide +kernel
theorem dX5_must_13 : decode cX5_must 13 = .ok (.goto 4, 3) := by decide +kernel
theorem dX5_must_16 : decode cX5_must 16 = .ok (.iconst 0, 1) := by decide +kernel
theorem dX5_must_17 : decode cX5_must 17 = .ok (.putfield 253, 3) := by decide +kernel
theorem dX5_must_20 : decode cX5_must 20 = .ok (.aload_n 0, 1) := by decide +kernel
theorem dX5_must_21 : decode cX5_must 21 = .ok (.getfield 253, 3) := by decide +kernel
theorem dX5_must_24 : decode cX5_must 24 = .ok (.ifCond .ne 7, 3) := by decide +kernel
theorem dX5_must_27 : decode cX5_must 27 = .ok (.aload_n 0, 1) := by decide +kernel
theorem dX5_must_28 : decode cX5_must 28 = .ok (.invokevirtual 257, 3) := by decide +kernel
theorem dX5_must_31 : decode cX5_must 31 = .ok (.return_, 1) := by decide +kernel
theorem dX5_number_0 : decode cX5_number 0 = .ok (.aload_n 0, 1) := by decide +kernel
theorem dX5_number_1 : decode cX5_number 1 = .ok (.getfield 240, 3) := by decide +kernel
theorem dX5_number_4 : decode cX5_number 4 = .ok (.istore_n 3, 1) := by decide +kernel
theorem dX5_number_5 : decode cX5_number 5 = .ok (.aload_n 0, 1) := by decide +kernel
theorem dX5_number_6 : decode cX5_number 6 = .ok (.aload_n 0, 1) := by decide +kernel
theorem dX5_number_7 : decode cX5_number 7 = .ok (.getfield 243, 3) := by decide +kernel
theorem dX5_number_10 : decode cX5_number 10 = .ok (.iconst 2, 1) := by decide +kernel
theorem dX5_number_11 : decode cX5_number 11 = .ok (.if_icmp .ne 16, 3) := by decide +kernel
theorem dX5_number_14 : decode cX5_number 14 = .ok (.iload_n 3, 1) := by decide +kernel
theorem dX5_number_15 : decode cX5_number 15 = .ok (.iload_n 1, 1) := by decide +kernel
theorem dX5_number_16 : decode cX5_number 16 = .ok (.iload_n 2, 1) := by decide +kernel
theorem dX5_number_17 : decode cX5_number 17 = .ok (.invokestatic 70, 3) := by decide +kernel
theorem dX5_number_20 : decode cX5_number 20 = .ok (.ifCond .eq 7, 3) := by decide +kernel
theorem dX5_number_23 : decode cX5_number 23 = .ok (.iconst 1, 1) := by decide +kernel
theorem dX5_number_24 : decode cX5_number 24 = .ok (.goto 4, 3) := by decide +kernel
theorem dX5_number_27 : decode cX5_number 27 = .ok (.iconst 0, 1) := by decide +kernel
theorem dX5_number_28 : decode cX5_number 28 = .ok (.invokevirtual 260, 3) := by decide +kernel
theorem dX5_number_31 : decode cX5_number 31 = .ok (.iload_n 3, 1) := by decide +kernel
theorem dX5_number_32 : decode cX5_number 32 = .ok (.ireturn, 1) := by decide +kernel
theorem dX5_addItem_0 : decode cX5_addItem 0 = .ok (.iconst 5, 1) := by decide +kernel
theorem dX5_addItem_1 : decode cX5_addItem 1 = .ok (.aload_n 0, 1) := by decide +kernel
theorem dX5_addItem_2 : decode cX5_addItem 2 = .ok (.getfield 264, 3) := by decide +kernel
theorem dX5_addItem_5 : decode cX5_addItem 5 = .ok (.imul, 1) := by decide +kernel
theorem dX5_addItem_6 : decode cX5_addItem 6 = .ok (.istore 6, 2) := by decide +kernel
theorem dX5_addItem_8 : decode cX5_addItem 8 = .ok (.aload_n 0, 1) := by decide +kernel
theorem dX5_addItem_9 : decode cX5_addItem 9 = .ok (.getfield 45, 3) := by decide +kernel
theorem dX5_addItem_12 : decode cX5_addItem 12 = .ok (.iload 6, 2) := by decide +kernel
theorem dX5_addItem_14 : decode cX5_addItem 14 = .ok (.iload_n 1, 1) := by decide +kernel
theorem dX5_addItem_15 : decode cX5_addItem 15 = .ok (.iastore, 1) := by decide +kernel
theorem dX5_addItem_16 : decode cX5_addItem 16 = .ok (.aload_n 0, 1) := by decide +kernel
theorem dX5_addItem_17 : decode cX5_addItem 17 = .ok (.getfield 45, 3) := by decide +kernel
theorem dX5_addItem_20 : decode cX5_addItem 20 = .ok (.iload 6, 2) := by decide +kernel
theorem dX5_addItem_22 : decode cX5_addItem 22 = .ok (.iconst 1, 1) := by decide +kernel
theorem dX5_addItem_23 : decode cX5_addItem 23 = .ok (.iadd, 1) := by decide +kernel
theorem dX5_addItem_24 : decode cX5_addItem 24 = .ok (.iload_n 2, 1) := by decide +kernel
theorem dX5_addItem_25 : decode cX5_addItem 25 = .ok (.iastore, 1) := by decide +kernel
theorem dX5_addItem_26 : decode cX5_addItem 26 = .ok (.aload_n 0, 1) := by decide +kernel
theorem dX5_addItem_27 : decode cX5_addItem 27 = .ok (.getfield 45, 3) := by decide +kernel
theorem dX5_addItem_30 : decode cX5_addItem 30 = .ok (.iload 6, 2) := by decide +kernel
theorem dX5_addItem_32 : decode cX5_addItem 32 = .ok (.iconst 2, 1) := by decide +kernel
theorem dX5_addItem_33 : decode cX5_addItem 33 = .ok (.iadd, 1) := by decide +kernel
theorem dX5_addItem_34 : decode cX5_addItem 34 = .ok (.iload_n 3, 1) := by decide +kernel
theorem dX5_addItem_35 : decode cX5_addItem 35 = .ok (.iastore, 1) := by decide +kernel
theorem dX5_addItem_36 : decode cX5_addItem 36 = .ok (.aload_n 0, 1) := by decide +kernel
theorem dX5_addItem_37 : decode cX5_addItem 37 = .ok (.getfield 45, 3) := by decide +kernel
theorem dX5_addItem_40 : decode cX5_addItem 40 = .ok (.iload 6, 2) := by decide +kernel
theorem dX5_addItem_42 : decode cX5_addItem 42 = .ok (.iconst 3, 1) := by decide +kernel
theorem dX5_addItem_43 : decode cX5_addItem 43 = .ok (.iadd, 1) := by decide +kernel
theorem dX5_addItem_44 : decode cX5_addItem 44 = .ok (.iload 4, 2) := by decide +kernel
theorem dX5_addItem_46 : decode cX5_addItem 46 = .ok (.iastore, 1) := by decide +kernel
theorem dX5_addItem_47 : decode cX5_addItem 47 = .ok (.aload_n 0, 1) := by decide +kernel
theorem dX5_addItem_48 : decode cX5_addItem 48 = .ok (.getfield 45, 3) := by decide +kernel
theorem dX5_addItem_51 : decode cX5_addItem 51 = .ok (.iload 6, 2) := by decide +kernel
theorem dX5_addItem_53 : decode cX5_addItem 53 = .ok (.iconst 4, 1) := by decide +kernel
theorem dX5_addItem_54 : decode cX5_addItem 54 = .ok (.iadd, 1) := by decide +kernel
theorem dX5_addItem_55 : decode cX5_addItem 55 = .ok (.iload 5, 2) := by decide +kernel
theorem dX5_addItem_57 : decode cX5_addItem 57 = .ok (.iastore, 1) := by decide +kernel
theorem dX5_addItem_58 : decode cX5_addItem 58 = .ok (.aload_n 0, 1) := by decide +kernel
theorem dX5_addItem_59 : decode cX5_addItem 59 = .ok (.dup, 1) := by decide +kernel
theorem dX5_addItem_60 : decode cX5_addItem 60 = .ok (.getfield 264, 3) := by decide +kernel
theorem dX5_addItem_63 : decode cX5_addItem 63 = .ok (.iconst 1, 1) := by decide +kernel
theorem dX5_addItem_64 : decode cX5_addItem 64 = .ok (.iadd, 1) := by decide +kernel
theorem dX5_addItem_65 : decode cX5_addItem 65 = .ok (.putfield 264, 3) := by decide +kernel
theorem dX5_addItem_68 : decode cX5_addItem 68 = .ok (.return_, 1) := by decide +kernel
theorem dX5_takesWord_0 : decode cX5_takesWord 0 = .ok (.aload_n 0, 1) := by decide +kernel
theorem dX5_takesWord_1 : decode cX5_takesWord 1 = .ok (.getfield 253, 3) := by decide +kernel
theorem dX5_takesWord_4 : decode cX5_takesWord 4 = .ok (.ifCond .ne 15, 3) := by decide +kernel
theorem dX5_takesWord_7 : decode cX5_takesWord 7 = .ok (.aload_n 0, 1) := by decide +kernel
theorem dX5_takesWord_8 : decode cX5_takesWord 8 = .ok (.aload_n 1, 1) := by decide +kernel
theorem dX5_takesWord_9 : decode cX5_takesWord 9 = .ok (.invokevirtual 267, 3) := by decide +kernel
theorem dX5_takesWord_12 : decode cX5_takesWord 12 = .ok (.ifCond .eq 7, 3) := by decide +kernel
theorem dX5_takesWord_15 : decode cX5_takesWord 15 = .ok (.iconst 1, 1) := by decide +kernel
theorem dX5_takesWord_16 : decode cX5_takesWord 16 = .ok (.goto 4, 3) := by decide +kernel
theorem dX5_takesWord_19 : decode cX5_takesWord 19 = .ok (.iconst 0, 1) := by decide +kernel
theorem dX5_takesWord_20 : decode cX5_takesWord 20 = .ok (.istore_n 2, 1) := by decide +kernel
theorem dX5_takesWord_21 : decode cX5_takesWord 21 = .ok (.iload_n 2, 1) := by decide +kernel
theorem dX5_takesWord_22 : decode cX5_takesWord 22 = .ok (.ifCond .eq 8, 3) := by decide +kernel
theorem dX5_takesWord_25 : decode cX5_takesWord 25 = .ok (.aload_n 0, 1) := by decide +kernel
theorem dX5_takesWord_26 : decode cX5_takesWord 26 = .ok (.iconst 1, 1) := by decide +kernel
theorem dX5_takesWord_27 : decode cX5_takesWord 27 = .ok (.invokevirtual 260, 3) := by decide +kernel
theorem dX5_takesWord_30 : decode cX5_takesWord 30 = .ok (.iload_n 2, 1) := by decide +kernel
theorem dX5_takesWord_31 : decode cX5_takesWord 31 = .ok (.ireturn, 1) := by decide +kernel
theorem dX5_readCurtain_0 : decode cX5_readCurtain 0 = .ok (.aload_n 0, 1) := by decide +kernel
theorem dX5_readCurtain_1 : decode cX5_readCurtain 1 = .ok (.aload_n 0, 1) := by decide +kernel
theorem dX5_readCurtain_2 : decode cX5_readCurtain 2 = .ok (.getfield 271, 3) := by decide +kernel
theorem dX5_readCurtain_5 : decode cX5_readCurtain 5 = .ok (.bipush 8, 2) := by decide +kernel
theorem dX5_readCurtain_7 : decode cX5_readCurtain 7 = .ok (.if_icmp .ge 7, 3) := by decide +kernel
theorem dX5_readCurtain_10 : decode cX5_readCurtain 10 = .ok (.iconst 1, 1) := by decide +kernel
theorem dX5_readCurtain_11 : decode cX5_readCurtain 11 = .ok (.goto 4, 3) := by decide +kernel
theorem dX5_readCurtain_14 : decode cX5_readCurtain 14 = .ok (.iconst 0, 1) := by decide +kernel
theorem dX5_readCurtain_15 : decode cX5_readCurtain 15 = .ok (.invokevirtual 260, 3) := by decide +kernel
theorem dX5_readCurtain_18 : decode cX5_readCurtain 18 = .ok (.aload_n 0, 1) := by decide +kernel
theorem dX5_readCurtain_19 : decode cX5_readCurtain 19 = .ok (.ldc_w 274, 3) := by decide +kernel
theorem dX5_readCurtain_22 : decode cX5_readCurtain 22 = .ok (.invokevirtual 276, 3) := by decide +kernel
theorem dX5_readCurtain_25 : decode cX5_readCurtain 25 = .ok (.ifCond .eq 13, 3) := by decide +kernel
theorem dX5_readCurtain_28 : decode cX5_readCurtain 28 = .ok (.aload_n 0, 1) := by decide +kernel
theorem dX5_readCurtain_29 : decode cX5_readCurtain 29 = .ok (.iconst 0, 1) := by decide +kernel
theorem dX5_readCurtain_30 : decode cX5_readCurtain 30 = .ok (.bipush 99, 2) := by decide +kernel
theorem dX5_readCurtain_32 : decode cX5_readCurtain 32 = .ok (.invokevirtual 279, 3) := by decide +kernel
theorem dX5_readCurtain_35 : decode cX5_readCurtain 35 = .ok (.goto 5, 3) := by decide +kernel
theorem dX5_readCurtain_38 : decode cX5_readCurtain 38 = .ok (.bipush 60, 2) := by decide +kernel
theorem dX5_readCurtain_40 : decode cX5_readCurtain 40 = .ok (.istore_n 2, 1) := by decide +kernel
theorem dX5_readCurtain_41 : decode cX5_readCurtain 41 = .ok (.aload_n 0, 1) := by decide +kernel
theorem dX5_readCurtain_42 : decode cX5_readCurtain 42 = .ok (.ldc_w 282, 3) := by decide +kernel
theorem dX5_readCurtain_45 : decode cX5_readCurtain 45 = .ok (.invokevirtual 276, 3) := by decide +kernel
theorem dX5_readCurtain_48 : decode cX5_readCurtain 48 = .ok (.ifCond .eq 14, 3) := by decide +kernel
theorem dX5_readCurtain_51 : decode cX5_readCurtain 51 = .ok (.aload_n 0, 1) := by decide +kernel
theorem dX5_readCurtain_52 : decode cX5_readCurtain 52 = .ok (.iconst 0, 1) := by decide +kernel
theorem dX5_readCurtain_53 : decode cX5_readCurtain 53 = .ok (.sipush 4095, 3) := by decide +kernel
theorem dX5_readCurtain_56 : decode cX5_readCurtain 56 = .ok (.invokevirtual 279, 3) := by decide +kernel
theorem dX5_readCurtain_59 : decode cX5_readCurtain 59 = .ok (.goto 4, 3) := by decide +kernel
theorem dX5_readCurtain_62 : decode cX5_readCurtain 62 = .ok (.iconst 0, 1) := by decide +kernel
theorem dX5_readCurtain_63 : decode cX5_readCurtain 63 = .ok (.istore_n 3, 1) := by decide +kernel
theorem dX5_readCurtain_64 : decode cX5_readCurtain 64 = .ok (.aload_n 0, 1) := by decide +kernel
theorem dX5_readCurtain_65 : decode cX5_readCurtain 65 = .ok (.ldc_w 284, 3) := by decide +kernel
theorem dX5_readCurtain_68 : decode cX5_readCurtain 68 = .ok (.invokevirtual 276, 3) := by decide +kernel
theorem dX5_readCurtain_71 : decode cX5_readCurtain 71 = .ok (.ifCond .eq 13, 3) := by decide +kernel
theorem dX5_readCurtain_74 : decode cX5_readCurtain 74 = .ok (.aload_n 0, 1) := by decide +kernel
theorem dX5_readCurtain_75 : decode cX5_readCurtain 75 = .ok (.iconst 0, 1) := by decide +kernel
theorem dX5_readCurtain_76 : decode cX5_readCurtain 76 = .ok (.bipush 20, 2) := by decide +kernel
theorem dX5_readCurtain_78 : decode cX5_readCurtain 78 = .ok (.invokevirtual 279, 3) := by decide +kernel
theorem dX5_readCurtain_81 : decode cX5_readCurtain 81 = .ok (.goto 5, 3) := by decide +kernel
theorem dX5_readCurtain_84 : decode cX5_readCurtain 84 = .ok (.bipush 20, 2) := by decide +kernel
theorem dX5_readCurtain_86 : decode cX5_readCurtain 86 = .ok (.istore 4, 2) := by decide +kernel
theorem dX5_readCurtain_88 : decode cX5_readCurtain 88 = .ok (.aload_n 0, 1) := by decide +kernel
theorem dX5_readCurtain_89 : decode cX5_readCurtain 89 = .ok (.iload_n 1, 1) := by decide +kernel
theorem dX5_readCurtain_90 : decode cX5_readCurtain 90 = .ok (.iload_n 2, 1) := by decide +kernel
theorem dX5_readCurtain_91 : decode cX5_readCurtain 91 = .ok (.iload_n 3, 1) := by decide +kernel
theorem dX5_readCurtain_92 : decode cX5_readCurtain 92 = .ok (.iload 4, 2) := by decide +kernel
theorem dX5_readCurtain_94 : decode cX5_readCurtain 94 = .ok (.aload_n 0, 1) := by decide +kernel
theorem dX5_readCurtain_95 : decode cX5_readCurtain 95 = .ok (.ldc_w 286, 3) := by decide +kernel
theorem dX5_readCurtain_98 : decode cX5_readCurtain 98 = .ok (.invokevirtual 276, 3) := by decide +kernel
theorem dX5_readCurtain_101 : decode cX5_readCurtain 101 = .ok (.ifCond .eq 7, 3) := by decide +kernel
theorem dX5_readCurtain_104 : decode cX5_readCurtain 104 = .ok (.iconst 1, 1) := by decide +kernel
theorem dX5_readCurtain_105 : decode cX5_readCurtain 105 = .ok (.goto 4, 3) := by decide +kernel
theorem dX5_readCurtain_108 : decode cX5_readCurtain 108 = .ok (.iconst 0, 1) := by decide +kernel
theorem dX5_readCurtain_109 : decode cX5_readCurtain 109 = .ok (.invokevirtual 288, 3) := by decide +kernel
theorem dX5_readCurtain_112 : decode cX5_readCurtain 112 = .ok (.aload_n 0, 1) := by decide +kernel
theorem dX5_readCurtain_113 : decode cX5_readCurtain 113 = .ok (.dup, 1) := by decide +kernel
theorem dX5_readCurtain_114 : decode cX5_readCurtain 114 = .ok (.getfield 271, 3) := by decide +kernel
theorem dX5_readCurtain_117 : decode cX5_readCurtain 117 = .ok (.iconst 1, 1) := by decide +kernel
theorem dX5_readCurtain_118 : decode cX5_readCurtain 118 = .ok (.iadd, 1) := by decide +kernel
theorem dX5_readCurtain_119 : decode cX5_readCurtain 119 = .ok (.putfield 271, 3) := by decide +kernel
theorem dX5_readCurtain_122 : decode cX5_readCurtain 122 = .ok (.return_, 1) := by decide +kernel
end
section
theorem dX5_readItem_0 : decode cX5_readItem 0 = .ok (.iconst (-1), 1) := by decide +kernel
theorem dX5_readItem_1 : decode cX5_readItem 1 = .ok (.istore_n 1, 1) := by decide +kernel
theorem dX5_readItem_2 : decode cX5_readItem 2 = .ok (.iconst 0, 1) := by decide +kernel
theorem dX5_readItem_3 : decode cX5_readItem 3 = .ok (.istore_n 2, 1) := by decide +kernel
theorem dX5_readItem_4 : decode cX5_readItem 4 = .ok (.iload_n 2, 1) := by decide +kernel
theorem dX5_readItem_5 : decode cX5_readItem 5 = .ok (.aload_n 0, 1) := by decide +kernel
theorem dX5_readItem_6 : decode cX5_readItem 6 = .ok (.getfield 41, 3) := by decide +kernel
theorem dX5_readItem_9 : decode cX5_readItem 9 = .ok (.arraylength, 1) := by decide +kernel
theorem dX5_readItem_10 : decode cX5_readItem 10 = .ok (.if_icmp .ge 28, 3) := by decide +kernel
theorem dX5_readItem_13 : decode cX5_readItem 13 = .ok (.aload_n 0, 1) := by decide +kernel
theorem dX5_readItem_14 : decode cX5_readItem 14 = .ok (.aload_n 0, 1) := by decide +kernel
theorem dX5_readItem_15 : decode cX5_readItem 15 = .ok (.getfield 41, 3) := by decide +kernel
theorem dX5_readItem_18 : decode cX5_readItem 18 = .ok (.iload_n 2, 1) := by decide +kernel
theorem dX5_readItem_19 : decode cX5_readItem 19 = .ok (.aaload, 1) := by decide +kernel
theorem dX5_readItem_20 : decode cX5_readItem 20 = .ok (.invokevirtual 267, 3) := by decide +kernel
theorem dX5_readItem_23 : decode cX5_readItem 23 = .ok (.ifCond .eq 7, 3) := by decide +kernel
theorem dX5_readItem_26 : decode cX5_readItem 26 = .ok (.iload_n 2, 1) := by decide +kernel
theorem dX5_readItem_27 : decode cX5_readItem 27 = .ok (.goto 4, 3) := by decide +kernel
theorem dX5_readItem_30 : decode cX5_readItem 30 = .ok (.iload_n 1, 1) := by decide +kernel
theorem dX5_readItem_31 : decode cX5_readItem 31 = .ok (.istore_n 1, 1) := by decide +kernel
theorem dX5_readItem_32 : decode cX5_readItem 32 = .ok (.iinc 2 1, 3) := by decide +kernel
theorem dX5_readItem_35 : decode cX5_readItem 35 = .ok (.goto (-31), 3) := by decide +kernel
theorem dX5_readItem_38 : decode cX5_readItem 38 = .ok (.iload_n 1, 1) := by decide +kernel
theorem dX5_readItem_39 : decode cX5_readItem 39 = .ok (.ifCond .lt 11, 3) := by decide +kernel
theorem dX5_readItem_42 : decode cX5_readItem 42 = .ok (.aload_n 0, 1) := by decide +kernel
theorem dX5_readItem_43 : decode cX5_readItem 43 = .ok (.iload_n 1, 1) := by decide +kernel
theorem dX5_readItem_44 : decode cX5_readItem 44 = .ok (.invokevirtual 292, 3) := by decide +kernel
theorem dX5_readItem_47 : decode cX5_readItem 47 = .ok (.goto 90, 3) := by decide +kernel
theorem dX5_readItem_50 : decode cX5_readItem 50 = .ok (.aload_n 0, 1) := by decide +kernel
theorem dX5_readItem_51 : decode cX5_readItem 51 = .ok (.ldc_w 295, 3) := by decide +kernel
theorem dX5_readItem_54 : decode cX5_readItem 54 = .ok (.invokevirtual 276, 3) := by decide +kernel
theorem dX5_readItem_57 : decode cX5_readItem 57 = .ok (.ifCond .eq 29, 3) := by decide +kernel
theorem dX5_readItem_60 : decode cX5_readItem 60 = .ok (.aload_n 0, 1) := by decide +kernel
theorem dX5_readItem_61 : decode cX5_readItem 61 = .ok (.iconst 0, 1) := by decide +kernel
theorem dX5_readItem_62 : decode cX5_readItem 62 = .ok (.iconst 5, 1) := by decide +kernel
theorem dX5_readItem_63 : decode cX5_readItem 63 = .ok (.invokevirtual 279, 3) := by decide +kernel
theorem dX5_readItem_66 : decode cX5_readItem 66 = .ok (.istore_n 2, 1) := by decide +kernel
theorem dX5_readItem_67 : decode cX5_readItem 67 = .ok (.aload_n 0, 1) := by decide +kernel
theorem dX5_readItem_68 : decode cX5_readItem 68 = .ok (.bipush 10, 2) := by decide +kernel
theorem dX5_readItem_70 : decode cX5_readItem 70 = .ok (.iload_n 2, 1) := by decide +kernel
theorem dX5_readItem_71 : decode cX5_readItem 71 = .ok (.aload_n 0, 1) := by decide +kernel
theorem dX5_readItem_72 : decode cX5_readItem 72 = .ok (.iconst 0, 1) := by decide +kernel
theorem dX5_readItem_73 : decode cX5_readItem 73 = .ok (.bipush 11, 2) := by decide +kernel
theorem dX5_readItem_75 : decode cX5_readItem 75 = .ok (.invokevirtual 279, 3) := by decide +kernel
theorem dX5_readItem_78 : decode cX5_readItem 78 = .ok (.iconst 0, 1) := by decide +kernel
theorem dX5_readItem_79 : decode cX5_readItem 79 = .ok (.iconst 0, 1) := by decide +kernel
theorem dX5_readItem_80 : decode cX5_readItem 80 = .ok (.invokevirtual 288, 3) := by decide +kernel
theorem dX5_readItem_83 : decode cX5_readItem 83 = .ok (.goto 54, 3) := by decide +kernel
theorem dX5_readItem_86 : decode cX5_readItem 86 = .ok (.aload_n 0, 1) := by decide +kernel
theorem dX5_readItem_87 : decode cX5_readItem 87 = .ok (.ldc_w 297, 3) := by decide +kernel
theorem dX5_readItem_90 : decode cX5_readItem 90 = .ok (.invokevirtual 276, 3) := by decide +kernel
theorem dX5_readItem_93 : decode cX5_readItem 93 = .ok (.ifCond .eq 16, 3) := by decide +kernel
theorem dX5_readItem_96 : decode cX5_readItem 96 = .ok (.aload_n 0, 1) := by decide +kernel
theorem dX5_readItem_97 : decode cX5_readItem 97 = .ok (.bipush 11, 2) := by decide +kernel
theorem dX5_readItem_99 : decode cX5_readItem 99 = .ok (.iconst 1, 1) := by decide +kernel
theorem dX5_readItem_100 : decode cX5_readItem 100 = .ok (.iconst 0, 1) := by decide +kernel
theorem dX5_readItem_101 : decode cX5_readItem 101 = .ok (.iconst 0, 1) := by decide +kernel
theorem dX5_readItem_102 : decode cX5_readItem 102 = .ok (.iconst 0, 1) := by decide +kernel
theorem dX5_readItem_103 : decode cX5_readItem 103 = .ok (.invokevirtual 288, 3) := by decide +kernel
theorem dX5_readItem_106 : decode cX5_readItem 106 = .ok (.goto 31, 3) := by decide +kernel
theorem dX5_readItem_109 : decode cX5_readItem 109 = .ok (.aload_n 0, 1) := by decide +kernel
theorem dX5_readItem_110 : decode cX5_readItem 110 = .ok (.ldc_w 299, 3) := by decide +kernel
theorem dX5_readItem_113 : decode cX5_readItem 113 = .ok (.invokevirtual 276, 3) := by decide +kernel
theorem dX5_readItem_116 : decode cX5_readItem 116 = .ok (.ifCond .eq 16, 3) := by decide +kernel
theorem dX5_readItem_119 : decode cX5_readItem 119 = .ok (.aload_n 0, 1) := by decide +kernel
theorem dX5_readItem_120 : decode cX5_readItem 120 = .ok (.bipush 11, 2) := by decide +kernel
theorem dX5_readItem_122 : decode cX5_readItem 122 = .ok (.iconst 0, 1) := by decide +kernel
theorem dX5_readItem_123 : decode cX5_readItem 123 = .ok (.iconst 0, 1) := by decide +kernel
theorem dX5_readItem_124 : decode cX5_readItem 124 = .ok (.iconst 0, 1) := by decide +kernel
theorem dX5_readItem_125 : decode cX5_readItem 125 = .ok (.iconst 0, 1) := by decide +kernel
theorem dX5_readItem_126 : decode cX5_readItem 126 = .ok (.invokevirtual 288, 3) := by decide +kernel
theorem dX5_readItem_129 : decode cX5_readItem 129 = .ok (.goto 8, 3) := by decide +kernel
theorem dX5_readItem_132 : decode cX5_readItem 132 = .ok (.aload_n 0, 1) := by decide +kernel
theorem dX5_readItem_133 : decode cX5_readItem 133 = .ok (.iconst 0, 1) := by decide +kernel
theorem dX5_readItem_134 : decode cX5_readItem 134 = .ok (.invokevirtual 260, 3) := by decide +kernel
theorem dX5_readItem_137 : decode cX5_readItem 137 = .ok (.return_, 1) := by decide +kernel
theorem dX5_isToldSo_0 : decode cX5_isToldSo 0 = .ok (.aload_n 0, 1) := by decide +kernel
theorem dX5_isToldSo_1 : decode cX5_isToldSo 1 = .ok (.getfield 45, 3) := by decide +kernel
theorem dX5_isToldSo_4 : decode cX5_isToldSo 4 = .ok (.iload_n 1, 1) := by decide +kernel
theorem dX5_isToldSo_5 : decode cX5_isToldSo 5 = .ok (.iconst 1, 1) := by decide +kernel
theorem dX5_isToldSo_6 : decode cX5_isToldSo 6 = .ok (.iadd, 1) := by decide +kernel
theorem dX5_isToldSo_7 : decode cX5_isToldSo 7 = .ok (.iaload, 1) := by decide +kernel
theorem dX5_isToldSo_8 : decode cX5_isToldSo 8 = .ok (.istore_n 2, 1) := by decide +kernel
theorem dX5_isToldSo_9 : decode cX5_isToldSo 9 = .ok (.aload_n 0, 1) := by decide +kernel
theorem dX5_isToldSo_10 : decode cX5_isToldSo 10 = .ok (.getfield 45, 3) := by decide +kernel
theorem dX5_isToldSo_13 : decode cX5_isToldSo 13 = .ok (.iload_n 1, 1) := by decide +kernel
theorem dX5_isToldSo_14 : decode cX5_isToldSo 14 = .ok (.iaload, 1) := by decide +kernel
theorem dX5_isToldSo_15 : decode cX5_isToldSo 15 = .ok (.lookupswitch 55 #[(10, 25), (11, 45)], 25) := by decide +kernel
theorem dX5_isToldSo_40 : decode cX5_isToldSo 40 = .ok (.aload_n 0, 1) := by decide +kernel
theorem dX5_isToldSo_41 : decode cX5_isToldSo 41 = .ok (.getfield 9, 3) := by decide +kernel
theorem dX5_isToldSo_44 : decode cX5_isToldSo 44 = .ok (.bipush 6, 2) := by decide +kernel
theorem dX5_isToldSo_46 : decode cX5_isToldSo 46 = .ok (.iload_n 2, 1) := by decide +kernel
theorem dX5_isToldSo_47 : decode cX5_isToldSo 47 = .ok (.iadd, 1) := by decide +kernel
theorem dX5_isToldSo_48 : decode cX5_isToldSo 48 = .ok (.aload_n 0, 1) := by decide +kernel
theorem dX5_isToldSo_49 : decode cX5_isToldSo 49 = .ok (.getfield 45, 3) := by decide +kernel
theorem dX5_isToldSo_52 : decode cX5_isToldSo 52 = .ok (.iload_n 1, 1) := by decide +kernel
theorem dX5_isToldSo_53 : decode cX5_isToldSo 53 = .ok (.iconst 2, 1) := by decide +kernel
theorem dX5_isToldSo_54 : decode cX5_isToldSo 54 = .ok (.iadd, 1) := by decide +kernel
theorem dX5_isToldSo_55 : decode cX5_isToldSo 55 = .ok (.iaload, 1) := by decide +kernel
theorem dX5_isToldSo_56 : decode cX5_isToldSo 56 = .ok (.iastore, 1) := by decide +kernel
theorem dX5_isToldSo_57 : decode cX5_isToldSo 57 = .ok (.goto 79, 3) := by decide +kernel
theorem dX5_isToldSo_60 : decode cX5_isToldSo 60 = .ok (.aload_n 0, 1) := by decide +kernel
theorem dX5_isToldSo_61 : decode cX5_isToldSo 61 = .ok (.getfield 9, 3) := by decide +kernel
theorem dX5_isToldSo_64 : decode cX5_isToldSo 64 = .ok (.iconst 3, 1) := by decide +kernel
theorem dX5_isToldSo_65 : decode cX5_isToldSo 65 = .ok (.iload_n 2, 1) := by decide +kernel
theorem dX5_isToldSo_66 : decode cX5_isToldSo 66 = .ok (.iastore, 1) := by decide +kernel
theorem dX5_isToldSo_67 : decode cX5_isToldSo 67 = .ok (.goto 69, 3) := by decide +kernel
theorem dX5_isToldSo_70 : decode cX5_isToldSo 70 = .ok (.aload_n 0, 1) := by decide +kernel
theorem dX5_isToldSo_71 : decode cX5_isToldSo 71 = .ok (.aload_n 0, 1) := by decide +kernel
theorem dX5_isToldSo_72 : decode cX5_isToldSo 72 = .ok (.getfield 45, 3) := by decide +kernel
theorem dX5_isToldSo_75 : decode cX5_isToldSo 75 = .ok (.iload_n 1, 1) := by decide +kernel
theorem dX5_isToldSo_76 : decode cX5_isToldSo 76 = .ok (.iaload, 1) := by decide +kernel
theorem dX5_isToldSo_77 : decode cX5_isToldSo 77 = .ok (.aload_n 0, 1) := by decide +kernel
theorem dX5_isToldSo_78 : decode cX5_isToldSo 78 = .ok (.getfield 45, 3) := by decide +kernel
theorem dX5_isToldSo_81 : decode cX5_isToldSo 81 = .ok (.iload_n 1, 1) := by decide +kernel
theorem dX5_isToldSo_82 : decode cX5_isToldSo 82 = .ok (.iconst 2, 1) := by decide +kernel
theorem dX5_isToldSo_83 : decode cX5_isToldSo 83 = .ok (.iadd, 1) := by decide +kernel
theorem dX5_isToldSo_84 : decode cX5_isToldSo 84 = .ok (.iaload, 1) := by decide +kernel
theorem dX5_isToldSo_85 : decode cX5_isToldSo 85 = .ok (.invokevirtual 95, 3) := by decide +kernel
theorem dX5_isToldSo_88 : decode cX5_isToldSo 88 = .ok (.istore_n 3, 1) := by decide +kernel
theorem dX5_isToldSo_89 : decode cX5_isToldSo 89 = .ok (.aload_n 0, 1) := by decide +kernel
theorem dX5_isToldSo_90 : decode cX5_isToldSo 90 = .ok (.getfield 9, 3) := by decide +kernel
theorem dX5_isToldSo_93 : decode cX5_isToldSo 93 = .ok (.iload_n 3, 1) := by decide +kernel
theorem dX5_isToldSo_94 : decode cX5_isToldSo 94 = .ok (.iconst 1, 1) := by decide +kernel
theorem dX5_isToldSo_95 : decode cX5_isToldSo 95 = .ok (.invokestatic 85, 3) := by decide +kernel
theorem dX5_isToldSo_98 : decode cX5_isToldSo 98 = .ok (.iload_n 2, 1) := by decide +kernel
theorem dX5_isToldSo_99 : decode cX5_isToldSo 99 = .ok (.iastore, 1) := by decide +kernel
theorem dX5_isToldSo_100 : decode cX5_isToldSo 100 = .ok (.aload_n 0, 1) := by decide +kernel
theorem dX5_isToldSo_101 : decode cX5_isToldSo 101 = .ok (.getfield 9, 3) := by decide +kernel
theorem dX5_isToldSo_104 : decode cX5_isToldSo 104 = .ok (.iload_n 3, 1) := by decide +kernel
theorem dX5_isToldSo_105 : decode cX5_isToldSo 105 = .ok (.iconst 3, 1) := by decide +kernel
theorem dX5_isToldSo_106 : decode cX5_isToldSo 106 = .ok (.invokestatic 85, 3) := by decide +kernel
theorem dX5_isToldSo_109 : decode cX5_isToldSo 109 = .ok (.aload_n 0, 1) := by decide +kernel
theorem dX5_isToldSo_110 : decode cX5_isToldSo 110 = .ok (.getfield 45, 3) := by decide +kernel
theorem dX5_isToldSo_113 : decode cX5_isToldSo 113 = .ok (.iload_n 1, 1) := by decide +kernel
theorem dX5_isToldSo_114 : decode cX5_isToldSo 114 = .ok (.iconst 3, 1) := by decide +kernel
theorem dX5_isToldSo_115 : decode cX5_isToldSo 115 = .ok (.iadd, 1) := by decide +kernel
theorem dX5_isToldSo_116 : decode cX5_isToldSo 116 = .ok (.iaload, 1) := by decide +kernel
theorem dX5_isToldSo_117 : decode cX5_isToldSo 117 = .ok (.iastore, 1) := by decide +kernel
theorem dX5_isToldSo_118 : decode cX5_isToldSo 118 = .ok (.aload_n 0, 1) := by decide +kernel
theorem dX5_isToldSo_119 : decode cX5_isToldSo 119 = .ok (.getfield 9, 3) := by decide +kernel
theorem dX5_isToldSo_122 : decode cX5_isToldSo 122 = .ok (.iload_n 3, 1) := by decide +kernel
theorem dX5_isToldSo_123 : decode cX5_isToldSo 123 = .ok (.iconst 4, 1) := by decide +kernel
theorem dX5_isToldSo_124 : decode cX5_isToldSo 124 = .ok (.invokestatic 85, 3) := by decide +kernel
theorem dX5_isToldSo_127 : decode cX5_isToldSo 127 = .ok (.aload_n 0, 1) := by decide +kernel
theorem dX5_isToldSo_128 : decode cX5_isToldSo 128 = .ok (.getfield 45, 3) := by decide +kernel
theorem dX5_isToldSo_131 : decode cX5_isToldSo 131 = .ok (.iload_n 1, 1) := by decide +kernel
theorem dX5_isToldSo_132 : decode cX5_isToldSo 132 = .ok (.iconst 4, 1) := by decide +kernel
theorem dX5_isToldSo_133 : decode cX5_isToldSo 133 = .ok (.iadd, 1) := by decide +kernel
theorem dX5_isToldSo_134 : decode cX5_isToldSo 134 = .ok (.iaload, 1) := by decide +kernel
theorem dX5_isToldSo_135 : decode cX5_isToldSo 135 = .ok (.iastore, 1) := by decide +kernel
theorem dX5_isToldSo_136 : decode cX5_isToldSo 136 = .ok (.return_, 1) := by decide +kernel
theorem dX5_text_0 : decode cX5_text 0 = .ok (.aload_n 0, 1) := by decide +kernel
theorem dX5_text_1 : decode cX5_text 1 = .ok (.iconst 0, 1) := by decide +kernel
theorem dX5_text_2 : decode cX5_text 2 = .ok (.putfield 231, 3) := by decide +kernel
theorem dX5_text_5 : decode cX5_text 5 = .ok (.aload_n 0, 1) := by decide +kernel
theorem dX5_text_6 : decode cX5_text 6 = .ok (.iconst 0, 1) := by decide +kernel
theorem dX5_text_7 : decode cX5_text 7 = .ok (.putfield 253, 3) := by decide +kernel
theorem dX5_text_10 : decode cX5_text 10 = .ok (.aload_n 0, 1) := by decide +kernel
theorem dX5_text_11 : decode cX5_text 11 = .ok (.iconst 0, 1) := by decide +kernel
theorem dX5_text_12 : decode cX5_text 12 = .ok (.putfield 264, 3) := by decide +kernel
theorem dX5_text_15 : decode cX5_text 15 = .ok (.aload_n 0, 1) := by decide +kernel
theorem dX5_text_16 : decode cX5_text 16 = .ok (.aload_n 0, 1) := by decide +kernel
theorem dX5_text_17 : decode cX5_text 17 = .ok (.getfield 9, 3) := by decide +kernel
theorem dX5_text_20 : decode cX5_text 20 = .ok (.iconst 1, 1) := by decide +kernel
theorem dX5_text_21 : decode cX5_text 21 = .ok (.iaload, 1) := by decide +kernel
theorem dX5_text_22 : decode cX5_text 22 = .ok (.putfield 271, 3) := by decide +kernel
theorem dX5_text_25 : decode cX5_text 25 = .ok (.aload_n 0, 1) := by decide +kernel
theorem dX5_text_26 : decode cX5_text 26 = .ok (.invokevirtual 257, 3) := by decide +kernel
theorem dX5_text_29 : decode cX5_text 29 = .ok (.aload_n 0, 1) := by decide +kernel
theorem dX5_text_30 : decode cX5_text 30 = .ok (.invokevirtual 301, 3) := by decide +kernel
theorem dX5_text_33 : decode cX5_text 33 = .ok (.aload_n 0, 1) := by decide +kernel
theorem dX5_text_34 : decode cX5_text 34 = .ok (.getfield 253, 3) := by decide +kernel
theorem dX5_text_37 : decode cX5_text 37 = .ok (.ifCond .ne 37, 3) := by decide +kernel
theorem dX5_text_40 : decode cX5_text 40 = .ok (.aload_n 0, 1) := by decide +kernel
theorem dX5_text_41 : decode cX5_text 41 = .ok (.getfield 243, 3) := by decide +kernel
theorem dX5_text_44 : decode cX5_text 44 = .ok (.iconst 3, 1) := by decide +kernel
theorem dX5_text_45 : decode cX5_text 45 = .ok (.if_icmp .ne 29, 3) := by decide +kernel
theorem dX5_text_48 : decode cX5_text 48 = .ok (.aload_n 0, 1) := by decide +kernel
theorem dX5_text_49 : decode cX5_text 49 = .ok (.getfield 22, 3) := by decide +kernel
theorem dX5_text_52 : decode cX5_text 52 = .ok (.aload_n 0, 1) := by decide +kernel
theorem dX5_text_53 : decode cX5_text 53 = .ok (.getfield 234, 3) := by decide +kernel
theorem dX5_text_56 : decode cX5_text 56 = .ok (.iaload, 1) := by decide +kernel
theorem dX5_text_57 : decode cX5_text 57 = .ok (.bipush 59, 2) := by decide +kernel
theorem dX5_text_59 : decode cX5_text 59 = .ok (.if_icmp .ne 15, 3) := by decide +kernel
theorem dX5_text_62 : decode cX5_text 62 = .ok (.aload_n 0, 1) := by decide +kernel
theorem dX5_text_63 : decode cX5_text 63 = .ok (.iconst 1, 1) := by decide +kernel
theorem dX5_text_64 : decode cX5_text 64 = .ok (.invokevirtual 260, 3) := by decide +kernel
theorem dX5_text_67 : decode cX5_text 67 = .ok (.aload_n 0, 1) := by decide +kernel
theorem dX5_text_68 : decode cX5_text 68 = .ok (.invokevirtual 301, 3) := by decide +kernel
theorem dX5_text_71 : decode cX5_text 71 = .ok (.goto (-38), 3) := by decide +kernel
theorem dX5_text_74 : decode cX5_text 74 = .ok (.aload_n 0, 1) := by decide +kernel
theorem dX5_text_75 : decode cX5_text 75 = .ok (.aload_n 0, 1) := by decide +kernel
theorem dX5_text_76 : decode cX5_text 76 = .ok (.getfield 243, 3) := by decide +kernel
theorem dX5_text_79 : decode cX5_text 79 = .ok (.ifCond .ne 7, 3) := by decide +kernel
theorem dX5_text_82 : decode cX5_text 82 = .ok (.iconst 1, 1) := by decide +kernel
theorem dX5_text_83 : decode cX5_text 83 = .ok (.goto 4, 3) := by decide +kernel
theorem dX5_text_86 : decode cX5_text 86 = .ok (.iconst 0, 1) := by decide +kernel
theorem dX5_text_87 : decode cX5_text 87 = .ok (.invokevirtual 260, 3) := by decide +kernel
theorem dX5_text_90 : decode cX5_text 90 = .ok (.aload_n 0, 1) := by decide +kernel
theorem dX5_text_91 : decode cX5_text 91 = .ok (.iconst 0, 1) := by decide +kernel
theorem dX5_text_92 : decode cX5_text 92 = .ok (.putfield 227, 3) := by decide +kernel
theorem dX5_text_95 : decode cX5_text 95 = .ok (.aload_n 0, 1) := by decide +kernel
theorem dX5_text_96 : decode cX5_text 96 = .ok (.getfield 253, 3) := by decide +kernel
theorem dX5_text_99 : decode cX5_text 99 = .ok (.ifCond .eq 10, 3) := by decide +kernel
theorem dX5_text_102 : decode cX5_text 102 = .ok (.iconst (-1), 1) := by decide +kernel
theorem dX5_text_103 : decode cX5_text 103 = .ok (.aload_n 0, 1) := by decide +kernel
theorem dX5_text_104 : decode cX5_text 104 = .ok (.getfield 234, 3) := by decide +kernel
theorem dX5_text_107 : decode cX5_text 107 = .ok (.isub, 1) := by decide +kernel
theorem dX5_text_108 : decode cX5_text 108 = .ok (.ireturn, 1) := by decide +kernel
theorem dX5_text_109 : decode cX5_text 109 = .ok (.iconst 0, 1) := by decide +kernel
theorem dX5_text_110 : decode cX5_text 110 = .ok (.istore_n 1, 1) := by decide +kernel
theorem dX5_text_111 : decode cX5_text 111 = .ok (.iload_n 1, 1) := by decide +kernel
theorem dX5_text_112 : decode cX5_text 112 = .ok (.aload_n 0, 1) := by decide +kernel
theorem dX5_text_113 : decode cX5_text 113 = .ok (.getfield 264, 3) := by decide +kernel
theorem dX5_text_116 : decode cX5_text 116 = .ok (.if_icmp .ge 16, 3) := by decide +kernel
theorem dX5_text_119 : decode cX5_text 119 = .ok (.aload_n 0, 1) := by decide +kernel
theorem dX5_text_120 : decode cX5_text 120 = .ok (.iconst 5, 1) := by decide +kernel
theorem dX5_text_121 : decode cX5_text 121 = .ok (.iload_n 1, 1) := by decide +kernel
theorem dX5_text_122 : decode cX5_text 122 = .ok (.imul, 1) := by decide +kernel
theorem dX5_text_123 : decode cX5_text 123 = .ok (.invokevirtual 304, 3) := by decide +kernel
theorem dX5_text_126 : decode cX5_text 126 = .ok (.iinc 1 1, 3) := by decide +kernel
theorem dX5_text_129 : decode cX5_text 129 = .ok (.goto (-18), 3) := by decide +kernel
theorem dX5_text_132 : decode cX5_text 132 = .ok (.aload_n 0, 1) := by decide +kernel
theorem dX5_text_133 : decode cX5_text 133 = .ok (.getfield 264, 3) := by decide +kernel
theorem dX5_text_136 : decode cX5_text 136 = .ok (.ireturn, 1) := by decide +kernel
theorem dX5_isSpot_0 : decode cX5_isSpot 0 = .ok (.iload_n 0, 1) := by decide +kernel
theorem dX5_isSpot_1 : decode cX5_isSpot 1 = .ok (.iconst 0, 1) := by decide +kernel
theorem dX5_isSpot_2 : decode cX5_isSpot 2 = .ok (.bipush 9, 2) := by decide +kernel
theorem dX5_isSpot_4 : decode cX5_isSpot 4 = .ok (.invokestatic 70, 3) := by decide +kernel
theorem dX5_isSpot_7 : decode cX5_isSpot 7 = .ok (.ireturn, 1) := by decide +kernel
theorem dX5_hold_0 : decode cX5_hold 0 = .ok (.iload_n 1, 1) := by decide +kernel
theorem dX5_hold_1 : decode cX5_hold 1 = .ok (.invokestatic 307, 3) := by decide +kernel
theorem dX5_hold_4 : decode cX5_hold 4 = .ok (.ifCond .eq 16, 3) := by decide +kernel
theorem dX5_hold_7 : decode cX5_hold 7 = .ok (.iload_n 2, 1) := by decide +kernel
theorem dX5_hold_8 : decode cX5_hold 8 = .ok (.iconst (-1), 1) := by decide +kernel
theorem dX5_hold_9 : decode cX5_hold 9 = .ok (.if_icmp .eq 18, 3) := by decide +kernel
theorem dX5_hold_12 : decode cX5_hold 12 = .ok (.aload_n 0, 1) := by decide +kernel
theorem dX5_hold_13 : decode cX5_hold 13 = .ok (.iload_n 2, 1) := by decide +kernel
theorem dX5_hold_14 : decode cX5_hold 14 = .ok (.invokevirtual 123, 3) := by decide +kernel
theorem dX5_hold_17 : decode cX5_hold 17 = .ok (.ifCond .ne 10, 3) := by decide +kernel
theorem dX5_hold_20 : decode cX5_hold 20 = .ok (.aload_n 0, 1) := by decide +kernel
theorem dX5_hold_21 : decode cX5_hold 21 = .ok (.ldc 60, 2) := by decide +kernel
theorem dX5_hold_23 : decode cX5_hold 23 = .ok (.invokevirtual 66, 3) := by decide +kernel
theorem dX5_hold_26 : decode cX5_hold 26 = .ok (.ireturn, 1) := by decide +kernel
theorem dX5_hold_27 : decode cX5_hold 27 = .ok (.aload_n 0, 1) := by decide +kernel
theorem dX5_hold_28 : decode cX5_hold 28 = .ok (.getfield 9, 3) := by decide +kernel
theorem dX5_hold_31 : decode cX5_hold 31 = .ok (.bipush 12, 2) := by decide +kernel
theorem dX5_hold_33 : decode cX5_hold 33 = .ok (.iload_n 1, 1) := by decide +kernel
theorem dX5_hold_34 : decode cX5_hold 34 = .ok (.iadd, 1) := by decide +kernel
theorem dX5_hold_35 : decode cX5_hold 35 = .ok (.iload_n 2, 1) := by decide +kernel
theorem dX5_hold_36 : decode cX5_hold 36 = .ok (.iastore, 1) := by decide +kernel
theorem dX5_hold_37 : decode cX5_hold 37 = .ok (.iconst 1, 1) := by decide +kernel
theorem dX5_hold_38 : decode cX5_hold 38 = .ok (.ireturn, 1) := by decide +kernel
theorem dX5_as_0 : decode cX5_as 0 = .ok (.iload_n 1, 1) := by decide +kernel
theorem dX5_as_1 : decode cX5_as 1 = .ok (.invokestatic 307, 3) := by decide +kernel
theorem dX5_as_4 : decode cX5_as 4 = .ok (.ifCond .eq 10, 3) := by decide +kernel
theorem dX5_as_7 : decode cX5_as 7 = .ok (.iload_n 2, 1) := by decide +kernel
theorem dX5_as_8 : decode cX5_as 8 = .ok (.invokestatic 88, 3) := by decide +kernel
theorem dX5_as_11 : decode cX5_as 11 = .ok (.ifCond .ne 10, 3) := by decide +kernel
theorem dX5_as_14 : decode cX5_as 14 = .ok (.aload_n 0, 1) := by decide +kernel
theorem dX5_as_15 : decode cX5_as 15 = .ok (.ldc 60, 2) := by decide +kernel
theorem dX5_as_17 : decode cX5_as 17 = .ok (.invokevirtual 66, 3) := by decide +kernel
theorem dX5_as_20 : decode cX5_as 20 = .ok (.ireturn, 1) := by decide +kernel
theorem dX5_as_21 : decode cX5_as 21 = .ok (.aload_n 0, 1) := by decide +kernel
theorem dX5_as_22 : decode cX5_as 22 = .ok (.getfield 9, 3) := by decide +kernel
theorem dX5_as_25 : decode cX5_as 25 = .ok (.bipush 12, 2) := by decide +kernel
theorem dX5_as_27 : decode cX5_as 27 = .ok (.iload_n 1, 1) := by decide +kernel
theorem dX5_as_28 : decode cX5_as 28 = .ok (.iadd, 1) := by decide +kernel
theorem dX5_as_29 : decode cX5_as 29 = .ok (.iaload, 1) := by decide +kernel
theorem dX5_as_30 : decode cX5_as 30 = .ok (.istore_n 3, 1) := by decide +kernel
theorem dX5_as_31 : decode cX5_as 31 = .ok (.iload_n 3, 1) := by decide +kernel
theorem dX5_as_32 : decode cX5_as 32 = .ok (.ifCond .ge 10, 3) := by decide +kernel
theorem dX5_as_35 : decode cX5_as 35 = .ok (.aload_n 0, 1) := by decide +kernel
theorem dX5_as_36 : decode cX5_as 36 = .ok (.ldc 211, 2) := by decide +kernel
theorem dX5_as_38 : decode cX5_as 38 = .ok (.invokevirtual 66, 3) := by decide +kernel
theorem dX5_as_41 : decode cX5_as 41 = .ok (.ireturn, 1) := by decide +kernel
theorem dX5_as_42 : decode cX5_as 42 = .ok (.aload_n 0, 1) := by decide +kernel
theorem dX5_as_43 : decode cX5_as 43 = .ok (.iload_n 3, 1) := by decide +kernel
theorem dX5_as_44 : decode cX5_as 44 = .ok (.iconst 0, 1) := by decide +kernel
theorem dX5_as_45 : decode cX5_as 45 = .ok (.invokevirtual 98, 3) := by decide +kernel
theorem dX5_as_48 : decode cX5_as 48 = .ok (.iload_n 2, 1) := by decide +kernel
theorem dX5_as_49 : decode cX5_as 49 = .ok (.invokestatic 310, 3) := by decide +kernel
theorem dX5_as_52 : decode cX5_as 52 = .ok (.ifCond .eq 7, 3) := by decide +kernel
theorem dX5_as_55 : decode cX5_as 55 = .ok (.iload_n 3, 1) := by decide +kernel
theorem dX5_as_56 : decode cX5_as 56 = .ok (.goto 10, 3) := by decide +kernel
theorem dX5_as_59 : decode cX5_as 59 = .ok (.aload_n 0, 1) := by decide +kernel
theorem dX5_as_60 : decode cX5_as 60 = .ok (.ldc_w 313, 3) := by decide +kernel
theorem dX5_as_63 : decode cX5_as 63 = .ok (.invokevirtual 66, 3) := by decide +kernel
theorem dX5_as_66 : decode cX5_as 66 = .ok (.ireturn, 1) := by decide +kernel
theorem dX5_isSheet_0 : decode cX5_isSheet 0 = .ok (.iload_n 0, 1) := by decide +kernel
theorem dX5_isSheet_1 : decode cX5_isSheet 1 = .ok (.iconst 0, 1) := by decide +kernel
theorem dX5_isSheet_2 : decode cX5_isSheet 2 = .ok (.iconst 3, 1) := by decide +kernel
theorem dX5_isSheet_3 : decode cX5_isSheet 3 = .ok (.invokestatic 70, 3) := by decide +kernel
theorem dX5_isSheet_6 : decode cX5_isSheet 6 = .ok (.ireturn, 1) := by decide +kernel
theorem dX5_cutTo_0 : decode cX5_cutTo 0 = .ok (.iload_n 1, 1) := by decide +kernel
theorem dX5_cutTo_1 : decode cX5_cutTo 1 = .ok (.bipush 8, 2) := by decide +kernel
theorem dX5_cutTo_3 : decode cX5_cutTo 3 = .ok (.if_icmp .ne 8, 3) := by decide +kernel
theorem dX5_cutTo_6 : decode cX5_cutTo 6 = .ok (.iload_n 0, 1) := by decide +kernel
theorem dX5_cutTo_7 : decode cX5_cutTo 7 = .ok (.i2b, 1) := by decide +kernel
theorem dX5_cutTo_8 : decode cX5_cutTo 8 = .ok (.goto 15, 3) := by decide +kernel
theorem dX5_cutTo_11 : decode cX5_cutTo 11 = .ok (.iload_n 1, 1) := by decide +kernel
theorem dX5_cutTo_12 : decode cX5_cutTo 12 = .ok (.bipush 16, 2) := by decide +kernel
theorem dX5_cutTo_14 : decode cX5_cutTo 14 = .ok (.if_icmp .ne 8, 3) := by decide +kernel
theorem dX5_cutTo_17 : decode cX5_cutTo 17 = .ok (.iload_n 0, 1) := by decide +kernel
theorem dX5_cutTo_18 : decode cX5_cutTo 18 = .ok (.i2s, 1) := by decide +kernel
theorem dX5_cutTo_19 : decode cX5_cutTo 19 = .ok (.goto 4, 3) := by decide +kernel
theorem dX5_cutTo_22 : decode cX5_cutTo 22 = .ok (.iload_n 0, 1) := by decide +kernel
theorem dX5_cutTo_23 : decode cX5_cutTo 23 = .ok (.ireturn, 1) := by decide +kernel
theorem dX5_sheet_0 : decode cX5_sheet 0 = .ok (.iload_n 1, 1) := by decide +kernel
theorem dX5_sheet_1 : decode cX5_sheet 1 = .ok (.invokestatic 208, 3) := by decide +kernel
theorem dX5_sheet_4 : decode cX5_sheet 4 = .ok (.ifCond .eq 25, 3) := by decide +kernel
theorem dX5_sheet_7 : decode cX5_sheet 7 = .ok (.iload_n 2, 1) := by decide +kernel
theorem dX5_sheet_8 : decode cX5_sheet 8 = .ok (.ifCond .eq 28, 3) := by decide +kernel
theorem dX5_sheet_11 : decode cX5_sheet 11 = .ok (.iload_n 2, 1) := by decide +kernel
theorem dX5_sheet_12 : decode cX5_sheet 12 = .ok (.bipush 8, 2) := by decide +kernel
theorem dX5_sheet_14 : decode cX5_sheet 14 = .ok (.if_icmp .eq 22, 3) := by decide +kernel
theorem dX5_sheet_17 : decode cX5_sheet 17 = .ok (.iload_n 2, 1) := by decide +kernel
theorem dX5_sheet_18 : decode cX5_sheet 18 = .ok (.bipush 16, 2) := by decide +kernel
theorem dX5_sheet_20 : decode cX5_sheet 20 = .ok (.if_icmp .eq 16, 3) := by decide +kernel
theorem dX5_sheet_23 : decode cX5_sheet 23 = .ok (.iload_n 2, 1) := by decide +kernel
theorem dX5_sheet_24 : decode cX5_sheet 24 = .ok (.bipush 32, 2) := by decide +kernel
theorem dX5_sheet_26 : decode cX5_sheet 26 = .ok (.if_icmp .eq 10, 3) := by decide +kernel
theorem dX5_sheet_29 : decode cX5_sheet 29 = .ok (.aload_n 0, 1) := by decide +kernel
theorem dX5_sheet_30 : decode cX5_sheet 30 = .ok (.ldc 60, 2) := by decide +kernel
theorem dX5_sheet_32 : decode cX5_sheet 32 = .ok (.invokevirtual 66, 3) := by decide +kernel
theorem dX5_sheet_35 : decode cX5_sheet 35 = .ok (.ireturn, 1) := by decide +kernel
theorem dX5_sheet_36 : decode cX5_sheet 36 = .ok (.iload_n 3, 1) := by decide +kernel
theorem dX5_sheet_37 : decode cX5_sheet 37 = .ok (.ifCond .ge 11, 3) := by decide +kernel
theorem dX5_sheet_40 : decode cX5_sheet 40 = .ok (.aload_n 0, 1) := by decide +kernel
theorem dX5_sheet_41 : decode cX5_sheet 41 = .ok (.ldc_w 314, 3) := by decide +kernel
theorem dX5_sheet_44 : decode cX5_sheet 44 = .ok (.invokevirtual 66, 3) := by decide +kernel
theorem dX5_sheet_47 : decode cX5_sheet 47 = .ok (.ireturn, 1) := by decide +kernel
theorem dX5_sheet_48 : decode cX5_sheet 48 = .ok (.iload_n 3, 1) := by decide +kernel
theorem dX5_sheet_49 : decode cX5_sheet 49 = .ok (.bipush 40, 2) := by decide +kernel
theorem dX5_sheet_51 : decode cX5_sheet 51 = .ok (.if_icmp .le 10, 3) := by decide +kernel
theorem dX5_sheet_54 : decode cX5_sheet 54 = .ok (.aload_n 0, 1) := by decide +kernel
theorem dX5_sheet_55 : decode cX5_sheet 55 = .ok (.ldc 60, 2) := by decide +kernel
theorem dX5_sheet_57 : decode cX5_sheet 57 = .ok (.invokevirtual 66, 3) := by decide +kernel
theorem dX5_sheet_60 : decode cX5_sheet 60 = .ok (.ireturn, 1) := by decide +kernel
theorem dX5_sheet_61 : decode cX5_sheet 61 = .ok (.aload_n 0, 1) := by decide +kernel
theorem dX5_sheet_62 : decode cX5_sheet 62 = .ok (.getfield 48, 3) := by decide +kernel
theorem dX5_sheet_65 : decode cX5_sheet 65 = .ok (.iload_n 1, 1) := by decide +kernel
theorem dX5_sheet_66 : decode cX5_sheet 66 = .ok (.iload_n 2, 1) := by decide +kernel
theorem dX5_sheet_67 : decode cX5_sheet 67 = .ok (.iastore, 1) := by decide +kernel
theorem dX5_sheet_68 : decode cX5_sheet 68 = .ok (.aload_n 0, 1) := by decide +kernel
theorem dX5_sheet_69 : decode cX5_sheet 69 = .ok (.getfield 51, 3) := by decide +kernel
theorem dX5_sheet_72 : decode cX5_sheet 72 = .ok (.iload_n 1, 1) := by decide +kernel
theorem dX5_sheet_73 : decode cX5_sheet 73 = .ok (.iload_n 2, 1) := by decide +kernel
theorem dX5_sheet_74 : decode cX5_sheet 74 = .ok (.ifCond .ne 7, 3) := by decide +kernel
theorem dX5_sheet_77 : decode cX5_sheet 77 = .ok (.iconst 0, 1) := by decide +kernel
theorem dX5_sheet_78 : decode cX5_sheet 78 = .ok (.goto 4, 3) := by decide +kernel
theorem dX5_sheet_81 : decode cX5_sheet 81 = .ok (.iload_n 3, 1) := by decide +kernel
theorem dX5_sheet_82 : decode cX5_sheet 82 = .ok (.iastore, 1) := by decide +kernel
theorem dX5_sheet_83 : decode cX5_sheet 83 = .ok (.iconst 0, 1) := by decide +kernel
theorem dX5_sheet_84 : decode cX5_sheet 84 = .ok (.istore 4, 2) := by decide +kernel
theorem dX5_sheet_86 : decode cX5_sheet 86 = .ok (.iload 4, 2) := by decide +kernel
theorem dX5_sheet_88 : decode cX5_sheet 88 = .ok (.bipush 40, 2) := by decide +kernel
theorem dX5_sheet_90 : decode cX5_sheet 90 = .ok (.if_icmp .ge 22, 3) := by decide +kernel
theorem dX5_sheet_93 : decode cX5_sheet 93 = .ok (.aload_n 0, 1) := by decide +kernel
theorem dX5_sheet_94 : decode cX5_sheet 94 = .ok (.getfield 54, 3) := by decide +kernel
theorem dX5_sheet_97 : decode cX5_sheet 97 = .ok (.bipush 40, 2) := by decide +kernel
theorem dX5_sheet_99 : decode cX5_sheet 99 = .ok (.iload_n 1, 1) := by decide +kernel
theorem dX5_sheet_100 : decode cX5_sheet 100 = .ok (.imul, 1) := by decide +kernel
theorem dX5_sheet_101 : decode cX5_sheet 101 = .ok (.iload 4, 2) := by decide +kernel
theorem dX5_sheet_103 : decode cX5_sheet 103 = .ok (.iadd, 1) := by decide +kernel
theorem dX5_sheet_104 : decode cX5_sheet 104 = .ok (.iconst 0, 1) := by decide +kernel
theorem dX5_sheet_105 : decode cX5_sheet 105 = .ok (.iastore, 1) := by decide +kernel
theorem dX5_sheet_106 : decode cX5_sheet 106 = .ok (.iinc 4 1, 3) := by decide +kernel
theorem dX5_sheet_109 : decode cX5_sheet 109 = .ok (.goto (-23), 3) := by decide +kernel
theorem dX5_sheet_112 : decode cX5_sheet 112 = .ok (.aload_n 0, 1) := by decide +kernel
theorem dX5_sheet_113 : decode cX5_sheet 113 = .ok (.getfield 51, 3) := by decide +kernel
theorem dX5_sheet_116 : decode cX5_sheet 116 = .ok (.iload_n 1, 1) := by decide +kernel
theorem dX5_sheet_117 : decode cX5_sheet 117 = .ok (.iaload, 1) := by decide +kernel
theorem dX5_sheet_118 : decode cX5_sheet 118 = .ok (.ireturn, 1) := by decide +kernel
theorem dX5_write_0 : decode cX5_write 0 = .ok (.iload_n 1, 1) := by decide +kernel
theorem dX5_write_1 : decode cX5_write 1 = .ok (.invokestatic 208, 3) := by decide +kernel
theorem dX5_write_4 : decode cX5_write 4 = .ok (.ifCond .ne 10, 3) := by decide +kernel
theorem dX5_write_7 : decode cX5_write 7 = .ok (.aload_n 0, 1) := by decide +kernel
theorem dX5_write_8 : decode cX5_write 8 = .ok (.ldc 60, 2) := by decide +kernel
theorem dX5_write_10 : decode cX5_write 10 = .ok (.invokevirtual 66, 3) := by decide +kernel
theorem dX5_write_13 : decode cX5_write 13 = .ok (.ireturn, 1) := by decide +kernel
theorem dX5_write_14 : decode cX5_write 14 = .ok (.aload_n 0, 1) := by decide +kernel
theorem dX5_write_15 : decode cX5_write 15 = .ok (.getfield 48, 3) := by decide +kernel
theorem dX5_write_18 : decode cX5_write 18 = .ok (.iload_n 1, 1) := by decide +kernel
theorem dX5_write_19 : decode cX5_write 19 = .ok (.iaload, 1) := by decide +kernel
theorem dX5_write_20 : decode cX5_write 20 = .ok (.ifCond .ne 10, 3) := by decide +kernel
theorem dX5_write_23 : decode cX5_write 23 = .ok (.aload_n 0, 1) := by decide +kernel
theorem dX5_write_24 : decode cX5_write 24 = .ok (.ldc 211, 2) := by decide +kernel
theorem dX5_write_26 : decode cX5_write 26 = .ok (.invokevirtual 66, 3) := by decide +kernel
theorem dX5_write_29 : decode cX5_write 29 = .ok (.ireturn, 1) := by decide +kernel
theorem dX5_write_30 : decode cX5_write 30 = .ok (.iload_n 2, 1) := by decide +kernel
theorem dX5_write_31 : decode cX5_write 31 = .ok (.iconst 0, 1) := by decide +kernel
theorem dX5_write_32 : decode cX5_write 32 = .ok (.aload_n 0, 1) := by decide +kernel
theorem dX5_write_33 : decode cX5_write 33 = .ok (.getfield 51, 3) := by decide +kernel
theorem dX5_write_36 : decode cX5_write 36 = .ok (.iload_n 1, 1) := by decide +kernel
theorem dX5_write_37 : decode cX5_write 37 = .ok (.iaload, 1) := by decide +kernel
theorem dX5_write_38 : decode cX5_write 38 = .ok (.iconst 1, 1) := by decide +kernel
theorem dX5_write_39 : decode cX5_write 39 = .ok (.isub, 1) := by decide +kernel
theorem dX5_write_40 : decode cX5_write 40 = .ok (.invokestatic 70, 3) := by decide +kernel
theorem dX5_write_43 : decode cX5_write 43 = .ok (.ifCond .ne 10, 3) := by decide +kernel
theorem dX5_write_46 : decode cX5_write 46 = .ok (.aload_n 0, 1) := by decide +kernel
theorem dX5_write_47 : decode cX5_write 47 = .ok (.ldc 60, 2) := by decide +kernel
theorem dX5_write_49 : decode cX5_write 49 = .ok (.invokevirtual 66, 3) := by decide +kernel
theorem dX5_write_52 : decode cX5_write 52 = .ok (.ireturn, 1) := by decide +kernel
theorem dX5_write_53 : decode cX5_write 53 = .ok (.aload_n 0, 1) := by decide +kernel
theorem dX5_write_54 : decode cX5_write 54 = .ok (.getfield 54, 3) := by decide +kernel
theorem dX5_write_57 : decode cX5_write 57 = .ok (.bipush 40, 2) := by decide +kernel
theorem dX5_write_59 : decode cX5_write 59 = .ok (.iload_n 1, 1) := by decide +kernel
theorem dX5_write_60 : decode cX5_write 60 = .ok (.imul, 1) := by decide +kernel
theorem dX5_write_61 : decode cX5_write 61 = .ok (.iload_n 2, 1) := by decide +kernel
theorem dX5_write_62 : decode cX5_write 62 = .ok (.iadd, 1) := by decide +kernel
theorem dX5_write_63 : decode cX5_write 63 = .ok (.iload_n 3, 1) := by decide +kernel
theorem dX5_write_64 : decode cX5_write 64 = .ok (.aload_n 0, 1) := by decide +kernel
theorem dX5_write_65 : decode cX5_write 65 = .ok (.getfield 48, 3) := by decide +kernel
theorem dX5_write_68 : decode cX5_write 68 = .ok (.iload_n 1, 1) := by decide +kernel
theorem dX5_write_69 : decode cX5_write 69 = .ok (.iaload, 1) := by decide +kernel
theorem dX5_write_70 : decode cX5_write 70 = .ok (.invokestatic 315, 3) := by decide +kernel
theorem dX5_write_73 : decode cX5_write 73 = .ok (.iastore, 1) := by decide +kernel
theorem dX5_write_74 : decode cX5_write 74 = .ok (.iconst 1, 1) := by decide +kernel
theorem dX5_write_75 : decode cX5_write 75 = .ok (.ireturn, 1) := by decide +kernel
theorem dX5_copy_0 : decode cX5_copy 0 = .ok (.iload_n 1, 1) := by decide +kernel
theorem dX5_copy_1 : decode cX5_copy 1 = .ok (.invokestatic 208, 3) := by decide +kernel
theorem dX5_copy_4 : decode cX5_copy 4 = .ok (.ifCond .eq 10, 3) := by decide +kernel
theorem dX5_copy_7 : decode cX5_copy 7 = .ok (.iload_n 3, 1) := by decide +kernel
theorem dX5_copy_8 : decode cX5_copy 8 = .ok (.invokestatic 208, 3) := by decide +kernel
theorem dX5_copy_11 : decode cX5_copy 11 = .ok (.ifCond .ne 10, 3) := by decide +kernel
theorem dX5_copy_14 : decode cX5_copy 14 = .ok (.aload_n 0, 1) := by decide +kernel
theorem dX5_copy_15 : decode cX5_copy 15 = .ok (.ldc 60, 2) := by decide +kernel
theorem dX5_copy_17 : decode cX5_copy 17 = .ok (.invokevirtual 66, 3) := by decide +kernel
theorem dX5_copy_20 : decode cX5_copy 20 = .ok (.ireturn, 1) := by decide +kernel
theorem dX5_copy_21 : decode cX5_copy 21 = .ok (.aload_n 0, 1) := by decide +kernel
theorem dX5_copy_22 : decode cX5_copy 22 = .ok (.getfield 48, 3) := by decide +kernel
theorem dX5_copy_25 : decode cX5_copy 25 = .ok (.iload_n 1, 1) := by decide +kernel
theorem dX5_copy_26 : decode cX5_copy 26 = .ok (.iaload, 1) := by decide +kernel
theorem dX5_copy_27 : decode cX5_copy 27 = .ok (.ifCond .eq 12, 3) := by decide +kernel
theorem dX5_copy_30 : decode cX5_copy 30 = .ok (.aload_n 0, 1) := by decide +kernel
theorem dX5_copy_31 : decode cX5_copy 31 = .ok (.getfield 48, 3) := by decide +kernel
theorem dX5_copy_34 : decode cX5_copy 34 = .ok (.iload_n 3, 1) := by decide +kernel
theorem dX5_copy_35 : decode cX5_copy 35 = .ok (.iaload, 1) := by decide +kernel
theorem dX5_copy_36 : decode cX5_copy 36 = .ok (.ifCond .ne 10, 3) := by decide +kernel
theorem dX5_copy_39 : decode cX5_copy 39 = .ok (.aload_n 0, 1) := by decide +kernel
theorem dX5_copy_40 : decode cX5_copy 40 = .ok (.ldc 211, 2) := by decide +kernel
theorem dX5_copy_42 : decode cX5_copy 42 = .ok (.invokevirtual 66, 3) := by decide +kernel
theorem dX5_copy_45 : decode cX5_copy 45 = .ok (.ireturn, 1) := by decide +kernel
theorem dX5_copy_46 : decode cX5_copy 46 = .ok (.aload_n 0, 1) := by decide +kernel
theorem dX5_copy_47 : decode cX5_copy 47 = .ok (.getfield 48, 3) := by decide +kernel
theorem dX5_copy_50 : decode cX5_copy 50 = .ok (.iload_n 1, 1) := by decide +kernel
theorem dX5_copy_51 : decode cX5_copy 51 = .ok (.iaload, 1) := by decide +kernel
theorem dX5_copy_52 : decode cX5_copy 52 = .ok (.aload_n 0, 1) := by decide +kernel
theorem dX5_copy_53 : decode cX5_copy 53 = .ok (.getfield 48, 3) := by decide +kernel
theorem dX5_copy_56 : decode cX5_copy 56 = .ok (.iload_n 3, 1) := by decide +kernel
theorem dX5_copy_57 : decode cX5_copy 57 = .ok (.iaload, 1) := by decide +kernel
theorem dX5_copy_58 : decode cX5_copy 58 = .ok (.if_icmp .eq 11, 3) := by decide +kernel
theorem dX5_copy_61 : decode cX5_copy 61 = .ok (.aload_n 0, 1) := by decide +kernel
theorem dX5_copy_62 : decode cX5_copy 62 = .ok (.ldc_w 313, 3) := by decide +kernel
theorem dX5_copy_65 : decode cX5_copy 65 = .ok (.invokevirtual 66, 3) := by decide +kernel
theorem dX5_copy_68 : decode cX5_copy 68 = .ok (.ireturn, 1) := by decide +kernel
theorem dX5_copy_69 : decode cX5_copy 69 = .ok (.iload_n 2, 1) := by decide +kernel
theorem dX5_copy_70 : decode cX5_copy 70 = .ok (.ifCond .lt 48, 3) := by decide +kernel
theorem dX5_copy_73 : decode cX5_copy 73 = .ok (.iload 4, 2) := by decide +kernel
theorem dX5_copy_75 : decode cX5_copy 75 = .ok (.ifCond .lt 43, 3) := by decide +kernel
theorem dX5_copy_78 : decode cX5_copy 78 = .ok (.iload 5, 2) := by decide +kernel
theorem dX5_copy_80 : decode cX5_copy 80 = .ok (.ifCond .lt 38, 3) := by decide +kernel
theorem dX5_copy_83 : decode cX5_copy 83 = .ok (.iload_n 2, 1) := by decide +kernel
theorem dX5_copy_84 : decode cX5_copy 84 = .ok (.i2l, 1) := by decide +kernel
theorem dX5_copy_85 : decode cX5_copy 85 = .ok (.iload 5, 2) := by decide +kernel
theorem dX5_copy_87 : decode cX5_copy 87 = .ok (.i2l, 1) := by decide +kernel
theorem dX5_copy_88 : decode cX5_copy 88 = .ok (.ladd, 1) := by decide +kernel
theorem dX5_copy_89 : decode cX5_copy 89 = .ok (.aload_n 0, 1) := by decide +kernel
theorem dX5_copy_90 : decode cX5_copy 90 = .ok (.getfield 51, 3) := by decide +kernel
theorem dX5_copy_93 : decode cX5_copy 93 = .ok (.iload_n 1, 1) := by decide +kernel
theorem dX5_copy_94 : decode cX5_copy 94 = .ok (.iaload, 1) := by decide +kernel
theorem dX5_copy_95 : decode cX5_copy 95 = .ok (.i2l, 1) := by decide +kernel
theorem dX5_copy_96 : decode cX5_copy 96 = .ok (.lcmp, 1) := by decide +kernel
theorem dX5_copy_97 : decode cX5_copy 97 = .ok (.ifCond .gt 21, 3) := by decide +kernel
theorem dX5_copy_100 : decode cX5_copy 100 = .ok (.iload 4, 2) := by decide +kernel
theorem dX5_copy_102 : decode cX5_copy 102 = .ok (.i2l, 1) := by decide +kernel
theorem dX5_copy_103 : decode cX5_copy 103 = .ok (.iload 5, 2) := by decide +kernel
theorem dX5_copy_105 : decode cX5_copy 105 = .ok (.i2l, 1) := by decide +kernel
theorem dX5_copy_106 : decode cX5_copy 106 = .ok (.ladd, 1) := by decide +kernel
theorem dX5_copy_107 : decode cX5_copy 107 = .ok (.aload_n 0, 1) := by decide +kernel
theorem dX5_copy_108 : decode cX5_copy 108 = .ok (.getfield 51, 3) := by decide +kernel
theorem dX5_copy_111 : decode cX5_copy 111 = .ok (.iload_n 3, 1) := by decide +kernel
theorem dX5_copy_112 : decode cX5_copy 112 = .ok (.iaload, 1) := by decide +kernel
theorem dX5_copy_113 : decode cX5_copy 113 = .ok (.i2l, 1) := by decide +kernel
theorem dX5_copy_114 : decode cX5_copy 114 = .ok (.lcmp, 1) := by decide +kernel
theorem dX5_copy_115 : decode cX5_copy 115 = .ok (.ifCond .le 10, 3) := by decide +kernel
theorem dX5_copy_118 : decode cX5_copy 118 = .ok (.aload_n 0, 1) := by decide +kernel
theorem dX5_copy_119 : decode cX5_copy 119 = .ok (.ldc 60, 2) := by decide +kernel
theorem dX5_copy_121 : decode cX5_copy 121 = .ok (.invokevirtual 66, 3) := by decide +kernel
theorem dX5_copy_124 : decode cX5_copy 124 = .ok (.ireturn, 1) := by decide +kernel
theorem dX5_copy_125 : decode cX5_copy 125 = .ok (.iconst 0, 1) := by decide +kernel
theorem dX5_copy_126 : decode cX5_copy 126 = .ok (.istore 6, 2) := by decide +kernel
theorem dX5_copy_128 : decode cX5_copy 128 = .ok (.iload 6, 2) := by decide +kernel
theorem dX5_copy_130 : decode cX5_copy 130 = .ok (.iload 5, 2) := by decide +kernel
theorem dX5_copy_132 : decode cX5_copy 132 = .ok (.if_icmp .ge 30, 3) := by decide +kernel
theorem dX5_copy_135 : decode cX5_copy 135 = .ok (.aload_n 0, 1) := by decide +kernel
theorem dX5_copy_136 : decode cX5_copy 136 = .ok (.getfield 57, 3) := by decide +kernel
theorem dX5_copy_139 : decode cX5_copy 139 = .ok (.iload 6, 2) := by decide +kernel
theorem dX5_copy_141 : decode cX5_copy 141 = .ok (.aload_n 0, 1) := by decide +kernel
theorem dX5_copy_142 : decode cX5_copy 142 = .ok (.getfield 54, 3) := by decide +kernel
theorem dX5_copy_145 : decode cX5_copy 145 = .ok (.bipush 40, 2) := by decide +kernel
theorem dX5_copy_147 : decode cX5_copy 147 = .ok (.iload_n 1, 1) := by decide +kernel
theorem dX5_copy_148 : decode cX5_copy 148 = .ok (.imul, 1) := by decide +kernel
theorem dX5_copy_149 : decode cX5_copy 149 = .ok (.iload_n 2, 1) := by decide +kernel
theorem dX5_copy_150 : decode cX5_copy 150 = .ok (.iadd, 1) := by decide +kernel
theorem dX5_copy_151 : decode cX5_copy 151 = .ok (.iload 6, 2) := by decide +kernel
theorem dX5_copy_153 : decode cX5_copy 153 = .ok (.iadd, 1) := by decide +kernel
theorem dX5_copy_154 : decode cX5_copy 154 = .ok (.iaload, 1) := by decide +kernel
theorem dX5_copy_155 : decode cX5_copy 155 = .ok (.iastore, 1) := by decide +kernel
theorem dX5_copy_156 : decode cX5_copy 156 = .ok (.iinc 6 1, 3) := by decide +kernel
theorem dX5_copy_159 : decode cX5_copy 159 = .ok (.goto (-31), 3) := by decide +kernel
theorem dX5_copy_162 : decode cX5_copy 162 = .ok (.iconst 0, 1) := by decide +kernel
theorem dX5_copy_163 : decode cX5_copy 163 = .ok (.istore 6, 2) := by decide +kernel
theorem dX5_copy_165 : decode cX5_copy 165 = .ok (.iload 6, 2) := by decide +kernel
theorem dX5_copy_167 : decode cX5_copy 167 = .ok (.iload 5, 2) := by decide +kernel
theorem dX5_copy_169 : decode cX5_copy 169 = .ok (.if_icmp .ge 31, 3) := by decide +kernel
theorem dX5_copy_172 : decode cX5_copy 172 = .ok (.aload_n 0, 1) := by decide +kernel
theorem dX5_copy_173 : decode cX5_copy 173 = .ok (.getfield 54, 3) := by decide +kernel
theorem dX5_copy_176 : decode cX5_copy 176 = .ok (.bipush 40, 2) := by decide +kernel
theorem dX5_copy_178 : decode cX5_copy 178 = .ok (.iload_n 3, 1) := by decide +kernel
theorem dX5_copy_179 : decode cX5_copy 179 = .ok (.imul, 1) := by decide +kernel
theorem dX5_copy_180 : decode cX5_copy 180 = .ok (.iload 4, 2) := by decide +kernel
theorem dX5_copy_182 : decode cX5_copy 182 = .ok (.iadd, 1) := by decide +kernel
theorem dX5_copy_183 : decode cX5_copy 183 = .ok (.iload 6, 2) := by decide +kernel
theorem dX5_copy_185 : decode cX5_copy 185 = .ok (.iadd, 1) := by decide +kernel
theorem dX5_copy_186 : decode cX5_copy 186 = .ok (.aload_n 0, 1) := by decide +kernel
theorem dX5_copy_187 : decode cX5_copy 187 = .ok (.getfield 57, 3) := by decide +kernel
theorem dX5_copy_190 : decode cX5_copy 190 = .ok (.iload 6, 2) := by decide +kernel
theorem dX5_copy_192 : decode cX5_copy 192 = .ok (.iaload, 1) := by decide +kernel
theorem dX5_copy_193 : decode cX5_copy 193 = .ok (.iastore, 1) := by decide +kernel
theorem dX5_copy_194 : decode cX5_copy 194 = .ok (.iinc 6 1, 3) := by decide +kernel
theorem dX5_copy_197 : decode cX5_copy 197 = .ok (.goto (-32), 3) := by decide +kernel
theorem dX5_copy_200 : decode cX5_copy 200 = .ok (.iload 5, 2) := by decide +kernel
theorem dX5_copy_202 : decode cX5_copy 202 = .ok (.ireturn, 1) := by decide +kernel
theorem dX5_above_0 : decode cX5_above 0 = .ok (.iload_n 0, 1) := by decide +kernel
theorem dX5_above_1 : decode cX5_above 1 = .ok (.ifCond .ne 7, 3) := by decide +kernel
theorem dX5_above_4 : decode cX5_above 4 = .ok (.iconst (-1), 1) := by decide +kernel
theorem dX5_above_5 : decode cX5_above 5 = .ok (.goto 32, 3) := by decide +kernel
theorem dX5_above_8 : decode cX5_above 8 = .ok (.iload_n 0, 1) := by decide +kernel
theorem dX5_above_9 : decode cX5_above 9 = .ok (.iconst 3, 1) := by decide +kernel
theorem dX5_above_10 : decode cX5_above 10 = .ok (.if_icmp .ne 7, 3) := by decide +kernel
theorem dX5_above_13 : decode cX5_above 13 = .ok (.iconst 2, 1) := by decide +kernel
theorem dX5_above_14 : decode cX5_above 14 = .ok (.goto 23, 3) := by decide +kernel
theorem dX5_above_17 : decode cX5_above 17 = .ok (.iload_n 0, 1) := by decide +kernel
theorem dX5_above_18 : decode cX5_above 18 = .ok (.iconst 4, 1) := by decide +kernel
theorem dX5_above_19 : decode cX5_above 19 = .ok (.if_icmp .ne 7, 3) := by decide +kernel
theorem dX5_above_22 : decode cX5_above 22 = .ok (.iconst 3, 1) := by decide +kernel
theorem dX5_above_23 : decode cX5_above 23 = .ok (.goto 14, 3) := by decide +kernel
theorem dX5_above_26 : decode cX5_above 26 = .ok (.iload_n 0, 1) := by decide +kernel
theorem dX5_above_27 : decode cX5_above 27 = .ok (.bipush 6, 2) := by decide +kernel
theorem dX5_above_29 : decode cX5_above 29 = .ok (.if_icmp .ne 7, 3) := by decide +kernel
theorem dX5_above_32 : decode cX5_above 32 = .ok (.iconst 1, 1) := by decide +kernel
theorem dX5_above_33 : decode cX5_above 33 = .ok (.goto 4, 3) := by decide +kernel
theorem dX5_above_36 : decode cX5_above 36 = .ok (.iconst 0, 1) := by decide +kernel
theorem dX5_above_37 : decode cX5_above 37 = .ok (.ireturn, 1) := by decide +kernel
theorem dX5_isUnder_0 : decode cX5_isUnder 0 = .ok (.iload_n 0, 1) := by decide +kernel
theorem dX5_isUnder_1 : decode cX5_isUnder 1 = .ok (.istore_n 2, 1) := by decide +kernel
theorem dX5_isUnder_2 : decode cX5_isUnder 2 = .ok (.iload_n 2, 1) := by decide +kernel
theorem dX5_isUnder_3 : decode cX5_isUnder 3 = .ok (.ifCond .lt 16, 3) := by decide +kernel
theorem dX5_isUnder_6 : decode cX5_isUnder 6 = .ok (.iload_n 2, 1) := by decide +kernel
theorem dX5_isUnder_7 : decode cX5_isUnder 7 = .ok (.iload_n 1, 1) := by decide +kernel
theorem dX5_isUnder_8 : decode cX5_isUnder 8 = .ok (.if_icmp .eq 11, 3) := by decide +kernel
theorem dX5_isUnder_11 : decode cX5_isUnder 11 = .ok (.iload_n 2, 1) := by decide +kernel
theorem dX5_isUnder_12 : decode cX5_isUnder 12 = .ok (.invokestatic 318, 3) := by decide +kernel
theorem dX5_isUnder_15 : decode cX5_isUnder 15 = .ok (.istore_n 2, 1) := by decide +kernel
theorem dX5_isUnder_16 : decode cX5_isUnder 16 = .ok (.goto (-14), 3) := by decide +kernel
theorem dX5_isUnder_19 : decode cX5_isUnder 19 = .ok (.iload_n 2, 1) := by decide +kernel
theorem dX5_isUnder_20 : decode cX5_isUnder 20 = .ok (.ifCond .lt 7, 3) := by decide +kernel
theorem dX5_isUnder_23 : decode cX5_isUnder 23 = .ok (.iconst 1, 1) := by decide +kernel
theorem dX5_isUnder_24 : decode cX5_isUnder 24 = .ok (.goto 4, 3) := by decide +kernel
theorem dX5_isUnder_27 : decode cX5_isUnder 27 = .ok (.iconst 0, 1) := by decide +kernel
theorem dX5_isUnder_28 : decode cX5_isUnder 28 = .ok (.ireturn, 1) := by decide +kernel
theorem dX5_load_0 : decode cX5_load 0 = .ok (.aload_n 0, 1) := by decide +kernel
theorem dX5_load_1 : decode cX5_load 1 = .ok (.iload_n 1, 1) := by decide +kernel
theorem dX5_load_2 : decode cX5_load 2 = .ok (.iconst 1, 1) := by decide +kernel
theorem dX5_load_3 : decode cX5_load 3 = .ok (.invokevirtual 215, 3) := by decide +kernel
theorem dX5_load_6 : decode cX5_load 6 = .ok (.ifCond .eq 14, 3) := by decide +kernel
theorem dX5_load_9 : decode cX5_load 9 = .ok (.aload_n 0, 1) := by decide +kernel
theorem dX5_load_10 : decode cX5_load 10 = .ok (.aload_n 0, 1) := by decide +kernel
theorem dX5_load_11 : decode cX5_load 11 = .ok (.iload_n 1, 1) := by decide +kernel
theorem dX5_load_12 : decode cX5_load 12 = .ok (.iconst 1, 1) := by decide +kernel
theorem dX5_load_13 : decode cX5_load 13 = .ok (.invokevirtual 215, 3) := by decide +kernel
theorem dX5_load_16 : decode cX5_load 16 = .ok (.invokevirtual 66, 3) := by decide +kernel
theorem dX5_load_19 : decode cX5_load 19 = .ok (.ireturn, 1) := by decide +kernel
theorem dX5_load_20 : decode cX5_load 20 = .ok (.iconst 0, 1) := by decide +kernel
theorem dX5_load_21 : decode cX5_load 21 = .ok (.istore_n 2, 1) := by decide +kernel
theorem dX5_load_22 : decode cX5_load 22 = .ok (.iload_n 2, 1) := by decide +kernel
theorem dX5_load_23 : decode cX5_load 23 = .ok (.aload_n 0, 1) := by decide +kernel
theorem dX5_load_24 : decode cX5_load 24 = .ok (.getfield 51, 3) := by decide +kernel
theorem dX5_load_27 : decode cX5_load 27 = .ok (.iload_n 1, 1) := by decide +kernel
theorem dX5_load_28 : decode cX5_load 28 = .ok (.iaload, 1) := by decide +kernel
theorem dX5_load_29 : decode cX5_load 29 = .ok (.if_icmp .ge 55, 3) := by decide +kernel
theorem dX5_load_32 : decode cX5_load 32 = .ok (.aload_n 0, 1) := by decide +kernel
theorem dX5_load_33 : decode cX5_load 33 = .ok (.iload_n 2, 1) := by decide +kernel
theorem dX5_load_34 : decode cX5_load 34 = .ok (.invokevirtual 123, 3) := by decide +kernel
theorem dX5_load_37 : decode cX5_load 37 = .ok (.ifCond .eq 47, 3) := by decide +kernel
theorem dX5_load_40 : decode cX5_load 40 = .ok (.aload_n 0, 1) := by decide +kernel
theorem dX5_load_41 : decode cX5_load 41 = .ok (.getfield 54, 3) := by decide +kernel
theorem dX5_load_44 : decode cX5_load 44 = .ok (.bipush 40, 2) := by decide +kernel
theorem dX5_load_46 : decode cX5_load 46 = .ok (.iload_n 1, 1) := by decide +kernel
theorem dX5_load_47 : decode cX5_load 47 = .ok (.imul, 1) := by decide +kernel
theorem dX5_load_48 : decode cX5_load 48 = .ok (.iload_n 2, 1) := by decide +kernel
theorem dX5_load_49 : decode cX5_load 49 = .ok (.iadd, 1) := by decide +kernel
theorem dX5_load_50 : decode cX5_load 50 = .ok (.iaload, 1) := by decide +kernel
theorem dX5_load_51 : decode cX5_load 51 = .ok (.invokestatic 91, 3) := by decide +kernel
theorem dX5_load_54 : decode cX5_load 54 = .ok (.ifCond .eq 30, 3) := by decide +kernel
theorem dX5_load_57 : decode cX5_load 57 = .ok (.aload_n 0, 1) := by decide +kernel
theorem dX5_load_58 : decode cX5_load 58 = .ok (.getfield 9, 3) := by decide +kernel
theorem dX5_load_61 : decode cX5_load 61 = .ok (.iload_n 2, 1) := by decide +kernel
theorem dX5_load_62 : decode cX5_load 62 = .ok (.iconst 2, 1) := by decide +kernel
theorem dX5_load_63 : decode cX5_load 63 = .ok (.invokestatic 85, 3) := by decide +kernel
theorem dX5_load_66 : decode cX5_load 66 = .ok (.aload_n 0, 1) := by decide +kernel
theorem dX5_load_67 : decode cX5_load 67 = .ok (.getfield 54, 3) := by decide +kernel
theorem dX5_load_70 : decode cX5_load 70 = .ok (.bipush 40, 2) := by decide +kernel
theorem dX5_load_72 : decode cX5_load 72 = .ok (.iload_n 1, 1) := by decide +kernel
theorem dX5_load_73 : decode cX5_load 73 = .ok (.imul, 1) := by decide +kernel
theorem dX5_load_74 : decode cX5_load 74 = .ok (.iload_n 2, 1) := by decide +kernel
theorem dX5_load_75 : decode cX5_load 75 = .ok (.iadd, 1) := by decide +kernel
theorem dX5_load_76 : decode cX5_load 76 = .ok (.iaload, 1) := by decide +kernel
theorem dX5_load_77 : decode cX5_load 77 = .ok (.iastore, 1) := by decide +kernel
theorem dX5_load_78 : decode cX5_load 78 = .ok (.iinc 2 1, 3) := by decide +kernel
theorem dX5_load_81 : decode cX5_load 81 = .ok (.goto (-59), 3) := by decide +kernel
theorem dX5_load_84 : decode cX5_load 84 = .ok (.iload_n 2, 1) := by decide +kernel
theorem dX5_load_85 : decode cX5_load 85 = .ok (.ireturn, 1) := by decide +kernel
theorem dX5_judge_0 : decode cX5_judge 0 = .ok (.aload_n 0, 1) := by decide +kernel
theorem dX5_judge_1 : decode cX5_judge 1 = .ok (.iload_n 1, 1) := by decide +kernel
theorem dX5_judge_2 : decode cX5_judge 2 = .ok (.iconst 1, 1) := by decide +kernel
theorem dX5_judge_3 : decode cX5_judge 3 = .ok (.invokevirtual 215, 3) := by decide +kernel
theorem dX5_judge_6 : decode cX5_judge 6 = .ok (.ifCond .eq 14, 3) := by decide +kernel
theorem dX5_judge_9 : decode cX5_judge 9 = .ok (.aload_n 0, 1) := by decide +kernel
theorem dX5_judge_10 : decode cX5_judge 10 = .ok (.aload_n 0, 1) := by decide +kernel
theorem dX5_judge_11 : decode cX5_judge 11 = .ok (.iload_n 1, 1) := by decide +kernel
theorem dX5_judge_12 : decode cX5_judge 12 = .ok (.iconst 1, 1) := by decide +kernel
theorem dX5_judge_13 : decode cX5_judge 13 = .ok (.invokevirtual 215, 3) := by decide +kernel
theorem dX5_judge_16 : decode cX5_judge 16 = .ok (.invokevirtual 66, 3) := by decide +kernel
theorem dX5_judge_19 : decode cX5_judge 19 = .ok (.ireturn, 1) := by decide +kernel
theorem dX5_judge_20 : decode cX5_judge 20 = .ok (.iconst 0, 1) := by decide +kernel
theorem dX5_judge_21 : decode cX5_judge 21 = .ok (.istore_n 2, 1) := by decide +kernel
theorem dX5_judge_22 : decode cX5_judge 22 = .ok (.iload_n 2, 1) := by decide +kernel
theorem dX5_judge_23 : decode cX5_judge 23 = .ok (.aload_n 0, 1) := by decide +kernel
theorem dX5_judge_24 : decode cX5_judge 24 = .ok (.getfield 51, 3) := by decide +kernel
theorem dX5_judge_27 : decode cX5_judge 27 = .ok (.iload_n 1, 1) := by decide +kernel
theorem dX5_judge_28 : decode cX5_judge 28 = .ok (.iaload, 1) := by decide +kernel
theorem dX5_judge_29 : decode cX5_judge 29 = .ok (.if_icmp .ge 37, 3) := by decide +kernel
theorem dX5_judge_32 : decode cX5_judge 32 = .ok (.aload_n 0, 1) := by decide +kernel
theorem dX5_judge_33 : decode cX5_judge 33 = .ok (.iload_n 2, 1) := by decide +kernel
theorem dX5_judge_34 : decode cX5_judge 34 = .ok (.invokevirtual 123, 3) := by decide +kernel
theorem dX5_judge_37 : decode cX5_judge 37 = .ok (.ifCond .eq 29, 3) := by decide +kernel
theorem dX5_judge_40 : decode cX5_judge 40 = .ok (.aload_n 0, 1) := by decide +kernel
theorem dX5_judge_41 : decode cX5_judge 41 = .ok (.getfield 54, 3) := by decide +kernel
theorem dX5_judge_44 : decode cX5_judge 44 = .ok (.bipush 40, 2) := by decide +kernel
theorem dX5_judge_46 : decode cX5_judge 46 = .ok (.iload_n 1, 1) := by decide +kernel
theorem dX5_judge_47 : decode cX5_judge 47 = .ok (.imul, 1) := by decide +kernel
theorem dX5_judge_48 : decode cX5_judge 48 = .ok (.iload_n 2, 1) := by decide +kernel
theorem dX5_judge_49 : decode cX5_judge 49 = .ok (.iadd, 1) := by decide +kernel
theorem dX5_judge_50 : decode cX5_judge 50 = .ok (.iaload, 1) := by decide +kernel
theorem dX5_judge_51 : decode cX5_judge 51 = .ok (.aload_n 0, 1) := by decide +kernel
theorem dX5_judge_52 : decode cX5_judge 52 = .ok (.iload_n 2, 1) := by decide +kernel
theorem dX5_judge_53 : decode cX5_judge 53 = .ok (.iconst 3, 1) := by decide +kernel
theorem dX5_judge_54 : decode cX5_judge 54 = .ok (.invokevirtual 98, 3) := by decide +kernel
theorem dX5_judge_57 : decode cX5_judge 57 = .ok (.if_icmp .ne 9, 3) := by decide +kernel
theorem dX5_judge_60 : decode cX5_judge 60 = .ok (.iinc 2 1, 3) := by decide +kernel
theorem dX5_judge_63 : decode cX5_judge 63 = .ok (.goto (-41), 3) := by decide +kernel
theorem dX5_judge_66 : decode cX5_judge 66 = .ok (.iload_n 2, 1) := by decide +kernel
theorem dX5_judge_67 : decode cX5_judge 67 = .ok (.aload_n 0, 1) := by decide +kernel
theorem dX5_judge_68 : decode cX5_judge 68 = .ok (.getfield 51, 3) := by decide +kernel
theorem dX5_judge_71 : decode cX5_judge 71 = .ok (.iload_n 1, 1) := by decide +kernel
theorem dX5_judge_72 : decode cX5_judge 72 = .ok (.iaload, 1) := by decide +kernel
theorem dX5_judge_73 : decode cX5_judge 73 = .ok (.if_icmp .ne 7, 3) := by decide +kernel
theorem dX5_judge_76 : decode cX5_judge 76 = .ok (.iconst 0, 1) := by decide +kernel
theorem dX5_judge_77 : decode cX5_judge 77 = .ok (.goto 6, 3) := by decide +kernel
theorem dX5_judge_80 : decode cX5_judge 80 = .ok (.iconst 1, 1) := by decide +kernel
theorem dX5_judge_81 : decode cX5_judge 81 = .ok (.iload_n 2, 1) := by decide +kernel
theorem dX5_judge_82 : decode cX5_judge 82 = .ok (.iadd, 1) := by decide +kernel
theorem dX5_judge_83 : decode cX5_judge 83 = .ok (.ireturn, 1) := by decide +kernel
theorem dX5_image_0 : decode cX5_image 0 = .ok (.aload_n 0, 1) := by decide +kernel
theorem dX5_image_1 : decode cX5_image 1 = .ok (.getfield 9, 3) := by decide +kernel
theorem dX5_image_4 : decode cX5_image 4 = .ok (.aload_n 0, 1) := by decide +kernel
theorem dX5_image_5 : decode cX5_image 5 = .ok (.getfield 13, 3) := by decide +kernel
theorem dX5_image_8 : decode cX5_image 8 = .ok (.invokestatic 61, 3) := by decide +kernel
theorem dX5_image_11 : decode cX5_image 11 = .ok (.aload_n 0, 1) := by decide +kernel
theorem dX5_image_12 : decode cX5_image 12 = .ok (.iconst 1, 1) := by decide +kernel
theorem dX5_image_13 : decode cX5_image 13 = .ok (.putfield 321, 3) := by decide +kernel
theorem dX5_image_16 : decode cX5_image 16 = .ok (.iconst 1, 1) := by decide +kernel
theorem dX5_image_17 : decode cX5_image 17 = .ok (.ireturn, 1) := by decide +kernel
theorem dX5_undo_0 : decode cX5_undo 0 = .ok (.aload_n 0, 1) := by decide +kernel
theorem dX5_undo_1 : decode cX5_undo 1 = .ok (.getfield 321, 3) := by decide +kernel
theorem dX5_undo_4 : decode cX5_undo 4 = .ok (.ifCond .ne 10, 3) := by decide +kernel
theorem dX5_undo_7 : decode cX5_undo 7 = .ok (.aload_n 0, 1) := by decide +kernel
theorem dX5_undo_8 : decode cX5_undo 8 = .ok (.ldc 65, 2) := by decide +kernel
theorem dX5_undo_10 : decode cX5_undo 10 = .ok (.invokevirtual 66, 3) := by decide +kernel
theorem dX5_undo_13 : decode cX5_undo 13 = .ok (.ireturn, 1) := by decide +kernel
theorem dX5_undo_14 : decode cX5_undo 14 = .ok (.aload_n 0, 1) := by decide +kernel
theorem dX5_undo_15 : decode cX5_undo 15 = .ok (.getfield 13, 3) := by decide +kernel
theorem dX5_undo_18 : decode cX5_undo 18 = .ok (.aload_n 0, 1) := by decide +kernel
theorem dX5_undo_19 : decode cX5_undo 19 = .ok (.getfield 9, 3) := by decide +kernel
theorem dX5_undo_22 : decode cX5_undo 22 = .ok (.invokestatic 61, 3) := by decide +kernel
theorem dX5_undo_25 : decode cX5_undo 25 = .ok (.aload_n 0, 1) := by decide +kernel
theorem dX5_undo_26 : decode cX5_undo 26 = .ok (.getfield 9, 3) := by decide +kernel
theorem dX5_undo_29 : decode cX5_undo 29 = .ok (.iconst 0, 1) := by decide +kernel
theorem dX5_undo_30 : decode cX5_undo 30 = .ok (.iaload, 1) := by decide +kernel
theorem dX5_undo_31 : decode cX5_undo 31 = .ok (.ireturn, 1) := by decide +kernel
theorem dX5_tear_0 : decode cX5_tear 0 = .ok (.aload_n 0, 1) := by decide +kernel
theorem dX5_tear_1 : decode cX5_tear 1 = .ok (.getfield 321, 3) := by decide +kernel
theorem dX5_tear_4 : decode cX5_tear 4 = .ok (.ifCond .eq 7, 3) := by decide +kernel
theorem dX5_tear_7 : decode cX5_tear 7 = .ok (.iconst 1, 1) := by decide +kernel
theorem dX5_tear_8 : decode cX5_tear 8 = .ok (.goto 4, 3) := by decide +kernel
theorem dX5_tear_11 : decode cX5_tear 11 = .ok (.iconst 0, 1) := by decide +kernel
theorem dX5_tear_12 : decode cX5_tear 12 = .ok (.istore_n 1, 1) := by decide +kernel
theorem dX5_tear_13 : decode cX5_tear 13 = .ok (.aload_n 0, 1) := by decide +kernel
theorem dX5_tear_14 : decode cX5_tear 14 = .ok (.iconst 0, 1) := by decide +kernel
theorem dX5_tear_15 : decode cX5_tear 15 = .ok (.putfield 321, 3) := by decide +kernel
theorem dX5_tear_18 : decode cX5_tear 18 = .ok (.iload_n 1, 1) := by decide +kernel
theorem dX5_tear_19 : decode cX5_tear 19 = .ok (.ireturn, 1) := by decide +kernel
theorem dX5_count_0 : decode cX5_count 0 = .ok (.iconst 0, 1) := by decide +kernel
theorem dX5_count_1 : decode cX5_count 1 = .ok (.istore_n 2, 1) := by decide +kernel
theorem dX5_count_2 : decode cX5_count 2 = .ok (.iload_n 1, 1) := by decide +kernel
theorem dX5_count_3 : decode cX5_count 3 = .ok (.tableswitch 129 0 7 #[45, 52, 59, 66, 73, 81, 86, 93], 45) := by decide +kernel
theorem dX5_count_48 : decode cX5_count 48 = .ok (.aload_n 0, 1) := by decide +kernel
theorem dX5_count_49 : decode cX5_count 49 = .ok (.getfield 9, 3) := by decide +kernel
theorem dX5_count_52 : decode cX5_count 52 = .ok (.iconst 0, 1) := by decide +kernel
theorem dX5_count_53 : decode cX5_count 53 = .ok (.iaload, 1) := by decide +kernel
theorem dX5_count_54 : decode cX5_count 54 = .ok (.ireturn, 1) := by decide +kernel
theorem dX5_count_55 : decode cX5_count 55 = .ok (.aload_n 0, 1) := by decide +kernel
theorem dX5_count_56 : decode cX5_count 56 = .ok (.getfield 9, 3) := by decide +kernel
theorem dX5_count_59 : decode cX5_count 59 = .ok (.iconst 1, 1) := by decide +kernel
theorem dX5_count_60 : decode cX5_count 60 = .ok (.iaload, 1) := by decide +kernel
theorem dX5_count_61 : decode cX5_count 61 = .ok (.ireturn, 1) := by decide +kernel
theorem dX5_count_62 : decode cX5_count 62 = .ok (.aload_n 0, 1) := by decide +kernel
theorem dX5_count_63 : decode cX5_count 63 = .ok (.getfield 9, 3) := by decide +kernel
theorem dX5_count_66 : decode cX5_count 66 = .ok (.iconst 4, 1) := by decide +kernel
theorem dX5_count_67 : decode cX5_count 67 = .ok (.iaload, 1) := by decide +kernel
theorem dX5_count_68 : decode cX5_count 68 = .ok (.ireturn, 1) := by decide +kernel
theorem dX5_count_69 : decode cX5_count 69 = .ok (.aload_n 0, 1) := by decide +kernel
theorem dX5_count_70 : decode cX5_count 70 = .ok (.getfield 9, 3) := by decide +kernel
theorem dX5_count_73 : decode cX5_count 73 = .ok (.iconst 5, 1) := by decide +kernel
theorem dX5_count_74 : decode cX5_count 74 = .ok (.iaload, 1) := by decide +kernel
theorem dX5_count_75 : decode cX5_count 75 = .ok (.ireturn, 1) := by decide +kernel
theorem dX5_count_76 : decode cX5_count 76 = .ok (.aload_n 0, 1) := by decide +kernel
theorem dX5_count_77 : decode cX5_count 77 = .ok (.invokevirtual 170, 3) := by decide +kernel
theorem dX5_count_80 : decode cX5_count 80 = .ok (.invokestatic 101, 3) := by decide +kernel
theorem dX5_count_83 : decode cX5_count 83 = .ok (.ireturn, 1) := by decide +kernel
theorem dX5_count_84 : decode cX5_count 84 = .ok (.aload_n 0, 1) := by decide +kernel
theorem dX5_count_85 : decode cX5_count 85 = .ok (.getfield 227, 3) := by decide +kernel
theorem dX5_count_88 : decode cX5_count 88 = .ok (.ireturn, 1) := by decide +kernel
theorem dX5_count_89 : decode cX5_count 89 = .ok (.aload_n 0, 1) := by decide +kernel
theorem dX5_count_90 : decode cX5_count 90 = .ok (.getfield 9, 3) := by decide +kernel
theorem dX5_count_93 : decode cX5_count 93 = .ok (.iconst 2, 1) := by decide +kernel
theorem dX5_count_94 : decode cX5_count 94 = .ok (.iaload, 1) := by decide +kernel
theorem dX5_count_95 : decode cX5_count 95 = .ok (.ireturn, 1) := by decide +kernel
theorem dX5_count_96 : decode cX5_count 96 = .ok (.iconst 0, 1) := by decide +kernel
theorem dX5_count_97 : decode cX5_count 97 = .ok (.istore_n 3, 1) := by decide +kernel
theorem dX5_count_98 : decode cX5_count 98 = .ok (.iload_n 3, 1) := by decide +kernel
theorem dX5_count_99 : decode cX5_count 99 = .ok (.bipush 10, 2) := by decide +kernel
theorem dX5_count_101 : decode cX5_count 101 = .ok (.if_icmp .ge 29, 3) := by decide +kernel
theorem dX5_count_104 : decode cX5_count 104 = .ok (.iload_n 2, 1) := by decide +kernel
theorem dX5_count_105 : decode cX5_count 105 = .ok (.aload_n 0, 1) := by decide +kernel
theorem dX5_count_106 : decode cX5_count 106 = .ok (.getfield 9, 3) := by decide +kernel
theorem dX5_count_109 : decode cX5_count 109 = .ok (.bipush 12, 2) := by decide +kernel
theorem dX5_count_111 : decode cX5_count 111 = .ok (.iload_n 3, 1) := by decide +kernel
theorem dX5_count_112 : decode cX5_count 112 = .ok (.iadd, 1) := by decide +kernel
theorem dX5_count_113 : decode cX5_count 113 = .ok (.iaload, 1) := by decide +kernel
theorem dX5_count_114 : decode cX5_count 114 = .ok (.ifCond .ge 7, 3) := by decide +kernel
theorem dX5_count_117 : decode cX5_count 117 = .ok (.iconst 0, 1) := by decide +kernel
theorem dX5_count_118 : decode cX5_count 118 = .ok (.goto 4, 3) := by decide +kernel
theorem dX5_count_121 : decode cX5_count 121 = .ok (.iconst 1, 1) := by decide +kernel
theorem dX5_count_122 : decode cX5_count 122 = .ok (.iadd, 1) := by decide +kernel
theorem dX5_count_123 : decode cX5_count 123 = .ok (.istore_n 2, 1) := by decide +kernel
theorem dX5_count_124 : decode cX5_count 124 = .ok (.iinc 3 1, 3) := by decide +kernel
theorem dX5_count_127 : decode cX5_count 127 = .ok (.goto (-29), 3) := by decide +kernel
theorem dX5_count_130 : decode cX5_count 130 = .ok (.iload_n 2, 1) := by decide +kernel
theorem dX5_count_131 : decode cX5_count 131 = .ok (.ireturn, 1) := by decide +kernel
theorem dX5_count_132 : decode cX5_count 132 = .ok (.aload_n 0, 1) := by decide +kernel
theorem dX5_count_133 : decode cX5_count 133 = .ok (.ldc 60, 2) := by decide +kernel
theorem dX5_count_135 : decode cX5_count 135 = .ok (.invokevirtual 66, 3) := by decide +kernel
theorem dX5_count_138 : decode cX5_count 138 = .ok (.ireturn, 1) := by decide +kernel
theorem dX5_status_0 : decode cX5_status 0 = .ok (.iload_n 1, 1) := by decide +kernel
theorem dX5_status_1 : decode cX5_status 1 = .ok (.iconst (-1), 1) := by decide +kernel
theorem dX5_status_2 : decode cX5_status 2 = .ok (.bipush 6, 2) := by decide +kernel
theorem dX5_status_4 : decode cX5_status 4 = .ok (.invokestatic 70, 3) := by decide +kernel
theorem dX5_status_7 : decode cX5_status 7 = .ok (.ifCond .eq 14, 3) := by decide +kernel
theorem dX5_status_10 : decode cX5_status 10 = .ok (.aload_n 0, 1) := by decide +kernel
theorem dX5_status_11 : decode cX5_status 11 = .ok (.getfield 19, 3) := by decide +kernel
theorem dX5_status_14 : decode cX5_status 14 = .ok (.iload_n 1, 1) := by decide +kernel
theorem dX5_status_15 : decode cX5_status 15 = .ok (.iconst 1, 1) := by decide +kernel
theorem dX5_status_16 : decode cX5_status 16 = .ok (.iadd, 1) := by decide +kernel
theorem dX5_status_17 : decode cX5_status 17 = .ok (.iaload, 1) := by decide +kernel
theorem dX5_status_18 : decode cX5_status 18 = .ok (.goto 9, 3) := by decide +kernel
theorem dX5_status_21 : decode cX5_status 21 = .ok (.aload_n 0, 1) := by decide +kernel
theorem dX5_status_22 : decode cX5_status 22 = .ok (.ldc 60, 2) := by decide +kernel
theorem dX5_status_24 : decode cX5_status 24 = .ok (.invokevirtual 66, 3) := by decide +kernel
theorem dX5_status_27 : decode cX5_status 27 = .ok (.ireturn, 1) := by decide +kernel
end
section
theorem dL_law_0 : decode cL_law 0 = .ok (.new 7, 3) := by decide +kernel
theorem dL_law_3 : decode cL_law 3 = .ok (.dup, 1) := by decide +kernel
theorem dL_law_4 : decode cL_law 4 = .ok (.invokespecial 9, 3) := by decide +kernel
theorem dL_law_7 : decode cL_law 7 = .ok (.astore_n 1, 1) := by decide +kernel
theorem dL_law_8 : decode cL_law 8 = .ok (.new 10, 3) := by decide +kernel
theorem dL_law_11 : decode cL_law 11 = .ok (.dup, 1) := by decide +kernel
theorem dL_law_12 : decode cL_law 12 = .ok (.invokespecial 12, 3) := by decide +kernel
theorem dL_law_15 : decode cL_law 15 = .ok (.astore_n 2, 1) := by decide +kernel
theorem dL_law_16 : decode cL_law 16 = .ok (.iconst 0, 1) := by decide +kernel
theorem dL_law_17 : decode cL_law 17 = .ok (.istore_n 3, 1) := by decide +kernel
theorem dL_law_18 : decode cL_law 18 = .ok (.iload_n 3, 1) := by decide +kernel
theorem dL_law_19 : decode cL_law 19 = .ok (.aload_n 0, 1) := by decide +kernel
theorem dL_law_20 : decode cL_law 20 = .ok (.arraylength, 1) := by decide +kernel
theorem dL_law_21 : decode cL_law 21 = .ok (.bipush 6, 2) := by decide +kernel
theorem dL_law_23 : decode cL_law 23 = .ok (.isub, 1) := by decide +kernel
theorem dL_law_24 : decode cL_law 24 = .ok (.if_icmp .gt 1358, 3) := by decide +kernel
theorem dL_law_27 : decode cL_law 27 = .ok (.aload_n 0, 1) := by decide +kernel
theorem dL_law_28 : decode cL_law 28 = .ok (.iload_n 3, 1) := by decide +kernel
theorem dL_law_29 : decode cL_law 29 = .ok (.iaload, 1) := by decide +kernel
theorem dL_law_30 : decode cL_law 30 = .ok (.bipush 63, 2) := by decide +kernel
theorem dL_law_32 : decode cL_law 32 = .ok (.iand, 1) := by decide +kernel
theorem dL_law_33 : decode cL_law 33 = .ok (.tableswitch 1343 0 40 #[179, 202, 235, 258, 291, 324, 367, 400, 423, 446, 489, 512, 535, 558, 591, 614, 647, 680, 713, 746, 769, 782, 815, 848, 871, 915, 938, 971, 984, 997, 1030, 1063, 1106, 1149, 1212, 1235, 1258, 1271, 1284, 1297, 1320], 179) := by decide +kernel
theorem dL_law_212 : decode cL_law 212 = .ok (.aload_n 1, 1) := by decide +kernel
theorem dL_law_213 : decode cL_law 213 = .ok (.aload_n 0, 1) := by decide +kernel
theorem dL_law_214 : decode cL_law 214 = .ok (.iload_n 3, 1) := by decide +kernel
theorem dL_law_215 : decode cL_law 215 = .ok (.iconst 1, 1) := by decide +kernel
theorem dL_law_216 : decode cL_law 216 = .ok (.iadd, 1) := by decide +kernel
theorem dL_law_217 : decode cL_law 217 = .ok (.iaload, 1) := by decide +kernel
theorem dL_law_218 : decode cL_law 218 = .ok (.invokevirtual 13, 3) := by decide +kernel
theorem dL_law_221 : decode cL_law 221 = .ok (.aload_n 2, 1) := by decide +kernel
theorem dL_law_222 : decode cL_law 222 = .ok (.aload_n 0, 1) := by decide +kernel
theorem dL_law_223 : decode cL_law 223 = .ok (.iload_n 3, 1) := by decide +kernel
theorem dL_law_224 : decode cL_law 224 = .ok (.iconst 1, 1) := by decide +kernel
theorem dL_law_225 : decode cL_law 225 = .ok (.iadd, 1) := by decide +kernel
theorem dL_law_226 : decode cL_law 226 = .ok (.iaload, 1) := by decide +kernel
theorem dL_law_227 : decode cL_law 227 = .ok (.invokevirtual 17, 3) := by decide +kernel
theorem dL_law_230 : decode cL_law 230 = .ok (.if_icmp .eq 1146, 3) := by decide +kernel
theorem dL_law_233 : decode cL_law 233 = .ok (.iconst 0, 1) := by decide +kernel
theorem dL_law_234 : decode cL_law 234 = .ok (.ireturn, 1) := by decide +kernel
theorem dL_law_235 : decode cL_law 235 = .ok (.aload_n 1, 1) := by decide +kernel
theorem dL_law_236 : decode cL_law 236 = .ok (.aload_n 0, 1) := by decide +kernel
theorem dL_law_237 : decode cL_law 237 = .ok (.iload_n 3, 1) := by decide +kernel
theorem dL_law_238 : decode cL_law 238 = .ok (.iconst 1, 1) := by decide +kernel
theorem dL_law_239 : decode cL_law 239 = .ok (.iadd, 1) := by decide +kernel
theorem dL_law_240 : decode cL_law 240 = .ok (.iaload, 1) := by decide +kernel
theorem dL_law_241 : decode cL_law 241 = .ok (.aload_n 0, 1) := by decide +kernel
theorem dL_law_242 : decode cL_law 242 = .ok (.iload_n 3, 1) := by decide +kernel
theorem dL_law_243 : decode cL_law 243 = .ok (.iconst 2, 1) := by decide +kernel
theorem dL_law_244 : decode cL_law 244 = .ok (.iadd, 1) := by decide +kernel
theorem dL_law_245 : decode cL_law 245 = .ok (.iaload, 1) := by decide +kernel
theorem dL_law_246 : decode cL_law 246 = .ok (.invokevirtual 18, 3) := by decide +kernel
theorem dL_law_249 : decode cL_law 249 = .ok (.aload_n 2, 1) := by decide +kernel
theorem dL_law_250 : decode cL_law 250 = .ok (.aload_n 0, 1) := by decide +kernel
theorem dL_law_251 : decode cL_law 251 = .ok (.iload_n 3, 1) := by decide +kernel
theorem dL_law_252 : decode cL_law 252 = .ok (.iconst 1, 1) := by decide +kernel
theorem dL_law_253 : decode cL_law 253 = .ok (.iadd, 1) := by decide +kernel
theorem dL_law_254 : decode cL_law 254 = .ok (.iaload, 1) := by decide +kernel
theorem dL_law_255 : decode cL_law 255 = .ok (.aload_n 0, 1) := by decide +kernel
theorem dL_law_256 : decode cL_law 256 = .ok (.iload_n 3, 1) := by decide +kernel
theorem dL_law_257 : decode cL_law 257 = .ok (.iconst 2, 1) := by decide +kernel
theorem dL_law_258 : decode cL_law 258 = .ok (.iadd, 1) := by decide +kernel
theorem dL_law_259 : decode cL_law 259 = .ok (.iaload, 1) := by decide +kernel
theorem dL_law_260 : decode cL_law 260 = .ok (.invokevirtual 22, 3) := by decide +kernel
theorem dL_law_263 : decode cL_law 263 = .ok (.if_icmp .eq 1113, 3) := by decide +kernel
theorem dL_law_266 : decode cL_law 266 = .ok (.iconst 0, 1) := by decide +kernel
theorem dL_law_267 : decode cL_law 267 = .ok (.ireturn, 1) := by decide +kernel
theorem dL_law_268 : decode cL_law 268 = .ok (.aload_n 1, 1) := by decide +kernel
theorem dL_law_269 : decode cL_law 269 = .ok (.aload_n 0, 1) := by decide +kernel
theorem dL_law_270 : decode cL_law 270 = .ok (.iload_n 3, 1) := by decide +kernel
theorem dL_law_271 : decode cL_law 271 = .ok (.iconst 1, 1) := by decide +kernel
theorem dL_law_272 : decode cL_law 272 = .ok (.iadd, 1) := by decide +kernel
theorem dL_law_273 : decode cL_law 273 = .ok (.iaload, 1) := by decide +kernel
theorem dL_law_274 : decode cL_law 274 = .ok (.invokevirtual 23, 3) := by decide +kernel
theorem dL_law_277 : decode cL_law 277 = .ok (.aload_n 2, 1) := by decide +kernel
theorem dL_law_278 : decode cL_law 278 = .ok (.aload_n 0, 1) := by decide +kernel
theorem dL_law_279 : decode cL_law 279 = .ok (.iload_n 3, 1) := by decide +kernel
theorem dL_law_280 : decode cL_law 280 = .ok (.iconst 1, 1) := by decide +kernel
theorem dL_law_281 : decode cL_law 281 = .ok (.iadd, 1) := by decide +kernel
theorem dL_law_282 : decode cL_law 282 = .ok (.iaload, 1) := by decide +kernel
theorem dL_law_283 : decode cL_law 283 = .ok (.invokevirtual 26, 3) := by decide +kernel
theorem dL_law_286 : decode cL_law 286 = .ok (.if_icmp .eq 1090, 3) := by decide +kernel
theorem dL_law_289 : decode cL_law 289 = .ok (.iconst 0, 1) := by decide +kernel
theorem dL_law_290 : decode cL_law 290 = .ok (.ireturn, 1) := by decide +kernel
theorem dL_law_291 : decode cL_law 291 = .ok (.aload_n 1, 1) := by decide +kernel
theorem dL_law_292 : decode cL_law 292 = .ok (.aload_n 0, 1) := by decide +kernel
theorem dL_law_293 : decode cL_law 293 = .ok (.iload_n 3, 1) := by decide +kernel
theorem dL_law_294 : decode cL_law 294 = .ok (.iconst 1, 1) := by decide +kernel
theorem dL_law_295 : decode cL_law 295 = .ok (.iadd, 1) := by decide +kernel
theorem dL_law_296 : decode cL_law 296 = .ok (.iaload, 1) := by decide +kernel
theorem dL_law_297 : decode cL_law 297 = .ok (.aload_n 0, 1) := by decide +kernel
theorem dL_law_298 : decode cL_law 298 = .ok (.iload_n 3, 1) := by decide +kernel
theorem dL_law_299 : decode cL_law 299 = .ok (.iconst 2, 1) := by decide +kernel
theorem dL_law_300 : decode cL_law 300 = .ok (.iadd, 1) := by decide +kernel
theorem dL_law_301 : decode cL_law 301 = .ok (.iaload, 1) := by decide +kernel
theorem dL_law_302 : decode cL_law 302 = .ok (.invokevirtual 27, 3) := by decide +kernel
theorem dL_law_305 : decode cL_law 305 = .ok (.aload_n 2, 1) := by decide +kernel
theorem dL_law_306 : decode cL_law 306 = .ok (.aload_n 0, 1) := by decide +kernel
theorem dL_law_307 : decode cL_law 307 = .ok (.iload_n 3, 1) := by decide +kernel
theorem dL_law_308 : decode cL_law 308 = .ok (.iconst 1, 1) := by decide +kernel
theorem dL_law_309 : decode cL_law 309 = .ok (.iadd, 1) := by decide +kernel
theorem dL_law_310 : decode cL_law 310 = .ok (.iaload, 1) := by decide +kernel
theorem dL_law_311 : decode cL_law 311 = .ok (.aload_n 0, 1) := by decide +kernel
theorem dL_law_312 : decode cL_law 312 = .ok (.iload_n 3, 1) := by decide +kernel
theorem dL_law_313 : decode cL_law 313 = .ok (.iconst 2, 1) := by decide +kernel
theorem dL_law_314 : decode cL_law 314 = .ok (.iadd, 1) := by decide +kernel
theorem dL_law_315 : decode cL_law 315 = .ok (.iaload, 1) := by decide +kernel
theorem dL_law_316 : decode cL_law 316 = .ok (.invokevirtual 30, 3) := by decide +kernel
theorem dL_law_319 : decode cL_law 319 = .ok (.if_icmp .eq 1057, 3) := by decide +kernel
theorem dL_law_322 : decode cL_law 322 = .ok (.iconst 0, 1) := by decide +kernel
theorem dL_law_323 : decode cL_law 323 = .ok (.ireturn, 1) := by decide +kernel
theorem dL_law_324 : decode cL_law 324 = .ok (.aload_n 1, 1) := by decide +kernel
theorem dL_law_325 : decode cL_law 325 = .ok (.aload_n 0, 1) := by decide +kernel
theorem dL_law_326 : decode cL_law 326 = .ok (.iload_n 3, 1) := by decide +kernel
theorem dL_law_327 : decode cL_law 327 = .ok (.iconst 1, 1) := by decide +kernel
theorem dL_law_328 : decode cL_law 328 = .ok (.iadd, 1) := by decide +kernel
theorem dL_law_329 : decode cL_law 329 = .ok (.iaload, 1) := by decide +kernel
theorem dL_law_330 : decode cL_law 330 = .ok (.aload_n 0, 1) := by decide +kernel
theorem dL_law_331 : decode cL_law 331 = .ok (.iload_n 3, 1) := by decide +kernel
theorem dL_law_332 : decode cL_law 332 = .ok (.iconst 2, 1) := by decide +kernel
theorem dL_law_333 : decode cL_law 333 = .ok (.iadd, 1) := by decide +kernel
theorem dL_law_334 : decode cL_law 334 = .ok (.iaload, 1) := by decide +kernel
theorem dL_law_335 : decode cL_law 335 = .ok (.invokevirtual 31, 3) := by decide +kernel
theorem dL_law_338 : decode cL_law 338 = .ok (.aload_n 2, 1) := by decide +kernel
theorem dL_law_339 : decode cL_law 339 = .ok (.aload_n 0, 1) := by decide +kernel
theorem dL_law_340 : decode cL_law 340 = .ok (.iload_n 3, 1) := by decide +kernel
theorem dL_law_341 : decode cL_law 341 = .ok (.iconst 1, 1) := by decide +kernel
theorem dL_law_342 : decode cL_law 342 = .ok (.iadd, 1) := by decide +kernel
theorem dL_law_343 : decode cL_law 343 = .ok (.iaload, 1) := by decide +kernel
theorem dL_law_344 : decode cL_law 344 = .ok (.aload_n 0, 1) := by decide +kernel
theorem dL_law_345 : decode cL_law 345 = .ok (.iload_n 3, 1) := by decide +kernel
theorem dL_law_346 : decode cL_law 346 = .ok (.iconst 2, 1) := by decide +kernel
theorem dL_law_347 : decode cL_law 347 = .ok (.iadd, 1) := by decide +kernel
theorem dL_law_348 : decode cL_law 348 = .ok (.iaload, 1) := by decide +kernel
theorem dL_law_349 : decode cL_law 349 = .ok (.invokevirtual 34, 3) := by decide +kernel
theorem dL_law_352 : decode cL_law 352 = .ok (.if_icmp .eq 1024, 3) := by decide +kernel
theorem dL_law_355 : decode cL_law 355 = .ok (.iconst 0, 1) := by decide +kernel
theorem dL_law_356 : decode cL_law 356 = .ok (.ireturn, 1) := by decide +kernel
theorem dL_law_357 : decode cL_law 357 = .ok (.aload_n 1, 1) := by decide +kernel
theorem dL_law_358 : decode cL_law 358 = .ok (.aload_n 0, 1) := by decide +kernel
theorem dL_law_359 : decode cL_law 359 = .ok (.iload_n 3, 1) := by decide +kernel
theorem dL_law_360 : decode cL_law 360 = .ok (.iconst 1, 1) := by decide +kernel
theorem dL_law_361 : decode cL_law 361 = .ok (.iadd, 1) := by decide +kernel
theorem dL_law_362 : decode cL_law 362 = .ok (.iaload, 1) := by decide +kernel
theorem dL_law_363 : decode cL_law 363 = .ok (.aload_n 0, 1) := by decide +kernel
theorem dL_law_364 : decode cL_law 364 = .ok (.iload_n 3, 1) := by decide +kernel
theorem dL_law_365 : decode cL_law 365 = .ok (.iconst 2, 1) := by decide +kernel
theorem dL_law_366 : decode cL_law 366 = .ok (.iadd, 1) := by decide +kernel
theorem dL_law_367 : decode cL_law 367 = .ok (.iaload, 1) := by decide +kernel
theorem dL_law_368 : decode cL_law 368 = .ok (.aload_n 0, 1) := by decide +kernel
theorem dL_law_369 : decode cL_law 369 = .ok (.iload_n 3, 1) := by decide +kernel
theorem dL_law_370 : decode cL_law 370 = .ok (.iconst 3, 1) := by decide +kernel
theorem dL_law_371 : decode cL_law 371 = .ok (.iadd, 1) := by decide +kernel
theorem dL_law_372 : decode cL_law 372 = .ok (.iaload, 1) := by decide +kernel
theorem dL_law_373 : decode cL_law 373 = .ok (.invokevirtual 35, 3) := by decide +kernel
theorem dL_law_376 : decode cL_law 376 = .ok (.aload_n 2, 1) := by decide +kernel
theorem dL_law_377 : decode cL_law 377 = .ok (.aload_n 0, 1) := by decide +kernel
theorem dL_law_378 : decode cL_law 378 = .ok (.iload_n 3, 1) := by decide +kernel
theorem dL_law_379 : decode cL_law 379 = .ok (.iconst 1, 1) := by decide +kernel
theorem dL_law_380 : decode cL_law 380 = .ok (.iadd, 1) := by decide +kernel
theorem dL_law_381 : decode cL_law 381 = .ok (.iaload, 1) := by decide +kernel
theorem dL_law_382 : decode cL_law 382 = .ok (.aload_n 0, 1) := by decide +kernel
theorem dL_law_383 : decode cL_law 383 = .ok (.iload_n 3, 1) := by decide +kernel
theorem dL_law_384 : decode cL_law 384 = .ok (.iconst 2, 1) := by decide +kernel
theorem dL_law_385 : decode cL_law 385 = .ok (.iadd, 1) := by decide +kernel
theorem dL_law_386 : decode cL_law 386 = .ok (.iaload, 1) := by decide +kernel
theorem dL_law_387 : decode cL_law 387 = .ok (.aload_n 0, 1) := by decide +kernel
theorem dL_law_388 : decode cL_law 388 = .ok (.iload_n 3, 1) := by decide +kernel
theorem dL_law_389 : decode cL_law 389 = .ok (.iconst 3, 1) := by decide +kernel
theorem dL_law_390 : decode cL_law 390 = .ok (.iadd, 1) := by decide +kernel
theorem dL_law_391 : decode cL_law 391 = .ok (.iaload, 1) := by decide +kernel
theorem dL_law_392 : decode cL_law 392 = .ok (.invokevirtual 39, 3) := by decide +kernel
theorem dL_law_395 : decode cL_law 395 = .ok (.if_icmp .eq 981, 3) := by decide +kernel
theorem dL_law_398 : decode cL_law 398 = .ok (.iconst 0, 1) := by decide +kernel
theorem dL_law_399 : decode cL_law 399 = .ok (.ireturn, 1) := by decide +kernel
theorem dL_law_400 : decode cL_law 400 = .ok (.aload_n 1, 1) := by decide +kernel
theorem dL_law_401 : decode cL_law 401 = .ok (.aload_n 0, 1) := by decide +kernel
theorem dL_law_402 : decode cL_law 402 = .ok (.iload_n 3, 1) := by decide +kernel
theorem dL_law_403 : decode cL_law 403 = .ok (.iconst 1, 1) := by decide +kernel
theorem dL_law_404 : decode cL_law 404 = .ok (.iadd, 1) := by decide +kernel
theorem dL_law_405 : decode cL_law 405 = .ok (.iaload, 1) := by decide +kernel
theorem dL_law_406 : decode cL_law 406 = .ok (.aload_n 0, 1) := by decide +kernel
theorem dL_law_407 : decode cL_law 407 = .ok (.iload_n 3, 1) := by decide +kernel
theorem dL_law_408 : decode cL_law 408 = .ok (.iconst 2, 1) := by decide +kernel
theorem dL_law_409 : decode cL_law 409 = .ok (.iadd, 1) := by decide +kernel
theorem dL_law_410 : decode cL_law 410 = .ok (.iaload, 1) := by decide +kernel
theorem dL_law_411 : decode cL_law 411 = .ok (.invokevirtual 40, 3) := by decide +kernel
theorem dL_law_414 : decode cL_law 414 = .ok (.aload_n 2, 1) := by decide +kernel
theorem dL_law_415 : decode cL_law 415 = .ok (.aload_n 0, 1) := by decide +kernel
theorem dL_law_416 : decode cL_law 416 = .ok (.iload_n 3, 1) := by decide +kernel
theorem dL_law_417 : decode cL_law 417 = .ok (.iconst 1, 1) := by decide +kernel
theorem dL_law_418 : decode cL_law 418 = .ok (.iadd, 1) := by decide +kernel
theorem dL_law_419 : decode cL_law 419 = .ok (.iaload, 1) := by decide +kernel
theorem dL_law_420 : decode cL_law 420 = .ok (.aload_n 0, 1) := by decide +kernel
theorem dL_law_421 : decode cL_law 421 = .ok (.iload_n 3, 1) := by decide +kernel
theorem dL_law_422 : decode cL_law 422 = .ok (.iconst 2, 1) := by decide +kernel
theorem dL_law_423 : decode cL_law 423 = .ok (.iadd, 1) := by decide +kernel
theorem dL_law_424 : decode cL_law 424 = .ok (.iaload, 1) := by decide +kernel
theorem dL_law_425 : decode cL_law 425 = .ok (.invokevirtual 43, 3) := by decide +kernel
theorem dL_law_428 : decode cL_law 428 = .ok (.if_icmp .eq 948, 3) := by decide +kernel
theorem dL_law_431 : decode cL_law 431 = .ok (.iconst 0, 1) := by decide +kernel
theorem dL_law_432 : decode cL_law 432 = .ok (.ireturn, 1) := by decide +kernel
theorem dL_law_433 : decode cL_law 433 = .ok (.aload_n 1, 1) := by decide +kernel
theorem dL_law_434 : decode cL_law 434 = .ok (.aload_n 0, 1) := by decide +kernel
theorem dL_law_435 : decode cL_law 435 = .ok (.iload_n 3, 1) := by decide +kernel
theorem dL_law_436 : decode cL_law 436 = .ok (.iconst 1, 1) := by decide +kernel
theorem dL_law_437 : decode cL_law 437 = .ok (.iadd, 1) := by decide +kernel
theorem dL_law_438 : decode cL_law 438 = .ok (.iaload, 1) := by decide +kernel
theorem dL_law_439 : decode cL_law 439 = .ok (.invokevirtual 44, 3) := by decide +kernel
theorem dL_law_442 : decode cL_law 442 = .ok (.aload_n 2, 1) := by decide +kernel
theorem dL_law_443 : decode cL_law 443 = .ok (.aload_n 0, 1) := by decide +kernel
theorem dL_law_444 : decode cL_law 444 = .ok (.iload_n 3, 1) := by decide +kernel
theorem dL_law_445 : decode cL_law 445 = .ok (.iconst 1, 1) := by decide +kernel
theorem dL_law_446 : decode cL_law 446 = .ok (.iadd, 1) := by decide +kernel
theorem dL_law_447 : decode cL_law 447 = .ok (.iaload, 1) := by decide +kernel
theorem dL_law_448 : decode cL_law 448 = .ok (.invokevirtual 47, 3) := by decide +kernel
theorem dL_law_451 : decode cL_law 451 = .ok (.if_icmp .eq 925, 3) := by decide +kernel
theorem dL_law_454 : decode cL_law 454 = .ok (.iconst 0, 1) := by decide +kernel
theorem dL_law_455 : decode cL_law 455 = .ok (.ireturn, 1) := by decide +kernel
theorem dL_law_456 : decode cL_law 456 = .ok (.aload_n 1, 1) := by decide +kernel
theorem dL_law_457 : decode cL_law 457 = .ok (.aload_n 0, 1) := by decide +kernel
theorem dL_law_458 : decode cL_law 458 = .ok (.iload_n 3, 1) := by decide +kernel
theorem dL_law_459 : decode cL_law 459 = .ok (.iconst 1, 1) := by decide +kernel
theorem dL_law_460 : decode cL_law 460 = .ok (.iadd, 1) := by decide +kernel
theorem dL_law_461 : decode cL_law 461 = .ok (.iaload, 1) := by decide +kernel
theorem dL_law_462 : decode cL_law 462 = .ok (.invokevirtual 48, 3) := by decide +kernel
theorem dL_law_465 : decode cL_law 465 = .ok (.aload_n 2, 1) := by decide +kernel
theorem dL_law_466 : decode cL_law 466 = .ok (.aload_n 0, 1) := by decide +kernel
theorem dL_law_467 : decode cL_law 467 = .ok (.iload_n 3, 1) := by decide +kernel
theorem dL_law_468 : decode cL_law 468 = .ok (.iconst 1, 1) := by decide +kernel
theorem dL_law_469 : decode cL_law 469 = .ok (.iadd, 1) := by decide +kernel
theorem dL_law_470 : decode cL_law 470 = .ok (.iaload, 1) := by decide +kernel
theorem dL_law_471 : decode cL_law 471 = .ok (.invokevirtual 51, 3) := by decide +kernel
theorem dL_law_474 : decode cL_law 474 = .ok (.if_icmp .eq 902, 3) := by decide +kernel
theorem dL_law_477 : decode cL_law 477 = .ok (.iconst 0, 1) := by decide +kernel
theorem dL_law_478 : decode cL_law 478 = .ok (.ireturn, 1) := by decide +kernel
theorem dL_law_479 : decode cL_law 479 = .ok (.aload_n 1, 1) := by decide +kernel
theorem dL_law_480 : decode cL_law 480 = .ok (.aload_n 0, 1) := by decide +kernel
theorem dL_law_481 : decode cL_law 481 = .ok (.iload_n 3, 1) := by decide +kernel
theorem dL_law_482 : decode cL_law 482 = .ok (.iconst 1, 1) := by decide +kernel
theorem dL_law_483 : decode cL_law 483 = .ok (.iadd, 1) := by decide +kernel
theorem dL_law_484 : decode cL_law 484 = .ok (.iaload, 1) := by decide +kernel
theorem dL_law_485 : decode cL_law 485 = .ok (.aload_n 0, 1) := by decide +kernel
theorem dL_law_486 : decode cL_law 486 = .ok (.iload_n 3, 1) := by decide +kernel
theorem dL_law_487 : decode cL_law 487 = .ok (.iconst 2, 1) := by decide +kernel
theorem dL_law_488 : decode cL_law 488 = .ok (.iadd, 1) := by decide +kernel
theorem dL_law_489 : decode cL_law 489 = .ok (.iaload, 1) := by decide +kernel
theorem dL_law_490 : decode cL_law 490 = .ok (.aload_n 0, 1) := by decide +kernel
theorem dL_law_491 : decode cL_law 491 = .ok (.iload_n 3, 1) := by decide +kernel
theorem dL_law_492 : decode cL_law 492 = .ok (.iconst 3, 1) := by decide +kernel
theorem dL_law_493 : decode cL_law 493 = .ok (.iadd, 1) := by decide +kernel
theorem dL_law_494 : decode cL_law 494 = .ok (.iaload, 1) := by decide +kernel
theorem dL_law_495 : decode cL_law 495 = .ok (.invokevirtual 52, 3) := by decide +kernel
theorem dL_law_498 : decode cL_law 498 = .ok (.aload_n 2, 1) := by decide +kernel
theorem dL_law_499 : decode cL_law 499 = .ok (.aload_n 0, 1) := by decide +kernel
theorem dL_law_500 : decode cL_law 500 = .ok (.iload_n 3, 1) := by decide +kernel
theorem dL_law_501 : decode cL_law 501 = .ok (.iconst 1, 1) := by decide +kernel
theorem dL_law_502 : decode cL_law 502 = .ok (.iadd, 1) := by decide +kernel
theorem dL_law_503 : decode cL_law 503 = .ok (.iaload, 1) := by decide +kernel
theorem dL_law_504 : decode cL_law 504 = .ok (.aload_n 0, 1) := by decide +kernel
theorem dL_law_505 : decode cL_law 505 = .ok (.iload_n 3, 1) := by decide +kernel
theorem dL_law_506 : decode cL_law 506 = .ok (.iconst 2, 1) := by decide +kernel
theorem dL_law_507 : decode cL_law 507 = .ok (.iadd, 1) := by decide +kernel
theorem dL_law_508 : decode cL_law 508 = .ok (.iaload, 1) := by decide +kernel
theorem dL_law_509 : decode cL_law 509 = .ok (.aload_n 0, 1) := by decide +kernel
theorem dL_law_510 : decode cL_law 510 = .ok (.iload_n 3, 1) := by decide +kernel
theorem dL_law_511 : decode cL_law 511 = .ok (.iconst 3, 1) := by decide +kernel
theorem dL_law_512 : decode cL_law 512 = .ok (.iadd, 1) := by decide +kernel
theorem dL_law_513 : decode cL_law 513 = .ok (.iaload, 1) := by decide +kernel
theorem dL_law_514 : decode cL_law 514 = .ok (.invokevirtual 55, 3) := by decide +kernel
theorem dL_law_517 : decode cL_law 517 = .ok (.if_icmp .eq 859, 3) := by decide +kernel
theorem dL_law_520 : decode cL_law 520 = .ok (.iconst 0, 1) := by decide +kernel
theorem dL_law_521 : decode cL_law 521 = .ok (.ireturn, 1) := by decide +kernel
theorem dL_law_522 : decode cL_law 522 = .ok (.aload_n 1, 1) := by decide +kernel
theorem dL_law_523 : decode cL_law 523 = .ok (.aload_n 0, 1) := by decide +kernel
theorem dL_law_524 : decode cL_law 524 = .ok (.iload_n 3, 1) := by decide +kernel
theorem dL_law_525 : decode cL_law 525 = .ok (.iconst 1, 1) := by decide +kernel
theorem dL_law_526 : decode cL_law 526 = .ok (.iadd, 1) := by decide +kernel
theorem dL_law_527 : decode cL_law 527 = .ok (.iaload, 1) := by decide +kernel
theorem dL_law_528 : decode cL_law 528 = .ok (.invokevirtual 56, 3) := by decide +kernel
theorem dL_law_531 : decode cL_law 531 = .ok (.aload_n 2, 1) := by decide +kernel
theorem dL_law_532 : decode cL_law 532 = .ok (.aload_n 0, 1) := by decide +kernel
theorem dL_law_533 : decode cL_law 533 = .ok (.iload_n 3, 1) := by decide +kernel
theorem dL_law_534 : decode cL_law 534 = .ok (.iconst 1, 1) := by decide +kernel
theorem dL_law_535 : decode cL_law 535 = .ok (.iadd, 1) := by decide +kernel
theorem dL_law_536 : decode cL_law 536 = .ok (.iaload, 1) := by decide +kernel
theorem dL_law_537 : decode cL_law 537 = .ok (.invokevirtual 59, 3) := by decide +kernel
theorem dL_law_540 : decode cL_law 540 = .ok (.if_icmp .eq 836, 3) := by decide +kernel
theorem dL_law_543 : decode cL_law 543 = .ok (.iconst 0, 1) := by decide +kernel
theorem dL_law_544 : decode cL_law 544 = .ok (.ireturn, 1) := by decide +kernel
theorem dL_law_545 : decode cL_law 545 = .ok (.aload_n 1, 1) := by decide +kernel
theorem dL_law_546 : decode cL_law 546 = .ok (.aload_n 0, 1) := by decide +kernel
theorem dL_law_547 : decode cL_law 547 = .ok (.iload_n 3, 1) := by decide +kernel
theorem dL_law_548 : decode cL_law 548 = .ok (.iconst 1, 1) := by decide +kernel
theorem dL_law_549 : decode cL_law 549 = .ok (.iadd, 1) := by decide +kernel
theorem dL_law_550 : decode cL_law 550 = .ok (.iaload, 1) := by decide +kernel
theorem dL_law_551 : decode cL_law 551 = .ok (.invokevirtual 60, 3) := by decide +kernel
theorem dL_law_554 : decode cL_law 554 = .ok (.aload_n 2, 1) := by decide +kernel
theorem dL_law_555 : decode cL_law 555 = .ok (.aload_n 0, 1) := by decide +kernel
theorem dL_law_556 : decode cL_law 556 = .ok (.iload_n 3, 1) := by decide +kernel
theorem dL_law_557 : decode cL_law 557 = .ok (.iconst 1, 1) := by decide +kernel
theorem dL_law_558 : decode cL_law 558 = .ok (.iadd, 1) := by decide +kernel
theorem dL_law_559 : decode cL_law 559 = .ok (.iaload, 1) := by decide +kernel
theorem dL_law_560 : decode cL_law 560 = .ok (.invokevirtual 63, 3) := by decide +kernel
theorem dL_law_563 : decode cL_law 563 = .ok (.if_icmp .eq 813, 3) := by decide +kernel
theorem dL_law_566 : decode cL_law 566 = .ok (.iconst 0, 1) := by decide +kernel
theorem dL_law_567 : decode cL_law 567 = .ok (.ireturn, 1) := by decide +kernel
theorem dL_law_568 : decode cL_law 568 = .ok (.aload_n 1, 1) := by decide +kernel
theorem dL_law_569 : decode cL_law 569 = .ok (.aload_n 0, 1) := by decide +kernel
theorem dL_law_570 : decode cL_law 570 = .ok (.iload_n 3, 1) := by decide +kernel
theorem dL_law_571 : decode cL_law 571 = .ok (.iconst 1, 1) := by decide +kernel
theorem dL_law_572 : decode cL_law 572 = .ok (.iadd, 1) := by decide +kernel
theorem dL_law_573 : decode cL_law 573 = .ok (.iaload, 1) := by decide +kernel
theorem dL_law_574 : decode cL_law 574 = .ok (.invokevirtual 64, 3) := by decide +kernel
theorem dL_law_577 : decode cL_law 577 = .ok (.aload_n 2, 1) := by decide +kernel
theorem dL_law_578 : decode cL_law 578 = .ok (.aload_n 0, 1) := by decide +kernel
theorem dL_law_579 : decode cL_law 579 = .ok (.iload_n 3, 1) := by decide +kernel
theorem dL_law_580 : decode cL_law 580 = .ok (.iconst 1, 1) := by decide +kernel
theorem dL_law_581 : decode cL_law 581 = .ok (.iadd, 1) := by decide +kernel
theorem dL_law_582 : decode cL_law 582 = .ok (.iaload, 1) := by decide +kernel
theorem dL_law_583 : decode cL_law 583 = .ok (.invokevirtual 67, 3) := by decide +kernel
theorem dL_law_586 : decode cL_law 586 = .ok (.if_icmp .eq 790, 3) := by decide +kernel
theorem dL_law_589 : decode cL_law 589 = .ok (.iconst 0, 1) := by decide +kernel
theorem dL_law_590 : decode cL_law 590 = .ok (.ireturn, 1) := by decide +kernel
theorem dL_law_591 : decode cL_law 591 = .ok (.aload_n 1, 1) := by decide +kernel
theorem dL_law_592 : decode cL_law 592 = .ok (.aload_n 0, 1) := by decide +kernel
theorem dL_law_593 : decode cL_law 593 = .ok (.iload_n 3, 1) := by decide +kernel
theorem dL_law_594 : decode cL_law 594 = .ok (.iconst 1, 1) := by decide +kernel
theorem dL_law_595 : decode cL_law 595 = .ok (.iadd, 1) := by decide +kernel
theorem dL_law_596 : decode cL_law 596 = .ok (.iaload, 1) := by decide +kernel
theorem dL_law_597 : decode cL_law 597 = .ok (.aload_n 0, 1) := by decide +kernel
theorem dL_law_598 : decode cL_law 598 = .ok (.iload_n 3, 1) := by decide +kernel
theorem dL_law_599 : decode cL_law 599 = .ok (.iconst 2, 1) := by decide +kernel
theorem dL_law_600 : decode cL_law 600 = .ok (.iadd, 1) := by decide +kernel
theorem dL_law_601 : decode cL_law 601 = .ok (.iaload, 1) := by decide +kernel
theorem dL_law_602 : decode cL_law 602 = .ok (.invokevirtual 68, 3) := by decide +kernel
theorem dL_law_605 : decode cL_law 605 = .ok (.aload_n 2, 1) := by decide +kernel
theorem dL_law_606 : decode cL_law 606 = .ok (.aload_n 0, 1) := by decide +kernel
theorem dL_law_607 : decode cL_law 607 = .ok (.iload_n 3, 1) := by decide +kernel
theorem dL_law_608 : decode cL_law 608 = .ok (.iconst 1, 1) := by decide +kernel
theorem dL_law_609 : decode cL_law 609 = .ok (.iadd, 1) := by decide +kernel
theorem dL_law_610 : decode cL_law 610 = .ok (.iaload, 1) := by decide +kernel
theorem dL_law_611 : decode cL_law 611 = .ok (.aload_n 0, 1) := by decide +kernel
theorem dL_law_612 : decode cL_law 612 = .ok (.iload_n 3, 1) := by decide +kernel
theorem dL_law_613 : decode cL_law 613 = .ok (.iconst 2, 1) := by decide +kernel
theorem dL_law_614 : decode cL_law 614 = .ok (.iadd, 1) := by decide +kernel
theorem dL_law_615 : decode cL_law 615 = .ok (.iaload, 1) := by decide +kernel
theorem dL_law_616 : decode cL_law 616 = .ok (.invokevirtual 71, 3) := by decide +kernel
theorem dL_law_619 : decode cL_law 619 = .ok (.if_icmp .eq 757, 3) := by decide +kernel
theorem dL_law_622 : decode cL_law 622 = .ok (.iconst 0, 1) := by decide +kernel
theorem dL_law_623 : decode cL_law 623 = .ok (.ireturn, 1) := by decide +kernel
theorem dL_law_624 : decode cL_law 624 = .ok (.aload_n 1, 1) := by decide +kernel
theorem dL_law_625 : decode cL_law 625 = .ok (.aload_n 0, 1) := by decide +kernel
theorem dL_law_626 : decode cL_law 626 = .ok (.iload_n 3, 1) := by decide +kernel
theorem dL_law_627 : decode cL_law 627 = .ok (.iconst 1, 1) := by decide +kernel
theorem dL_law_628 : decode cL_law 628 = .ok (.iadd, 1) := by decide +kernel
theorem dL_law_629 : decode cL_law 629 = .ok (.iaload, 1) := by decide +kernel
theorem dL_law_630 : decode cL_law 630 = .ok (.invokevirtual 72, 3) := by decide +kernel
theorem dL_law_633 : decode cL_law 633 = .ok (.aload_n 2, 1) := by decide +kernel
theorem dL_law_634 : decode cL_law 634 = .ok (.aload_n 0, 1) := by decide +kernel
theorem dL_law_635 : decode cL_law 635 = .ok (.iload_n 3, 1) := by decide +kernel
theorem dL_law_636 : decode cL_law 636 = .ok (.iconst 1, 1) := by decide +kernel
theorem dL_law_637 : decode cL_law 637 = .ok (.iadd, 1) := by decide +kernel
theorem dL_law_638 : decode cL_law 638 = .ok (.iaload, 1) := by decide +kernel
theorem dL_law_639 : decode cL_law 639 = .ok (.invokevirtual 75, 3) := by decide +kernel
theorem dL_law_642 : decode cL_law 642 = .ok (.if_icmp .eq 734, 3) := by decide +kernel
theorem dL_law_645 : decode cL_law 645 = .ok (.iconst 0, 1) := by decide +kernel
theorem dL_law_646 : decode cL_law 646 = .ok (.ireturn, 1) := by decide +kernel
theorem dL_law_647 : decode cL_law 647 = .ok (.aload_n 1, 1) := by decide +kernel
theorem dL_law_648 : decode cL_law 648 = .ok (.aload_n 0, 1) := by decide +kernel
theorem dL_law_649 : decode cL_law 649 = .ok (.iload_n 3, 1) := by decide +kernel
theorem dL_law_650 : decode cL_law 650 = .ok (.iconst 1, 1) := by decide +kernel
theorem dL_law_651 : decode cL_law 651 = .ok (.iadd, 1) := by decide +kernel
theorem dL_law_652 : decode cL_law 652 = .ok (.iaload, 1) := by decide +kernel
theorem dL_law_653 : decode cL_law 653 = .ok (.aload_n 0, 1) := by decide +kernel
theorem dL_law_654 : decode cL_law 654 = .ok (.iload_n 3, 1) := by decide +kernel
theorem dL_law_655 : decode cL_law 655 = .ok (.iconst 2, 1) := by decide +kernel
theorem dL_law_656 : decode cL_law 656 = .ok (.iadd, 1) := by decide +kernel
theorem dL_law_657 : decode cL_law 657 = .ok (.iaload, 1) := by decide +kernel
theorem dL_law_658 : decode cL_law 658 = .ok (.invokevirtual 76, 3) := by decide +kernel
theorem dL_law_661 : decode cL_law 661 = .ok (.aload_n 2, 1) := by decide +kernel
theorem dL_law_662 : decode cL_law 662 = .ok (.aload_n 0, 1) := by decide +kernel
theorem dL_law_663 : decode cL_law 663 = .ok (.iload_n 3, 1) := by decide +kernel
theorem dL_law_664 : decode cL_law 664 = .ok (.iconst 1, 1) := by decide +kernel
theorem dL_law_665 : decode cL_law 665 = .ok (.iadd, 1) := by decide +kernel
theorem dL_law_666 : decode cL_law 666 = .ok (.iaload, 1) := by decide +kernel
theorem dL_law_667 : decode cL_law 667 = .ok (.aload_n 0, 1) := by decide +kernel
theorem dL_law_668 : decode cL_law 668 = .ok (.iload_n 3, 1) := by decide +kernel
theorem dL_law_669 : decode cL_law 669 = .ok (.iconst 2, 1) := by decide +kernel
theorem dL_law_670 : decode cL_law 670 = .ok (.iadd, 1) := by decide +kernel
theorem dL_law_671 : decode cL_law 671 = .ok (.iaload, 1) := by decide +kernel
theorem dL_law_672 : decode cL_law 672 = .ok (.invokevirtual 79, 3) := by decide +kernel
theorem dL_law_675 : decode cL_law 675 = .ok (.if_icmp .eq 701, 3) := by decide +kernel
theorem dL_law_678 : decode cL_law 678 = .ok (.iconst 0, 1) := by decide +kernel
theorem dL_law_679 : decode cL_law 679 = .ok (.ireturn, 1) := by decide +kernel
theorem dL_law_680 : decode cL_law 680 = .ok (.aload_n 1, 1) := by decide +kernel
theorem dL_law_681 : decode cL_law 681 = .ok (.aload_n 0, 1) := by decide +kernel
theorem dL_law_682 : decode cL_law 682 = .ok (.iload_n 3, 1) := by decide +kernel
theorem dL_law_683 : decode cL_law 683 = .ok (.iconst 1, 1) := by decide +kernel
theorem dL_law_684 : decode cL_law 684 = .ok (.iadd, 1) := by decide +kernel
theorem dL_law_685 : decode cL_law 685 = .ok (.iaload, 1) := by decide +kernel
theorem dL_law_686 : decode cL_law 686 = .ok (.aload_n 0, 1) := by decide +kernel
theorem dL_law_687 : decode cL_law 687 = .ok (.iload_n 3, 1) := by decide +kernel
theorem dL_law_688 : decode cL_law 688 = .ok (.iconst 2, 1) := by decide +kernel
theorem dL_law_689 : decode cL_law 689 = .ok (.iadd, 1) := by decide +kernel
theorem dL_law_690 : decode cL_law 690 = .ok (.iaload, 1) := by decide +kernel
theorem dL_law_691 : decode cL_law 691 = .ok (.invokevirtual 80, 3) := by decide +kernel
theorem dL_law_694 : decode cL_law 694 = .ok (.aload_n 2, 1) := by decide +kernel
theorem dL_law_695 : decode cL_law 695 = .ok (.aload_n 0, 1) := by decide +kernel
theorem dL_law_696 : decode cL_law 696 = .ok (.iload_n 3, 1) := by decide +kernel
theorem dL_law_697 : decode cL_law 697 = .ok (.iconst 1, 1) := by decide +kernel
theorem dL_law_698 : decode cL_law 698 = .ok (.iadd, 1) := by decide +kernel
theorem dL_law_699 : decode cL_law 699 = .ok (.iaload, 1) := by decide +kernel
theorem dL_law_700 : decode cL_law 700 = .ok (.aload_n 0, 1) := by decide +kernel
theorem dL_law_701 : decode cL_law 701 = .ok (.iload_n 3, 1) := by decide +kernel
theorem dL_law_702 : decode cL_law 702 = .ok (.iconst 2, 1) := by decide +kernel
theorem dL_law_703 : decode cL_law 703 = .ok (.iadd, 1) := by decide +kernel
theorem dL_law_704 : decode cL_law 704 = .ok (.iaload, 1) := by decide +kernel
theorem dL_law_705 : decode cL_law 705 = .ok (.invokevirtual 83, 3) := by decide +kernel
theorem dL_law_708 : decode cL_law 708 = .ok (.if_icmp .eq 668, 3) := by decide +kernel
theorem dL_law_711 : decode cL_law 711 = .ok (.iconst 0, 1) := by decide +kernel
theorem dL_law_712 : decode cL_law 712 = .ok (.ireturn, 1) := by decide +kernel
theorem dL_law_713 : decode cL_law 713 = .ok (.aload_n 1, 1) := by decide +kernel
theorem dL_law_714 : decode cL_law 714 = .ok (.aload_n 0, 1) := by decide +kernel
theorem dL_law_715 : decode cL_law 715 = .ok (.iload_n 3, 1) := by decide +kernel
theorem dL_law_716 : decode cL_law 716 = .ok (.iconst 1, 1) := by decide +kernel
theorem dL_law_717 : decode cL_law 717 = .ok (.iadd, 1) := by decide +kernel
theorem dL_law_718 : decode cL_law 718 = .ok (.iaload, 1) := by decide +kernel
theorem dL_law_719 : decode cL_law 719 = .ok (.aload_n 0, 1) := by decide +kernel
theorem dL_law_720 : decode cL_law 720 = .ok (.iload_n 3, 1) := by decide +kernel
theorem dL_law_721 : decode cL_law 721 = .ok (.iconst 2, 1) := by decide +kernel
theorem dL_law_722 : decode cL_law 722 = .ok (.iadd, 1) := by decide +kernel
theorem dL_law_723 : decode cL_law 723 = .ok (.iaload, 1) := by decide +kernel
theorem dL_law_724 : decode cL_law 724 = .ok (.invokevirtual 84, 3) := by decide +kernel
theorem dL_law_727 : decode cL_law 727 = .ok (.aload_n 2, 1) := by decide +kernel
theorem dL_law_728 : decode cL_law 728 = .ok (.aload_n 0, 1) := by decide +kernel
theorem dL_law_729 : decode cL_law 729 = .ok (.iload_n 3, 1) := by decide +kernel
theorem dL_law_730 : decode cL_law 730 = .ok (.iconst 1, 1) := by decide +kernel
theorem dL_law_731 : decode cL_law 731 = .ok (.iadd, 1) := by decide +kernel
theorem dL_law_732 : decode cL_law 732 = .ok (.iaload, 1) := by decide +kernel
theorem dL_law_733 : decode cL_law 733 = .ok (.aload_n 0, 1) := by decide +kernel
theorem dL_law_734 : decode cL_law 734 = .ok (.iload_n 3, 1) := by decide +kernel
theorem dL_law_735 : decode cL_law 735 = .ok (.iconst 2, 1) := by decide +kernel
theorem dL_law_736 : decode cL_law 736 = .ok (.iadd, 1) := by decide +kernel
theorem dL_law_737 : decode cL_law 737 = .ok (.iaload, 1) := by decide +kernel
theorem dL_law_738 : decode cL_law 738 = .ok (.invokevirtual 87, 3) := by decide +kernel
theorem dL_law_741 : decode cL_law 741 = .ok (.if_icmp .eq 635, 3) := by decide +kernel
theorem dL_law_744 : decode cL_law 744 = .ok (.iconst 0, 1) := by decide +kernel
theorem dL_law_745 : decode cL_law 745 = .ok (.ireturn, 1) := by decide +kernel
theorem dL_law_746 : decode cL_law 746 = .ok (.aload_n 1, 1) := by decide +kernel
theorem dL_law_747 : decode cL_law 747 = .ok (.aload_n 0, 1) := by decide +kernel
theorem dL_law_748 : decode cL_law 748 = .ok (.iload_n 3, 1) := by decide +kernel
theorem dL_law_749 : decode cL_law 749 = .ok (.iconst 1, 1) := by decide +kernel
theorem dL_law_750 : decode cL_law 750 = .ok (.iadd, 1) := by decide +kernel
theorem dL_law_751 : decode cL_law 751 = .ok (.iaload, 1) := by decide +kernel
theorem dL_law_752 : decode cL_law 752 = .ok (.aload_n 0, 1) := by decide +kernel
theorem dL_law_753 : decode cL_law 753 = .ok (.iload_n 3, 1) := by decide +kernel
theorem dL_law_754 : decode cL_law 754 = .ok (.iconst 2, 1) := by decide +kernel
theorem dL_law_755 : decode cL_law 755 = .ok (.iadd, 1) := by decide +kernel
theorem dL_law_756 : decode cL_law 756 = .ok (.iaload, 1) := by decide +kernel
theorem dL_law_757 : decode cL_law 757 = .ok (.invokevirtual 88, 3) := by decide +kernel
theorem dL_law_760 : decode cL_law 760 = .ok (.aload_n 2, 1) := by decide +kernel
theorem dL_law_761 : decode cL_law 761 = .ok (.aload_n 0, 1) := by decide +kernel
theorem dL_law_762 : decode cL_law 762 = .ok (.iload_n 3, 1) := by decide +kernel
theorem dL_law_763 : decode cL_law 763 = .ok (.iconst 1, 1) := by decide +kernel
theorem dL_law_764 : decode cL_law 764 = .ok (.iadd, 1) := by decide +kernel
theorem dL_law_765 : decode cL_law 765 = .ok (.iaload, 1) := by decide +kernel
theorem dL_law_766 : decode cL_law 766 = .ok (.aload_n 0, 1) := by decide +kernel
theorem dL_law_767 : decode cL_law 767 = .ok (.iload_n 3, 1) := by decide +kernel
theorem dL_law_768 : decode cL_law 768 = .ok (.iconst 2, 1) := by decide +kernel
theorem dL_law_769 : decode cL_law 769 = .ok (.iadd, 1) := by decide +kernel
theorem dL_law_770 : decode cL_law 770 = .ok (.iaload, 1) := by decide +kernel
theorem dL_law_771 : decode cL_law 771 = .ok (.invokevirtual 91, 3) := by decide +kernel
theorem dL_law_774 : decode cL_law 774 = .ok (.if_icmp .eq 602, 3) := by decide +kernel
theorem dL_law_777 : decode cL_law 777 = .ok (.iconst 0, 1) := by decide +kernel
theorem dL_law_778 : decode cL_law 778 = .ok (.ireturn, 1) := by decide +kernel
theorem dL_law_779 : decode cL_law 779 = .ok (.aload_n 1, 1) := by decide +kernel
theorem dL_law_780 : decode cL_law 780 = .ok (.aload_n 0, 1) := by decide +kernel
theorem dL_law_781 : decode cL_law 781 = .ok (.iload_n 3, 1) := by decide +kernel
theorem dL_law_782 : decode cL_law 782 = .ok (.iconst 1, 1) := by decide +kernel
theorem dL_law_783 : decode cL_law 783 = .ok (.iadd, 1) := by decide +kernel
theorem dL_law_784 : decode cL_law 784 = .ok (.iaload, 1) := by decide +kernel
theorem dL_law_785 : decode cL_law 785 = .ok (.invokevirtual 92, 3) := by decide +kernel
theorem dL_law_788 : decode cL_law 788 = .ok (.aload_n 2, 1) := by decide +kernel
theorem dL_law_789 : decode cL_law 789 = .ok (.aload_n 0, 1) := by decide +kernel
theorem dL_law_790 : decode cL_law 790 = .ok (.iload_n 3, 1) := by decide +kernel
theorem dL_law_791 : decode cL_law 791 = .ok (.iconst 1, 1) := by decide +kernel
theorem dL_law_792 : decode cL_law 792 = .ok (.iadd, 1) := by decide +kernel
theorem dL_law_793 : decode cL_law 793 = .ok (.iaload, 1) := by decide +kernel
theorem dL_law_794 : decode cL_law 794 = .ok (.invokevirtual 95, 3) := by decide +kernel
theorem dL_law_797 : decode cL_law 797 = .ok (.if_icmp .eq 579, 3) := by decide +kernel
theorem dL_law_800 : decode cL_law 800 = .ok (.iconst 0, 1) := by decide +kernel
theorem dL_law_801 : decode cL_law 801 = .ok (.ireturn, 1) := by decide +kernel
theorem dL_law_802 : decode cL_law 802 = .ok (.aload_n 1, 1) := by decide +kernel
theorem dL_law_803 : decode cL_law 803 = .ok (.invokevirtual 96, 3) := by decide +kernel
theorem dL_law_806 : decode cL_law 806 = .ok (.aload_n 2, 1) := by decide +kernel
theorem dL_law_807 : decode cL_law 807 = .ok (.invokevirtual 100, 3) := by decide +kernel
theorem dL_law_810 : decode cL_law 810 = .ok (.if_icmp .eq 566, 3) := by decide +kernel
theorem dL_law_813 : decode cL_law 813 = .ok (.iconst 0, 1) := by decide +kernel
theorem dL_law_814 : decode cL_law 814 = .ok (.ireturn, 1) := by decide +kernel
theorem dL_law_815 : decode cL_law 815 = .ok (.aload_n 1, 1) := by decide +kernel
theorem dL_law_816 : decode cL_law 816 = .ok (.aload_n 0, 1) := by decide +kernel
theorem dL_law_817 : decode cL_law 817 = .ok (.iload_n 3, 1) := by decide +kernel
theorem dL_law_818 : decode cL_law 818 = .ok (.iconst 1, 1) := by decide +kernel
theorem dL_law_819 : decode cL_law 819 = .ok (.iadd, 1) := by decide +kernel
theorem dL_law_820 : decode cL_law 820 = .ok (.iaload, 1) := by decide +kernel
theorem dL_law_821 : decode cL_law 821 = .ok (.aload_n 0, 1) := by decide +kernel
theorem dL_law_822 : decode cL_law 822 = .ok (.iload_n 3, 1) := by decide +kernel
theorem dL_law_823 : decode cL_law 823 = .ok (.iconst 2, 1) := by decide +kernel
theorem dL_law_824 : decode cL_law 824 = .ok (.iadd, 1) := by decide +kernel
theorem dL_law_825 : decode cL_law 825 = .ok (.iaload, 1) := by decide +kernel
theorem dL_law_826 : decode cL_law 826 = .ok (.invokevirtual 101, 3) := by decide +kernel
theorem dL_law_829 : decode cL_law 829 = .ok (.aload_n 2, 1) := by decide +kernel
theorem dL_law_830 : decode cL_law 830 = .ok (.aload_n 0, 1) := by decide +kernel
theorem dL_law_831 : decode cL_law 831 = .ok (.iload_n 3, 1) := by decide +kernel
theorem dL_law_832 : decode cL_law 832 = .ok (.iconst 1, 1) := by decide +kernel
theorem dL_law_833 : decode cL_law 833 = .ok (.iadd, 1) := by decide +kernel
theorem dL_law_834 : decode cL_law 834 = .ok (.iaload, 1) := by decide +kernel
theorem dL_law_835 : decode cL_law 835 = .ok (.aload_n 0, 1) := by decide +kernel
theorem dL_law_836 : decode cL_law 836 = .ok (.iload_n 3, 1) := by decide +kernel
theorem dL_law_837 : decode cL_law 837 = .ok (.iconst 2, 1) := by decide +kernel
theorem dL_law_838 : decode cL_law 838 = .ok (.iadd, 1) := by decide +kernel
theorem dL_law_839 : decode cL_law 839 = .ok (.iaload, 1) := by decide +kernel
theorem dL_law_840 : decode cL_law 840 = .ok (.invokevirtual 104, 3) := by decide +kernel
theorem dL_law_843 : decode cL_law 843 = .ok (.if_icmp .eq 533, 3) := by decide +kernel
theorem dL_law_846 : decode cL_law 846 = .ok (.iconst 0, 1) := by decide +kernel
theorem dL_law_847 : decode cL_law 847 = .ok (.ireturn, 1) := by decide +kernel
theorem dL_law_848 : decode cL_law 848 = .ok (.aload_n 1, 1) := by decide +kernel
theorem dL_law_849 : decode cL_law 849 = .ok (.aload_n 0, 1) := by decide +kernel
theorem dL_law_850 : decode cL_law 850 = .ok (.iload_n 3, 1) := by decide +kernel
theorem dL_law_851 : decode cL_law 851 = .ok (.iconst 1, 1) := by decide +kernel
theorem dL_law_852 : decode cL_law 852 = .ok (.iadd, 1) := by decide +kernel
theorem dL_law_853 : decode cL_law 853 = .ok (.iaload, 1) := by decide +kernel
theorem dL_law_854 : decode cL_law 854 = .ok (.aload_n 0, 1) := by decide +kernel
theorem dL_law_855 : decode cL_law 855 = .ok (.iload_n 3, 1) := by decide +kernel
theorem dL_law_856 : decode cL_law 856 = .ok (.iconst 2, 1) := by decide +kernel
theorem dL_law_857 : decode cL_law 857 = .ok (.iadd, 1) := by decide +kernel
theorem dL_law_858 : decode cL_law 858 = .ok (.iaload, 1) := by decide +kernel
theorem dL_law_859 : decode cL_law 859 = .ok (.invokevirtual 105, 3) := by decide +kernel
theorem dL_law_862 : decode cL_law 862 = .ok (.aload_n 2, 1) := by decide +kernel
theorem dL_law_863 : decode cL_law 863 = .ok (.aload_n 0, 1) := by decide +kernel
theorem dL_law_864 : decode cL_law 864 = .ok (.iload_n 3, 1) := by decide +kernel
theorem dL_law_865 : decode cL_law 865 = .ok (.iconst 1, 1) := by decide +kernel
theorem dL_law_866 : decode cL_law 866 = .ok (.iadd, 1) := by decide +kernel
theorem dL_law_867 : decode cL_law 867 = .ok (.iaload, 1) := by decide +kernel
theorem dL_law_868 : decode cL_law 868 = .ok (.aload_n 0, 1) := by decide +kernel
theorem dL_law_869 : decode cL_law 869 = .ok (.iload_n 3, 1) := by decide +kernel
theorem dL_law_870 : decode cL_law 870 = .ok (.iconst 2, 1) := by decide +kernel
theorem dL_law_871 : decode cL_law 871 = .ok (.iadd, 1) := by decide +kernel
theorem dL_law_872 : decode cL_law 872 = .ok (.iaload, 1) := by decide +kernel
theorem dL_law_873 : decode cL_law 873 = .ok (.invokevirtual 108, 3) := by decide +kernel
theorem dL_law_876 : decode cL_law 876 = .ok (.if_icmp .eq 500, 3) := by decide +kernel
theorem dL_law_879 : decode cL_law 879 = .ok (.iconst 0, 1) := by decide +kernel
theorem dL_law_880 : decode cL_law 880 = .ok (.ireturn, 1) := by decide +kernel
theorem dL_law_881 : decode cL_law 881 = .ok (.aload_n 1, 1) := by decide +kernel
theorem dL_law_882 : decode cL_law 882 = .ok (.aload_n 0, 1) := by decide +kernel
theorem dL_law_883 : decode cL_law 883 = .ok (.iload_n 3, 1) := by decide +kernel
theorem dL_law_884 : decode cL_law 884 = .ok (.iconst 1, 1) := by decide +kernel
theorem dL_law_885 : decode cL_law 885 = .ok (.iadd, 1) := by decide +kernel
theorem dL_law_886 : decode cL_law 886 = .ok (.iaload, 1) := by decide +kernel
theorem dL_law_887 : decode cL_law 887 = .ok (.invokevirtual 109, 3) := by decide +kernel
theorem dL_law_890 : decode cL_law 890 = .ok (.aload_n 2, 1) := by decide +kernel
theorem dL_law_891 : decode cL_law 891 = .ok (.aload_n 0, 1) := by decide +kernel
theorem dL_law_892 : decode cL_law 892 = .ok (.iload_n 3, 1) := by decide +kernel
theorem dL_law_893 : decode cL_law 893 = .ok (.iconst 1, 1) := by decide +kernel
theorem dL_law_894 : decode cL_law 894 = .ok (.iadd, 1) := by decide +kernel
theorem dL_law_895 : decode cL_law 895 = .ok (.iaload, 1) := by decide +kernel
theorem dL_law_896 : decode cL_law 896 = .ok (.invokevirtual 112, 3) := by decide +kernel
theorem dL_law_899 : decode cL_law 899 = .ok (.if_icmp .eq 477, 3) := by decide +kernel
theorem dL_law_902 : decode cL_law 902 = .ok (.iconst 0, 1) := by decide +kernel
theorem dL_law_903 : decode cL_law 903 = .ok (.ireturn, 1) := by decide +kernel
theorem dL_law_904 : decode cL_law 904 = .ok (.aload_n 1, 1) := by decide +kernel
theorem dL_law_905 : decode cL_law 905 = .ok (.aload_n 0, 1) := by decide +kernel
theorem dL_law_906 : decode cL_law 906 = .ok (.iload_n 3, 1) := by decide +kernel
theorem dL_law_907 : decode cL_law 907 = .ok (.iconst 1, 1) := by decide +kernel
theorem dL_law_908 : decode cL_law 908 = .ok (.iadd, 1) := by decide +kernel
theorem dL_law_909 : decode cL_law 909 = .ok (.iaload, 1) := by decide +kernel
theorem dL_law_910 : decode cL_law 910 = .ok (.aload_n 0, 1) := by decide +kernel
theorem dL_law_911 : decode cL_law 911 = .ok (.iload_n 3, 1) := by decide +kernel
theorem dL_law_912 : decode cL_law 912 = .ok (.iconst 2, 1) := by decide +kernel
theorem dL_law_913 : decode cL_law 913 = .ok (.iadd, 1) := by decide +kernel
theorem dL_law_914 : decode cL_law 914 = .ok (.iaload, 1) := by decide +kernel
theorem dL_law_915 : decode cL_law 915 = .ok (.aload_n 0, 1) := by decide +kernel
theorem dL_law_916 : decode cL_law 916 = .ok (.iload_n 3, 1) := by decide +kernel
theorem dL_law_917 : decode cL_law 917 = .ok (.iconst 3, 1) := by decide +kernel
theorem dL_law_918 : decode cL_law 918 = .ok (.iadd, 1) := by decide +kernel
theorem dL_law_919 : decode cL_law 919 = .ok (.iaload, 1) := by decide +kernel
theorem dL_law_920 : decode cL_law 920 = .ok (.invokevirtual 113, 3) := by decide +kernel
theorem dL_law_923 : decode cL_law 923 = .ok (.aload_n 2, 1) := by decide +kernel
theorem dL_law_924 : decode cL_law 924 = .ok (.aload_n 0, 1) := by decide +kernel
theorem dL_law_925 : decode cL_law 925 = .ok (.iload_n 3, 1) := by decide +kernel
theorem dL_law_926 : decode cL_law 926 = .ok (.iconst 1, 1) := by decide +kernel
theorem dL_law_927 : decode cL_law 927 = .ok (.iadd, 1) := by decide +kernel
theorem dL_law_928 : decode cL_law 928 = .ok (.iaload, 1) := by decide +kernel
theorem dL_law_929 : decode cL_law 929 = .ok (.aload_n 0, 1) := by decide +kernel
theorem dL_law_930 : decode cL_law 930 = .ok (.iload_n 3, 1) := by decide +kernel
theorem dL_law_931 : decode cL_law 931 = .ok (.iconst 2, 1) := by decide +kernel
theorem dL_law_932 : decode cL_law 932 = .ok (.iadd, 1) := by decide +kernel
theorem dL_law_933 : decode cL_law 933 = .ok (.iaload, 1) := by decide +kernel
theorem dL_law_934 : decode cL_law 934 = .ok (.aload_n 0, 1) := by decide +kernel
theorem dL_law_935 : decode cL_law 935 = .ok (.iload_n 3, 1) := by decide +kernel
theorem dL_law_936 : decode cL_law 936 = .ok (.iconst 3, 1) := by decide +kernel
theorem dL_law_937 : decode cL_law 937 = .ok (.iadd, 1) := by decide +kernel
theorem dL_law_938 : decode cL_law 938 = .ok (.iaload, 1) := by decide +kernel
theorem dL_law_939 : decode cL_law 939 = .ok (.invokevirtual 117, 3) := by decide +kernel
theorem dL_law_942 : decode cL_law 942 = .ok (.lcmp, 1) := by decide +kernel
theorem dL_law_943 : decode cL_law 943 = .ok (.ifCond .eq 433, 3) := by decide +kernel
theorem dL_law_946 : decode cL_law 946 = .ok (.iconst 0, 1) := by decide +kernel
theorem dL_law_947 : decode cL_law 947 = .ok (.ireturn, 1) := by decide +kernel
theorem dL_law_948 : decode cL_law 948 = .ok (.aload_n 1, 1) := by decide +kernel
theorem dL_law_949 : decode cL_law 949 = .ok (.aload_n 0, 1) := by decide +kernel
theorem dL_law_950 : decode cL_law 950 = .ok (.iload_n 3, 1) := by decide +kernel
theorem dL_law_951 : decode cL_law 951 = .ok (.iconst 1, 1) := by decide +kernel
theorem dL_law_952 : decode cL_law 952 = .ok (.iadd, 1) := by decide +kernel
theorem dL_law_953 : decode cL_law 953 = .ok (.iaload, 1) := by decide +kernel
theorem dL_law_954 : decode cL_law 954 = .ok (.invokevirtual 118, 3) := by decide +kernel
theorem dL_law_957 : decode cL_law 957 = .ok (.aload_n 2, 1) := by decide +kernel
theorem dL_law_958 : decode cL_law 958 = .ok (.aload_n 0, 1) := by decide +kernel
theorem dL_law_959 : decode cL_law 959 = .ok (.iload_n 3, 1) := by decide +kernel
theorem dL_law_960 : decode cL_law 960 = .ok (.iconst 1, 1) := by decide +kernel
theorem dL_law_961 : decode cL_law 961 = .ok (.iadd, 1) := by decide +kernel
theorem dL_law_962 : decode cL_law 962 = .ok (.iaload, 1) := by decide +kernel
theorem dL_law_963 : decode cL_law 963 = .ok (.invokevirtual 121, 3) := by decide +kernel
theorem dL_law_966 : decode cL_law 966 = .ok (.if_icmp .eq 410, 3) := by decide +kernel
theorem dL_law_969 : decode cL_law 969 = .ok (.iconst 0, 1) := by decide +kernel
theorem dL_law_970 : decode cL_law 970 = .ok (.ireturn, 1) := by decide +kernel
theorem dL_law_971 : decode cL_law 971 = .ok (.aload_n 1, 1) := by decide +kernel
theorem dL_law_972 : decode cL_law 972 = .ok (.aload_n 0, 1) := by decide +kernel
theorem dL_law_973 : decode cL_law 973 = .ok (.iload_n 3, 1) := by decide +kernel
theorem dL_law_974 : decode cL_law 974 = .ok (.iconst 1, 1) := by decide +kernel
theorem dL_law_975 : decode cL_law 975 = .ok (.iadd, 1) := by decide +kernel
theorem dL_law_976 : decode cL_law 976 = .ok (.iaload, 1) := by decide +kernel
theorem dL_law_977 : decode cL_law 977 = .ok (.aload_n 0, 1) := by decide +kernel
theorem dL_law_978 : decode cL_law 978 = .ok (.iload_n 3, 1) := by decide +kernel
theorem dL_law_979 : decode cL_law 979 = .ok (.iconst 2, 1) := by decide +kernel
theorem dL_law_980 : decode cL_law 980 = .ok (.iadd, 1) := by decide +kernel
theorem dL_law_981 : decode cL_law 981 = .ok (.iaload, 1) := by decide +kernel
theorem dL_law_982 : decode cL_law 982 = .ok (.invokevirtual 122, 3) := by decide +kernel
theorem dL_law_985 : decode cL_law 985 = .ok (.aload_n 2, 1) := by decide +kernel
theorem dL_law_986 : decode cL_law 986 = .ok (.aload_n 0, 1) := by decide +kernel
theorem dL_law_987 : decode cL_law 987 = .ok (.iload_n 3, 1) := by decide +kernel
theorem dL_law_988 : decode cL_law 988 = .ok (.iconst 1, 1) := by decide +kernel
theorem dL_law_989 : decode cL_law 989 = .ok (.iadd, 1) := by decide +kernel
theorem dL_law_990 : decode cL_law 990 = .ok (.iaload, 1) := by decide +kernel
theorem dL_law_991 : decode cL_law 991 = .ok (.aload_n 0, 1) := by decide +kernel
theorem dL_law_992 : decode cL_law 992 = .ok (.iload_n 3, 1) := by decide +kernel
theorem dL_law_993 : decode cL_law 993 = .ok (.iconst 2, 1) := by decide +kernel
theorem dL_law_994 : decode cL_law 994 = .ok (.iadd, 1) := by decide +kernel
theorem dL_law_995 : decode cL_law 995 = .ok (.iaload, 1) := by decide +kernel
theorem dL_law_996 : decode cL_law 996 = .ok (.invokevirtual 125, 3) := by decide +kernel
theorem dL_law_999 : decode cL_law 999 = .ok (.if_icmp .eq 377, 3) := by decide +kernel
theorem dL_law_1002 : decode cL_law 1002 = .ok (.iconst 0, 1) := by decide +kernel
theorem dL_law_1003 : decode cL_law 1003 = .ok (.ireturn, 1) := by decide +kernel
theorem dL_law_1004 : decode cL_law 1004 = .ok (.aload_n 1, 1) := by decide +kernel
theorem dL_law_1005 : decode cL_law 1005 = .ok (.invokevirtual 126, 3) := by decide +kernel
theorem dL_law_1008 : decode cL_law 1008 = .ok (.aload_n 2, 1) := by decide +kernel
theorem dL_law_1009 : decode cL_law 1009 = .ok (.invokevirtual 129, 3) := by decide +kernel
theorem dL_law_1012 : decode cL_law 1012 = .ok (.if_icmp .eq 364, 3) := by decide +kernel
theorem dL_law_1015 : decode cL_law 1015 = .ok (.iconst 0, 1) := by decide +kernel
theorem dL_law_1016 : decode cL_law 1016 = .ok (.ireturn, 1) := by decide +kernel
theorem dL_law_1017 : decode cL_law 1017 = .ok (.aload_n 1, 1) := by decide +kernel
theorem dL_law_1018 : decode cL_law 1018 = .ok (.invokevirtual 130, 3) := by decide +kernel
theorem dL_law_1021 : decode cL_law 1021 = .ok (.aload_n 2, 1) := by decide +kernel
theorem dL_law_1022 : decode cL_law 1022 = .ok (.invokevirtual 133, 3) := by decide +kernel
theorem dL_law_1025 : decode cL_law 1025 = .ok (.if_icmp .eq 351, 3) := by decide +kernel
theorem dL_law_1028 : decode cL_law 1028 = .ok (.iconst 0, 1) := by decide +kernel
theorem dL_law_1029 : decode cL_law 1029 = .ok (.ireturn, 1) := by decide +kernel
theorem dL_law_1030 : decode cL_law 1030 = .ok (.aload_n 1, 1) := by decide +kernel
theorem dL_law_1031 : decode cL_law 1031 = .ok (.aload_n 0, 1) := by decide +kernel
theorem dL_law_1032 : decode cL_law 1032 = .ok (.iload_n 3, 1) := by decide +kernel
theorem dL_law_1033 : decode cL_law 1033 = .ok (.iconst 1, 1) := by decide +kernel
theorem dL_law_1034 : decode cL_law 1034 = .ok (.iadd, 1) := by decide +kernel
theorem dL_law_1035 : decode cL_law 1035 = .ok (.iaload, 1) := by decide +kernel
theorem dL_law_1036 : decode cL_law 1036 = .ok (.aload_n 0, 1) := by decide +kernel
theorem dL_law_1037 : decode cL_law 1037 = .ok (.iload_n 3, 1) := by decide +kernel
theorem dL_law_1038 : decode cL_law 1038 = .ok (.iconst 2, 1) := by decide +kernel
theorem dL_law_1039 : decode cL_law 1039 = .ok (.iadd, 1) := by decide +kernel
theorem dL_law_1040 : decode cL_law 1040 = .ok (.iaload, 1) := by decide +kernel
theorem dL_law_1041 : decode cL_law 1041 = .ok (.invokevirtual 134, 3) := by decide +kernel
theorem dL_law_1044 : decode cL_law 1044 = .ok (.aload_n 2, 1) := by decide +kernel
theorem dL_law_1045 : decode cL_law 1045 = .ok (.aload_n 0, 1) := by decide +kernel
theorem dL_law_1046 : decode cL_law 1046 = .ok (.iload_n 3, 1) := by decide +kernel
theorem dL_law_1047 : decode cL_law 1047 = .ok (.iconst 1, 1) := by decide +kernel
theorem dL_law_1048 : decode cL_law 1048 = .ok (.iadd, 1) := by decide +kernel
theorem dL_law_1049 : decode cL_law 1049 = .ok (.iaload, 1) := by decide +kernel
theorem dL_law_1050 : decode cL_law 1050 = .ok (.aload_n 0, 1) := by decide +kernel
theorem dL_law_1051 : decode cL_law 1051 = .ok (.iload_n 3, 1) := by decide +kernel
theorem dL_law_1052 : decode cL_law 1052 = .ok (.iconst 2, 1) := by decide +kernel
theorem dL_law_1053 : decode cL_law 1053 = .ok (.iadd, 1) := by decide +kernel
theorem dL_law_1054 : decode cL_law 1054 = .ok (.iaload, 1) := by decide +kernel
theorem dL_law_1055 : decode cL_law 1055 = .ok (.invokevirtual 137, 3) := by decide +kernel
theorem dL_law_1058 : decode cL_law 1058 = .ok (.if_icmp .eq 318, 3) := by decide +kernel
theorem dL_law_1061 : decode cL_law 1061 = .ok (.iconst 0, 1) := by decide +kernel
theorem dL_law_1062 : decode cL_law 1062 = .ok (.ireturn, 1) := by decide +kernel
theorem dL_law_1063 : decode cL_law 1063 = .ok (.aload_n 1, 1) := by decide +kernel
theorem dL_law_1064 : decode cL_law 1064 = .ok (.aload_n 0, 1) := by decide +kernel
theorem dL_law_1065 : decode cL_law 1065 = .ok (.iload_n 3, 1) := by decide +kernel
theorem dL_law_1066 : decode cL_law 1066 = .ok (.iconst 1, 1) := by decide +kernel
theorem dL_law_1067 : decode cL_law 1067 = .ok (.iadd, 1) := by decide +kernel
theorem dL_law_1068 : decode cL_law 1068 = .ok (.iaload, 1) := by decide +kernel
theorem dL_law_1069 : decode cL_law 1069 = .ok (.aload_n 0, 1) := by decide +kernel
theorem dL_law_1070 : decode cL_law 1070 = .ok (.iload_n 3, 1) := by decide +kernel
theorem dL_law_1071 : decode cL_law 1071 = .ok (.iconst 2, 1) := by decide +kernel
theorem dL_law_1072 : decode cL_law 1072 = .ok (.iadd, 1) := by decide +kernel
theorem dL_law_1073 : decode cL_law 1073 = .ok (.iaload, 1) := by decide +kernel
theorem dL_law_1074 : decode cL_law 1074 = .ok (.invokevirtual 138, 3) := by decide +kernel
theorem dL_law_1077 : decode cL_law 1077 = .ok (.aload_n 2, 1) := by decide +kernel
theorem dL_law_1078 : decode cL_law 1078 = .ok (.aload_n 0, 1) := by decide +kernel
theorem dL_law_1079 : decode cL_law 1079 = .ok (.iload_n 3, 1) := by decide +kernel
theorem dL_law_1080 : decode cL_law 1080 = .ok (.iconst 1, 1) := by decide +kernel
theorem dL_law_1081 : decode cL_law 1081 = .ok (.iadd, 1) := by decide +kernel
theorem dL_law_1082 : decode cL_law 1082 = .ok (.iaload, 1) := by decide +kernel
theorem dL_law_1083 : decode cL_law 1083 = .ok (.aload_n 0, 1) := by decide +kernel
theorem dL_law_1084 : decode cL_law 1084 = .ok (.iload_n 3, 1) := by decide +kernel
theorem dL_law_1085 : decode cL_law 1085 = .ok (.iconst 2, 1) := by decide +kernel
theorem dL_law_1086 : decode cL_law 1086 = .ok (.iadd, 1) := by decide +kernel
theorem dL_law_1087 : decode cL_law 1087 = .ok (.iaload, 1) := by decide +kernel
theorem dL_law_1088 : decode cL_law 1088 = .ok (.invokevirtual 141, 3) := by decide +kernel
theorem dL_law_1091 : decode cL_law 1091 = .ok (.if_icmp .eq 285, 3) := by decide +kernel
theorem dL_law_1094 : decode cL_law 1094 = .ok (.iconst 0, 1) := by decide +kernel
theorem dL_law_1095 : decode cL_law 1095 = .ok (.ireturn, 1) := by decide +kernel
theorem dL_law_1096 : decode cL_law 1096 = .ok (.aload_n 1, 1) := by decide +kernel
theorem dL_law_1097 : decode cL_law 1097 = .ok (.aload_n 0, 1) := by decide +kernel
theorem dL_law_1098 : decode cL_law 1098 = .ok (.iload_n 3, 1) := by decide +kernel
theorem dL_law_1099 : decode cL_law 1099 = .ok (.iconst 1, 1) := by decide +kernel
theorem dL_law_1100 : decode cL_law 1100 = .ok (.iadd, 1) := by decide +kernel
theorem dL_law_1101 : decode cL_law 1101 = .ok (.iaload, 1) := by decide +kernel
theorem dL_law_1102 : decode cL_law 1102 = .ok (.aload_n 0, 1) := by decide +kernel
theorem dL_law_1103 : decode cL_law 1103 = .ok (.iload_n 3, 1) := by decide +kernel
theorem dL_law_1104 : decode cL_law 1104 = .ok (.iconst 2, 1) := by decide +kernel
theorem dL_law_1105 : decode cL_law 1105 = .ok (.iadd, 1) := by decide +kernel
theorem dL_law_1106 : decode cL_law 1106 = .ok (.iaload, 1) := by decide +kernel
theorem dL_law_1107 : decode cL_law 1107 = .ok (.aload_n 0, 1) := by decide +kernel
theorem dL_law_1108 : decode cL_law 1108 = .ok (.iload_n 3, 1) := by decide +kernel
theorem dL_law_1109 : decode cL_law 1109 = .ok (.iconst 3, 1) := by decide +kernel
theorem dL_law_1110 : decode cL_law 1110 = .ok (.iadd, 1) := by decide +kernel
theorem dL_law_1111 : decode cL_law 1111 = .ok (.iaload, 1) := by decide +kernel
theorem dL_law_1112 : decode cL_law 1112 = .ok (.invokevirtual 142, 3) := by decide +kernel
theorem dL_law_1115 : decode cL_law 1115 = .ok (.aload_n 2, 1) := by decide +kernel
theorem dL_law_1116 : decode cL_law 1116 = .ok (.aload_n 0, 1) := by decide +kernel
theorem dL_law_1117 : decode cL_law 1117 = .ok (.iload_n 3, 1) := by decide +kernel
theorem dL_law_1118 : decode cL_law 1118 = .ok (.iconst 1, 1) := by decide +kernel
theorem dL_law_1119 : decode cL_law 1119 = .ok (.iadd, 1) := by decide +kernel
theorem dL_law_1120 : decode cL_law 1120 = .ok (.iaload, 1) := by decide +kernel
theorem dL_law_1121 : decode cL_law 1121 = .ok (.aload_n 0, 1) := by decide +kernel
theorem dL_law_1122 : decode cL_law 1122 = .ok (.iload_n 3, 1) := by decide +kernel
theorem dL_law_1123 : decode cL_law 1123 = .ok (.iconst 2, 1) := by decide +kernel
theorem dL_law_1124 : decode cL_law 1124 = .ok (.iadd, 1) := by decide +kernel
theorem dL_law_1125 : decode cL_law 1125 = .ok (.iaload, 1) := by decide +kernel
theorem dL_law_1126 : decode cL_law 1126 = .ok (.aload_n 0, 1) := by decide +kernel
theorem dL_law_1127 : decode cL_law 1127 = .ok (.iload_n 3, 1) := by decide +kernel
theorem dL_law_1128 : decode cL_law 1128 = .ok (.iconst 3, 1) := by decide +kernel
theorem dL_law_1129 : decode cL_law 1129 = .ok (.iadd, 1) := by decide +kernel
theorem dL_law_1130 : decode cL_law 1130 = .ok (.iaload, 1) := by decide +kernel
theorem dL_law_1131 : decode cL_law 1131 = .ok (.invokevirtual 145, 3) := by decide +kernel
theorem dL_law_1134 : decode cL_law 1134 = .ok (.if_icmp .eq 242, 3) := by decide +kernel
theorem dL_law_1137 : decode cL_law 1137 = .ok (.iconst 0, 1) := by decide +kernel
theorem dL_law_1138 : decode cL_law 1138 = .ok (.ireturn, 1) := by decide +kernel
theorem dL_law_1139 : decode cL_law 1139 = .ok (.aload_n 1, 1) := by decide +kernel
theorem dL_law_1140 : decode cL_law 1140 = .ok (.aload_n 0, 1) := by decide +kernel
theorem dL_law_1141 : decode cL_law 1141 = .ok (.iload_n 3, 1) := by decide +kernel
theorem dL_law_1142 : decode cL_law 1142 = .ok (.iconst 1, 1) := by decide +kernel
theorem dL_law_1143 : decode cL_law 1143 = .ok (.iadd, 1) := by decide +kernel
theorem dL_law_1144 : decode cL_law 1144 = .ok (.iaload, 1) := by decide +kernel
theorem dL_law_1145 : decode cL_law 1145 = .ok (.aload_n 0, 1) := by decide +kernel
theorem dL_law_1146 : decode cL_law 1146 = .ok (.iload_n 3, 1) := by decide +kernel
theorem dL_law_1147 : decode cL_law 1147 = .ok (.iconst 2, 1) := by decide +kernel
theorem dL_law_1148 : decode cL_law 1148 = .ok (.iadd, 1) := by decide +kernel
theorem dL_law_1149 : decode cL_law 1149 = .ok (.iaload, 1) := by decide +kernel
theorem dL_law_1150 : decode cL_law 1150 = .ok (.aload_n 0, 1) := by decide +kernel
theorem dL_law_1151 : decode cL_law 1151 = .ok (.iload_n 3, 1) := by decide +kernel
theorem dL_law_1152 : decode cL_law 1152 = .ok (.iconst 3, 1) := by decide +kernel
theorem dL_law_1153 : decode cL_law 1153 = .ok (.iadd, 1) := by decide +kernel
theorem dL_law_1154 : decode cL_law 1154 = .ok (.iaload, 1) := by decide +kernel
theorem dL_law_1155 : decode cL_law 1155 = .ok (.invokevirtual 146, 3) := by decide +kernel
theorem dL_law_1158 : decode cL_law 1158 = .ok (.aload_n 2, 1) := by decide +kernel
theorem dL_law_1159 : decode cL_law 1159 = .ok (.aload_n 0, 1) := by decide +kernel
theorem dL_law_1160 : decode cL_law 1160 = .ok (.iload_n 3, 1) := by decide +kernel
theorem dL_law_1161 : decode cL_law 1161 = .ok (.iconst 1, 1) := by decide +kernel
theorem dL_law_1162 : decode cL_law 1162 = .ok (.iadd, 1) := by decide +kernel
theorem dL_law_1163 : decode cL_law 1163 = .ok (.iaload, 1) := by decide +kernel
theorem dL_law_1164 : decode cL_law 1164 = .ok (.aload_n 0, 1) := by decide +kernel
theorem dL_law_1165 : decode cL_law 1165 = .ok (.iload_n 3, 1) := by decide +kernel
theorem dL_law_1166 : decode cL_law 1166 = .ok (.iconst 2, 1) := by decide +kernel
theorem dL_law_1167 : decode cL_law 1167 = .ok (.iadd, 1) := by decide +kernel
theorem dL_law_1168 : decode cL_law 1168 = .ok (.iaload, 1) := by decide +kernel
theorem dL_law_1169 : decode cL_law 1169 = .ok (.aload_n 0, 1) := by decide +kernel
theorem dL_law_1170 : decode cL_law 1170 = .ok (.iload_n 3, 1) := by decide +kernel
theorem dL_law_1171 : decode cL_law 1171 = .ok (.iconst 3, 1) := by decide +kernel
theorem dL_law_1172 : decode cL_law 1172 = .ok (.iadd, 1) := by decide +kernel
theorem dL_law_1173 : decode cL_law 1173 = .ok (.iaload, 1) := by decide +kernel
theorem dL_law_1174 : decode cL_law 1174 = .ok (.invokevirtual 149, 3) := by decide +kernel
theorem dL_law_1177 : decode cL_law 1177 = .ok (.if_icmp .eq 199, 3) := by decide +kernel
theorem dL_law_1180 : decode cL_law 1180 = .ok (.iconst 0, 1) := by decide +kernel
theorem dL_law_1181 : decode cL_law 1181 = .ok (.ireturn, 1) := by decide +kernel
theorem dL_law_1182 : decode cL_law 1182 = .ok (.aload_n 1, 1) := by decide +kernel
theorem dL_law_1183 : decode cL_law 1183 = .ok (.aload_n 0, 1) := by decide +kernel
theorem dL_law_1184 : decode cL_law 1184 = .ok (.iload_n 3, 1) := by decide +kernel
theorem dL_law_1185 : decode cL_law 1185 = .ok (.iconst 1, 1) := by decide +kernel
theorem dL_law_1186 : decode cL_law 1186 = .ok (.iadd, 1) := by decide +kernel
theorem dL_law_1187 : decode cL_law 1187 = .ok (.iaload, 1) := by decide +kernel
theorem dL_law_1188 : decode cL_law 1188 = .ok (.aload_n 0, 1) := by decide +kernel
theorem dL_law_1189 : decode cL_law 1189 = .ok (.iload_n 3, 1) := by decide +kernel
theorem dL_law_1190 : decode cL_law 1190 = .ok (.iconst 2, 1) := by decide +kernel
theorem dL_law_1191 : decode cL_law 1191 = .ok (.iadd, 1) := by decide +kernel
theorem dL_law_1192 : decode cL_law 1192 = .ok (.iaload, 1) := by decide +kernel
theorem dL_law_1193 : decode cL_law 1193 = .ok (.aload_n 0, 1) := by decide +kernel
theorem dL_law_1194 : decode cL_law 1194 = .ok (.iload_n 3, 1) := by decide +kernel
theorem dL_law_1195 : decode cL_law 1195 = .ok (.iconst 3, 1) := by decide +kernel
theorem dL_law_1196 : decode cL_law 1196 = .ok (.iadd, 1) := by decide +kernel
theorem dL_law_1197 : decode cL_law 1197 = .ok (.iaload, 1) := by decide +kernel
theorem dL_law_1198 : decode cL_law 1198 = .ok (.aload_n 0, 1) := by decide +kernel
theorem dL_law_1199 : decode cL_law 1199 = .ok (.iload_n 3, 1) := by decide +kernel
theorem dL_law_1200 : decode cL_law 1200 = .ok (.iconst 4, 1) := by decide +kernel
theorem dL_law_1201 : decode cL_law 1201 = .ok (.iadd, 1) := by decide +kernel
theorem dL_law_1202 : decode cL_law 1202 = .ok (.iaload, 1) := by decide +kernel
theorem dL_law_1203 : decode cL_law 1203 = .ok (.aload_n 0, 1) := by decide +kernel
theorem dL_law_1204 : decode cL_law 1204 = .ok (.iload_n 3, 1) := by decide +kernel
theorem dL_law_1205 : decode cL_law 1205 = .ok (.iconst 5, 1) := by decide +kernel
theorem dL_law_1206 : decode cL_law 1206 = .ok (.iadd, 1) := by decide +kernel
theorem dL_law_1207 : decode cL_law 1207 = .ok (.iaload, 1) := by decide +kernel
theorem dL_law_1208 : decode cL_law 1208 = .ok (.invokevirtual 150, 3) := by decide +kernel
theorem dL_law_1211 : decode cL_law 1211 = .ok (.aload_n 2, 1) := by decide +kernel
theorem dL_law_1212 : decode cL_law 1212 = .ok (.aload_n 0, 1) := by decide +kernel
theorem dL_law_1213 : decode cL_law 1213 = .ok (.iload_n 3, 1) := by decide +kernel
theorem dL_law_1214 : decode cL_law 1214 = .ok (.iconst 1, 1) := by decide +kernel
theorem dL_law_1215 : decode cL_law 1215 = .ok (.iadd, 1) := by decide +kernel
theorem dL_law_1216 : decode cL_law 1216 = .ok (.iaload, 1) := by decide +kernel
theorem dL_law_1217 : decode cL_law 1217 = .ok (.aload_n 0, 1) := by decide +kernel
theorem dL_law_1218 : decode cL_law 1218 = .ok (.iload_n 3, 1) := by decide +kernel
theorem dL_law_1219 : decode cL_law 1219 = .ok (.iconst 2, 1) := by decide +kernel
theorem dL_law_1220 : decode cL_law 1220 = .ok (.iadd, 1) := by decide +kernel
theorem dL_law_1221 : decode cL_law 1221 = .ok (.iaload, 1) := by decide +kernel
theorem dL_law_1222 : decode cL_law 1222 = .ok (.aload_n 0, 1) := by decide +kernel
theorem dL_law_1223 : decode cL_law 1223 = .ok (.iload_n 3, 1) := by decide +kernel
theorem dL_law_1224 : decode cL_law 1224 = .ok (.iconst 3, 1) := by decide +kernel
theorem dL_law_1225 : decode cL_law 1225 = .ok (.iadd, 1) := by decide +kernel
theorem dL_law_1226 : decode cL_law 1226 = .ok (.iaload, 1) := by decide +kernel
theorem dL_law_1227 : decode cL_law 1227 = .ok (.aload_n 0, 1) := by decide +kernel
theorem dL_law_1228 : decode cL_law 1228 = .ok (.iload_n 3, 1) := by decide +kernel
theorem dL_law_1229 : decode cL_law 1229 = .ok (.iconst 4, 1) := by decide +kernel
theorem dL_law_1230 : decode cL_law 1230 = .ok (.iadd, 1) := by decide +kernel
theorem dL_law_1231 : decode cL_law 1231 = .ok (.iaload, 1) := by decide +kernel
theorem dL_law_1232 : decode cL_law 1232 = .ok (.aload_n 0, 1) := by decide +kernel
theorem dL_law_1233 : decode cL_law 1233 = .ok (.iload_n 3, 1) := by decide +kernel
theorem dL_law_1234 : decode cL_law 1234 = .ok (.iconst 5, 1) := by decide +kernel
theorem dL_law_1235 : decode cL_law 1235 = .ok (.iadd, 1) := by decide +kernel
theorem dL_law_1236 : decode cL_law 1236 = .ok (.iaload, 1) := by decide +kernel
theorem dL_law_1237 : decode cL_law 1237 = .ok (.invokevirtual 154, 3) := by decide +kernel
theorem dL_law_1240 : decode cL_law 1240 = .ok (.if_icmp .eq 136, 3) := by decide +kernel
theorem dL_law_1243 : decode cL_law 1243 = .ok (.iconst 0, 1) := by decide +kernel
theorem dL_law_1244 : decode cL_law 1244 = .ok (.ireturn, 1) := by decide +kernel
theorem dL_law_1245 : decode cL_law 1245 = .ok (.aload_n 1, 1) := by decide +kernel
theorem dL_law_1246 : decode cL_law 1246 = .ok (.aload_n 0, 1) := by decide +kernel
theorem dL_law_1247 : decode cL_law 1247 = .ok (.iload_n 3, 1) := by decide +kernel
theorem dL_law_1248 : decode cL_law 1248 = .ok (.iconst 1, 1) := by decide +kernel
theorem dL_law_1249 : decode cL_law 1249 = .ok (.iadd, 1) := by decide +kernel
theorem dL_law_1250 : decode cL_law 1250 = .ok (.iaload, 1) := by decide +kernel
theorem dL_law_1251 : decode cL_law 1251 = .ok (.invokevirtual 155, 3) := by decide +kernel
theorem dL_law_1254 : decode cL_law 1254 = .ok (.aload_n 2, 1) := by decide +kernel
theorem dL_law_1255 : decode cL_law 1255 = .ok (.aload_n 0, 1) := by decide +kernel
theorem dL_law_1256 : decode cL_law 1256 = .ok (.iload_n 3, 1) := by decide +kernel
theorem dL_law_1257 : decode cL_law 1257 = .ok (.iconst 1, 1) := by decide +kernel
theorem dL_law_1258 : decode cL_law 1258 = .ok (.iadd, 1) := by decide +kernel
theorem dL_law_1259 : decode cL_law 1259 = .ok (.iaload, 1) := by decide +kernel
theorem dL_law_1260 : decode cL_law 1260 = .ok (.invokevirtual 158, 3) := by decide +kernel
theorem dL_law_1263 : decode cL_law 1263 = .ok (.if_icmp .eq 113, 3) := by decide +kernel
theorem dL_law_1266 : decode cL_law 1266 = .ok (.iconst 0, 1) := by decide +kernel
theorem dL_law_1267 : decode cL_law 1267 = .ok (.ireturn, 1) := by decide +kernel
theorem dL_law_1268 : decode cL_law 1268 = .ok (.aload_n 1, 1) := by decide +kernel
theorem dL_law_1269 : decode cL_law 1269 = .ok (.aload_n 0, 1) := by decide +kernel
theorem dL_law_1270 : decode cL_law 1270 = .ok (.iload_n 3, 1) := by decide +kernel
theorem dL_law_1271 : decode cL_law 1271 = .ok (.iconst 1, 1) := by decide +kernel
theorem dL_law_1272 : decode cL_law 1272 = .ok (.iadd, 1) := by decide +kernel
theorem dL_law_1273 : decode cL_law 1273 = .ok (.iaload, 1) := by decide +kernel
theorem dL_law_1274 : decode cL_law 1274 = .ok (.invokevirtual 159, 3) := by decide +kernel
theorem dL_law_1277 : decode cL_law 1277 = .ok (.aload_n 2, 1) := by decide +kernel
theorem dL_law_1278 : decode cL_law 1278 = .ok (.aload_n 0, 1) := by decide +kernel
theorem dL_law_1279 : decode cL_law 1279 = .ok (.iload_n 3, 1) := by decide +kernel
theorem dL_law_1280 : decode cL_law 1280 = .ok (.iconst 1, 1) := by decide +kernel
theorem dL_law_1281 : decode cL_law 1281 = .ok (.iadd, 1) := by decide +kernel
theorem dL_law_1282 : decode cL_law 1282 = .ok (.iaload, 1) := by decide +kernel
theorem dL_law_1283 : decode cL_law 1283 = .ok (.invokevirtual 162, 3) := by decide +kernel
theorem dL_law_1286 : decode cL_law 1286 = .ok (.if_icmp .eq 90, 3) := by decide +kernel
theorem dL_law_1289 : decode cL_law 1289 = .ok (.iconst 0, 1) := by decide +kernel
theorem dL_law_1290 : decode cL_law 1290 = .ok (.ireturn, 1) := by decide +kernel
theorem dL_law_1291 : decode cL_law 1291 = .ok (.aload_n 1, 1) := by decide +kernel
theorem dL_law_1292 : decode cL_law 1292 = .ok (.invokevirtual 163, 3) := by decide +kernel
theorem dL_law_1295 : decode cL_law 1295 = .ok (.aload_n 2, 1) := by decide +kernel
theorem dL_law_1296 : decode cL_law 1296 = .ok (.invokevirtual 166, 3) := by decide +kernel
theorem dL_law_1299 : decode cL_law 1299 = .ok (.if_icmp .eq 77, 3) := by decide +kernel
theorem dL_law_1302 : decode cL_law 1302 = .ok (.iconst 0, 1) := by decide +kernel
theorem dL_law_1303 : decode cL_law 1303 = .ok (.ireturn, 1) := by decide +kernel
theorem dL_law_1304 : decode cL_law 1304 = .ok (.aload_n 1, 1) := by decide +kernel
theorem dL_law_1305 : decode cL_law 1305 = .ok (.invokevirtual 167, 3) := by decide +kernel
theorem dL_law_1308 : decode cL_law 1308 = .ok (.aload_n 2, 1) := by decide +kernel
theorem dL_law_1309 : decode cL_law 1309 = .ok (.invokevirtual 170, 3) := by decide +kernel
theorem dL_law_1312 : decode cL_law 1312 = .ok (.if_icmp .eq 64, 3) := by decide +kernel
theorem dL_law_1315 : decode cL_law 1315 = .ok (.iconst 0, 1) := by decide +kernel
theorem dL_law_1316 : decode cL_law 1316 = .ok (.ireturn, 1) := by decide +kernel
theorem dL_law_1317 : decode cL_law 1317 = .ok (.aload_n 1, 1) := by decide +kernel
theorem dL_law_1318 : decode cL_law 1318 = .ok (.invokevirtual 171, 3) := by decide +kernel
theorem dL_law_1321 : decode cL_law 1321 = .ok (.aload_n 2, 1) := by decide +kernel
theorem dL_law_1322 : decode cL_law 1322 = .ok (.invokevirtual 174, 3) := by decide +kernel
theorem dL_law_1325 : decode cL_law 1325 = .ok (.if_icmp .eq 51, 3) := by decide +kernel
theorem dL_law_1328 : decode cL_law 1328 = .ok (.iconst 0, 1) := by decide +kernel
theorem dL_law_1329 : decode cL_law 1329 = .ok (.ireturn, 1) := by decide +kernel
theorem dL_law_1330 : decode cL_law 1330 = .ok (.aload_n 1, 1) := by decide +kernel
theorem dL_law_1331 : decode cL_law 1331 = .ok (.aload_n 0, 1) := by decide +kernel
theorem dL_law_1332 : decode cL_law 1332 = .ok (.iload_n 3, 1) := by decide +kernel
theorem dL_law_1333 : decode cL_law 1333 = .ok (.iconst 1, 1) := by decide +kernel
theorem dL_law_1334 : decode cL_law 1334 = .ok (.iadd, 1) := by decide +kernel
theorem dL_law_1335 : decode cL_law 1335 = .ok (.iaload, 1) := by decide +kernel
theorem dL_law_1336 : decode cL_law 1336 = .ok (.invokevirtual 175, 3) := by decide +kernel
theorem dL_law_1339 : decode cL_law 1339 = .ok (.aload_n 2, 1) := by decide +kernel
theorem dL_law_1340 : decode cL_law 1340 = .ok (.aload_n 0, 1) := by decide +kernel
theorem dL_law_1341 : decode cL_law 1341 = .ok (.iload_n 3, 1) := by decide +kernel
theorem dL_law_1342 : decode cL_law 1342 = .ok (.iconst 1, 1) := by decide +kernel
theorem dL_law_1343 : decode cL_law 1343 = .ok (.iadd, 1) := by decide +kernel
theorem dL_law_1344 : decode cL_law 1344 = .ok (.iaload, 1) := by decide +kernel
theorem dL_law_1345 : decode cL_law 1345 = .ok (.invokevirtual 178, 3) := by decide +kernel
theorem dL_law_1348 : decode cL_law 1348 = .ok (.if_icmp .eq 28, 3) := by decide +kernel
theorem dL_law_1351 : decode cL_law 1351 = .ok (.iconst 0, 1) := by decide +kernel
theorem dL_law_1352 : decode cL_law 1352 = .ok (.ireturn, 1) := by decide +kernel
theorem dL_law_1353 : decode cL_law 1353 = .ok (.aload_n 1, 1) := by decide +kernel
theorem dL_law_1354 : decode cL_law 1354 = .ok (.aload_n 0, 1) := by decide +kernel
theorem dL_law_1355 : decode cL_law 1355 = .ok (.iload_n 3, 1) := by decide +kernel
theorem dL_law_1356 : decode cL_law 1356 = .ok (.iconst 1, 1) := by decide +kernel
theorem dL_law_1357 : decode cL_law 1357 = .ok (.iadd, 1) := by decide +kernel
theorem dL_law_1358 : decode cL_law 1358 = .ok (.iaload, 1) := by decide +kernel
theorem dL_law_1359 : decode cL_law 1359 = .ok (.invokevirtual 179, 3) := by decide +kernel
theorem dL_law_1362 : decode cL_law 1362 = .ok (.aload_n 2, 1) := by decide +kernel
theorem dL_law_1363 : decode cL_law 1363 = .ok (.aload_n 0, 1) := by decide +kernel
theorem dL_law_1364 : decode cL_law 1364 = .ok (.iload_n 3, 1) := by decide +kernel
theorem dL_law_1365 : decode cL_law 1365 = .ok (.iconst 1, 1) := by decide +kernel
theorem dL_law_1366 : decode cL_law 1366 = .ok (.iadd, 1) := by decide +kernel
theorem dL_law_1367 : decode cL_law 1367 = .ok (.iaload, 1) := by decide +kernel
theorem dL_law_1368 : decode cL_law 1368 = .ok (.invokevirtual 182, 3) := by decide +kernel
theorem dL_law_1371 : decode cL_law 1371 = .ok (.if_icmp .eq 5, 3) := by decide +kernel
theorem dL_law_1374 : decode cL_law 1374 = .ok (.iconst 0, 1) := by decide +kernel
theorem dL_law_1375 : decode cL_law 1375 = .ok (.ireturn, 1) := by decide +kernel
theorem dL_law_1376 : decode cL_law 1376 = .ok (.iinc 3 6, 3) := by decide +kernel
theorem dL_law_1379 : decode cL_law 1379 = .ok (.goto (-1361), 3) := by decide +kernel
theorem dL_law_1382 : decode cL_law 1382 = .ok (.iconst 1, 1) := by decide +kernel
theorem dL_law_1383 : decode cL_law 1383 = .ok (.ireturn, 1) := by decide +kernel
end
section
/-! THE FRAME: all cells of both objects at addresses that never change; what changes is a row of ints a cell. Own rows. -/
abbrev Mem : Type := Nat → Nat → Int32
abbrev LV : Type := List (Nat × Value)
def setr (σ : Mem) (i : Nat) (r : Nat → Int32) : Mem := fun a => if a = i then r else σ a
def up2 (σ : Mem) (i k : Nat) (v : Int32) : Mem := setr σ i (upd (σ i) k v)
def cpy2 (σ : Mem) (i j sp dp n : Nat) : Mem := setr σ j (va_cpy (σ i) (σ j) sp dp n)
abbrev En : Type := va_G × (Nat → Nat) × (Nat → ClassId) × (Nat → Nat) × (Nat → Nat) × (Nat → Nat)
abbrev eD (E : En) : va_G := E.1
abbrev eA (E : En) : Nat → Nat := E.2.1
abbrev eC (E : En) : Nat → ClassId := E.2.2.1
abbrev eK (E : En) : Nat → Nat := E.2.2.2.1
abbrev eV (E : En) : Nat → Nat := E.2.2.2.2.1
abbrev eS (E : En) : Nat → Nat := E.2.2.2.2.2
abbrev eT (E : En) : List (ClassId × FieldType) := [(eC E 0, .int), (eC E 1, .byte), (eC E 2, .object "CurtainHouse$Curtain"), (eC E 3, .object "CurtainHouse$Sheet"), (eC E 4, .object "java/lang/String")]
/-- the kind of a cell: 0 Curtain, 1 House, 2 Sheet, 3 Tape, 4 CurtainHouse, 5 the reference, 6 ints, 7 bytes, 8 Curtains, 9 Sheets, 10 Strings -/
def ck (i : Nat) : Nat :=
  if i = 0 then 4 else if i = 37 then 0 else if i = 38 then 3 else if i = 39 then 7 else if i = 40 then 9 else if i = 49 then 6 else if i = 50 then 5 else if i = 56 then 10 else if 50 < i then 6
  else if 40 < i then (if (i - 41) % 2 = 0 then 2 else 6)
  else if (i - 1) % 12 = 0 then 1 else if (i - 1) % 12 ≤ 2 then 6 else if (i - 1) % 12 = 3 then 8 else 0
def ln (i : Nat) : Nat :=
  if i = 39 then 120 else if i = 40 then 4 else if i = 49 then 7 else if 50 < i then [70, 70, 70, 8, 120, 7, 600, 4, 4, 160, 40].getD (i - 51) 0
  else if 40 < i then (if (i - 41) % 2 = 0 then 0 else 40)
  else if (i - 1) % 12 = 1 then 6 else if (i - 1) % 12 = 2 then 10 else if (i - 1) % 12 = 3 then 8 else 0
def cel (E : En) (i : Nat) (r : Nat → Int32) : va_E :=
  if ck i = 0 then .inr (0, [.int (r 0), .int (r 1), .int (r 2), .int (r 3), .int (r 4), .int (r 5)])
  else if ck i = 1 then .inr (1, [.int (r 0), .int (r 1), .int (r 2), .int (r 3), .int (r 4), .int (r 5), .ref (eA E (i + 1)), .ref (eA E (i + 2)), .ref (eA E (i + 3))])
  else if ck i = 2 then .inr (2, [.int (r 0), .int (r 1), .ref (eA E (i + 1))])
  else if ck i = 3 then .inr (3, [.ref (eA E 39), .int (r 1), .int (r 2), .int (r 3), .int (r 4), .int (r 5)])
  else if ck i = 4 then .inr (4, [.ref (eA E 1), .ref (eA E 13), .int (r 2), .ref (eA E 25), .ref (eA E 37), .ref (eA E 38), .ref (eA E 40), .ref (eA E 49)])
  else if ck i = 5 then .inr (5, [.ref (eA E 51), .ref (eA E 52), .ref (eA E 53), .int (r 3), .ref (eA E 54), .ref (eA E 55), .int (r 6), .int (r 7), .int (r 8), .int (r 9), .int (r 10), .int (r 11), .ref (eA E 56), .ref (eA E 57), .int (r 14), .int (r 15), .ref (eA E 58), .ref (eA E 59), .ref (eA E 60), .ref (eA E 61)])
  else if ck i = 6 then .inl (eC E 0, ln i, .inl r)
  else if ck i = 7 then .inl (eC E 1, ln i, .inl r)
  else if ck i = 8 then .inl (eC E 2, ln i, .inr (.inr (.inr (.inr (fun j => some (eA E (i + 1 + j)))))))
  else if ck i = 9 then .inl (eC E 3, ln i, .inr (.inr (.inr (.inr (fun j => some (eA E (i + 1 + 2 * j)))))))
  else .inl (eC E 4, ln i, .inr (.inr (.inr (.inr (fun j => some (eK E j))))))
def wsW (E : En) (ρ : Mem) : va_W := (List.range 62).map (fun i => (eA E i, cel E i (ρ i)))
def WA (E : En) : Nat → Prop := fun q => ∃ i, i < 62 ∧ eA E i = q
theorem ws_get {E : En} {ρ : Mem} {i : Nat} (h : i < 62) : (wsW E ρ)[i]? = some (eA E i, cel E i (ρ i)) := by
  simp [wsW, h]
theorem setr_same {σ : Mem} {i : Nat} {r : Nat → Int32} : setr σ i r i = r := by simp [setr]
theorem setr_ne {σ : Mem} {i a : Nat} {r : Nat → Int32} (h : a ≠ i) : setr σ i r a = σ a := by simp [setr, h]
theorem ws_set {E : En} {ρ : Mem} {i : Nat} {r : Nat → Int32} {e : va_E} (h : i < 62) (hc : cel E i r = e) : (wsW E ρ).set i (eA E i, e) = wsW E (setr ρ i r) := by
  subst hc
  apply List.ext_getElem?
  intro a
  by_cases hi : i = a
  · subst hi
    rw [ws_get h, setr_same]
    simp [wsW, h, List.getElem?_set]
  · rw [List.getElem?_set_ne hi]
    by_cases ha : a < 62
    · rw [ws_get ha, ws_get ha, setr_ne (fun q => hi q.symm)]
    · simp [wsW, ha]
theorem wsD {E : En} (hI : ∀ i j, i < 62 → j < 62 → eA E i = eA E j → i = j) (ρ : Mem) : va_D (WA E) (wsW E ρ) := by
  refine ⟨fun i j p q hi hj hpq => ?_, fun k q hk => ?_⟩
  · have h1 : i < 62 := by
      have := (List.getElem?_eq_some_iff.mp hi).1
      simpa [wsW] using this
    have h2 : j < 62 := by
      have := (List.getElem?_eq_some_iff.mp hj).1
      simpa [wsW] using this
    rw [ws_get h1] at hi
    rw [ws_get h2] at hj
    cases hi
    cases hj
    exact hI i j h1 h2 hpq
  · have h1 : k < 62 := by
      have := (List.getElem?_eq_some_iff.mp hk).1
      simpa [wsW] using this
    rw [ws_get h1] at hk
    cases hk
    exact ⟨k, h1, rfl⟩
def sNm (k : Nat) : String := ["GLADDENS", "TIRES", "BEARS", "FALLS", "RISES", "COUNTS_AS", "MOST_OF"].getD k ""
def sTab (k : Nat) : List Int32 := [[5, 10, 4, 4, 4, 0, 8], [4, 6, 2, 2, 1, 0, 6], [30, 40, 20, 20, 40, 0, 40], [4, 2, 6, 20, 5, 1, 2], [2, 1, 3, 6, 6, 1, 1], [1, 3, 5, 13, 29, 33, 67], [6, 99, 4095, 20, 1, 9999]].getD k []
def kLen : List Nat := [7, 6, 5, 4, 5, 4, 6, 5, 4, 3, 4, 5, 4, 4]
def kByt : List (List Int32) := [[99, 117, 114, 116, 97, 105, 110], [118, 101, 108, 118, 101, 116], [103, 97, 117, 122, 101], [100, 114, 111, 112], [99, 108, 111, 117, 100], [105, 114, 111, 110], [102, 114, 105, 110, 103, 101], [115, 99, 101, 110, 101], [102, 105, 114, 101], [111, 117, 116], [109, 111, 111, 100], [108, 105, 107, 101, 115], [104, 105, 103, 104], [116, 105, 101, 100]]
def kRefs : List (String × Nat × String × Nat) := [("CurtainHouse$Tape", 99, "curtain", 0), ("CurtainHouse$Tape", 104, "velvet", 1), ("CurtainHouse$Tape", 106, "gauze", 2), ("CurtainHouse$Tape", 108, "drop", 3), ("CurtainHouse$Tape", 110, "cloud", 4), ("CurtainHouse$Tape", 112, "iron", 5), ("CurtainHouse$Tape", 114, "fringe", 6), ("CurtainHouse$Tape", 43, "scene", 7), ("CurtainHouse$Tape", 52, "fire", 8), ("CurtainHouse$Tape", 58, "out", 9), ("CurtainHouse$Tape", 68, "mood", 10), ("CurtainHouse$Tape", 74, "likes", 11), ("CurtainHouse$Tape", 76, "high", 12), ("CurtainHouse$Tape", 78, "tied", 13), ("CurtainHouseModel", 27, "curtain", 0), ("CurtainHouseModel", 29, "velvet", 1), ("CurtainHouseModel", 31, "gauze", 2), ("CurtainHouseModel", 33, "drop", 3), ("CurtainHouseModel", 35, "cloud", 4), ("CurtainHouseModel", 37, "iron", 5), ("CurtainHouseModel", 39, "fringe", 6), ("CurtainHouseModel", 274, "mood", 10), ("CurtainHouseModel", 282, "likes", 11), ("CurtainHouseModel", 284, "high", 12), ("CurtainHouseModel", 286, "tied", 13), ("CurtainHouseModel", 295, "scene", 7), ("CurtainHouseModel", 297, "fire", 8), ("CurtainHouseModel", 299, "out", 9)]
def wN : List Cond := [(Cond.methodLinkNest "CurtainHouse$House" (28 : Nat) ({ cls := "CurtainHouse$Curtain", name := "<init>", desc := "()V" } : MethodName) "CurtainHouse"), (Cond.methodLinkNest "CurtainHouse" (24 : Nat) ({ cls := "CurtainHouse$Curtain", name := "<init>", desc := "()V" } : MethodName) "CurtainHouse"), (Cond.methodLinkNest "CurtainHouse" (31 : Nat) ({ cls := "CurtainHouse$Tape", name := "<init>", desc := "()V" } : MethodName) "CurtainHouse"), (Cond.methodLinkNest "CurtainHouse" (46 : Nat) ({ cls := "CurtainHouse$Sheet", name := "<init>", desc := "()V" } : MethodName) "CurtainHouse"), (Cond.fieldLinkNest "CurtainHouse$Curtain" (51 : Nat) "CurtainHouse" "GLADDENS" "[I" "CurtainHouse"), (Cond.fieldLinkNest "CurtainHouse$Curtain" (59 : Nat) "CurtainHouse" "TIRES" "[I" "CurtainHouse"), (Cond.fieldLinkNest "CurtainHouse$Curtain" (62 : Nat) "CurtainHouse" "BEARS" "[I" "CurtainHouse"), (Cond.fieldLinkNest "CurtainHouse$Curtain" (65 : Nat) "CurtainHouse" "FALLS" "[I" "CurtainHouse"), (Cond.fieldLinkNest "CurtainHouse$Curtain" (68 : Nat) "CurtainHouse" "RISES" "[I" "CurtainHouse"), (Cond.fieldLinkNest "CurtainHouse$Tape" (84 : Nat) "CurtainHouse" "MOST_OF" "[I" "CurtainHouse"), (Cond.fieldLinkNest "CurtainHouse$Curtain" (47 : Nat) "CurtainHouse" "COUNTS_AS" "[I" "CurtainHouse")]
def CK (E : En) (U : State) (H : Heap) : Prop :=
  va_K (eD E) vwCl (eT E) U ∧ (∀ i j, i < 62 → j < 62 → eA E i = eA E j → i = j) ∧
  (∀ k, k < 7 → va_Z "CurtainHouse" (sNm k) "[I" (.ref (eS E k)) (WA E) U H ∧ va_T .int (eS E k) (sTab k).length (fun j => .int ((sTab k).getD j 0)) (WA E) U H) ∧
  va_Z "java/lang/String" "COMPACT_STRINGS" "Z" (.int 1) (WA E) U H ∧
  vk_S 14 kLen kByt (eK E) (eV E) (WA E) U H ∧
  (∀ q ∈ kRefs, vk_R q.1 q.2.1 q.2.2.1 (eK E q.2.2.2) U) ∧ (∀ w ∈ wN, va_Nw w U)
theorem wN_kind : ∀ w ∈ wN, (∃ a i b n d h, w = Cond.fieldLinkNest a i b n d h) ∨ ∃ a i x h, w = Cond.methodLinkNest a i x h := by
  intro w hw
  simp only [wN, List.mem_cons, List.not_mem_nil, or_false] at hw
  rcases hw with rfl | rfl | rfl | rfl | rfl | rfl | rfl | rfl | rfl | rfl | rfl
  all_goals first | exact Or.inl ⟨_, _, _, _, _, _, rfl⟩ | exact Or.inr ⟨_, _, _, _, rfl⟩
theorem CK.move {E : En} {s U : State} {H : Heap} {locs : List Loc} (hW : s.WarmedH U.vm) (hS : va_S (WA E) s.heap H locs) (h : CK E s s.heap) : CK E U H := by
  obtain ⟨h1, h2, h3, h4, h5, h6, h7⟩ := h
  have hk : ∀ a : Nat, a < s.heap.size → ¬ WA E a → H[a]? = s.heap[a]? := hS.2.1
  refine ⟨va_K.moved hW.alike h1, h2, fun k hk7 => ⟨((h3 k hk7).1.kept hk).moved hW.alike, ((h3 k hk7).2.kept hk).moved hW.alike⟩, (h4.kept hk).moved hW.alike, (h5.kept hk).moved hW.alike, fun q hq => (h6 q hq).warm hW, fun w hw => ?_⟩
  have h8 := h7 w hw
  rcases wN_kind w hw with ⟨a, i, b, n, d, h, rfl⟩ | ⟨a, i, x, h, rfl⟩
  · exact va_Nw.warmF hW h8
  · exact va_Nw.warmM hW h8
theorem CK.same {E : En} {u U : State} {H : Heap} (hv : U.vm = u.vm) (h : CK E u H) : CK E U H := by
  obtain ⟨h1, h2, h3, h4, h5, h6, h7⟩ := h
  have hA : u.vm.Alike U.vm := by rw [hv]; exact Vm.Alike.refl _
  refine ⟨va_K.moved hA h1, h2, fun k hk7 => ⟨(h3 k hk7).1.moved hA, (h3 k hk7).2.moved hA⟩, h4.moved hA, h5.moved hA, fun q hq => (h6 q hq).same hv, fun w hw => ?_⟩
  have h8 := h7 w hw
  rcases wN_kind w hw with ⟨a, i, b, n, d, h, rfl⟩ | ⟨a, i, x, h, rfl⟩
  · exact va_Nw.same rfl hv.symm h8
  · exact va_Nw.same rfl hv.symm h8
def WD (E : En) (ρ : Mem) (U : State) : Prop := va_P (eD E) vwCl (wsW E ρ) U.heap ∧ CK E U U.heap
/-- which memory is told: the class's part, or the reference's -/
def MK (mk : Mem → Mem) (sd : Nat → Prop) : Prop := (∀ σ i, sd i → mk σ i = σ i) ∧ (∀ σ i r, sd i → mk (setr σ i r) = setr (mk σ) i r)
abbrev sdC (i : Nat) : Prop := i < 50
abbrev sdM (i : Nat) : Prop := 50 ≤ i
abbrev kd (sd : Nat → Prop) (i k : Nat) : Prop := sd i ∧ i < 62 ∧ ck i = k
abbrev ka (sd : Nat → Prop) (i k n : Nat) : Prop := kd sd i k ∧ ln i = n
theorem ck1 : ∀ a, a < 62 → ck a = 1 → (a = 1 ∨ a = 13 ∨ a = 25) := by decide +kernel
theorem ck2 : ∀ a, a < 62 → ck a = 2 → (a = 41 ∨ a = 43 ∨ a = 45 ∨ a = 47) := by decide +kernel
theorem ck8 : ∀ a, a < 62 → ck a = 8 → ∀ j, j < 8 → a + 1 + j < 50 ∧ ck (a + 1 + j) = 0 := by decide +kernel
theorem ka_list {a : Nat} (h : kd sdC a 1) : ka sdC (a + 1) 6 6 := by
  rcases ck1 a h.2.1 h.2.2 with rfl | rfl | rfl <;> decide +kernel
theorem ka_spots {a : Nat} (h : kd sdC a 1) : ka sdC (a + 2) 6 10 := by
  rcases ck1 a h.2.1 h.2.2 with rfl | rfl | rfl <;> decide +kernel
theorem ka_curs {a : Nat} (h : kd sdC a 1) : ka sdC (a + 3) 8 8 := by
  rcases ck1 a h.2.1 h.2.2 with rfl | rfl | rfl <;> decide +kernel
theorem kd_cur {a j : Nat} (h : ka sdC a 8 8) (hj : j < 8) : kd sdC (a + 1 + j) 0 := by
  obtain ⟨h1, h2⟩ := ck8 a h.1.2.1 h.1.2.2 j hj
  exact ⟨h1, by omega, h2⟩
theorem kd_she : ∀ j, j < 4 → kd sdC (40 + 1 + 2 * j) 2 := by decide +kernel
theorem ka_num {a : Nat} (h : kd sdC a 2) : ka sdC (a + 1) 6 40 := by
  rcases ck2 a h.2.1 h.2.2 with rfl | rfl | rfl | rfl <;> decide +kernel

theorem kC_0 : kd sdC 0 4 := by decide +kernel
theorem kC_1 : kd sdC 1 1 := by decide +kernel
theorem kC_13 : kd sdC 13 1 := by decide +kernel
theorem kC_25 : kd sdC 25 1 := by decide +kernel
theorem kC_37 : kd sdC 37 0 := by decide +kernel
theorem kC_38 : kd sdC 38 3 := by decide +kernel
theorem kC_39 : ka sdC 39 7 120 := by decide +kernel
theorem kC_40 : ka sdC 40 9 4 := by decide +kernel
theorem kC_49 : ka sdC 49 6 7 := by decide +kernel
theorem kM_50 : kd sdM 50 5 := by decide +kernel
theorem kM_51 : ka sdM 51 6 70 := by decide +kernel
theorem kM_52 : ka sdM 52 6 70 := by decide +kernel
theorem kM_53 : ka sdM 53 6 70 := by decide +kernel
theorem kM_54 : ka sdM 54 6 8 := by decide +kernel
theorem kM_55 : ka sdM 55 6 120 := by decide +kernel
theorem kM_56 : ka sdM 56 10 7 := by decide +kernel
theorem kM_57 : ka sdM 57 6 600 := by decide +kernel
theorem kM_58 : ka sdM 58 6 4 := by decide +kernel
theorem kM_59 : ka sdM 59 6 4 := by decide +kernel
theorem kM_60 : ka sdM 60 6 160 := by decide +kernel
theorem kM_61 : ka sdM 61 6 40 := by decide +kernel

abbrev Cx : Type := Program × Launch × Env × Room × State × MethodId × Array Value × List Frame × Method × Code × (State → Prop) × Nat × En × (Mem → Mem)
abbrev xP (X : Cx) : Program := X.1
abbrev xl (X : Cx) : Launch := X.2.1
abbrev xe (X : Cx) : Env := X.2.2.1
abbrev xR (X : Cx) : Room := X.2.2.2.1
abbrev xs (X : Cx) : State := X.2.2.2.2.1
abbrev xm (X : Cx) : MethodId := X.2.2.2.2.2.1
abbrev xa (X : Cx) : Array Value := X.2.2.2.2.2.2.1
abbrev xb (X : Cx) : List Frame := X.2.2.2.2.2.2.2.1
abbrev xM (X : Cx) : Method := X.2.2.2.2.2.2.2.2.1
abbrev xc (X : Cx) : Code := X.2.2.2.2.2.2.2.2.2.1
abbrev xQ (X : Cx) : State → Prop := X.2.2.2.2.2.2.2.2.2.2.1
abbrev xn (X : Cx) : Nat := X.2.2.2.2.2.2.2.2.2.2.2.1
abbrev xE (X : Cx) : En := X.2.2.2.2.2.2.2.2.2.2.2.2.1
abbrev xk (X : Cx) : Mem → Mem := X.2.2.2.2.2.2.2.2.2.2.2.2.2
/-- from any heap that holds the memory σ, the machine at pc with these locals and this stack comes to its end as it must -/
def G (X : Cx) (σ : Mem) (pc : Nat) (lv : LV) (st : List Value) : Prop := ∀ (H : Heap) (locs : List Loc) (ls : Array Slot), va_P (eD (xE X)) vwCl (wsW (xE X) (xk X σ)) H → va_S (WA (xE X)) (xs X).heap H locs → lv_has ls (xn X) lv →
  W (xP X) (xl X) (xe X) (xR X) (xs X) (xm X) (xa X) (xb X) (xM X) (xc X) H locs 0 0 (xQ X) (F0 (xm X) pc ls st)
def OK (X : Cx) (cc : ByteArray) (own : String) (sd : Nat → Prop) (nL : Nat) (R : Room) (l : Launch) : Prop :=
  (xP X).tables.exec = Jvm.exec ∧ (xc X).code = cc ∧ (xc X).maxLocals = nL ∧ xn X = nL ∧ (xs X).vm.findClass own = some (xm X).cls ∧ (∀ w ∈ wt, w.before (xa X) (xs X) = true) ∧ CK (xE X) (xs X) (xs X).heap ∧ MK (xk X) sd ∧ (xM X).locks = false ∧ xR X = R ∧ xl X = l
section OKS
variable {X : Cx} {cc : ByteArray} {own : String} {sd : Nat → Prop} {nL : Nat} {R : Room} {l : Launch}
theorem OK.x (o : OK X cc own sd nL R l) : (xP X).tables.exec = Jvm.exec := o.1
theorem OK.b (o : OK X cc own sd nL R l) : (xc X).code = cc := o.2.1
theorem OK.ml (o : OK X cc own sd nL R l) : (xc X).maxLocals = nL := o.2.2.1
theorem OK.n (o : OK X cc own sd nL R l) : xn X = nL := o.2.2.2.1
theorem OK.ow (o : OK X cc own sd nL R l) : (xs X).vm.findClass own = some (xm X).cls := o.2.2.2.2.1
theorem OK.ts (o : OK X cc own sd nL R l) : ∀ w ∈ wt, w.before (xa X) (xs X) = true := o.2.2.2.2.2.1
theorem OK.ck (o : OK X cc own sd nL R l) : CK (xE X) (xs X) (xs X).heap := o.2.2.2.2.2.2.1
theorem OK.mk (o : OK X cc own sd nL R l) : MK (xk X) sd := o.2.2.2.2.2.2.2.1
theorem OK.lo (o : OK X cc own sd nL R l) : (xM X).locks = false := o.2.2.2.2.2.2.2.2.1
theorem OK.r (o : OK X cc own sd nL R l) : xR X = R := o.2.2.2.2.2.2.2.2.2.1
theorem OK.la (o : OK X cc own sd nL R l) : xl X = l := o.2.2.2.2.2.2.2.2.2.2
theorem OK.D (o : OK X cc own sd nL R l) (ρ : Mem) : va_D (WA (xE X)) (wsW (xE X) ρ) := wsD o.ck.2.1 ρ
end OKS
/-! the words of the pure functions -/
def vL {α β : Type} (a : α) (K : α → β) : β := K a
def vW {β : Type} (σ : Mem) (i k : Nat) (v : Int32) (K : Mem → β) : β := K (up2 σ i k v)
def vI {β : Type} (n : Nat) (x : Int32) (K : Nat → Option β) : Option β := if ¬ (x < 0 ∨ n ≤ x.toNatClampNeg) then K x.toNatClampNeg else none
def vC {α β : Type} (a : Option (α × Mem)) (K : α → Mem → Option β) : Option β := match a with
  | none => none
  | some (r, σ) => K r σ
def vN {β : Type} (y : Int32) (K : Option β) : Option β := if y = 0 then none else K
def vB {β : Type} (v : Int32) (K : Option β) : Option β := if v = 0 ∨ v = 1 then K else none
def FU : Nat := 10000
theorem vI_some {β : Type} {n : Nat} {x : Int32} {K : Nat → Option β} {r : β} (h : vI n x K = some r) : vp_in x n ∧ x.toNatClampNeg < n ∧ K x.toNatClampNeg = some r := by
  unfold vI at h
  split at h
  · rename_i c
    exact ⟨c, Nat.not_le.mp fun q => c (Or.inr q), h⟩
  · cases h
theorem vC_some {α β : Type} {a : Option (α × Mem)} {K : α → Mem → Option β} {r : β} (h : vC a K = some r) : ∃ b σ, a = some (b, σ) ∧ K b σ = some r := by
  unfold vC at h
  split at h
  · cases h
  · exact ⟨_, _, rfl, h⟩
section ROWS
variable {X : Cx} {cc : ByteArray} {own : String} {sd : Nat → Prop} {nL : Nat} {R : Room} {l : Launch} {σ : Mem} {pc q : Nat} {lv : LV} {rest : List Value} {ρ : Type} {res : ρ}

theorem g_iconst (o : OK X cc own sd nL R l) {n : Int} {v : Int32} (hv : Int32.ofInt n = v) (d : decode cc pc = .ok (.iconst n, 1)) (hq : pc + 1 = q) (k : G X σ q lv (.int v :: rest)) : G X σ pc lv (rest) := fun H locs ls hP hS hl => by
  subst hq
  exact lv_iconst o.x o.b d hv (k H locs ls hP hS hl)
theorem g_bipush (o : OK X cc own sd nL R l) {n : Int} {v : Int32} (hv : (Int8.ofInt n).toInt32 = v) (d : decode cc pc = .ok (.bipush n, 2)) (hq : pc + 2 = q) (k : G X σ q lv (.int v :: rest)) : G X σ pc lv (rest) := fun H locs ls hP hS hl => by
  subst hq
  exact lv_bipush o.x o.b d hv (k H locs ls hP hS hl)
theorem g_sipush (o : OK X cc own sd nL R l) {n : Int} {v : Int32} (hv : (Int16.ofInt n).toInt32 = v) (d : decode cc pc = .ok (.sipush n, 3)) (hq : pc + 3 = q) (k : G X σ q lv (.int v :: rest)) : G X σ pc lv (rest) := fun H locs ls hP hS hl => by
  subst hq
  exact lv_sipush o.x o.b d hv (k H locs ls hP hS hl)
theorem g_lconst (o : OK X cc own sd nL R l) {n : Fin 2} {v : Int64} (hv : Int64.ofNat (n : Nat) = v) (d : decode cc pc = .ok (.lconst n, 1)) (hq : pc + 1 = q) (k : G X σ q lv (.long v :: rest)) : G X σ pc lv (rest) := fun H locs ls hP hS hl => by
  subst hq
  exact lv_lconst o.x o.b d hv (k H locs ls hP hS hl)
theorem g_ldc (o : OK X cc own sd nL R l) {index : Nat} {v : Int32} (hc : Cond.constant own index v ∈ wt) (d : decode cc pc = .ok (.ldc index, 2)) (hq : pc + 2 = q) (k : G X σ q lv (.int v :: rest)) : G X σ pc lv (rest) := fun H locs ls hP hS hl => by
  subst hq
  exact lv_ldc o.x o.b o.ow (o.ts _ hc) d (k H locs ls hP hS hl)
theorem g_ldcw (o : OK X cc own sd nL R l) {index : Nat} {v : Int32} (hc : Cond.constant own index v ∈ wt) (d : decode cc pc = .ok (.ldc_w index, 3)) (hq : pc + 3 = q) (k : G X σ q lv (.int v :: rest)) : G X σ pc lv (rest) := fun H locs ls hP hS hl => by
  subst hq
  exact lv_ldcw o.x o.b o.ow (o.ts _ hc) d (k H locs ls hP hS hl)
theorem g_iload_n (o : OK X cc own sd nL R l) {f : Fin 4} {i : Nat} {x : Int32} (j : Nat) (hj : lv[j]? = some (i, .int x)) (hi : (f : Nat) = i) (d : decode cc pc = .ok (.iload_n f, 1)) (hq : pc + 1 = q) (k : G X σ q lv (.int x :: rest)) : G X σ pc lv (rest) := fun H locs ls hP hS hl => by
  subst hq
  exact lv_iload_n o.x o.b d hi (lv_at hl j hj) (k H locs ls hP hS hl)
theorem g_iload (o : OK X cc own sd nL R l) {i : Nat} {x : Int32} (j : Nat) (hj : lv[j]? = some (i, .int x)) (d : decode cc pc = .ok (.iload i, 2)) (hq : pc + 2 = q) (k : G X σ q lv (.int x :: rest)) : G X σ pc lv (rest) := fun H locs ls hP hS hl => by
  subst hq
  exact lv_iload o.x o.b d (lv_at hl j hj) (k H locs ls hP hS hl)
theorem g_aload_n (o : OK X cc own sd nL R l) {f : Fin 4} {i : Nat} {x : Nat} (j : Nat) (hj : lv[j]? = some (i, .ref x)) (hi : (f : Nat) = i) (d : decode cc pc = .ok (.aload_n f, 1)) (hq : pc + 1 = q) (k : G X σ q lv (.ref x :: rest)) : G X σ pc lv (rest) := fun H locs ls hP hS hl => by
  subst hq
  exact lv_aload_n o.x o.b d hi (lv_at hl j hj) (k H locs ls hP hS hl)
theorem g_aload (o : OK X cc own sd nL R l) {i : Nat} {x : Nat} (j : Nat) (hj : lv[j]? = some (i, .ref x)) (d : decode cc pc = .ok (.aload i, 2)) (hq : pc + 2 = q) (k : G X σ q lv (.ref x :: rest)) : G X σ pc lv (rest) := fun H locs ls hP hS hl => by
  subst hq
  exact lv_aload o.x o.b d (lv_at hl j hj) (k H locs ls hP hS hl)
theorem g_lload_n (o : OK X cc own sd nL R l) {f : Fin 4} {i : Nat} {x : Int64} (j : Nat) (hj : lv[j]? = some (i, .long x)) (hi : (f : Nat) = i) (d : decode cc pc = .ok (.lload_n f, 1)) (hq : pc + 1 = q) (k : G X σ q lv (.long x :: rest)) : G X σ pc lv (rest) := fun H locs ls hP hS hl => by
  subst hq
  exact lv_lload_n o.x o.b d hi (lv_at hl j hj) (k H locs ls hP hS hl)
theorem g_lload (o : OK X cc own sd nL R l) {i : Nat} {x : Int64} (j : Nat) (hj : lv[j]? = some (i, .long x)) (d : decode cc pc = .ok (.lload i, 2)) (hq : pc + 2 = q) (k : G X σ q lv (.long x :: rest)) : G X σ pc lv (rest) := fun H locs ls hP hS hl => by
  subst hq
  exact lv_lload o.x o.b d (lv_at hl j hj) (k H locs ls hP hS hl)
theorem g_iadd (o : OK X cc own sd nL R l) {x y : Int32} (d : decode cc pc = .ok (.iadd, 1)) (hq : pc + 1 = q) (k : G X σ q lv (.int (x + y) :: rest)) : G X σ pc lv (.int y :: .int x :: rest) := fun H locs ls hP hS hl => by
  subst hq
  exact lv_iadd o.x o.b d (k H locs ls hP hS hl)
theorem g_isub (o : OK X cc own sd nL R l) {x y : Int32} (d : decode cc pc = .ok (.isub, 1)) (hq : pc + 1 = q) (k : G X σ q lv (.int (x - y) :: rest)) : G X σ pc lv (.int y :: .int x :: rest) := fun H locs ls hP hS hl => by
  subst hq
  exact lv_isub o.x o.b d (k H locs ls hP hS hl)
theorem g_imul (o : OK X cc own sd nL R l) {x y : Int32} (d : decode cc pc = .ok (.imul, 1)) (hq : pc + 1 = q) (k : G X σ q lv (.int (x * y) :: rest)) : G X σ pc lv (.int y :: .int x :: rest) := fun H locs ls hP hS hl => by
  subst hq
  exact lv_imul o.x o.b d (k H locs ls hP hS hl)
theorem g_iand (o : OK X cc own sd nL R l) {x y : Int32} (d : decode cc pc = .ok (.iand, 1)) (hq : pc + 1 = q) (k : G X σ q lv (.int (x &&& y) :: rest)) : G X σ pc lv (.int y :: .int x :: rest) := fun H locs ls hP hS hl => by
  subst hq
  exact lv_iand o.x o.b d (k H locs ls hP hS hl)
theorem g_ior (o : OK X cc own sd nL R l) {x y : Int32} (d : decode cc pc = .ok (.ior, 1)) (hq : pc + 1 = q) (k : G X σ q lv (.int (x ||| y) :: rest)) : G X σ pc lv (.int y :: .int x :: rest) := fun H locs ls hP hS hl => by
  subst hq
  exact lv_ior o.x o.b d (k H locs ls hP hS hl)
theorem g_ixor (o : OK X cc own sd nL R l) {x y : Int32} (d : decode cc pc = .ok (.ixor, 1)) (hq : pc + 1 = q) (k : G X σ q lv (.int (x ^^^ y) :: rest)) : G X σ pc lv (.int y :: .int x :: rest) := fun H locs ls hP hS hl => by
  subst hq
  exact lv_ixor o.x o.b d (k H locs ls hP hS hl)
theorem g_ishl (o : OK X cc own sd nL R l) {x y : Int32} (d : decode cc pc = .ok (.ishl, 1)) (hq : pc + 1 = q) (k : G X σ q lv (.int (x <<< (y &&& 31)) :: rest)) : G X σ pc lv (.int y :: .int x :: rest) := fun H locs ls hP hS hl => by
  subst hq
  exact lv_ishl o.x o.b d (k H locs ls hP hS hl)
theorem g_ishr (o : OK X cc own sd nL R l) {x y : Int32} (d : decode cc pc = .ok (.ishr, 1)) (hq : pc + 1 = q) (k : G X σ q lv (.int (x >>> (y &&& 31)) :: rest)) : G X σ pc lv (.int y :: .int x :: rest) := fun H locs ls hP hS hl => by
  subst hq
  exact lv_ishr o.x o.b d (k H locs ls hP hS hl)
theorem g_iushr (o : OK X cc own sd nL R l) {x y : Int32} (d : decode cc pc = .ok (.iushr, 1)) (hq : pc + 1 = q) (k : G X σ q lv (.int (x.toUInt32 >>> (y.toUInt32 &&& Int32.toUInt32 31)).toInt32 :: rest)) : G X σ pc lv (.int y :: .int x :: rest) := fun H locs ls hP hS hl => by
  subst hq
  exact lv_iushr o.x o.b d rfl (k H locs ls hP hS hl)
theorem g_idiv (o : OK X cc own sd nL R l) {x y : Int32} (hn : ¬ y = 0) (d : decode cc pc = .ok (.idiv, 1)) (hq : pc + 1 = q) (k : G X σ q lv (.int (x / y) :: rest)) : G X σ pc lv (.int y :: .int x :: rest) := fun H locs ls hP hS hl => by
  subst hq
  exact lv_idiv o.x o.b d hn (k H locs ls hP hS hl)
theorem g_irem (o : OK X cc own sd nL R l) {x y : Int32} (hn : ¬ y = 0) (d : decode cc pc = .ok (.irem, 1)) (hq : pc + 1 = q) (k : G X σ q lv (.int (x - x / y * y) :: rest)) : G X σ pc lv (.int y :: .int x :: rest) := fun H locs ls hP hS hl => by
  subst hq
  exact lv_irem o.x o.b d hn (k H locs ls hP hS hl)
theorem g_ladd (o : OK X cc own sd nL R l) {x y : Int64} (d : decode cc pc = .ok (.ladd, 1)) (hq : pc + 1 = q) (k : G X σ q lv (.long (x + y) :: rest)) : G X σ pc lv (.long y :: .long x :: rest) := fun H locs ls hP hS hl => by
  subst hq
  exact lv_ladd o.x o.b d (k H locs ls hP hS hl)
theorem g_lmul (o : OK X cc own sd nL R l) {x y : Int64} (d : decode cc pc = .ok (.lmul, 1)) (hq : pc + 1 = q) (k : G X σ q lv (.long (x * y) :: rest)) : G X σ pc lv (.long y :: .long x :: rest) := fun H locs ls hP hS hl => by
  subst hq
  exact lv_lmul o.x o.b d (k H locs ls hP hS hl)
theorem g_lcmp (o : OK X cc own sd nL R l) {x y : Int64} (d : decode cc pc = .ok (.lcmp, 1)) (hq : pc + 1 = q) (k : G X σ q lv (.int (lg_cmp x y) :: rest)) : G X σ pc lv (.long y :: .long x :: rest) := fun H locs ls hP hS hl => by
  subst hq
  exact W.lcmp o.x o.b d (k H locs ls hP hS hl)
theorem g_i2l (o : OK X cc own sd nL R l) {x : Int32} (d : decode cc pc = .ok (.i2l, 1)) (hq : pc + 1 = q) (k : G X σ q lv (.long x.toInt64 :: rest)) : G X σ pc lv (.int x :: rest) := fun H locs ls hP hS hl => by
  subst hq
  exact lv_i2l o.x o.b d rfl (k H locs ls hP hS hl)
theorem g_i2b (o : OK X cc own sd nL R l) {x : Int32} (d : decode cc pc = .ok (.i2b, 1)) (hq : pc + 1 = q) (k : G X σ q lv (.int x.toInt8.toInt32 :: rest)) : G X σ pc lv (.int x :: rest) := fun H locs ls hP hS hl => by
  subst hq
  exact lv_i2b o.x o.b d rfl (k H locs ls hP hS hl)
theorem g_i2s (o : OK X cc own sd nL R l) {x : Int32} (d : decode cc pc = .ok (.i2s, 1)) (hq : pc + 1 = q) (k : G X σ q lv (.int x.toInt16.toInt32 :: rest)) : G X σ pc lv (.int x :: rest) := fun H locs ls hP hS hl => by
  subst hq
  exact lv_i2s o.x o.b d rfl (k H locs ls hP hS hl)
theorem g_i2c (o : OK X cc own sd nL R l) {x : Int32} (d : decode cc pc = .ok (.i2c, 1)) (hq : pc + 1 = q) (k : G X σ q lv (.int (x.toUInt32 % 65536).toInt32 :: rest)) : G X σ pc lv (.int x :: rest) := fun H locs ls hP hS hl => by
  subst hq
  exact lv_i2c o.x o.b d rfl (k H locs ls hP hS hl)
theorem g_dup (o : OK X cc own sd nL R l) {a : Value} (ha : a.category = 1) (d : decode cc pc = .ok (.dup, 1)) (hq : pc + 1 = q) (k : G X σ q lv (a :: a :: rest)) : G X σ pc lv (a :: rest) := fun H locs ls hP hS hl => by
  subst hq
  exact lv_dup o.x o.b d ha (k H locs ls hP hS hl)
theorem g_dup2 (o : OK X cc own sd nL R l) {a b : Value} (ha : a.category = 1) (hb : b.category = 1) (d : decode cc pc = .ok (.dup2, 1)) (hq : pc + 1 = q) (k : G X σ q lv (a :: b :: a :: b :: rest)) : G X σ pc lv (a :: b :: rest) := fun H locs ls hP hS hl => by
  subst hq
  exact lv_dup2_11 o.x o.b d ha hb (k H locs ls hP hS hl)
theorem g_pop (o : OK X cc own sd nL R l) {a : Value} (ha : a.category = 1) (d : decode cc pc = .ok (.pop, 1)) (hq : pc + 1 = q) (k : G X σ q lv (rest)) : G X σ pc lv (a :: rest) := fun H locs ls hP hS hl => by
  subst hq
  exact lv_pop o.x o.b d ha (k H locs ls hP hS hl)
theorem g_goto (o : OK X cc own sd nL R l) {off : Int} {tgt : Nat} (d : decode cc pc = .ok (.goto off, 3)) (ht : (pc : Int) + off = (tgt : Int)) (k : G X σ tgt lv rest) : G X σ pc lv rest := fun H locs ls hP hS hl => lv_goto o.x o.b d ht (k H locs ls hP hS hl)
theorem g_istore_n (o : OK X cc own sd nL R l) {f : Fin 4} {i : Nat} {x : Int32} {K : Int32 → Option ρ} (d : decode cc pc = .ok (.istore_n f, 1)) (hq : pc + 1 = q) (hi : (f : Nat) = i) (hn : i < nL) (h : vL x K = some res) (lv' : Int32 → LV) (hl' : ∀ x, (i, Value.int x) :: lv.filter (fun q => !(q.1 == i) && !(q.1 + 1 == i && q.2.category == 2)) = lv' x) (k : ∀ x, K x = some res → G X σ q (lv' x) rest) : G X σ pc lv (.int x :: rest) := fun H locs ls hP hS hl => by
  subst hq
  exact lv_istore_n o.x o.b d hi hl (by rw [o.n]; exact hn) (hl' x) (fun ls' h' => k x h H locs ls' hP hS h')
theorem g_istore (o : OK X cc own sd nL R l) {i : Nat} {x : Int32} {K : Int32 → Option ρ} (d : decode cc pc = .ok (.istore i, 2)) (hq : pc + 2 = q) (hn : i < nL) (h : vL x K = some res) (lv' : Int32 → LV) (hl' : ∀ x, (i, Value.int x) :: lv.filter (fun q => !(q.1 == i) && !(q.1 + 1 == i && q.2.category == 2)) = lv' x) (k : ∀ x, K x = some res → G X σ q (lv' x) rest) : G X σ pc lv (.int x :: rest) := fun H locs ls hP hS hl => by
  subst hq
  exact lv_istore o.x o.b d hl (by rw [o.n]; exact hn) (hl' x) (fun ls' h' => k x h H locs ls' hP hS h')
theorem g_lstore (o : OK X cc own sd nL R l) {i : Nat} {x : Int64} {K : Int64 → Option ρ} (d : decode cc pc = .ok (.lstore i, 2)) (hq : pc + 2 = q) (hn : i + 1 < nL) (h : vL x K = some res) (lv' : Int64 → LV) (hl' : ∀ x, (i, Value.long x) :: lv.filter (fun q => !(q.1 == i) && (!(q.1 == i + 1) && !(q.1 + 1 == i && q.2.category == 2))) = lv' x) (k : ∀ x, K x = some res → G X σ q (lv' x) rest) : G X σ pc lv (.long x :: rest) := fun H locs ls hP hS hl => by
  subst hq
  exact lv_lstore o.x o.b d hl (by rw [o.n]; exact hn) (hl' x) (fun ls' h' => k x h H locs ls' hP hS h')
theorem g_astore_n (o : OK X cc own sd nL R l) {f : Fin 4} {i x : Nat} (d : decode cc pc = .ok (.astore_n f, 1)) (hq : pc + 1 = q) (hi : (f : Nat) = i) (hn : i < nL) (lv' : LV) (hl' : (i, Value.ref x) :: lv.filter (fun q => !(q.1 == i) && !(q.1 + 1 == i && q.2.category == 2)) = lv') (k : G X σ q lv' rest) : G X σ pc lv (.ref x :: rest) := fun H locs ls hP hS hl => by
  subst hq
  exact lv_astore_n o.x o.b d hi hl (by rw [o.n]; exact hn) hl' (fun ls' h' => k H locs ls' hP hS h')
theorem g_astore (o : OK X cc own sd nL R l) {i x : Nat} (d : decode cc pc = .ok (.astore i, 2)) (hq : pc + 2 = q) (hn : i < nL) (lv' : LV) (hl' : (i, Value.ref x) :: lv.filter (fun q => !(q.1 == i) && !(q.1 + 1 == i && q.2.category == 2)) = lv') (k : G X σ q lv' rest) : G X σ pc lv (.ref x :: rest) := fun H locs ls hP hS hl => by
  subst hq
  exact lv_astore o.x o.b d hl (by rw [o.n]; exact hn) hl' (fun ls' h' => k H locs ls' hP hS h')
theorem g_iinc (o : OK X cc own sd nL R l) {i : Nat} {n : Int} {x dn : Int32} {K : Int32 → Option ρ} (d : decode cc pc = .ok (.iinc i n, 3)) (hq : pc + 3 = q) (j : Nat) (hj : lv[j]? = some (i, .int x)) (hdn : Int32.ofInt n = dn) (hn : i < nL) (h : vL (x + dn) K = some res) (lv' : Int32 → LV) (hl' : ∀ x, (i, Value.int x) :: lv.filter (fun q => !(q.1 == i) && !(q.1 + 1 == i && q.2.category == 2)) = lv' x) (k : ∀ x, K x = some res → G X σ q (lv' x) rest) : G X σ pc lv rest := fun H locs ls hP hS hl => by
  subst hq
  exact lv_iinc o.x o.b d hl hj (by rw [hdn]) (by rw [o.n]; exact hn) (hl' (x + dn)) (fun ls' h' => k (x + dn) h H locs ls' hP hS h')
theorem g_icmp_eq (o : OK X cc own sd nL R l) {x y : Int32} {off : Int} {tgt : Nat} {A B : Option ρ} (d : decode cc pc = .ok (.if_icmp .eq off, 3)) (ht : (pc : Int) + off = (tgt : Int)) (hq : pc + 3 = q) (h : (if x = y then A else B) = some res) (kt : A = some res → G X σ tgt lv rest) (kf : B = some res → G X σ q lv rest) : G X σ pc lv (.int y :: .int x :: rest) := fun H locs ls hP hS hl => by
  subst hq
  exact lv_icmp_eq o.x o.b d ht (fun c => kt (by rw [if_pos c] at h; exact h) H locs ls hP hS hl) (fun c => kf (by rw [if_neg c] at h; exact h) H locs ls hP hS hl)
theorem g_if_eq (o : OK X cc own sd nL R l) {x : Int32} {off : Int} {tgt : Nat} {A B : Option ρ} (d : decode cc pc = .ok (.ifCond .eq off, 3)) (ht : (pc : Int) + off = (tgt : Int)) (hq : pc + 3 = q) (h : (if x = 0 then A else B) = some res) (kt : A = some res → G X σ tgt lv rest) (kf : B = some res → G X σ q lv rest) : G X σ pc lv (.int x :: rest) := fun H locs ls hP hS hl => by
  subst hq
  exact lv_if_eq o.x o.b d ht (fun c => kt (by rw [if_pos c] at h; exact h) H locs ls hP hS hl) (fun c => kf (by rw [if_neg c] at h; exact h) H locs ls hP hS hl)
theorem g_icmp_lt (o : OK X cc own sd nL R l) {x y : Int32} {off : Int} {tgt : Nat} {A B : Option ρ} (d : decode cc pc = .ok (.if_icmp .lt off, 3)) (ht : (pc : Int) + off = (tgt : Int)) (hq : pc + 3 = q) (h : (if x < y then A else B) = some res) (kt : A = some res → G X σ tgt lv rest) (kf : B = some res → G X σ q lv rest) : G X σ pc lv (.int y :: .int x :: rest) := fun H locs ls hP hS hl => by
  subst hq
  exact lv_icmp_lt o.x o.b d ht (fun c => kt (by rw [if_pos c] at h; exact h) H locs ls hP hS hl) (fun c => kf (by rw [if_neg c] at h; exact h) H locs ls hP hS hl)
theorem g_if_lt (o : OK X cc own sd nL R l) {x : Int32} {off : Int} {tgt : Nat} {A B : Option ρ} (d : decode cc pc = .ok (.ifCond .lt off, 3)) (ht : (pc : Int) + off = (tgt : Int)) (hq : pc + 3 = q) (h : (if x < 0 then A else B) = some res) (kt : A = some res → G X σ tgt lv rest) (kf : B = some res → G X σ q lv rest) : G X σ pc lv (.int x :: rest) := fun H locs ls hP hS hl => by
  subst hq
  exact lv_if_lt o.x o.b d ht (fun c => kt (by rw [if_pos c] at h; exact h) H locs ls hP hS hl) (fun c => kf (by rw [if_neg c] at h; exact h) H locs ls hP hS hl)
theorem g_icmp_ge (o : OK X cc own sd nL R l) {x y : Int32} {off : Int} {tgt : Nat} {A B : Option ρ} (d : decode cc pc = .ok (.if_icmp .ge off, 3)) (ht : (pc : Int) + off = (tgt : Int)) (hq : pc + 3 = q) (h : (if y ≤ x then A else B) = some res) (kt : A = some res → G X σ tgt lv rest) (kf : B = some res → G X σ q lv rest) : G X σ pc lv (.int y :: .int x :: rest) := fun H locs ls hP hS hl => by
  subst hq
  exact lv_icmp_ge o.x o.b d ht (fun c => kt (by rw [if_pos c] at h; exact h) H locs ls hP hS hl) (fun c => kf (by rw [if_neg c] at h; exact h) H locs ls hP hS hl)
theorem g_if_ge (o : OK X cc own sd nL R l) {x : Int32} {off : Int} {tgt : Nat} {A B : Option ρ} (d : decode cc pc = .ok (.ifCond .ge off, 3)) (ht : (pc : Int) + off = (tgt : Int)) (hq : pc + 3 = q) (h : (if 0 ≤ x then A else B) = some res) (kt : A = some res → G X σ tgt lv rest) (kf : B = some res → G X σ q lv rest) : G X σ pc lv (.int x :: rest) := fun H locs ls hP hS hl => by
  subst hq
  exact lv_if_ge o.x o.b d ht (fun c => kt (by rw [if_pos c] at h; exact h) H locs ls hP hS hl) (fun c => kf (by rw [if_neg c] at h; exact h) H locs ls hP hS hl)
theorem g_icmp_gt (o : OK X cc own sd nL R l) {x y : Int32} {off : Int} {tgt : Nat} {A B : Option ρ} (d : decode cc pc = .ok (.if_icmp .gt off, 3)) (ht : (pc : Int) + off = (tgt : Int)) (hq : pc + 3 = q) (h : (if y < x then A else B) = some res) (kt : A = some res → G X σ tgt lv rest) (kf : B = some res → G X σ q lv rest) : G X σ pc lv (.int y :: .int x :: rest) := fun H locs ls hP hS hl => by
  subst hq
  exact lv_icmp_gt o.x o.b d ht (fun c => kt (by rw [if_pos c] at h; exact h) H locs ls hP hS hl) (fun c => kf (by rw [if_neg c] at h; exact h) H locs ls hP hS hl)
theorem g_if_gt (o : OK X cc own sd nL R l) {x : Int32} {off : Int} {tgt : Nat} {A B : Option ρ} (d : decode cc pc = .ok (.ifCond .gt off, 3)) (ht : (pc : Int) + off = (tgt : Int)) (hq : pc + 3 = q) (h : (if 0 < x then A else B) = some res) (kt : A = some res → G X σ tgt lv rest) (kf : B = some res → G X σ q lv rest) : G X σ pc lv (.int x :: rest) := fun H locs ls hP hS hl => by
  subst hq
  exact lv_if_gt o.x o.b d ht (fun c => kt (by rw [if_pos c] at h; exact h) H locs ls hP hS hl) (fun c => kf (by rw [if_neg c] at h; exact h) H locs ls hP hS hl)
theorem g_icmp_le (o : OK X cc own sd nL R l) {x y : Int32} {off : Int} {tgt : Nat} {A B : Option ρ} (d : decode cc pc = .ok (.if_icmp .le off, 3)) (ht : (pc : Int) + off = (tgt : Int)) (hq : pc + 3 = q) (h : (if x ≤ y then A else B) = some res) (kt : A = some res → G X σ tgt lv rest) (kf : B = some res → G X σ q lv rest) : G X σ pc lv (.int y :: .int x :: rest) := fun H locs ls hP hS hl => by
  subst hq
  exact lv_icmp_le o.x o.b d ht (fun c => kt (by rw [if_pos c] at h; exact h) H locs ls hP hS hl) (fun c => kf (by rw [if_neg c] at h; exact h) H locs ls hP hS hl)
theorem g_if_le (o : OK X cc own sd nL R l) {x : Int32} {off : Int} {tgt : Nat} {A B : Option ρ} (d : decode cc pc = .ok (.ifCond .le off, 3)) (ht : (pc : Int) + off = (tgt : Int)) (hq : pc + 3 = q) (h : (if x ≤ 0 then A else B) = some res) (kt : A = some res → G X σ tgt lv rest) (kf : B = some res → G X σ q lv rest) : G X σ pc lv (.int x :: rest) := fun H locs ls hP hS hl => by
  subst hq
  exact lv_if_le o.x o.b d ht (fun c => kt (by rw [if_pos c] at h; exact h) H locs ls hP hS hl) (fun c => kf (by rw [if_neg c] at h; exact h) H locs ls hP hS hl)
theorem g_icmp_ne (o : OK X cc own sd nL R l) {x y : Int32} {off : Int} {tgt : Nat} {A B : Option ρ} (d : decode cc pc = .ok (.if_icmp .ne off, 3)) (ht : (pc : Int) + off = (tgt : Int)) (hq : pc + 3 = q) (h : (if x = y then B else A) = some res) (kt : A = some res → G X σ tgt lv rest) (kf : B = some res → G X σ q lv rest) : G X σ pc lv (.int y :: .int x :: rest) := fun H locs ls hP hS hl => by
  subst hq
  exact lv_icmp_ne o.x o.b d ht (fun c => kt (by rw [if_neg c] at h; exact h) H locs ls hP hS hl) (fun c => kf (by rw [if_pos c] at h; exact h) H locs ls hP hS hl)
theorem g_if_ne (o : OK X cc own sd nL R l) {x : Int32} {off : Int} {tgt : Nat} {A B : Option ρ} (d : decode cc pc = .ok (.ifCond .ne off, 3)) (ht : (pc : Int) + off = (tgt : Int)) (hq : pc + 3 = q) (h : (if x = 0 then B else A) = some res) (kt : A = some res → G X σ tgt lv rest) (kf : B = some res → G X σ q lv rest) : G X σ pc lv (.int x :: rest) := fun H locs ls hP hS hl => by
  subst hq
  exact lv_if_ne o.x o.b d ht (fun c => kt (by rw [if_neg c] at h; exact h) H locs ls hP hS hl) (fun c => kf (by rw [if_pos c] at h; exact h) H locs ls hP hS hl)
theorem g_swIn (o : OK X cc own sd nL R l) {dflt lo hi : Int} {offs : Array Int} {len tgt : Nat} {off : Int} {x : Int32} (v : Int32) {A B : Option ρ} (d : decode cc pc = .ok (.tableswitch dflt lo hi offs, len)) (h1 : ¬ v.toInt < lo) (h2 : ¬ hi < v.toInt) (ho : offs[(v.toInt - lo).toNat]? = some off) (ht : (pc : Int) + off = (tgt : Int)) (h : (if x = v then A else B) = some res) (kt : A = some res → G X σ tgt lv rest) (kf : ¬ x = v → B = some res → G X σ pc lv (.int x :: rest)) : G X σ pc lv (.int x :: rest) := by
  by_cases c : x = v
  · rw [if_pos c] at h
    subst c
    exact fun H locs ls hP hS hl => lv_tableIn o.x o.b d h1 h2 ho ht (kt h H locs ls hP hS hl)
  · rw [if_neg c] at h
    exact kf c h
theorem g_swOut (o : OK X cc own sd nL R l) {dflt lo hi : Int} {offs : Array Int} {len tgt : Nat} {x : Int32} (d : decode cc pc = .ok (.tableswitch dflt lo hi offs, len)) (h1 : x.toInt < lo ∨ hi < x.toInt) (ht : (pc : Int) + dflt = (tgt : Int)) (k : G X σ tgt lv rest) : G X σ pc lv (.int x :: rest) := fun H locs ls hP hS hl => lv_tableOut o.x o.b d h1 ht (k H locs ls hP hS hl)
theorem sw_out {x : Int32} {lo hi : Int} (hlo : -2147483648 ≤ lo) (hhi : hi ≤ 2147483647) (h : ∀ k : Int, lo ≤ k → k ≤ hi → ¬ x = Int32.ofInt k) : x.toInt < lo ∨ hi < x.toInt := by
  by_cases c : x.toInt < lo ∨ hi < x.toInt
  · exact c
  · refine absurd ?_ (h x.toInt (by omega) (by omega))
    simp
theorem g_looksw (o : OK X cc own sd nL R l) {dflt : Int} {ps : Array (Int × Int)} {len : Nat} {off : Int} {tgt : Nat} {x : Int32} (d : decode cc pc = .ok (.lookupswitch dflt ps, len)) (hp : (ps.toList.zip (ps.toList.drop 1)).all (fun (a, next) => a.1 < next.1) = true) (ho : Op.lookupswitch.offset ps.toList dflt x.toInt = off) (ht : (pc : Int) + off = (tgt : Int)) (k : G X σ tgt lv rest) : G X σ pc lv (.int x :: rest) := fun H locs ls hP hS hl => lv_lookup o.x o.b d hp ho ht (k H locs ls hP hS hl)

end ROWS
end
section
theorem wt_ac1 : Cond.native arraycopyName ∈ wt := wt_t 376 (by decide +kernel) (by decide +kernel)
theorem wt_ac2 : Cond.static arraycopyName ∈ wt := wt_t 375 (by decide +kernel) (by decide +kernel)
theorem wt_ac3 : Cond.initialized "java/lang/System" ∈ wt := wt_t 9 (by decide +kernel) (by decide +kernel)
theorem wt_mth : Cond.initialized "java/lang/Math" ∈ wt := wt_t 7 (by decide +kernel) (by decide +kernel)
theorem wt_mx1 : Cond.static Lib.Math.max.name ∈ wt := wt_t 300 (by decide +kernel) (by decide +kernel)
theorem wt_mx2 : Cond.code Lib.Math.max.name Lib.Math.max.code 2 (some .int) ∈ wt := wt_t 301 (by decide +kernel) (by decide +kernel)
theorem wt_mn1 : Cond.static Lib.Math.min.name ∈ wt := wt_t 238 (by decide +kernel) (by decide +kernel)
theorem wt_mn2 : Cond.code Lib.Math.min.name Lib.Math.min.code 2 (some .int) ∈ wt := wt_t 239 (by decide +kernel) (by decide +kernel)
section MROWS
variable {X : Cx} {cc : ByteArray} {own : String} {sd : Nat → Prop} {nL : Nat} {R : Room} {l : Launch} {σ : Mem} {pc q i : Nat} {lv : LV} {rest : List Value} {ρ : Type} {res : ρ}
theorem wsWset {σ : Mem} {i : Nat} {r : Nat → Int32} {e : va_E} {E : En} {mk : Mem → Mem} {H : Heap} (hs : sd i) (hi : i < 62) (hm : MK mk sd) (hc : cel E i r = e) (hP : va_P (eD E) vwCl ((wsW E (mk σ)).set i (eA E i, e)) H) : va_P (eD E) vwCl (wsW E (mk (setr σ i r))) H := by
  rw [hm.2 σ i r hs, ← ws_set hi hc]
  exact hP
theorem cel_X0 {E : En} {i : Nat} {r : Nat → Int32} (hk : ck i = 0) : cel E i r = .inr (0, [.int (r 0), .int (r 1), .int (r 2), .int (r 3), .int (r 4), .int (r 5)]) := by
  unfold cel
  rw [hk]
  rfl
theorem cell_X0 {E : En} {mk : Mem → Mem} {i : Nat} {σ : Mem} (hk : kd sd i 0) (hm : MK mk sd) : (wsW E (mk σ))[i]? = some (eA E i, .inr (0, [.int (σ i 0), .int (σ i 1), .int (σ i 2), .int (σ i 3), .int (σ i 4), .int (σ i 5)])) := by
  rw [ws_get hk.2.1, hm.1 σ i hk.1, cel_X0 hk.2.2]
theorem gf_X0_0 (o : OK X cc own sd nL R l) (hk : kd sd i 0) {index : Nat} (hf : Cond.fieldLink own index "CurtainHouse$Curtain" "kind" "I" ∈ wt) (d : decode cc pc = .ok (.getfield index, 3)) (hq : pc + 3 = q) (k : G X σ q lv (.int (σ i 0) :: rest)) : G X σ pc lv (.ref (eA (xE X) i) :: rest) := fun H locs ls hP hS hl => by
  subst hq
  exact va_get (ci := 0) (C := RX0) (T := TX0) (N := 6) o.x o.b o.ts in_X0 o.ow o.ck.1 hP i (cell_X0 hk o.mk) rfl 0 (by decide) (o.ts _ hf) (fun _ h => h) rfl d (k H locs ls hP hS hl)
theorem gp_X0_0 (o : OK X cc own sd nL R l) (hk : kd sd i 0) {index : Nat} (hf : Cond.fieldLink own index "CurtainHouse$Curtain" "kind" "I" ∈ wt) (d : decode cc pc = .ok (.putfield index, 3)) (hq : pc + 3 = q) {v : Int32} {K : Mem → Option ρ} (h : vW σ i 0 v K = some res) (k : ∀ σ, K σ = some res → G X σ q lv rest) : G X σ pc lv (.int v :: .ref (eA (xE X) i) :: rest) := fun H locs ls hP hS hl => by
  subst hq
  refine va_put (ci := 0) (C := RX0) (T := TX0) (N := 6) (ty := .int) (v := .int v) o.x o.b o.ts in_X0 tyX0 tyX0_ok nmX0 o.ow o.ck.1 hP (o.D _) hS i (cell_X0 hk o.mk) rfl 0 (by decide) (o.ts _ hf) (fun _ h => h) rfl (by decide +kernel) rfl rfl (Nat.le_of_ble_eq_true rfl) d (fun H1 locs1 hP1 _ hS1 => ?_)
  exact k (up2 σ i 0 v) h H1 locs1 ls (wsWset (r := upd (σ i) 0 v) hk.1 hk.2.1 o.mk (by rw [cel_X0 hk.2.2]; rfl) hP1) hS1 hl
theorem gf_X0_1 (o : OK X cc own sd nL R l) (hk : kd sd i 0) {index : Nat} (hf : Cond.fieldLink own index "CurtainHouse$Curtain" "mood" "I" ∈ wt) (d : decode cc pc = .ok (.getfield index, 3)) (hq : pc + 3 = q) (k : G X σ q lv (.int (σ i 1) :: rest)) : G X σ pc lv (.ref (eA (xE X) i) :: rest) := fun H locs ls hP hS hl => by
  subst hq
  exact va_get (ci := 0) (C := RX0) (T := TX0) (N := 6) o.x o.b o.ts in_X0 o.ow o.ck.1 hP i (cell_X0 hk o.mk) rfl 1 (by decide) (o.ts _ hf) (fun _ h => h) rfl d (k H locs ls hP hS hl)
theorem gp_X0_1 (o : OK X cc own sd nL R l) (hk : kd sd i 0) {index : Nat} (hf : Cond.fieldLink own index "CurtainHouse$Curtain" "mood" "I" ∈ wt) (d : decode cc pc = .ok (.putfield index, 3)) (hq : pc + 3 = q) {v : Int32} {K : Mem → Option ρ} (h : vW σ i 1 v K = some res) (k : ∀ σ, K σ = some res → G X σ q lv rest) : G X σ pc lv (.int v :: .ref (eA (xE X) i) :: rest) := fun H locs ls hP hS hl => by
  subst hq
  refine va_put (ci := 0) (C := RX0) (T := TX0) (N := 6) (ty := .int) (v := .int v) o.x o.b o.ts in_X0 tyX0 tyX0_ok nmX0 o.ow o.ck.1 hP (o.D _) hS i (cell_X0 hk o.mk) rfl 1 (by decide) (o.ts _ hf) (fun _ h => h) rfl (by decide +kernel) rfl rfl (Nat.le_of_ble_eq_true rfl) d (fun H1 locs1 hP1 _ hS1 => ?_)
  exact k (up2 σ i 1 v) h H1 locs1 ls (wsWset (r := upd (σ i) 1 v) hk.1 hk.2.1 o.mk (by rw [cel_X0 hk.2.2]; rfl) hP1) hS1 hl
theorem gf_X0_2 (o : OK X cc own sd nL R l) (hk : kd sd i 0) {index : Nat} (hf : Cond.fieldLink own index "CurtainHouse$Curtain" "likes" "I" ∈ wt) (d : decode cc pc = .ok (.getfield index, 3)) (hq : pc + 3 = q) (k : G X σ q lv (.int (σ i 2) :: rest)) : G X σ pc lv (.ref (eA (xE X) i) :: rest) := fun H locs ls hP hS hl => by
  subst hq
  exact va_get (ci := 0) (C := RX0) (T := TX0) (N := 6) o.x o.b o.ts in_X0 o.ow o.ck.1 hP i (cell_X0 hk o.mk) rfl 2 (by decide) (o.ts _ hf) (fun _ h => h) rfl d (k H locs ls hP hS hl)
theorem gp_X0_2 (o : OK X cc own sd nL R l) (hk : kd sd i 0) {index : Nat} (hf : Cond.fieldLink own index "CurtainHouse$Curtain" "likes" "I" ∈ wt) (d : decode cc pc = .ok (.putfield index, 3)) (hq : pc + 3 = q) {v : Int32} {K : Mem → Option ρ} (h : vW σ i 2 v K = some res) (k : ∀ σ, K σ = some res → G X σ q lv rest) : G X σ pc lv (.int v :: .ref (eA (xE X) i) :: rest) := fun H locs ls hP hS hl => by
  subst hq
  refine va_put (ci := 0) (C := RX0) (T := TX0) (N := 6) (ty := .int) (v := .int v) o.x o.b o.ts in_X0 tyX0 tyX0_ok nmX0 o.ow o.ck.1 hP (o.D _) hS i (cell_X0 hk o.mk) rfl 2 (by decide) (o.ts _ hf) (fun _ h => h) rfl (by decide +kernel) rfl rfl (Nat.le_of_ble_eq_true rfl) d (fun H1 locs1 hP1 _ hS1 => ?_)
  exact k (up2 σ i 2 v) h H1 locs1 ls (wsWset (r := upd (σ i) 2 v) hk.1 hk.2.1 o.mk (by rw [cel_X0 hk.2.2]; rfl) hP1) hS1 hl
theorem gf_X0_3 (o : OK X cc own sd nL R l) (hk : kd sd i 0) {index : Nat} (hf : Cond.fieldLink own index "CurtainHouse$Curtain" "high" "I" ∈ wt) (d : decode cc pc = .ok (.getfield index, 3)) (hq : pc + 3 = q) (k : G X σ q lv (.int (σ i 3) :: rest)) : G X σ pc lv (.ref (eA (xE X) i) :: rest) := fun H locs ls hP hS hl => by
  subst hq
  exact va_get (ci := 0) (C := RX0) (T := TX0) (N := 6) o.x o.b o.ts in_X0 o.ow o.ck.1 hP i (cell_X0 hk o.mk) rfl 3 (by decide) (o.ts _ hf) (fun _ h => h) rfl d (k H locs ls hP hS hl)
theorem gp_X0_3 (o : OK X cc own sd nL R l) (hk : kd sd i 0) {index : Nat} (hf : Cond.fieldLink own index "CurtainHouse$Curtain" "high" "I" ∈ wt) (d : decode cc pc = .ok (.putfield index, 3)) (hq : pc + 3 = q) {v : Int32} {K : Mem → Option ρ} (h : vW σ i 3 v K = some res) (k : ∀ σ, K σ = some res → G X σ q lv rest) : G X σ pc lv (.int v :: .ref (eA (xE X) i) :: rest) := fun H locs ls hP hS hl => by
  subst hq
  refine va_put (ci := 0) (C := RX0) (T := TX0) (N := 6) (ty := .int) (v := .int v) o.x o.b o.ts in_X0 tyX0 tyX0_ok nmX0 o.ow o.ck.1 hP (o.D _) hS i (cell_X0 hk o.mk) rfl 3 (by decide) (o.ts _ hf) (fun _ h => h) rfl (by decide +kernel) rfl rfl (Nat.le_of_ble_eq_true rfl) d (fun H1 locs1 hP1 _ hS1 => ?_)
  exact k (up2 σ i 3 v) h H1 locs1 ls (wsWset (r := upd (σ i) 3 v) hk.1 hk.2.1 o.mk (by rw [cel_X0 hk.2.2]; rfl) hP1) hS1 hl
theorem gf_X0_4 (o : OK X cc own sd nL R l) (hk : kd sd i 0) {index : Nat} (hf : Cond.fieldLink own index "CurtainHouse$Curtain" "tied" "I" ∈ wt) (d : decode cc pc = .ok (.getfield index, 3)) (hq : pc + 3 = q) (k : G X σ q lv (.int (σ i 4) :: rest)) : G X σ pc lv (.ref (eA (xE X) i) :: rest) := fun H locs ls hP hS hl => by
  subst hq
  exact va_get (ci := 0) (C := RX0) (T := TX0) (N := 6) o.x o.b o.ts in_X0 o.ow o.ck.1 hP i (cell_X0 hk o.mk) rfl 4 (by decide) (o.ts _ hf) (fun _ h => h) rfl d (k H locs ls hP hS hl)
theorem gp_X0_4 (o : OK X cc own sd nL R l) (hk : kd sd i 0) {index : Nat} (hf : Cond.fieldLink own index "CurtainHouse$Curtain" "tied" "I" ∈ wt) (d : decode cc pc = .ok (.putfield index, 3)) (hq : pc + 3 = q) {v : Int32} {K : Mem → Option ρ} (h : vW σ i 4 v K = some res) (k : ∀ σ, K σ = some res → G X σ q lv rest) : G X σ pc lv (.int v :: .ref (eA (xE X) i) :: rest) := fun H locs ls hP hS hl => by
  subst hq
  refine va_put (ci := 0) (C := RX0) (T := TX0) (N := 6) (ty := .int) (v := .int v) o.x o.b o.ts in_X0 tyX0 tyX0_ok nmX0 o.ow o.ck.1 hP (o.D _) hS i (cell_X0 hk o.mk) rfl 4 (by decide) (o.ts _ hf) (fun _ h => h) rfl (by decide +kernel) rfl rfl (Nat.le_of_ble_eq_true rfl) d (fun H1 locs1 hP1 _ hS1 => ?_)
  exact k (up2 σ i 4 v) h H1 locs1 ls (wsWset (r := upd (σ i) 4 v) hk.1 hk.2.1 o.mk (by rw [cel_X0 hk.2.2]; rfl) hP1) hS1 hl
theorem gf_X0_5 (o : OK X cc own sd nL R l) (hk : kd sd i 0) {index : Nat} (hf : Cond.fieldLink own index "CurtainHouse$Curtain" "downs" "I" ∈ wt) (d : decode cc pc = .ok (.getfield index, 3)) (hq : pc + 3 = q) (k : G X σ q lv (.int (σ i 5) :: rest)) : G X σ pc lv (.ref (eA (xE X) i) :: rest) := fun H locs ls hP hS hl => by
  subst hq
  exact va_get (ci := 0) (C := RX0) (T := TX0) (N := 6) o.x o.b o.ts in_X0 o.ow o.ck.1 hP i (cell_X0 hk o.mk) rfl 5 (by decide) (o.ts _ hf) (fun _ h => h) rfl d (k H locs ls hP hS hl)
theorem gp_X0_5 (o : OK X cc own sd nL R l) (hk : kd sd i 0) {index : Nat} (hf : Cond.fieldLink own index "CurtainHouse$Curtain" "downs" "I" ∈ wt) (d : decode cc pc = .ok (.putfield index, 3)) (hq : pc + 3 = q) {v : Int32} {K : Mem → Option ρ} (h : vW σ i 5 v K = some res) (k : ∀ σ, K σ = some res → G X σ q lv rest) : G X σ pc lv (.int v :: .ref (eA (xE X) i) :: rest) := fun H locs ls hP hS hl => by
  subst hq
  refine va_put (ci := 0) (C := RX0) (T := TX0) (N := 6) (ty := .int) (v := .int v) o.x o.b o.ts in_X0 tyX0 tyX0_ok nmX0 o.ow o.ck.1 hP (o.D _) hS i (cell_X0 hk o.mk) rfl 5 (by decide) (o.ts _ hf) (fun _ h => h) rfl (by decide +kernel) rfl rfl (Nat.le_of_ble_eq_true rfl) d (fun H1 locs1 hP1 _ hS1 => ?_)
  exact k (up2 σ i 5 v) h H1 locs1 ls (wsWset (r := upd (σ i) 5 v) hk.1 hk.2.1 o.mk (by rw [cel_X0 hk.2.2]; rfl) hP1) hS1 hl
theorem cel_X1 {E : En} {i : Nat} {r : Nat → Int32} (hk : ck i = 1) : cel E i r = .inr (1, [.int (r 0), .int (r 1), .int (r 2), .int (r 3), .int (r 4), .int (r 5), .ref (eA E (i + 1)), .ref (eA E (i + 2)), .ref (eA E (i + 3))]) := by
  unfold cel
  rw [hk]
  rfl
theorem cell_X1 {E : En} {mk : Mem → Mem} {i : Nat} {σ : Mem} (hk : kd sd i 1) (hm : MK mk sd) : (wsW E (mk σ))[i]? = some (eA E i, .inr (1, [.int (σ i 0), .int (σ i 1), .int (σ i 2), .int (σ i 3), .int (σ i 4), .int (σ i 5), .ref (eA E (i + 1)), .ref (eA E (i + 2)), .ref (eA E (i + 3))])) := by
  rw [ws_get hk.2.1, hm.1 σ i hk.1, cel_X1 hk.2.2]
theorem gf_X1_0 (o : OK X cc own sd nL R l) (hk : kd sd i 1) {index : Nat} (hf : Cond.fieldLink own index "CurtainHouse$House" "fire" "I" ∈ wt) (d : decode cc pc = .ok (.getfield index, 3)) (hq : pc + 3 = q) (k : G X σ q lv (.int (σ i 0) :: rest)) : G X σ pc lv (.ref (eA (xE X) i) :: rest) := fun H locs ls hP hS hl => by
  subst hq
  exact va_get (ci := 1) (C := RX1) (T := TX1) (N := 9) o.x o.b o.ts in_X1 o.ow o.ck.1 hP i (cell_X1 hk o.mk) rfl 0 (by decide) (o.ts _ hf) (fun _ h => h) rfl d (k H locs ls hP hS hl)
theorem gp_X1_0 (o : OK X cc own sd nL R l) (hk : kd sd i 1) {index : Nat} (hf : Cond.fieldLink own index "CurtainHouse$House" "fire" "I" ∈ wt) (d : decode cc pc = .ok (.putfield index, 3)) (hq : pc + 3 = q) {v : Int32} {K : Mem → Option ρ} (h : vW σ i 0 v K = some res) (k : ∀ σ, K σ = some res → G X σ q lv rest) : G X σ pc lv (.int v :: .ref (eA (xE X) i) :: rest) := fun H locs ls hP hS hl => by
  subst hq
  refine va_put (ci := 1) (C := RX1) (T := TX1) (N := 9) (ty := .int) (v := .int v) o.x o.b o.ts in_X1 tyX1 tyX1_ok nmX1 o.ow o.ck.1 hP (o.D _) hS i (cell_X1 hk o.mk) rfl 0 (by decide) (o.ts _ hf) (fun _ h => h) rfl (by decide +kernel) rfl rfl (Nat.le_of_ble_eq_true rfl) d (fun H1 locs1 hP1 _ hS1 => ?_)
  exact k (up2 σ i 0 v) h H1 locs1 ls (wsWset (r := upd (σ i) 0 v) hk.1 hk.2.1 o.mk (by rw [cel_X1 hk.2.2]; rfl) hP1) hS1 hl
theorem gf_X1_1 (o : OK X cc own sd nL R l) (hk : kd sd i 1) {index : Nat} (hf : Cond.fieldLink own index "CurtainHouse$House" "cut" "I" ∈ wt) (d : decode cc pc = .ok (.getfield index, 3)) (hq : pc + 3 = q) (k : G X σ q lv (.int (σ i 1) :: rest)) : G X σ pc lv (.ref (eA (xE X) i) :: rest) := fun H locs ls hP hS hl => by
  subst hq
  exact va_get (ci := 1) (C := RX1) (T := TX1) (N := 9) o.x o.b o.ts in_X1 o.ow o.ck.1 hP i (cell_X1 hk o.mk) rfl 1 (by decide) (o.ts _ hf) (fun _ h => h) rfl d (k H locs ls hP hS hl)
theorem gp_X1_1 (o : OK X cc own sd nL R l) (hk : kd sd i 1) {index : Nat} (hf : Cond.fieldLink own index "CurtainHouse$House" "cut" "I" ∈ wt) (d : decode cc pc = .ok (.putfield index, 3)) (hq : pc + 3 = q) {v : Int32} {K : Mem → Option ρ} (h : vW σ i 1 v K = some res) (k : ∀ σ, K σ = some res → G X σ q lv rest) : G X σ pc lv (.int v :: .ref (eA (xE X) i) :: rest) := fun H locs ls hP hS hl => by
  subst hq
  refine va_put (ci := 1) (C := RX1) (T := TX1) (N := 9) (ty := .int) (v := .int v) o.x o.b o.ts in_X1 tyX1 tyX1_ok nmX1 o.ow o.ck.1 hP (o.D _) hS i (cell_X1 hk o.mk) rfl 1 (by decide) (o.ts _ hf) (fun _ h => h) rfl (by decide +kernel) rfl rfl (Nat.le_of_ble_eq_true rfl) d (fun H1 locs1 hP1 _ hS1 => ?_)
  exact k (up2 σ i 1 v) h H1 locs1 ls (wsWset (r := upd (σ i) 1 v) hk.1 hk.2.1 o.mk (by rw [cel_X1 hk.2.2]; rfl) hP1) hS1 hl
theorem gf_X1_2 (o : OK X cc own sd nL R l) (hk : kd sd i 1) {index : Nat} (hf : Cond.fieldLink own index "CurtainHouse$House" "saved" "I" ∈ wt) (d : decode cc pc = .ok (.getfield index, 3)) (hq : pc + 3 = q) (k : G X σ q lv (.int (σ i 2) :: rest)) : G X σ pc lv (.ref (eA (xE X) i) :: rest) := fun H locs ls hP hS hl => by
  subst hq
  exact va_get (ci := 1) (C := RX1) (T := TX1) (N := 9) o.x o.b o.ts in_X1 o.ow o.ck.1 hP i (cell_X1 hk o.mk) rfl 2 (by decide) (o.ts _ hf) (fun _ h => h) rfl d (k H locs ls hP hS hl)
theorem gp_X1_2 (o : OK X cc own sd nL R l) (hk : kd sd i 1) {index : Nat} (hf : Cond.fieldLink own index "CurtainHouse$House" "saved" "I" ∈ wt) (d : decode cc pc = .ok (.putfield index, 3)) (hq : pc + 3 = q) {v : Int32} {K : Mem → Option ρ} (h : vW σ i 2 v K = some res) (k : ∀ σ, K σ = some res → G X σ q lv rest) : G X σ pc lv (.int v :: .ref (eA (xE X) i) :: rest) := fun H locs ls hP hS hl => by
  subst hq
  refine va_put (ci := 1) (C := RX1) (T := TX1) (N := 9) (ty := .int) (v := .int v) o.x o.b o.ts in_X1 tyX1 tyX1_ok nmX1 o.ow o.ck.1 hP (o.D _) hS i (cell_X1 hk o.mk) rfl 2 (by decide) (o.ts _ hf) (fun _ h => h) rfl (by decide +kernel) rfl rfl (Nat.le_of_ble_eq_true rfl) d (fun H1 locs1 hP1 _ hS1 => ?_)
  exact k (up2 σ i 2 v) h H1 locs1 ls (wsWset (r := upd (σ i) 2 v) hk.1 hk.2.1 o.mk (by rw [cel_X1 hk.2.2]; rfl) hP1) hS1 hl
theorem gf_X1_3 (o : OK X cc own sd nL R l) (hk : kd sd i 1) {index : Nat} (hf : Cond.fieldLink own index "CurtainHouse$House" "beat" "I" ∈ wt) (d : decode cc pc = .ok (.getfield index, 3)) (hq : pc + 3 = q) (k : G X σ q lv (.int (σ i 3) :: rest)) : G X σ pc lv (.ref (eA (xE X) i) :: rest) := fun H locs ls hP hS hl => by
  subst hq
  exact va_get (ci := 1) (C := RX1) (T := TX1) (N := 9) o.x o.b o.ts in_X1 o.ow o.ck.1 hP i (cell_X1 hk o.mk) rfl 3 (by decide) (o.ts _ hf) (fun _ h => h) rfl d (k H locs ls hP hS hl)
theorem gp_X1_3 (o : OK X cc own sd nL R l) (hk : kd sd i 1) {index : Nat} (hf : Cond.fieldLink own index "CurtainHouse$House" "beat" "I" ∈ wt) (d : decode cc pc = .ok (.putfield index, 3)) (hq : pc + 3 = q) {v : Int32} {K : Mem → Option ρ} (h : vW σ i 3 v K = some res) (k : ∀ σ, K σ = some res → G X σ q lv rest) : G X σ pc lv (.int v :: .ref (eA (xE X) i) :: rest) := fun H locs ls hP hS hl => by
  subst hq
  refine va_put (ci := 1) (C := RX1) (T := TX1) (N := 9) (ty := .int) (v := .int v) o.x o.b o.ts in_X1 tyX1 tyX1_ok nmX1 o.ow o.ck.1 hP (o.D _) hS i (cell_X1 hk o.mk) rfl 3 (by decide) (o.ts _ hf) (fun _ h => h) rfl (by decide +kernel) rfl rfl (Nat.le_of_ble_eq_true rfl) d (fun H1 locs1 hP1 _ hS1 => ?_)
  exact k (up2 σ i 3 v) h H1 locs1 ls (wsWset (r := upd (σ i) 3 v) hk.1 hk.2.1 o.mk (by rw [cel_X1 hk.2.2]; rfl) hP1) hS1 hl
theorem gf_X1_4 (o : OK X cc own sd nL R l) (hk : kd sd i 1) {index : Nat} (hf : Cond.fieldLink own index "CurtainHouse$House" "z" "I" ∈ wt) (d : decode cc pc = .ok (.getfield index, 3)) (hq : pc + 3 = q) (k : G X σ q lv (.int (σ i 4) :: rest)) : G X σ pc lv (.ref (eA (xE X) i) :: rest) := fun H locs ls hP hS hl => by
  subst hq
  exact va_get (ci := 1) (C := RX1) (T := TX1) (N := 9) o.x o.b o.ts in_X1 o.ow o.ck.1 hP i (cell_X1 hk o.mk) rfl 4 (by decide) (o.ts _ hf) (fun _ h => h) rfl d (k H locs ls hP hS hl)
theorem gp_X1_4 (o : OK X cc own sd nL R l) (hk : kd sd i 1) {index : Nat} (hf : Cond.fieldLink own index "CurtainHouse$House" "z" "I" ∈ wt) (d : decode cc pc = .ok (.putfield index, 3)) (hq : pc + 3 = q) {v : Int32} {K : Mem → Option ρ} (h : vW σ i 4 v K = some res) (k : ∀ σ, K σ = some res → G X σ q lv rest) : G X σ pc lv (.int v :: .ref (eA (xE X) i) :: rest) := fun H locs ls hP hS hl => by
  subst hq
  refine va_put (ci := 1) (C := RX1) (T := TX1) (N := 9) (ty := .int) (v := .int v) o.x o.b o.ts in_X1 tyX1 tyX1_ok nmX1 o.ow o.ck.1 hP (o.D _) hS i (cell_X1 hk o.mk) rfl 4 (by decide) (o.ts _ hf) (fun _ h => h) rfl (by decide +kernel) rfl rfl (Nat.le_of_ble_eq_true rfl) d (fun H1 locs1 hP1 _ hS1 => ?_)
  exact k (up2 σ i 4 v) h H1 locs1 ls (wsWset (r := upd (σ i) 4 v) hk.1 hk.2.1 o.mk (by rw [cel_X1 hk.2.2]; rfl) hP1) hS1 hl
theorem gf_X1_5 (o : OK X cc own sd nL R l) (hk : kd sd i 1) {index : Nat} (hf : Cond.fieldLink own index "CurtainHouse$House" "hung" "I" ∈ wt) (d : decode cc pc = .ok (.getfield index, 3)) (hq : pc + 3 = q) (k : G X σ q lv (.int (σ i 5) :: rest)) : G X σ pc lv (.ref (eA (xE X) i) :: rest) := fun H locs ls hP hS hl => by
  subst hq
  exact va_get (ci := 1) (C := RX1) (T := TX1) (N := 9) o.x o.b o.ts in_X1 o.ow o.ck.1 hP i (cell_X1 hk o.mk) rfl 5 (by decide) (o.ts _ hf) (fun _ h => h) rfl d (k H locs ls hP hS hl)
theorem gp_X1_5 (o : OK X cc own sd nL R l) (hk : kd sd i 1) {index : Nat} (hf : Cond.fieldLink own index "CurtainHouse$House" "hung" "I" ∈ wt) (d : decode cc pc = .ok (.putfield index, 3)) (hq : pc + 3 = q) {v : Int32} {K : Mem → Option ρ} (h : vW σ i 5 v K = some res) (k : ∀ σ, K σ = some res → G X σ q lv rest) : G X σ pc lv (.int v :: .ref (eA (xE X) i) :: rest) := fun H locs ls hP hS hl => by
  subst hq
  refine va_put (ci := 1) (C := RX1) (T := TX1) (N := 9) (ty := .int) (v := .int v) o.x o.b o.ts in_X1 tyX1 tyX1_ok nmX1 o.ow o.ck.1 hP (o.D _) hS i (cell_X1 hk o.mk) rfl 5 (by decide) (o.ts _ hf) (fun _ h => h) rfl (by decide +kernel) rfl rfl (Nat.le_of_ble_eq_true rfl) d (fun H1 locs1 hP1 _ hS1 => ?_)
  exact k (up2 σ i 5 v) h H1 locs1 ls (wsWset (r := upd (σ i) 5 v) hk.1 hk.2.1 o.mk (by rw [cel_X1 hk.2.2]; rfl) hP1) hS1 hl
theorem gf_X1_6 (o : OK X cc own sd nL R l) (hk : kd sd i 1) {index : Nat} (hf : Cond.fieldLink own index "CurtainHouse$House" "list" "[I" ∈ wt) (d : decode cc pc = .ok (.getfield index, 3)) (hq : pc + 3 = q) (k : G X σ q lv (.ref (eA (xE X) (i + 1)) :: rest)) : G X σ pc lv (.ref (eA (xE X) i) :: rest) := fun H locs ls hP hS hl => by
  subst hq
  exact va_get (ci := 1) (C := RX1) (T := TX1) (N := 9) o.x o.b o.ts in_X1 o.ow o.ck.1 hP i (cell_X1 hk o.mk) rfl 6 (by decide) (o.ts _ hf) (fun _ h => h) rfl d (k H locs ls hP hS hl)
theorem gf_X1_7 (o : OK X cc own sd nL R l) (hk : kd sd i 1) {index : Nat} (hf : Cond.fieldLink own index "CurtainHouse$House" "spots" "[I" ∈ wt) (d : decode cc pc = .ok (.getfield index, 3)) (hq : pc + 3 = q) (k : G X σ q lv (.ref (eA (xE X) (i + 2)) :: rest)) : G X σ pc lv (.ref (eA (xE X) i) :: rest) := fun H locs ls hP hS hl => by
  subst hq
  exact va_get (ci := 1) (C := RX1) (T := TX1) (N := 9) o.x o.b o.ts in_X1 o.ow o.ck.1 hP i (cell_X1 hk o.mk) rfl 7 (by decide) (o.ts _ hf) (fun _ h => h) rfl d (k H locs ls hP hS hl)
theorem gf_X1_8 (o : OK X cc own sd nL R l) (hk : kd sd i 1) {index : Nat} (hf : Cond.fieldLink own index "CurtainHouse$House" "curtains" "[LCurtainHouse$Curtain;" ∈ wt) (d : decode cc pc = .ok (.getfield index, 3)) (hq : pc + 3 = q) (k : G X σ q lv (.ref (eA (xE X) (i + 3)) :: rest)) : G X σ pc lv (.ref (eA (xE X) i) :: rest) := fun H locs ls hP hS hl => by
  subst hq
  exact va_get (ci := 1) (C := RX1) (T := TX1) (N := 9) o.x o.b o.ts in_X1 o.ow o.ck.1 hP i (cell_X1 hk o.mk) rfl 8 (by decide) (o.ts _ hf) (fun _ h => h) rfl d (k H locs ls hP hS hl)
theorem cel_X2 {E : En} {i : Nat} {r : Nat → Int32} (hk : ck i = 2) : cel E i r = .inr (2, [.int (r 0), .int (r 1), .ref (eA E (i + 1))]) := by
  unfold cel
  rw [hk]
  rfl
theorem cell_X2 {E : En} {mk : Mem → Mem} {i : Nat} {σ : Mem} (hk : kd sd i 2) (hm : MK mk sd) : (wsW E (mk σ))[i]? = some (eA E i, .inr (2, [.int (σ i 0), .int (σ i 1), .ref (eA E (i + 1))])) := by
  rw [ws_get hk.2.1, hm.1 σ i hk.1, cel_X2 hk.2.2]
theorem gf_X2_0 (o : OK X cc own sd nL R l) (hk : kd sd i 2) {index : Nat} (hf : Cond.fieldLink own index "CurtainHouse$Sheet" "bits" "I" ∈ wt) (d : decode cc pc = .ok (.getfield index, 3)) (hq : pc + 3 = q) (k : G X σ q lv (.int (σ i 0) :: rest)) : G X σ pc lv (.ref (eA (xE X) i) :: rest) := fun H locs ls hP hS hl => by
  subst hq
  exact va_get (ci := 2) (C := RX2) (T := TX2) (N := 3) o.x o.b o.ts in_X2 o.ow o.ck.1 hP i (cell_X2 hk o.mk) rfl 0 (by decide) (o.ts _ hf) (fun _ h => h) rfl d (k H locs ls hP hS hl)
theorem gp_X2_0 (o : OK X cc own sd nL R l) (hk : kd sd i 2) {index : Nat} (hf : Cond.fieldLink own index "CurtainHouse$Sheet" "bits" "I" ∈ wt) (d : decode cc pc = .ok (.putfield index, 3)) (hq : pc + 3 = q) {v : Int32} {K : Mem → Option ρ} (h : vW σ i 0 v K = some res) (k : ∀ σ, K σ = some res → G X σ q lv rest) : G X σ pc lv (.int v :: .ref (eA (xE X) i) :: rest) := fun H locs ls hP hS hl => by
  subst hq
  refine va_put (ci := 2) (C := RX2) (T := TX2) (N := 3) (ty := .int) (v := .int v) o.x o.b o.ts in_X2 tyX2 tyX2_ok nmX2 o.ow o.ck.1 hP (o.D _) hS i (cell_X2 hk o.mk) rfl 0 (by decide) (o.ts _ hf) (fun _ h => h) rfl (by decide +kernel) rfl rfl (Nat.le_of_ble_eq_true rfl) d (fun H1 locs1 hP1 _ hS1 => ?_)
  exact k (up2 σ i 0 v) h H1 locs1 ls (wsWset (r := upd (σ i) 0 v) hk.1 hk.2.1 o.mk (by rw [cel_X2 hk.2.2]; rfl) hP1) hS1 hl
theorem gf_X2_1 (o : OK X cc own sd nL R l) (hk : kd sd i 2) {index : Nat} (hf : Cond.fieldLink own index "CurtainHouse$Sheet" "length" "I" ∈ wt) (d : decode cc pc = .ok (.getfield index, 3)) (hq : pc + 3 = q) (k : G X σ q lv (.int (σ i 1) :: rest)) : G X σ pc lv (.ref (eA (xE X) i) :: rest) := fun H locs ls hP hS hl => by
  subst hq
  exact va_get (ci := 2) (C := RX2) (T := TX2) (N := 3) o.x o.b o.ts in_X2 o.ow o.ck.1 hP i (cell_X2 hk o.mk) rfl 1 (by decide) (o.ts _ hf) (fun _ h => h) rfl d (k H locs ls hP hS hl)
theorem gp_X2_1 (o : OK X cc own sd nL R l) (hk : kd sd i 2) {index : Nat} (hf : Cond.fieldLink own index "CurtainHouse$Sheet" "length" "I" ∈ wt) (d : decode cc pc = .ok (.putfield index, 3)) (hq : pc + 3 = q) {v : Int32} {K : Mem → Option ρ} (h : vW σ i 1 v K = some res) (k : ∀ σ, K σ = some res → G X σ q lv rest) : G X σ pc lv (.int v :: .ref (eA (xE X) i) :: rest) := fun H locs ls hP hS hl => by
  subst hq
  refine va_put (ci := 2) (C := RX2) (T := TX2) (N := 3) (ty := .int) (v := .int v) o.x o.b o.ts in_X2 tyX2 tyX2_ok nmX2 o.ow o.ck.1 hP (o.D _) hS i (cell_X2 hk o.mk) rfl 1 (by decide) (o.ts _ hf) (fun _ h => h) rfl (by decide +kernel) rfl rfl (Nat.le_of_ble_eq_true rfl) d (fun H1 locs1 hP1 _ hS1 => ?_)
  exact k (up2 σ i 1 v) h H1 locs1 ls (wsWset (r := upd (σ i) 1 v) hk.1 hk.2.1 o.mk (by rw [cel_X2 hk.2.2]; rfl) hP1) hS1 hl
theorem gf_X2_2 (o : OK X cc own sd nL R l) (hk : kd sd i 2) {index : Nat} (hf : Cond.fieldLink own index "CurtainHouse$Sheet" "numbers" "[I" ∈ wt) (d : decode cc pc = .ok (.getfield index, 3)) (hq : pc + 3 = q) (k : G X σ q lv (.ref (eA (xE X) (i + 1)) :: rest)) : G X σ pc lv (.ref (eA (xE X) i) :: rest) := fun H locs ls hP hS hl => by
  subst hq
  exact va_get (ci := 2) (C := RX2) (T := TX2) (N := 3) o.x o.b o.ts in_X2 o.ow o.ck.1 hP i (cell_X2 hk o.mk) rfl 2 (by decide) (o.ts _ hf) (fun _ h => h) rfl d (k H locs ls hP hS hl)
theorem cel_X3 {E : En} {i : Nat} {r : Nat → Int32} (hk : ck i = 3) : cel E i r = .inr (3, [.ref (eA E (39)), .int (r 1), .int (r 2), .int (r 3), .int (r 4), .int (r 5)]) := by
  unfold cel
  rw [hk]
  rfl
theorem cell_X3 {E : En} {mk : Mem → Mem} {i : Nat} {σ : Mem} (hk : kd sd i 3) (hm : MK mk sd) : (wsW E (mk σ))[i]? = some (eA E i, .inr (3, [.ref (eA E (39)), .int (σ i 1), .int (σ i 2), .int (σ i 3), .int (σ i 4), .int (σ i 5)])) := by
  rw [ws_get hk.2.1, hm.1 σ i hk.1, cel_X3 hk.2.2]
theorem gf_X3_0 (o : OK X cc own sd nL R l) (hk : kd sd i 3) {index : Nat} (hf : Cond.fieldLink own index "CurtainHouse$Tape" "bytes" "[B" ∈ wt) (d : decode cc pc = .ok (.getfield index, 3)) (hq : pc + 3 = q) (k : G X σ q lv (.ref (eA (xE X) (39)) :: rest)) : G X σ pc lv (.ref (eA (xE X) i) :: rest) := fun H locs ls hP hS hl => by
  subst hq
  exact va_get (ci := 3) (C := RX3) (T := TX3) (N := 6) o.x o.b o.ts in_X3 o.ow o.ck.1 hP i (cell_X3 hk o.mk) rfl 0 (by decide) (o.ts _ hf) (fun _ h => h) rfl d (k H locs ls hP hS hl)
theorem gf_X3_1 (o : OK X cc own sd nL R l) (hk : kd sd i 3) {index : Nat} (hf : Cond.fieldLink own index "CurtainHouse$Tape" "length" "I" ∈ wt) (d : decode cc pc = .ok (.getfield index, 3)) (hq : pc + 3 = q) (k : G X σ q lv (.int (σ i 1) :: rest)) : G X σ pc lv (.ref (eA (xE X) i) :: rest) := fun H locs ls hP hS hl => by
  subst hq
  exact va_get (ci := 3) (C := RX3) (T := TX3) (N := 6) o.x o.b o.ts in_X3 o.ow o.ck.1 hP i (cell_X3 hk o.mk) rfl 1 (by decide) (o.ts _ hf) (fun _ h => h) rfl d (k H locs ls hP hS hl)
theorem gp_X3_1 (o : OK X cc own sd nL R l) (hk : kd sd i 3) {index : Nat} (hf : Cond.fieldLink own index "CurtainHouse$Tape" "length" "I" ∈ wt) (d : decode cc pc = .ok (.putfield index, 3)) (hq : pc + 3 = q) {v : Int32} {K : Mem → Option ρ} (h : vW σ i 1 v K = some res) (k : ∀ σ, K σ = some res → G X σ q lv rest) : G X σ pc lv (.int v :: .ref (eA (xE X) i) :: rest) := fun H locs ls hP hS hl => by
  subst hq
  refine va_put (ci := 3) (C := RX3) (T := TX3) (N := 6) (ty := .int) (v := .int v) o.x o.b o.ts in_X3 tyX3 tyX3_ok nmX3 o.ow o.ck.1 hP (o.D _) hS i (cell_X3 hk o.mk) rfl 1 (by decide) (o.ts _ hf) (fun _ h => h) rfl (by decide +kernel) rfl rfl (Nat.le_of_ble_eq_true rfl) d (fun H1 locs1 hP1 _ hS1 => ?_)
  exact k (up2 σ i 1 v) h H1 locs1 ls (wsWset (r := upd (σ i) 1 v) hk.1 hk.2.1 o.mk (by rw [cel_X3 hk.2.2]; rfl) hP1) hS1 hl
theorem gf_X3_2 (o : OK X cc own sd nL R l) (hk : kd sd i 3) {index : Nat} (hf : Cond.fieldLink own index "CurtainHouse$Tape" "token" "I" ∈ wt) (d : decode cc pc = .ok (.getfield index, 3)) (hq : pc + 3 = q) (k : G X σ q lv (.int (σ i 2) :: rest)) : G X σ pc lv (.ref (eA (xE X) i) :: rest) := fun H locs ls hP hS hl => by
  subst hq
  exact va_get (ci := 3) (C := RX3) (T := TX3) (N := 6) o.x o.b o.ts in_X3 o.ow o.ck.1 hP i (cell_X3 hk o.mk) rfl 2 (by decide) (o.ts _ hf) (fun _ h => h) rfl d (k H locs ls hP hS hl)
theorem gp_X3_2 (o : OK X cc own sd nL R l) (hk : kd sd i 3) {index : Nat} (hf : Cond.fieldLink own index "CurtainHouse$Tape" "token" "I" ∈ wt) (d : decode cc pc = .ok (.putfield index, 3)) (hq : pc + 3 = q) {v : Int32} {K : Mem → Option ρ} (h : vW σ i 2 v K = some res) (k : ∀ σ, K σ = some res → G X σ q lv rest) : G X σ pc lv (.int v :: .ref (eA (xE X) i) :: rest) := fun H locs ls hP hS hl => by
  subst hq
  refine va_put (ci := 3) (C := RX3) (T := TX3) (N := 6) (ty := .int) (v := .int v) o.x o.b o.ts in_X3 tyX3 tyX3_ok nmX3 o.ow o.ck.1 hP (o.D _) hS i (cell_X3 hk o.mk) rfl 2 (by decide) (o.ts _ hf) (fun _ h => h) rfl (by decide +kernel) rfl rfl (Nat.le_of_ble_eq_true rfl) d (fun H1 locs1 hP1 _ hS1 => ?_)
  exact k (up2 σ i 2 v) h H1 locs1 ls (wsWset (r := upd (σ i) 2 v) hk.1 hk.2.1 o.mk (by rw [cel_X3 hk.2.2]; rfl) hP1) hS1 hl
theorem gf_X3_3 (o : OK X cc own sd nL R l) (hk : kd sd i 3) {index : Nat} (hf : Cond.fieldLink own index "CurtainHouse$Tape" "begin" "I" ∈ wt) (d : decode cc pc = .ok (.getfield index, 3)) (hq : pc + 3 = q) (k : G X σ q lv (.int (σ i 3) :: rest)) : G X σ pc lv (.ref (eA (xE X) i) :: rest) := fun H locs ls hP hS hl => by
  subst hq
  exact va_get (ci := 3) (C := RX3) (T := TX3) (N := 6) o.x o.b o.ts in_X3 o.ow o.ck.1 hP i (cell_X3 hk o.mk) rfl 3 (by decide) (o.ts _ hf) (fun _ h => h) rfl d (k H locs ls hP hS hl)
theorem gp_X3_3 (o : OK X cc own sd nL R l) (hk : kd sd i 3) {index : Nat} (hf : Cond.fieldLink own index "CurtainHouse$Tape" "begin" "I" ∈ wt) (d : decode cc pc = .ok (.putfield index, 3)) (hq : pc + 3 = q) {v : Int32} {K : Mem → Option ρ} (h : vW σ i 3 v K = some res) (k : ∀ σ, K σ = some res → G X σ q lv rest) : G X σ pc lv (.int v :: .ref (eA (xE X) i) :: rest) := fun H locs ls hP hS hl => by
  subst hq
  refine va_put (ci := 3) (C := RX3) (T := TX3) (N := 6) (ty := .int) (v := .int v) o.x o.b o.ts in_X3 tyX3 tyX3_ok nmX3 o.ow o.ck.1 hP (o.D _) hS i (cell_X3 hk o.mk) rfl 3 (by decide) (o.ts _ hf) (fun _ h => h) rfl (by decide +kernel) rfl rfl (Nat.le_of_ble_eq_true rfl) d (fun H1 locs1 hP1 _ hS1 => ?_)
  exact k (up2 σ i 3 v) h H1 locs1 ls (wsWset (r := upd (σ i) 3 v) hk.1 hk.2.1 o.mk (by rw [cel_X3 hk.2.2]; rfl) hP1) hS1 hl
theorem gf_X3_4 (o : OK X cc own sd nL R l) (hk : kd sd i 3) {index : Nat} (hf : Cond.fieldLink own index "CurtainHouse$Tape" "end" "I" ∈ wt) (d : decode cc pc = .ok (.getfield index, 3)) (hq : pc + 3 = q) (k : G X σ q lv (.int (σ i 4) :: rest)) : G X σ pc lv (.ref (eA (xE X) i) :: rest) := fun H locs ls hP hS hl => by
  subst hq
  exact va_get (ci := 3) (C := RX3) (T := TX3) (N := 6) o.x o.b o.ts in_X3 o.ow o.ck.1 hP i (cell_X3 hk o.mk) rfl 4 (by decide) (o.ts _ hf) (fun _ h => h) rfl d (k H locs ls hP hS hl)
theorem gp_X3_4 (o : OK X cc own sd nL R l) (hk : kd sd i 3) {index : Nat} (hf : Cond.fieldLink own index "CurtainHouse$Tape" "end" "I" ∈ wt) (d : decode cc pc = .ok (.putfield index, 3)) (hq : pc + 3 = q) {v : Int32} {K : Mem → Option ρ} (h : vW σ i 4 v K = some res) (k : ∀ σ, K σ = some res → G X σ q lv rest) : G X σ pc lv (.int v :: .ref (eA (xE X) i) :: rest) := fun H locs ls hP hS hl => by
  subst hq
  refine va_put (ci := 3) (C := RX3) (T := TX3) (N := 6) (ty := .int) (v := .int v) o.x o.b o.ts in_X3 tyX3 tyX3_ok nmX3 o.ow o.ck.1 hP (o.D _) hS i (cell_X3 hk o.mk) rfl 4 (by decide) (o.ts _ hf) (fun _ h => h) rfl (by decide +kernel) rfl rfl (Nat.le_of_ble_eq_true rfl) d (fun H1 locs1 hP1 _ hS1 => ?_)
  exact k (up2 σ i 4 v) h H1 locs1 ls (wsWset (r := upd (σ i) 4 v) hk.1 hk.2.1 o.mk (by rw [cel_X3 hk.2.2]; rfl) hP1) hS1 hl
theorem gf_X3_5 (o : OK X cc own sd nL R l) (hk : kd sd i 3) {index : Nat} (hf : Cond.fieldLink own index "CurtainHouse$Tape" "value" "I" ∈ wt) (d : decode cc pc = .ok (.getfield index, 3)) (hq : pc + 3 = q) (k : G X σ q lv (.int (σ i 5) :: rest)) : G X σ pc lv (.ref (eA (xE X) i) :: rest) := fun H locs ls hP hS hl => by
  subst hq
  exact va_get (ci := 3) (C := RX3) (T := TX3) (N := 6) o.x o.b o.ts in_X3 o.ow o.ck.1 hP i (cell_X3 hk o.mk) rfl 5 (by decide) (o.ts _ hf) (fun _ h => h) rfl d (k H locs ls hP hS hl)
theorem gp_X3_5 (o : OK X cc own sd nL R l) (hk : kd sd i 3) {index : Nat} (hf : Cond.fieldLink own index "CurtainHouse$Tape" "value" "I" ∈ wt) (d : decode cc pc = .ok (.putfield index, 3)) (hq : pc + 3 = q) {v : Int32} {K : Mem → Option ρ} (h : vW σ i 5 v K = some res) (k : ∀ σ, K σ = some res → G X σ q lv rest) : G X σ pc lv (.int v :: .ref (eA (xE X) i) :: rest) := fun H locs ls hP hS hl => by
  subst hq
  refine va_put (ci := 3) (C := RX3) (T := TX3) (N := 6) (ty := .int) (v := .int v) o.x o.b o.ts in_X3 tyX3 tyX3_ok nmX3 o.ow o.ck.1 hP (o.D _) hS i (cell_X3 hk o.mk) rfl 5 (by decide) (o.ts _ hf) (fun _ h => h) rfl (by decide +kernel) rfl rfl (Nat.le_of_ble_eq_true rfl) d (fun H1 locs1 hP1 _ hS1 => ?_)
  exact k (up2 σ i 5 v) h H1 locs1 ls (wsWset (r := upd (σ i) 5 v) hk.1 hk.2.1 o.mk (by rw [cel_X3 hk.2.2]; rfl) hP1) hS1 hl
theorem cel_X4 {E : En} {i : Nat} {r : Nat → Int32} (hk : ck i = 4) : cel E i r = .inr (4, [.ref (eA E (1)), .ref (eA E (13)), .int (r 2), .ref (eA E (25)), .ref (eA E (37)), .ref (eA E (38)), .ref (eA E (40)), .ref (eA E (49))]) := by
  unfold cel
  rw [hk]
  rfl
theorem cell_X4 {E : En} {mk : Mem → Mem} {i : Nat} {σ : Mem} (hk : kd sd i 4) (hm : MK mk sd) : (wsW E (mk σ))[i]? = some (eA E i, .inr (4, [.ref (eA E (1)), .ref (eA E (13)), .int (σ i 2), .ref (eA E (25)), .ref (eA E (37)), .ref (eA E (38)), .ref (eA E (40)), .ref (eA E (49))])) := by
  rw [ws_get hk.2.1, hm.1 σ i hk.1, cel_X4 hk.2.2]
theorem gf_X4_0 (o : OK X cc own sd nL R l) (hk : kd sd i 4) {index : Nat} (hf : Cond.fieldLink own index "CurtainHouse" "house" "LCurtainHouse$House;" ∈ wt) (d : decode cc pc = .ok (.getfield index, 3)) (hq : pc + 3 = q) (k : G X σ q lv (.ref (eA (xE X) (1)) :: rest)) : G X σ pc lv (.ref (eA (xE X) i) :: rest) := fun H locs ls hP hS hl => by
  subst hq
  exact va_get (ci := 4) (C := RX4) (T := TX4) (N := 8) o.x o.b o.ts in_X4 o.ow o.ck.1 hP i (cell_X4 hk o.mk) rfl 0 (by decide) (o.ts _ hf) (fun _ h => h) rfl d (k H locs ls hP hS hl)
theorem gf_X4_1 (o : OK X cc own sd nL R l) (hk : kd sd i 4) {index : Nat} (hf : Cond.fieldLink own index "CurtainHouse" "kept" "LCurtainHouse$House;" ∈ wt) (d : decode cc pc = .ok (.getfield index, 3)) (hq : pc + 3 = q) (k : G X σ q lv (.ref (eA (xE X) (13)) :: rest)) : G X σ pc lv (.ref (eA (xE X) i) :: rest) := fun H locs ls hP hS hl => by
  subst hq
  exact va_get (ci := 4) (C := RX4) (T := TX4) (N := 8) o.x o.b o.ts in_X4 o.ow o.ck.1 hP i (cell_X4 hk o.mk) rfl 1 (by decide) (o.ts _ hf) (fun _ h => h) rfl d (k H locs ls hP hS hl)
theorem gf_X4_2 (o : OK X cc own sd nL R l) (hk : kd sd i 4) {index : Nat} (hf : Cond.fieldLink own index "CurtainHouse" "isKept" "Z" ∈ wt) (d : decode cc pc = .ok (.getfield index, 3)) (hq : pc + 3 = q) (k : G X σ q lv (.int (σ i 2) :: rest)) : G X σ pc lv (.ref (eA (xE X) i) :: rest) := fun H locs ls hP hS hl => by
  subst hq
  exact va_get (ci := 4) (C := RX4) (T := TX4) (N := 8) o.x o.b o.ts in_X4 o.ow o.ck.1 hP i (cell_X4 hk o.mk) rfl 2 (by decide) (o.ts _ hf) (fun _ h => h) rfl d (k H locs ls hP hS hl)
theorem gp_X4_2 (o : OK X cc own sd nL R l) (hk : kd sd i 4) {index : Nat} (hf : Cond.fieldLink own index "CurtainHouse" "isKept" "Z" ∈ wt) (d : decode cc pc = .ok (.putfield index, 3)) (hq : pc + 3 = q) {v : Int32} (hb : v = 0 ∨ v = 1) {K : Mem → Option ρ} (h : vW σ i 2 v K = some res) (k : ∀ σ, K σ = some res → G X σ q lv rest) : G X σ pc lv (.int v :: .ref (eA (xE X) i) :: rest) := fun H locs ls hP hS hl => by
  subst hq
  refine va_put (ci := 4) (C := RX4) (T := TX4) (N := 8) (ty := .boolean) (v := .int v) o.x o.b o.ts in_X4 tyX4 tyX4_ok nmX4 o.ow o.ck.1 hP (o.D _) hS i (cell_X4 hk o.mk) rfl 2 (by decide) (o.ts _ hf) (fun _ h => h) rfl (by decide +kernel) (by rcases hb with rfl | rfl <;> rfl) (by rcases hb with rfl | rfl <;> rfl) (Nat.le_of_ble_eq_true rfl) d (fun H1 locs1 hP1 _ hS1 => ?_)
  exact k (up2 σ i 2 v) h H1 locs1 ls (wsWset (r := upd (σ i) 2 v) hk.1 hk.2.1 o.mk (by rw [cel_X4 hk.2.2]; rfl) hP1) hS1 hl
theorem gf_X4_3 (o : OK X cc own sd nL R l) (hk : kd sd i 4) {index : Nat} (hf : Cond.fieldLink own index "CurtainHouse" "trial" "LCurtainHouse$House;" ∈ wt) (d : decode cc pc = .ok (.getfield index, 3)) (hq : pc + 3 = q) (k : G X σ q lv (.ref (eA (xE X) (25)) :: rest)) : G X σ pc lv (.ref (eA (xE X) i) :: rest) := fun H locs ls hP hS hl => by
  subst hq
  exact va_get (ci := 4) (C := RX4) (T := TX4) (N := 8) o.x o.b o.ts in_X4 o.ow o.ck.1 hP i (cell_X4 hk o.mk) rfl 3 (by decide) (o.ts _ hf) (fun _ h => h) rfl d (k H locs ls hP hS hl)
theorem gf_X4_4 (o : OK X cc own sd nL R l) (hk : kd sd i 4) {index : Nat} (hf : Cond.fieldLink own index "CurtainHouse" "probe" "LCurtainHouse$Curtain;" ∈ wt) (d : decode cc pc = .ok (.getfield index, 3)) (hq : pc + 3 = q) (k : G X σ q lv (.ref (eA (xE X) (37)) :: rest)) : G X σ pc lv (.ref (eA (xE X) i) :: rest) := fun H locs ls hP hS hl => by
  subst hq
  exact va_get (ci := 4) (C := RX4) (T := TX4) (N := 8) o.x o.b o.ts in_X4 o.ow o.ck.1 hP i (cell_X4 hk o.mk) rfl 4 (by decide) (o.ts _ hf) (fun _ h => h) rfl d (k H locs ls hP hS hl)
theorem gf_X4_5 (o : OK X cc own sd nL R l) (hk : kd sd i 4) {index : Nat} (hf : Cond.fieldLink own index "CurtainHouse" "tape" "LCurtainHouse$Tape;" ∈ wt) (d : decode cc pc = .ok (.getfield index, 3)) (hq : pc + 3 = q) (k : G X σ q lv (.ref (eA (xE X) (38)) :: rest)) : G X σ pc lv (.ref (eA (xE X) i) :: rest) := fun H locs ls hP hS hl => by
  subst hq
  exact va_get (ci := 4) (C := RX4) (T := TX4) (N := 8) o.x o.b o.ts in_X4 o.ow o.ck.1 hP i (cell_X4 hk o.mk) rfl 5 (by decide) (o.ts _ hf) (fun _ h => h) rfl d (k H locs ls hP hS hl)
theorem gf_X4_6 (o : OK X cc own sd nL R l) (hk : kd sd i 4) {index : Nat} (hf : Cond.fieldLink own index "CurtainHouse" "sheets" "[LCurtainHouse$Sheet;" ∈ wt) (d : decode cc pc = .ok (.getfield index, 3)) (hq : pc + 3 = q) (k : G X σ q lv (.ref (eA (xE X) (40)) :: rest)) : G X σ pc lv (.ref (eA (xE X) i) :: rest) := fun H locs ls hP hS hl => by
  subst hq
  exact va_get (ci := 4) (C := RX4) (T := TX4) (N := 8) o.x o.b o.ts in_X4 o.ow o.ck.1 hP i (cell_X4 hk o.mk) rfl 6 (by decide) (o.ts _ hf) (fun _ h => h) rfl d (k H locs ls hP hS hl)
theorem gf_X4_7 (o : OK X cc own sd nL R l) (hk : kd sd i 4) {index : Nat} (hf : Cond.fieldLink own index "CurtainHouse" "found" "[I" ∈ wt) (d : decode cc pc = .ok (.getfield index, 3)) (hq : pc + 3 = q) (k : G X σ q lv (.ref (eA (xE X) (49)) :: rest)) : G X σ pc lv (.ref (eA (xE X) i) :: rest) := fun H locs ls hP hS hl => by
  subst hq
  exact va_get (ci := 4) (C := RX4) (T := TX4) (N := 8) o.x o.b o.ts in_X4 o.ow o.ck.1 hP i (cell_X4 hk o.mk) rfl 7 (by decide) (o.ts _ hf) (fun _ h => h) rfl d (k H locs ls hP hS hl)
theorem cel_X5 {E : En} {i : Nat} {r : Nat → Int32} (hk : ck i = 5) : cel E i r = .inr (5, [.ref (eA E (51)), .ref (eA E (52)), .ref (eA E (53)), .int (r 3), .ref (eA E (54)), .ref (eA E (55)), .int (r 6), .int (r 7), .int (r 8), .int (r 9), .int (r 10), .int (r 11), .ref (eA E (56)), .ref (eA E (57)), .int (r 14), .int (r 15), .ref (eA E (58)), .ref (eA E (59)), .ref (eA E (60)), .ref (eA E (61))]) := by
  unfold cel
  rw [hk]
  rfl
theorem cell_X5 {E : En} {mk : Mem → Mem} {i : Nat} {σ : Mem} (hk : kd sd i 5) (hm : MK mk sd) : (wsW E (mk σ))[i]? = some (eA E i, .inr (5, [.ref (eA E (51)), .ref (eA E (52)), .ref (eA E (53)), .int (σ i 3), .ref (eA E (54)), .ref (eA E (55)), .int (σ i 6), .int (σ i 7), .int (σ i 8), .int (σ i 9), .int (σ i 10), .int (σ i 11), .ref (eA E (56)), .ref (eA E (57)), .int (σ i 14), .int (σ i 15), .ref (eA E (58)), .ref (eA E (59)), .ref (eA E (60)), .ref (eA E (61))])) := by
  rw [ws_get hk.2.1, hm.1 σ i hk.1, cel_X5 hk.2.2]
theorem gf_X5_0 (o : OK X cc own sd nL R l) (hk : kd sd i 5) {index : Nat} (hf : Cond.fieldLink own index "CurtainHouseModel" "now" "[I" ∈ wt) (d : decode cc pc = .ok (.getfield index, 3)) (hq : pc + 3 = q) (k : G X σ q lv (.ref (eA (xE X) (51)) :: rest)) : G X σ pc lv (.ref (eA (xE X) i) :: rest) := fun H locs ls hP hS hl => by
  subst hq
  exact va_get (ci := 5) (C := RX5) (T := TX5) (N := 20) o.x o.b o.ts in_X5 o.ow o.ck.1 hP i (cell_X5 hk o.mk) rfl 0 (by decide) (o.ts _ hf) (fun _ h => h) rfl d (k H locs ls hP hS hl)
theorem gf_X5_1 (o : OK X cc own sd nL R l) (hk : kd sd i 5) {index : Nat} (hf : Cond.fieldLink own index "CurtainHouseModel" "kept" "[I" ∈ wt) (d : decode cc pc = .ok (.getfield index, 3)) (hq : pc + 3 = q) (k : G X σ q lv (.ref (eA (xE X) (52)) :: rest)) : G X σ pc lv (.ref (eA (xE X) i) :: rest) := fun H locs ls hP hS hl => by
  subst hq
  exact va_get (ci := 5) (C := RX5) (T := TX5) (N := 20) o.x o.b o.ts in_X5 o.ow o.ck.1 hP i (cell_X5 hk o.mk) rfl 1 (by decide) (o.ts _ hf) (fun _ h => h) rfl d (k H locs ls hP hS hl)
theorem gf_X5_2 (o : OK X cc own sd nL R l) (hk : kd sd i 5) {index : Nat} (hf : Cond.fieldLink own index "CurtainHouseModel" "aside" "[I" ∈ wt) (d : decode cc pc = .ok (.getfield index, 3)) (hq : pc + 3 = q) (k : G X σ q lv (.ref (eA (xE X) (53)) :: rest)) : G X σ pc lv (.ref (eA (xE X) i) :: rest) := fun H locs ls hP hS hl => by
  subst hq
  exact va_get (ci := 5) (C := RX5) (T := TX5) (N := 20) o.x o.b o.ts in_X5 o.ow o.ck.1 hP i (cell_X5 hk o.mk) rfl 2 (by decide) (o.ts _ hf) (fun _ h => h) rfl d (k H locs ls hP hS hl)
theorem gf_X5_3 (o : OK X cc own sd nL R l) (hk : kd sd i 5) {index : Nat} (hf : Cond.fieldLink own index "CurtainHouseModel" "isKept" "Z" ∈ wt) (d : decode cc pc = .ok (.getfield index, 3)) (hq : pc + 3 = q) (k : G X σ q lv (.int (σ i 3) :: rest)) : G X σ pc lv (.ref (eA (xE X) i) :: rest) := fun H locs ls hP hS hl => by
  subst hq
  exact va_get (ci := 5) (C := RX5) (T := TX5) (N := 20) o.x o.b o.ts in_X5 o.ow o.ck.1 hP i (cell_X5 hk o.mk) rfl 3 (by decide) (o.ts _ hf) (fun _ h => h) rfl d (k H locs ls hP hS hl)
theorem gp_X5_3 (o : OK X cc own sd nL R l) (hk : kd sd i 5) {index : Nat} (hf : Cond.fieldLink own index "CurtainHouseModel" "isKept" "Z" ∈ wt) (d : decode cc pc = .ok (.putfield index, 3)) (hq : pc + 3 = q) {v : Int32} (hb : v = 0 ∨ v = 1) {K : Mem → Option ρ} (h : vW σ i 3 v K = some res) (k : ∀ σ, K σ = some res → G X σ q lv rest) : G X σ pc lv (.int v :: .ref (eA (xE X) i) :: rest) := fun H locs ls hP hS hl => by
  subst hq
  refine va_put (ci := 5) (C := RX5) (T := TX5) (N := 20) (ty := .boolean) (v := .int v) o.x o.b o.ts in_X5 tyX5 tyX5_ok nmX5 o.ow o.ck.1 hP (o.D _) hS i (cell_X5 hk o.mk) rfl 3 (by decide) (o.ts _ hf) (fun _ h => h) rfl (by decide +kernel) (by rcases hb with rfl | rfl <;> rfl) (by rcases hb with rfl | rfl <;> rfl) (Nat.le_of_ble_eq_true rfl) d (fun H1 locs1 hP1 _ hS1 => ?_)
  exact k (up2 σ i 3 v) h H1 locs1 ls (wsWset (r := upd (σ i) 3 v) hk.1 hk.2.1 o.mk (by rw [cel_X5 hk.2.2]; rfl) hP1) hS1 hl
theorem gf_X5_4 (o : OK X cc own sd nL R l) (hk : kd sd i 5) {index : Nat} (hf : Cond.fieldLink own index "CurtainHouseModel" "found" "[I" ∈ wt) (d : decode cc pc = .ok (.getfield index, 3)) (hq : pc + 3 = q) (k : G X σ q lv (.ref (eA (xE X) (54)) :: rest)) : G X σ pc lv (.ref (eA (xE X) i) :: rest) := fun H locs ls hP hS hl => by
  subst hq
  exact va_get (ci := 5) (C := RX5) (T := TX5) (N := 20) o.x o.b o.ts in_X5 o.ow o.ck.1 hP i (cell_X5 hk o.mk) rfl 4 (by decide) (o.ts _ hf) (fun _ h => h) rfl d (k H locs ls hP hS hl)
theorem gf_X5_5 (o : OK X cc own sd nL R l) (hk : kd sd i 5) {index : Nat} (hf : Cond.fieldLink own index "CurtainHouseModel" "tape" "[I" ∈ wt) (d : decode cc pc = .ok (.getfield index, 3)) (hq : pc + 3 = q) (k : G X σ q lv (.ref (eA (xE X) (55)) :: rest)) : G X σ pc lv (.ref (eA (xE X) i) :: rest) := fun H locs ls hP hS hl => by
  subst hq
  exact va_get (ci := 5) (C := RX5) (T := TX5) (N := 20) o.x o.b o.ts in_X5 o.ow o.ck.1 hP i (cell_X5 hk o.mk) rfl 5 (by decide) (o.ts _ hf) (fun _ h => h) rfl d (k H locs ls hP hS hl)
theorem gf_X5_6 (o : OK X cc own sd nL R l) (hk : kd sd i 5) {index : Nat} (hf : Cond.fieldLink own index "CurtainHouseModel" "taped" "I" ∈ wt) (d : decode cc pc = .ok (.getfield index, 3)) (hq : pc + 3 = q) (k : G X σ q lv (.int (σ i 6) :: rest)) : G X σ pc lv (.ref (eA (xE X) i) :: rest) := fun H locs ls hP hS hl => by
  subst hq
  exact va_get (ci := 5) (C := RX5) (T := TX5) (N := 20) o.x o.b o.ts in_X5 o.ow o.ck.1 hP i (cell_X5 hk o.mk) rfl 6 (by decide) (o.ts _ hf) (fun _ h => h) rfl d (k H locs ls hP hS hl)
theorem gp_X5_6 (o : OK X cc own sd nL R l) (hk : kd sd i 5) {index : Nat} (hf : Cond.fieldLink own index "CurtainHouseModel" "taped" "I" ∈ wt) (d : decode cc pc = .ok (.putfield index, 3)) (hq : pc + 3 = q) {v : Int32} {K : Mem → Option ρ} (h : vW σ i 6 v K = some res) (k : ∀ σ, K σ = some res → G X σ q lv rest) : G X σ pc lv (.int v :: .ref (eA (xE X) i) :: rest) := fun H locs ls hP hS hl => by
  subst hq
  refine va_put (ci := 5) (C := RX5) (T := TX5) (N := 20) (ty := .int) (v := .int v) o.x o.b o.ts in_X5 tyX5 tyX5_ok nmX5 o.ow o.ck.1 hP (o.D _) hS i (cell_X5 hk o.mk) rfl 6 (by decide) (o.ts _ hf) (fun _ h => h) rfl (by decide +kernel) rfl rfl (Nat.le_of_ble_eq_true rfl) d (fun H1 locs1 hP1 _ hS1 => ?_)
  exact k (up2 σ i 6 v) h H1 locs1 ls (wsWset (r := upd (σ i) 6 v) hk.1 hk.2.1 o.mk (by rw [cel_X5 hk.2.2]; rfl) hP1) hS1 hl
theorem gf_X5_7 (o : OK X cc own sd nL R l) (hk : kd sd i 5) {index : Nat} (hf : Cond.fieldLink own index "CurtainHouseModel" "begins" "I" ∈ wt) (d : decode cc pc = .ok (.getfield index, 3)) (hq : pc + 3 = q) (k : G X σ q lv (.int (σ i 7) :: rest)) : G X σ pc lv (.ref (eA (xE X) i) :: rest) := fun H locs ls hP hS hl => by
  subst hq
  exact va_get (ci := 5) (C := RX5) (T := TX5) (N := 20) o.x o.b o.ts in_X5 o.ow o.ck.1 hP i (cell_X5 hk o.mk) rfl 7 (by decide) (o.ts _ hf) (fun _ h => h) rfl d (k H locs ls hP hS hl)
theorem gp_X5_7 (o : OK X cc own sd nL R l) (hk : kd sd i 5) {index : Nat} (hf : Cond.fieldLink own index "CurtainHouseModel" "begins" "I" ∈ wt) (d : decode cc pc = .ok (.putfield index, 3)) (hq : pc + 3 = q) {v : Int32} {K : Mem → Option ρ} (h : vW σ i 7 v K = some res) (k : ∀ σ, K σ = some res → G X σ q lv rest) : G X σ pc lv (.int v :: .ref (eA (xE X) i) :: rest) := fun H locs ls hP hS hl => by
  subst hq
  refine va_put (ci := 5) (C := RX5) (T := TX5) (N := 20) (ty := .int) (v := .int v) o.x o.b o.ts in_X5 tyX5 tyX5_ok nmX5 o.ow o.ck.1 hP (o.D _) hS i (cell_X5 hk o.mk) rfl 7 (by decide) (o.ts _ hf) (fun _ h => h) rfl (by decide +kernel) rfl rfl (Nat.le_of_ble_eq_true rfl) d (fun H1 locs1 hP1 _ hS1 => ?_)
  exact k (up2 σ i 7 v) h H1 locs1 ls (wsWset (r := upd (σ i) 7 v) hk.1 hk.2.1 o.mk (by rw [cel_X5 hk.2.2]; rfl) hP1) hS1 hl
theorem gf_X5_8 (o : OK X cc own sd nL R l) (hk : kd sd i 5) {index : Nat} (hf : Cond.fieldLink own index "CurtainHouseModel" "ends" "I" ∈ wt) (d : decode cc pc = .ok (.getfield index, 3)) (hq : pc + 3 = q) (k : G X σ q lv (.int (σ i 8) :: rest)) : G X σ pc lv (.ref (eA (xE X) i) :: rest) := fun H locs ls hP hS hl => by
  subst hq
  exact va_get (ci := 5) (C := RX5) (T := TX5) (N := 20) o.x o.b o.ts in_X5 o.ow o.ck.1 hP i (cell_X5 hk o.mk) rfl 8 (by decide) (o.ts _ hf) (fun _ h => h) rfl d (k H locs ls hP hS hl)
theorem gp_X5_8 (o : OK X cc own sd nL R l) (hk : kd sd i 5) {index : Nat} (hf : Cond.fieldLink own index "CurtainHouseModel" "ends" "I" ∈ wt) (d : decode cc pc = .ok (.putfield index, 3)) (hq : pc + 3 = q) {v : Int32} {K : Mem → Option ρ} (h : vW σ i 8 v K = some res) (k : ∀ σ, K σ = some res → G X σ q lv rest) : G X σ pc lv (.int v :: .ref (eA (xE X) i) :: rest) := fun H locs ls hP hS hl => by
  subst hq
  refine va_put (ci := 5) (C := RX5) (T := TX5) (N := 20) (ty := .int) (v := .int v) o.x o.b o.ts in_X5 tyX5 tyX5_ok nmX5 o.ow o.ck.1 hP (o.D _) hS i (cell_X5 hk o.mk) rfl 8 (by decide) (o.ts _ hf) (fun _ h => h) rfl (by decide +kernel) rfl rfl (Nat.le_of_ble_eq_true rfl) d (fun H1 locs1 hP1 _ hS1 => ?_)
  exact k (up2 σ i 8 v) h H1 locs1 ls (wsWset (r := upd (σ i) 8 v) hk.1 hk.2.1 o.mk (by rw [cel_X5 hk.2.2]; rfl) hP1) hS1 hl
theorem gf_X5_9 (o : OK X cc own sd nL R l) (hk : kd sd i 5) {index : Nat} (hf : Cond.fieldLink own index "CurtainHouseModel" "sort" "I" ∈ wt) (d : decode cc pc = .ok (.getfield index, 3)) (hq : pc + 3 = q) (k : G X σ q lv (.int (σ i 9) :: rest)) : G X σ pc lv (.ref (eA (xE X) i) :: rest) := fun H locs ls hP hS hl => by
  subst hq
  exact va_get (ci := 5) (C := RX5) (T := TX5) (N := 20) o.x o.b o.ts in_X5 o.ow o.ck.1 hP i (cell_X5 hk o.mk) rfl 9 (by decide) (o.ts _ hf) (fun _ h => h) rfl d (k H locs ls hP hS hl)
theorem gp_X5_9 (o : OK X cc own sd nL R l) (hk : kd sd i 5) {index : Nat} (hf : Cond.fieldLink own index "CurtainHouseModel" "sort" "I" ∈ wt) (d : decode cc pc = .ok (.putfield index, 3)) (hq : pc + 3 = q) {v : Int32} {K : Mem → Option ρ} (h : vW σ i 9 v K = some res) (k : ∀ σ, K σ = some res → G X σ q lv rest) : G X σ pc lv (.int v :: .ref (eA (xE X) i) :: rest) := fun H locs ls hP hS hl => by
  subst hq
  refine va_put (ci := 5) (C := RX5) (T := TX5) (N := 20) (ty := .int) (v := .int v) o.x o.b o.ts in_X5 tyX5 tyX5_ok nmX5 o.ow o.ck.1 hP (o.D _) hS i (cell_X5 hk o.mk) rfl 9 (by decide) (o.ts _ hf) (fun _ h => h) rfl (by decide +kernel) rfl rfl (Nat.le_of_ble_eq_true rfl) d (fun H1 locs1 hP1 _ hS1 => ?_)
  exact k (up2 σ i 9 v) h H1 locs1 ls (wsWset (r := upd (σ i) 9 v) hk.1 hk.2.1 o.mk (by rw [cel_X5 hk.2.2]; rfl) hP1) hS1 hl
theorem gf_X5_10 (o : OK X cc own sd nL R l) (hk : kd sd i 5) {index : Nat} (hf : Cond.fieldLink own index "CurtainHouseModel" "value" "I" ∈ wt) (d : decode cc pc = .ok (.getfield index, 3)) (hq : pc + 3 = q) (k : G X σ q lv (.int (σ i 10) :: rest)) : G X σ pc lv (.ref (eA (xE X) i) :: rest) := fun H locs ls hP hS hl => by
  subst hq
  exact va_get (ci := 5) (C := RX5) (T := TX5) (N := 20) o.x o.b o.ts in_X5 o.ow o.ck.1 hP i (cell_X5 hk o.mk) rfl 10 (by decide) (o.ts _ hf) (fun _ h => h) rfl d (k H locs ls hP hS hl)
theorem gp_X5_10 (o : OK X cc own sd nL R l) (hk : kd sd i 5) {index : Nat} (hf : Cond.fieldLink own index "CurtainHouseModel" "value" "I" ∈ wt) (d : decode cc pc = .ok (.putfield index, 3)) (hq : pc + 3 = q) {v : Int32} {K : Mem → Option ρ} (h : vW σ i 10 v K = some res) (k : ∀ σ, K σ = some res → G X σ q lv rest) : G X σ pc lv (.int v :: .ref (eA (xE X) i) :: rest) := fun H locs ls hP hS hl => by
  subst hq
  refine va_put (ci := 5) (C := RX5) (T := TX5) (N := 20) (ty := .int) (v := .int v) o.x o.b o.ts in_X5 tyX5 tyX5_ok nmX5 o.ow o.ck.1 hP (o.D _) hS i (cell_X5 hk o.mk) rfl 10 (by decide) (o.ts _ hf) (fun _ h => h) rfl (by decide +kernel) rfl rfl (Nat.le_of_ble_eq_true rfl) d (fun H1 locs1 hP1 _ hS1 => ?_)
  exact k (up2 σ i 10 v) h H1 locs1 ls (wsWset (r := upd (σ i) 10 v) hk.1 hk.2.1 o.mk (by rw [cel_X5 hk.2.2]; rfl) hP1) hS1 hl
theorem gf_X5_11 (o : OK X cc own sd nL R l) (hk : kd sd i 5) {index : Nat} (hf : Cond.fieldLink own index "CurtainHouseModel" "isWrong" "Z" ∈ wt) (d : decode cc pc = .ok (.getfield index, 3)) (hq : pc + 3 = q) (k : G X σ q lv (.int (σ i 11) :: rest)) : G X σ pc lv (.ref (eA (xE X) i) :: rest) := fun H locs ls hP hS hl => by
  subst hq
  exact va_get (ci := 5) (C := RX5) (T := TX5) (N := 20) o.x o.b o.ts in_X5 o.ow o.ck.1 hP i (cell_X5 hk o.mk) rfl 11 (by decide) (o.ts _ hf) (fun _ h => h) rfl d (k H locs ls hP hS hl)
theorem gp_X5_11 (o : OK X cc own sd nL R l) (hk : kd sd i 5) {index : Nat} (hf : Cond.fieldLink own index "CurtainHouseModel" "isWrong" "Z" ∈ wt) (d : decode cc pc = .ok (.putfield index, 3)) (hq : pc + 3 = q) {v : Int32} (hb : v = 0 ∨ v = 1) {K : Mem → Option ρ} (h : vW σ i 11 v K = some res) (k : ∀ σ, K σ = some res → G X σ q lv rest) : G X σ pc lv (.int v :: .ref (eA (xE X) i) :: rest) := fun H locs ls hP hS hl => by
  subst hq
  refine va_put (ci := 5) (C := RX5) (T := TX5) (N := 20) (ty := .boolean) (v := .int v) o.x o.b o.ts in_X5 tyX5 tyX5_ok nmX5 o.ow o.ck.1 hP (o.D _) hS i (cell_X5 hk o.mk) rfl 11 (by decide) (o.ts _ hf) (fun _ h => h) rfl (by decide +kernel) (by rcases hb with rfl | rfl <;> rfl) (by rcases hb with rfl | rfl <;> rfl) (Nat.le_of_ble_eq_true rfl) d (fun H1 locs1 hP1 _ hS1 => ?_)
  exact k (up2 σ i 11 v) h H1 locs1 ls (wsWset (r := upd (σ i) 11 v) hk.1 hk.2.1 o.mk (by rw [cel_X5 hk.2.2]; rfl) hP1) hS1 hl
theorem gf_X5_12 (o : OK X cc own sd nL R l) (hk : kd sd i 5) {index : Nat} (hf : Cond.fieldLink own index "CurtainHouseModel" "kindNames" "[Ljava/lang/String;" ∈ wt) (d : decode cc pc = .ok (.getfield index, 3)) (hq : pc + 3 = q) (k : G X σ q lv (.ref (eA (xE X) (56)) :: rest)) : G X σ pc lv (.ref (eA (xE X) i) :: rest) := fun H locs ls hP hS hl => by
  subst hq
  exact va_get (ci := 5) (C := RX5) (T := TX5) (N := 20) o.x o.b o.ts in_X5 o.ow o.ck.1 hP i (cell_X5 hk o.mk) rfl 12 (by decide) (o.ts _ hf) (fun _ h => h) rfl d (k H locs ls hP hS hl)
theorem gf_X5_13 (o : OK X cc own sd nL R l) (hk : kd sd i 5) {index : Nat} (hf : Cond.fieldLink own index "CurtainHouseModel" "items" "[I" ∈ wt) (d : decode cc pc = .ok (.getfield index, 3)) (hq : pc + 3 = q) (k : G X σ q lv (.ref (eA (xE X) (57)) :: rest)) : G X σ pc lv (.ref (eA (xE X) i) :: rest) := fun H locs ls hP hS hl => by
  subst hq
  exact va_get (ci := 5) (C := RX5) (T := TX5) (N := 20) o.x o.b o.ts in_X5 o.ow o.ck.1 hP i (cell_X5 hk o.mk) rfl 13 (by decide) (o.ts _ hf) (fun _ h => h) rfl d (k H locs ls hP hS hl)
theorem gf_X5_14 (o : OK X cc own sd nL R l) (hk : kd sd i 5) {index : Nat} (hf : Cond.fieldLink own index "CurtainHouseModel" "itemMany" "I" ∈ wt) (d : decode cc pc = .ok (.getfield index, 3)) (hq : pc + 3 = q) (k : G X σ q lv (.int (σ i 14) :: rest)) : G X σ pc lv (.ref (eA (xE X) i) :: rest) := fun H locs ls hP hS hl => by
  subst hq
  exact va_get (ci := 5) (C := RX5) (T := TX5) (N := 20) o.x o.b o.ts in_X5 o.ow o.ck.1 hP i (cell_X5 hk o.mk) rfl 14 (by decide) (o.ts _ hf) (fun _ h => h) rfl d (k H locs ls hP hS hl)
theorem gp_X5_14 (o : OK X cc own sd nL R l) (hk : kd sd i 5) {index : Nat} (hf : Cond.fieldLink own index "CurtainHouseModel" "itemMany" "I" ∈ wt) (d : decode cc pc = .ok (.putfield index, 3)) (hq : pc + 3 = q) {v : Int32} {K : Mem → Option ρ} (h : vW σ i 14 v K = some res) (k : ∀ σ, K σ = some res → G X σ q lv rest) : G X σ pc lv (.int v :: .ref (eA (xE X) i) :: rest) := fun H locs ls hP hS hl => by
  subst hq
  refine va_put (ci := 5) (C := RX5) (T := TX5) (N := 20) (ty := .int) (v := .int v) o.x o.b o.ts in_X5 tyX5 tyX5_ok nmX5 o.ow o.ck.1 hP (o.D _) hS i (cell_X5 hk o.mk) rfl 14 (by decide) (o.ts _ hf) (fun _ h => h) rfl (by decide +kernel) rfl rfl (Nat.le_of_ble_eq_true rfl) d (fun H1 locs1 hP1 _ hS1 => ?_)
  exact k (up2 σ i 14 v) h H1 locs1 ls (wsWset (r := upd (σ i) 14 v) hk.1 hk.2.1 o.mk (by rw [cel_X5 hk.2.2]; rfl) hP1) hS1 hl
theorem gf_X5_15 (o : OK X cc own sd nL R l) (hk : kd sd i 5) {index : Nat} (hf : Cond.fieldLink own index "CurtainHouseModel" "curtainsThen" "I" ∈ wt) (d : decode cc pc = .ok (.getfield index, 3)) (hq : pc + 3 = q) (k : G X σ q lv (.int (σ i 15) :: rest)) : G X σ pc lv (.ref (eA (xE X) i) :: rest) := fun H locs ls hP hS hl => by
  subst hq
  exact va_get (ci := 5) (C := RX5) (T := TX5) (N := 20) o.x o.b o.ts in_X5 o.ow o.ck.1 hP i (cell_X5 hk o.mk) rfl 15 (by decide) (o.ts _ hf) (fun _ h => h) rfl d (k H locs ls hP hS hl)
theorem gp_X5_15 (o : OK X cc own sd nL R l) (hk : kd sd i 5) {index : Nat} (hf : Cond.fieldLink own index "CurtainHouseModel" "curtainsThen" "I" ∈ wt) (d : decode cc pc = .ok (.putfield index, 3)) (hq : pc + 3 = q) {v : Int32} {K : Mem → Option ρ} (h : vW σ i 15 v K = some res) (k : ∀ σ, K σ = some res → G X σ q lv rest) : G X σ pc lv (.int v :: .ref (eA (xE X) i) :: rest) := fun H locs ls hP hS hl => by
  subst hq
  refine va_put (ci := 5) (C := RX5) (T := TX5) (N := 20) (ty := .int) (v := .int v) o.x o.b o.ts in_X5 tyX5 tyX5_ok nmX5 o.ow o.ck.1 hP (o.D _) hS i (cell_X5 hk o.mk) rfl 15 (by decide) (o.ts _ hf) (fun _ h => h) rfl (by decide +kernel) rfl rfl (Nat.le_of_ble_eq_true rfl) d (fun H1 locs1 hP1 _ hS1 => ?_)
  exact k (up2 σ i 15 v) h H1 locs1 ls (wsWset (r := upd (σ i) 15 v) hk.1 hk.2.1 o.mk (by rw [cel_X5 hk.2.2]; rfl) hP1) hS1 hl
theorem gf_X5_16 (o : OK X cc own sd nL R l) (hk : kd sd i 5) {index : Nat} (hf : Cond.fieldLink own index "CurtainHouseModel" "widths" "[I" ∈ wt) (d : decode cc pc = .ok (.getfield index, 3)) (hq : pc + 3 = q) (k : G X σ q lv (.ref (eA (xE X) (58)) :: rest)) : G X σ pc lv (.ref (eA (xE X) i) :: rest) := fun H locs ls hP hS hl => by
  subst hq
  exact va_get (ci := 5) (C := RX5) (T := TX5) (N := 20) o.x o.b o.ts in_X5 o.ow o.ck.1 hP i (cell_X5 hk o.mk) rfl 16 (by decide) (o.ts _ hf) (fun _ h => h) rfl d (k H locs ls hP hS hl)
theorem gf_X5_17 (o : OK X cc own sd nL R l) (hk : kd sd i 5) {index : Nat} (hf : Cond.fieldLink own index "CurtainHouseModel" "sizes" "[I" ∈ wt) (d : decode cc pc = .ok (.getfield index, 3)) (hq : pc + 3 = q) (k : G X σ q lv (.ref (eA (xE X) (59)) :: rest)) : G X σ pc lv (.ref (eA (xE X) i) :: rest) := fun H locs ls hP hS hl => by
  subst hq
  exact va_get (ci := 5) (C := RX5) (T := TX5) (N := 20) o.x o.b o.ts in_X5 o.ow o.ck.1 hP i (cell_X5 hk o.mk) rfl 17 (by decide) (o.ts _ hf) (fun _ h => h) rfl d (k H locs ls hP hS hl)
theorem gf_X5_18 (o : OK X cc own sd nL R l) (hk : kd sd i 5) {index : Nat} (hf : Cond.fieldLink own index "CurtainHouseModel" "numbers" "[I" ∈ wt) (d : decode cc pc = .ok (.getfield index, 3)) (hq : pc + 3 = q) (k : G X σ q lv (.ref (eA (xE X) (60)) :: rest)) : G X σ pc lv (.ref (eA (xE X) i) :: rest) := fun H locs ls hP hS hl => by
  subst hq
  exact va_get (ci := 5) (C := RX5) (T := TX5) (N := 20) o.x o.b o.ts in_X5 o.ow o.ck.1 hP i (cell_X5 hk o.mk) rfl 18 (by decide) (o.ts _ hf) (fun _ h => h) rfl d (k H locs ls hP hS hl)
theorem gf_X5_19 (o : OK X cc own sd nL R l) (hk : kd sd i 5) {index : Nat} (hf : Cond.fieldLink own index "CurtainHouseModel" "moved" "[I" ∈ wt) (d : decode cc pc = .ok (.getfield index, 3)) (hq : pc + 3 = q) (k : G X σ q lv (.ref (eA (xE X) (61)) :: rest)) : G X σ pc lv (.ref (eA (xE X) i) :: rest) := fun H locs ls hP hS hl => by
  subst hq
  exact va_get (ci := 5) (C := RX5) (T := TX5) (N := 20) o.x o.b o.ts in_X5 o.ow o.ck.1 hP i (cell_X5 hk o.mk) rfl 19 (by decide) (o.ts _ hf) (fun _ h => h) rfl d (k H locs ls hP hS hl)
theorem cel_6 {E : En} {i : Nat} {r : Nat → Int32} (hk : ck i = 6) : cel E i r = .inl (eC E 0, ln i, .inl r) := by
  unfold cel
  rw [hk]
  rfl
theorem cel_7 {E : En} {i : Nat} {r : Nat → Int32} (hk : ck i = 7) : cel E i r = .inl (eC E 1, ln i, .inl r) := by
  unfold cel
  rw [hk]
  rfl
theorem cel_8 {E : En} {i : Nat} {r : Nat → Int32} (hk : ck i = 8) : cel E i r = .inl (eC E 2, ln i, .inr (.inr (.inr (.inr (fun j => some (eA E (i + 1 + j))))))) := by
  unfold cel
  rw [hk]
  rfl
theorem cel_9 {E : En} {i : Nat} {r : Nat → Int32} (hk : ck i = 9) : cel E i r = .inl (eC E 3, ln i, .inr (.inr (.inr (.inr (fun j => some (eA E (i + 1 + 2 * j))))))) := by
  unfold cel
  rw [hk]
  rfl
theorem cel_10 {E : En} {i : Nat} {r : Nat → Int32} (hk : ck i = 10) : cel E i r = .inl (eC E 4, ln i, .inr (.inr (.inr (.inr (fun j => some (eK E j)))))) := by
  unfold cel
  rw [hk]
  rfl
theorem arr_6 {E : En} {mk : Mem → Mem} {i n : Nat} {σ : Mem} (hk : ka sd i 6 n) (hm : MK mk sd) : (wsW E (mk σ))[i]? = some (eA E i, .inl (eC E 0, n, .inl (σ i))) := by
  rw [ws_get hk.1.2.1, hm.1 σ i hk.1.1, cel_6 hk.1.2.2, hk.2]
theorem arr_7 {E : En} {mk : Mem → Mem} {i n : Nat} {σ : Mem} (hk : ka sd i 7 n) (hm : MK mk sd) : (wsW E (mk σ))[i]? = some (eA E i, .inl (eC E 1, n, .inl (σ i))) := by
  rw [ws_get hk.1.2.1, hm.1 σ i hk.1.1, cel_7 hk.1.2.2, hk.2]
theorem arr_8 {E : En} {mk : Mem → Mem} {i n : Nat} {σ : Mem} (hk : ka sd i 8 n) : (wsW E (mk σ))[i]? = some (eA E i, .inl (eC E 2, n, .inr (.inr (.inr (.inr (fun j => some (eA E (i + 1 + j)))))))) := by
  rw [ws_get hk.1.2.1, cel_8 hk.1.2.2, hk.2]
theorem arr_9 {E : En} {mk : Mem → Mem} {i n : Nat} {σ : Mem} (hk : ka sd i 9 n) : (wsW E (mk σ))[i]? = some (eA E i, .inl (eC E 3, n, .inr (.inr (.inr (.inr (fun j => some (eA E (i + 1 + 2 * j)))))))) := by
  rw [ws_get hk.1.2.1, cel_9 hk.1.2.2, hk.2]
theorem arr_10 {E : En} {mk : Mem → Mem} {i n : Nat} {σ : Mem} (hk : ka sd i 10 n) : (wsW E (mk σ))[i]? = some (eA E i, .inl (eC E 4, n, .inr (.inr (.inr (.inr (fun j => some (eK E j))))))) := by
  rw [ws_get hk.1.2.1, cel_10 hk.1.2.2, hk.2]
theorem g_iald (o : OK X cc own sd nL R l) {n : Nat} (hk : ka sd i 6 n) {x : Int32} {K : Nat → Option ρ} (d : decode cc pc = .ok (.iaload, 1)) (hq : pc + 1 = q) (h : vI n x K = some res) (k : ∀ j, j < n → K j = some res → G X σ q lv (.int (σ i j) :: rest)) : G X σ pc lv (.int x :: .ref (eA (xE X) i) :: rest) := fun H locs ls hP hS hl => by
  subst hq
  obtain ⟨h1, h2, h3⟩ := vI_some h
  exact va_iald o.x o.b o.ck.1 hP i 0 (arr_6 hk o.mk) rfl h1 d (k _ h2 h3 H locs ls hP hS hl)
theorem g_bald (o : OK X cc own sd nL R l) {n : Nat} (hk : ka sd i 7 n) {x : Int32} {K : Nat → Option ρ} (d : decode cc pc = .ok (.baload, 1)) (hq : pc + 1 = q) (h : vI n x K = some res) (k : ∀ j, j < n → K j = some res → G X σ q lv (.int (σ i j) :: rest)) : G X σ pc lv (.int x :: .ref (eA (xE X) i) :: rest) := fun H locs ls hP hS hl => by
  subst hq
  obtain ⟨h1, h2, h3⟩ := vI_some h
  exact va_bald o.x o.b o.ck.1 hP i 1 (arr_7 hk o.mk) rfl h1 d (k _ h2 h3 H locs ls hP hS hl)
theorem g_aald8 (o : OK X cc own sd nL R l) {n : Nat} (hk : ka sd i 8 n) {x : Int32} {K : Nat → Option ρ} (d : decode cc pc = .ok (.aaload, 1)) (hq : pc + 1 = q) (h : vI n x K = some res) (k : ∀ j, j < n → K j = some res → G X σ q lv (.ref (eA (xE X) (i + 1 + j)) :: rest)) : G X σ pc lv (.int x :: .ref (eA (xE X) i) :: rest) := fun H locs ls hP hS hl => by
  subst hq
  obtain ⟨h1, h2, h3⟩ := vI_some h
  exact va_aldq o.x o.b o.ck.1 hP i 2 (arr_8 hk) rfl h1 d (k _ h2 h3 H locs ls hP hS hl)
theorem g_aald9 (o : OK X cc own sd nL R l) {n : Nat} (hk : ka sd i 9 n) {x : Int32} {K : Nat → Option ρ} (d : decode cc pc = .ok (.aaload, 1)) (hq : pc + 1 = q) (h : vI n x K = some res) (k : ∀ j, j < n → K j = some res → G X σ q lv (.ref (eA (xE X) (i + 1 + 2 * j)) :: rest)) : G X σ pc lv (.int x :: .ref (eA (xE X) i) :: rest) := fun H locs ls hP hS hl => by
  subst hq
  obtain ⟨h1, h2, h3⟩ := vI_some h
  exact va_aldq o.x o.b o.ck.1 hP i 3 (arr_9 hk) rfl h1 d (k _ h2 h3 H locs ls hP hS hl)
theorem g_aald10 (o : OK X cc own sd nL R l) {n : Nat} (hk : ka sd i 10 n) {x : Int32} {K : Nat → Option ρ} (d : decode cc pc = .ok (.aaload, 1)) (hq : pc + 1 = q) (h : vI n x K = some res) (k : ∀ j, j < n → K j = some res → G X σ q lv (.ref (eK (xE X) j) :: rest)) : G X σ pc lv (.int x :: .ref (eA (xE X) i) :: rest) := fun H locs ls hP hS hl => by
  subst hq
  obtain ⟨h1, h2, h3⟩ := vI_some h
  exact va_aldq o.x o.b o.ck.1 hP i 4 (arr_10 hk) rfl h1 d (k _ h2 h3 H locs ls hP hS hl)
theorem g_alen6 (o : OK X cc own sd nL R l) {n : Nat} (hk : ka sd i 6 n) {v : Int32} (hv : Int32.ofNat n = v) (d : decode cc pc = .ok (.arraylength, 1)) (hq : pc + 1 = q) (k : G X σ q lv (.int v :: rest)) : G X σ pc lv (.ref (eA (xE X) i) :: rest) := fun H locs ls hP hS hl => by
  subst hq
  exact va_alen o.x o.b o.ck.1 hP i 0 (arr_6 hk o.mk) rfl hv d (k H locs ls hP hS hl)
theorem g_alen10 (o : OK X cc own sd nL R l) {n : Nat} (hk : ka sd i 10 n) {v : Int32} (hv : Int32.ofNat n = v) (d : decode cc pc = .ok (.arraylength, 1)) (hq : pc + 1 = q) (k : G X σ q lv (.int v :: rest)) : G X σ pc lv (.ref (eA (xE X) i) :: rest) := fun H locs ls hP hS hl => by
  subst hq
  exact va_alen o.x o.b o.ck.1 hP i 4 (arr_10 hk) rfl hv d (k H locs ls hP hS hl)
theorem g_iast (o : OK X cc own sd nL R l) {n : Nat} (hk : ka sd i 6 n) {x v : Int32} {K : Nat → Mem → Option ρ} (d : decode cc pc = .ok (.iastore, 1)) (hq : pc + 1 = q) (h : vI n x (fun j => vW σ i j v (K j)) = some res) (k : ∀ j σ, K j σ = some res → G X σ q lv rest) : G X σ pc lv (.int v :: .int x :: .ref (eA (xE X) i) :: rest) := fun H locs ls hP hS hl => by
  subst hq
  obtain ⟨h1, h2, h3⟩ := vI_some h
  refine va_iast o.x o.b o.ck.1 hP (o.D _) hS i 0 (arr_6 hk o.mk) rfl h1 d (fun H1 locs1 hP1 _ hS1 => ?_)
  exact k _ (up2 σ i x.toNatClampNeg v) h3 H1 locs1 ls (wsWset (r := upd (σ i) x.toNatClampNeg v) hk.1.1 hk.1.2.1 o.mk (by rw [cel_6 hk.1.2.2, hk.2]) hP1) hS1 hl
theorem g_bast (o : OK X cc own sd nL R l) {n : Nat} (hk : ka sd i 7 n) {x v : Int32} {K : Nat → Mem → Option ρ} (d : decode cc pc = .ok (.bastore, 1)) (hq : pc + 1 = q) (h : vI n x (fun j => vW σ i j (vp_nar .byte v) (K j)) = some res) (k : ∀ j σ, K j σ = some res → G X σ q lv rest) : G X σ pc lv (.int v :: .int x :: .ref (eA (xE X) i) :: rest) := fun H locs ls hP hS hl => by
  subst hq
  obtain ⟨h1, h2, h3⟩ := vI_some h
  refine va_bast o.x o.b o.ck.1 hP (o.D _) hS i 1 (arr_7 hk o.mk) rfl h1 d (fun H1 locs1 hP1 _ hS1 => ?_)
  exact k _ (up2 σ i x.toNatClampNeg (vp_nar .byte v)) h3 H1 locs1 ls (wsWset (r := upd (σ i) x.toNatClampNeg (vp_nar .byte v)) hk.1.1 hk.1.2.1 o.mk (by rw [cel_7 hk.1.2.2, hk.2]) hP1) hS1 hl
/-- System.arraycopy of ints -/
def vY {β : Type} (σ : Mem) (i j n m : Nat) (sp dp c : Int32) (K : Mem → Option β) : Option β := if ¬ sp < 0 ∧ ¬ dp < 0 ∧ ¬ c < 0 ∧ sp.toNatClampNeg + c.toNatClampNeg ≤ n ∧ dp.toNatClampNeg + c.toNatClampNeg ≤ m then K (cpy2 σ i j sp.toNatClampNeg dp.toNatClampNeg c.toNatClampNeg) else none
theorem g_acpy (o : OK X cc own sd nL R l) {j n m : Nat} (hi : ka sd i 6 n) (hj : ka sd j 6 m) {index : Nat} (hm : Cond.methodLink own index arraycopyName ∈ wt) {sp dp c : Int32} {K : Mem → Option ρ} (d : decode cc pc = .ok (.invokestatic index, 3)) (hq : pc + 3 = q) (h : vY σ i j n m sp dp c K = some res) (hR : 1 ≤ R.frames ∧ (rest.map fun v => v.category).sum + (nativeFrameWords "java/lang/System" "arraycopy" 5 + 11) ≤ R.locals) (k : ∀ σ, K σ = some res → G X σ q lv rest) : G X σ pc lv (.int c :: .int dp :: .ref (eA (xE X) j) :: .int sp :: .ref (eA (xE X) i) :: rest) := fun H locs ls hP hS hl => by
  subst hq
  unfold vY at h
  split at h
  · rename_i cc1
    obtain ⟨c1, c2, c3, c4, c5⟩ := cc1
    refine va_copyi (ty := .int) o.x o.b (by rw [o.ml, hl.1, o.n]) o.ow (o.ts _ hm) (o.ts _ wt_ac1) (o.ts _ wt_ac2) (o.ts _ wt_ac3) o.ck.1 hP (o.D _) hS i j 0 0 (arr_6 hi o.mk) (arr_6 hj o.mk) rfl rfl rfl c1 c2 c3 c4 c5 (fun _ _ => rfl) (by rw [o.r]; exact hR.1) (by rw [o.r]; exact hR.2) d (fun H1 locs1 hP1 _ hS1 => ?_)
    exact k (cpy2 σ i j sp.toNatClampNeg dp.toNatClampNeg c.toNatClampNeg) h H1 locs1 ls (wsWset (r := va_cpy (σ i) (σ j) sp.toNatClampNeg dp.toNatClampNeg c.toNatClampNeg) hj.1.1 hj.1.2.1 o.mk (by rw [cel_6 hj.1.2.2, hj.2]) hP1) hS1 hl
  · cases h
theorem g_mmax (o : OK X cc own sd nL R l) {index : Nat} (hm : Cond.methodLink own index Lib.Math.max.name ∈ wt) {x y : Int32} (d : decode cc pc = .ok (.invokestatic index, 3)) (hq : pc + 3 = q) (hR : 1 ≤ R.frames ∧ (rest.map fun v => v.category).sum + 13 ≤ R.locals) (k : G X σ q lv (.int (if x < y then y else x) :: rest)) : G X σ pc lv (.int y :: .int x :: rest) := fun H locs ls hP hS hl => by
  subst hq
  exact va_mmax o.x o.b (by rw [o.ml, hl.1, o.n]) o.ow (o.ts _ hm) (o.ts _ wt_mx1) (o.ts _ wt_mth) (o.ts _ wt_mx2) (by rw [o.r]; exact hR.1) (by rw [o.r]; exact hR.2) (Nat.zero_le _) (Nat.zero_le _) d (k H locs ls hP hS hl)
theorem g_mmin (o : OK X cc own sd nL R l) {index : Nat} (hm : Cond.methodLink own index Lib.Math.min.name ∈ wt) {x y : Int32} (d : decode cc pc = .ok (.invokestatic index, 3)) (hq : pc + 3 = q) (hR : 1 ≤ R.frames ∧ (rest.map fun v => v.category).sum + 13 ≤ R.locals) (k : G X σ q lv (.int (if y < x then y else x) :: rest)) : G X σ pc lv (.int y :: .int x :: rest) := fun H locs ls hP hS hl => by
  subst hq
  exact va_mmin o.x o.b (by rw [o.ml, hl.1, o.n]) o.ow (o.ts _ hm) (o.ts _ wt_mn1) (o.ts _ wt_mth) (o.ts _ wt_mn2) (by rw [o.r]; exact hR.1) (by rw [o.r]; exact hR.2) (Nat.zero_le _) (Nat.zero_le _) d (k H locs ls hP hS hl)
/-! static arrays -/
theorem g_gets (o : OK X cc own sd nL R l) (t : Nat) (ht : t < 7) {index : Nat} (hf : Cond.fieldLink own index "CurtainHouse" (sNm t) "[I" ∈ wt) (d : decode cc pc = .ok (.getstatic index, 3)) (hq : pc + 3 = q) (k : G X σ q lv (.ref (eS (xE X) t) :: rest)) : G X σ pc lv rest := fun H locs ls hP hS hl => by
  subst hq
  exact va_gets o.x o.b (o.ck.2.2.1 t ht).1 hS o.ow (o.ts _ hf) (fun _ h => h) d (k H locs ls hP hS hl)
theorem g_getsN (o : OK X cc own sd nL R l) (t : Nat) (ht : t < 7) {index : Nat} (hf : Cond.fieldLinkNest own index "CurtainHouse" (sNm t) "[I" "CurtainHouse" ∈ wN) (d : decode cc pc = .ok (.getstatic index, 3)) (hq : pc + 3 = q) (k : G X σ q lv (.ref (eS (xE X) t) :: rest)) : G X σ pc lv rest := fun H locs ls hP hS hl => by
  subst hq
  exact va_getsN o.x o.b (o.ck.2.2.1 t ht).1 hS o.ow (va_Nw.use rfl (o.ck.2.2.2.2.2.2 _ hf)) (fun _ h => h) d (k H locs ls hP hS hl)
theorem g_tild (o : OK X cc own sd nL R l) (t : Nat) (ht : t < 7) {n : Nat} (hn : (sTab t).length = n) {x : Int32} {K : Nat → Option ρ} (d : decode cc pc = .ok (.iaload, 1)) (hq : pc + 1 = q) (h : vI n x K = some res) (k : ∀ j, j < n → K j = some res → G X σ q lv (.int ((sTab t).getD j 0) :: rest)) : G X σ pc lv (.int x :: .ref (eS (xE X) t) :: rest) := fun H locs ls hP hS hl => by
  subst hq
  subst hn
  obtain ⟨h1, h2, h3⟩ := vI_some h
  exact va_ti o.x o.b (o.ck.2.2.1 t ht).2 hS h1 rfl d (k _ h2 h3 H locs ls hP hS hl)
end MROWS
end
section
/-! calls and ends -/
theorem gin_v {own : String} {index : Nat} {y : MethodName} {b : ByteArray} {maxL n : Nat} {ret : Option FieldType} (hm : Cond.methodLink own index y ∈ wt) (hc : Cvi y b maxL ret n) : GoodIn wt (wsV own index y.cls y (Cond.code y b maxL ret :: wt)) := by
  have g : ∀ w, w ∈ wt → w ∈ wt ∧ ((w.onTables && w.keeps) = true ∨ ∃ ty, w = .arrayClass ty) := fun w h => ⟨h, good_of_word (wt_good w h)⟩
  intro w hw
  rcases List.mem_append.mp hw with h | h
  · simp only [List.mem_cons, List.not_mem_nil, or_false] at h
    rcases h with rfl | rfl | rfl | rfl
    · exact g _ hm
    · exact g _ hc.1
    · exact g _ hc.2.1
    · exact g _ hc.2.2.1
  · rcases List.mem_cons.mp h with rfl | h
    · exact g _ hc.2.2.2.1
    · exact g _ h
theorem gin_c {y : MethodName} {b : ByteArray} {maxL : Nat} {ret : Option FieldType} (hc : Cond.code y b maxL ret ∈ wt) : GoodIn wt (Cond.code y b maxL ret :: wt) := by
  intro w hw
  rcases List.mem_cons.mp hw with rfl | h
  · exact ⟨hc, good_of_word (wt_good _ hc)⟩
  · exact ⟨h, good_of_word (wt_good _ h)⟩
theorem WD.blind {E : En} {ρ : Mem} {av : List Value} : FrameBlind (va_Pc av (fun U => WD E ρ U)) := by
  intro a U g mk h
  exact ⟨h.1, h.2.1, CK.same (u := U) rfl h.2.2⟩
theorem cel_obj {E : En} {i k : Nat} {r : Nat → Int32} (hk : ck i = k) (h : k < 6) : ∃ fs, cel E i r = .inr (k, fs) := by
  match k, h with
  | 0, _ => exact ⟨_, cel_X0 hk⟩
  | 1, _ => exact ⟨_, cel_X1 hk⟩
  | 2, _ => exact ⟨_, cel_X2 hk⟩
  | 3, _ => exact ⟨_, cel_X3 hk⟩
  | 4, _ => exact ⟨_, cel_X4 hk⟩
  | 5, _ => exact ⟨_, cel_X5 hk⟩
theorem ws_recv {E : En} {s : State} {ρ : Mem} {H : Heap} {i k : Nat} {C : vw_C} {sd : Nat → Prop} (hK : va_K (eD E) vwCl (eT E) s) (hP : va_P (eD E) vwCl (wsW E ρ) H) (hk : kd sd i k) (h6 : k < 6) (hC : vwCl[k]? = some C) : ∃ cell : Cell, H[eA E i]? = some cell ∧ cell.vm.isStatics = false ∧ s.vm.findClass C.1 = some cell.cls := by
  obtain ⟨fs, hf⟩ := cel_obj (E := E) (r := ρ i) hk.2.2 h6
  exact va_recv hK hP hC (by rw [ws_get hk.2.1, hf])
/-- the ends that a contract tells -/
abbrev QI (E : En) (mk : Mem → Mem) (r : Int32) (σ : Mem) : Array Value → State → Outcome → State → Prop := va_Qi (fun (r' : Int32) (_ : Unit) => r' = r) (fun _ t => WD E (mk σ) t) (WA E)
abbrev QL (E : En) (mk : Mem → Mem) (r : Int64) (σ : Mem) : Array Value → State → Outcome → State → Prop := va_Ql (fun (r' : Int64) (_ : Unit) => r' = r) (fun _ t => WD E (mk σ) t) (WA E)
abbrev QV (E : En) (mk : Mem → Mem) (σ : Mem) : Array Value → State → Outcome → State → Prop := va_Qv (fun (_ : Unit) => True) (fun _ t => WD E (mk σ) t) (WA E)
abbrev QR (E : En) (mk : Mem → Mem) (r : Nat) (σ : Mem) : Array Value → State → Outcome → State → Prop := va_Qr (fun (_ : Unit) => True) (fun _ a t => a = eA E r ∧ WD E (mk σ) t) (WA E)
abbrev PW (E : En) (mk : Mem → Mem) (av : List Value) (σ : Mem) : Array Value → State → Prop := va_Pc av (fun U => WD E (mk σ) U)
def RI (X : Cx) (ty : FieldType) (r : Int32) (σ : Mem) : Prop := (xM X).sig.returnType = some ty ∧ xQ X = MQ (xb X) (QI (xE X) (xk X) r σ) (xa X) (xs X) 0 0 (WA (xE X))
def RJ (X : Cx) (r : Int64) (σ : Mem) : Prop := (xM X).sig.returnType = some .long ∧ xQ X = MQ (xb X) (QL (xE X) (xk X) r σ) (xa X) (xs X) 0 0 (WA (xE X))
def RV (X : Cx) (σ : Mem) : Prop := (xM X).sig.returnType = none ∧ xQ X = MQ (xb X) (QV (xE X) (xk X) σ) (xa X) (xs X) 0 0 (WA (xE X))
def RR (X : Cx) (r : Nat) (σ : Mem) : Prop := (∃ C, (xM X).sig.returnType = some (.object C)) ∧ xQ X = MQ (xb X) (QR (xE X) (xk X) r σ) (xa X) (xs X) 0 0 (WA (xE X))
section CROWS
variable {X : Cx} {cc : ByteArray} {own : String} {sd : Nat → Prop} {nL : Nat} {R : Room} {l : Launch} {σ : Mem} {pc q i : Nat} {lv : LV} {rest : List Value} {ρ : Type} {res : ρ}
theorem g_iret (o : OK X cc own sd nL R l) {ty : FieldType} {r v : Int32} {σ' : Mem} (hr : RI X ty r σ') (h : some (v, σ) = some (r, σ')) (hn : narrow ty (.int v) = .int v) (d : decode cc pc = .ok (.ireturn, 1)) : G X σ pc lv [.int v] := fun H locs ls hP hS hl => by
  cases h
  rw [hr.2]
  exact W.zret (Qc := QI (xE X) (xk X) v σ) o.x o.b hr.1 hn (fun t ht hW => ⟨⟨v, (), rfl, rfl, by rw [ht]; exact hP, by rw [ht]; exact o.ck.move hW hS⟩, hS.F ht⟩) hS.2.2 d o.lo
theorem g_lret (o : OK X cc own sd nL R l) {r v : Int64} {σ' : Mem} (hr : RJ X r σ') (h : some (v, σ) = some (r, σ')) (d : decode cc pc = .ok (.lreturn, 1)) : G X σ pc lv [.long v] := fun H locs ls hP hS hl => by
  cases h
  rw [hr.2]
  exact W.lret (Qc := QL (xE X) (xk X) v σ) o.x o.b hr.1 (fun t ht hW => ⟨⟨v, (), rfl, rfl, by rw [ht]; exact hP, by rw [ht]; exact o.ck.move hW hS⟩, hS.F ht⟩) hS.2.2 d o.lo
theorem g_vret (o : OK X cc own sd nL R l) {u : Unit} {σ' : Mem} (hr : RV X σ') (h : some ((), σ) = some (u, σ')) (d : decode cc pc = .ok (.return_, 1)) : G X σ pc lv [] := fun H locs ls hP hS hl => by
  cases h
  rw [hr.2]
  exact W.vret (Qc := QV (xE X) (xk X) σ) o.x o.b hr.1 (fun t ht hW => ⟨⟨(), rfl, trivial, by rw [ht]; exact hP, by rw [ht]; exact o.ck.move hW hS⟩, hS.F ht⟩) hS.2.2 d o.lo
theorem g_aret (o : OK X cc own sd nL R l) {r v : Nat} {σ' : Mem} (hr : RR X r σ') (h : some (v, σ) = some (r, σ')) (d : decode cc pc = .ok (.areturn, 1)) : G X σ pc lv [.ref (eA (xE X) v)] := fun H locs ls hP hS hl => by
  cases h
  obtain ⟨⟨C, hC⟩, hQ⟩ := hr
  rw [hQ]
  exact W.aret (Qc := QR (xE X) (xk X) v σ) o.x o.b hC (Or.inl ⟨_, rfl⟩) (Or.inr ⟨_, rfl⟩) (fun t ht hW => ⟨⟨(), _, rfl, trivial, rfl, by rw [ht]; exact hP, by rw [ht]; exact o.ck.move hW hS⟩, hS.F ht⟩) hS.2.2 d o.lo
theorem g_cvi (o : OK X cc own sd nL R l) {y : MethodName} {b : ByteArray} {maxL n index : Nat} {ty : FieldType} {rm : Room} {As : List Value} {kk : Nat} {Cw : vw_C} (hc : Cvi y b maxL (some ty) n) (hm : Cond.methodLink own index y ∈ wt) (hk : kd sd i kk) (h6 : kk < 6) (hC : vwCl[kk]? = some Cw) (hcl : Cw.1 = y.cls) (hn : As.length = n) {f : Option (Int32 × Mem)} {K : Int32 → Mem → Option ρ} (hM : ∀ (r : Int32) (τ : Mem), f = some (r, τ) → Met (xl X) y (Cond.code y b maxL (some ty) :: wt) rm (PW (xE X) (xk X) (.ref (eA (xE X) i) :: As) σ) (QI (xE X) (xk X) r τ) 0 0 (WA (xE X))) (d : decode cc pc = .ok (.invokevirtual index, 3)) (hq : pc + 3 = q) (hR : rm.cells = 0 ∧ rm.slots = 0 ∧ rm.frames + 1 ≤ R.frames ∧ 8 + (maxL + 11) + rm.locals ≤ R.locals) (hw : (rest.map fun v => v.category).sum ≤ 8) {st : List Value} (hst : st = As.reverse ++ .ref (eA (xE X) i) :: rest) (h : vC f K = some res) (k : ∀ r τ, K r τ = some res → G X τ q lv (.int r :: rest)) : G X σ pc lv st := fun H locs ls hP hS hl => by
  subst hq
  subst hst
  obtain ⟨r, τ, h1, h2⟩ := vC_some h
  have hM := hM r τ h1
  have cw : CallW (xR X) (xs X) (xa X) own y.cls index y b maxL (some ty) (Cond.code y b maxL (some ty) :: wt) rm 0 0 n := cwV n o.ts (gin_v hm hc) rfl hR.1 hR.2.1 ⟨rfl, hc.2.2.2.2⟩ (by rw [o.r]; exact hR.2.2)
  have hp : PreV (xs X) H y.cls (eA (xE X) i) (PW (xE X) (xk X) (.ref (eA (xE X) i) :: As) σ) As := ⟨WD.blind, by rw [← hcl]; exact ws_recv o.ck.1 hP hk h6 hC, fun U hU hW => ⟨rfl, by rw [hU]; exact hP, by rw [hU]; exact o.ck.move hW hS⟩⟩
  refine va_calli (va_runV (As := As) (rest := rest) ⟨o.x, o.b, o.ml, o.ow, o.ts⟩ hM cw hp rfl hn (by rw [← o.n]; exact hl.1) rfl (lv_room hw) d ⟨Nat.zero_le _, Nat.zero_le _⟩) hS (fun _ _ h => h) (fun _ h => h) ?_
  intro r' u t H1 locs1 ht hvm hw1 hB hz hk1 hS1
  subst hw1
  exact k r' τ h2 H1 locs1 ls (by rw [← ht]; exact hB.1) hS1 hl
theorem g_cvv (o : OK X cc own sd nL R l) {y : MethodName} {b : ByteArray} {maxL n index : Nat} {rm : Room} {As : List Value} {kk : Nat} {Cw : vw_C} (hc : Cvi y b maxL none n) (hm : Cond.methodLink own index y ∈ wt) (hk : kd sd i kk) (h6 : kk < 6) (hC : vwCl[kk]? = some Cw) (hcl : Cw.1 = y.cls) (hn : As.length = n) {f : Option (Unit × Mem)} {K : Unit → Mem → Option ρ} (hM : ∀ (r : Unit) (τ : Mem), f = some (r, τ) → Met (xl X) y (Cond.code y b maxL none :: wt) rm (PW (xE X) (xk X) (.ref (eA (xE X) i) :: As) σ) (QV (xE X) (xk X) τ) 0 0 (WA (xE X))) (d : decode cc pc = .ok (.invokevirtual index, 3)) (hq : pc + 3 = q) (hR : rm.cells = 0 ∧ rm.slots = 0 ∧ rm.frames + 1 ≤ R.frames ∧ 8 + (maxL + 11) + rm.locals ≤ R.locals) (hw : (rest.map fun v => v.category).sum ≤ 8) {st : List Value} (hst : st = As.reverse ++ .ref (eA (xE X) i) :: rest) (h : vC f K = some res) (k : ∀ r τ, K r τ = some res → G X τ q lv (rest)) : G X σ pc lv st := fun H locs ls hP hS hl => by
  subst hq
  subst hst
  obtain ⟨r, τ, h1, h2⟩ := vC_some h
  have hM := hM r τ h1
  have cw : CallW (xR X) (xs X) (xa X) own y.cls index y b maxL none (Cond.code y b maxL none :: wt) rm 0 0 n := cwV n o.ts (gin_v hm hc) rfl hR.1 hR.2.1 ⟨rfl, hc.2.2.2.2⟩ (by rw [o.r]; exact hR.2.2)
  have hp : PreV (xs X) H y.cls (eA (xE X) i) (PW (xE X) (xk X) (.ref (eA (xE X) i) :: As) σ) As := ⟨WD.blind, by rw [← hcl]; exact ws_recv o.ck.1 hP hk h6 hC, fun U hU hW => ⟨rfl, by rw [hU]; exact hP, by rw [hU]; exact o.ck.move hW hS⟩⟩
  refine va_callv (va_runV (As := As) (rest := rest) ⟨o.x, o.b, o.ml, o.ow, o.ts⟩ hM cw hp rfl hn (by rw [← o.n]; exact hl.1) rfl (lv_room hw) d ⟨Nat.zero_le _, Nat.zero_le _⟩) hS (fun _ _ h => h) (fun _ h => h) ?_
  intro u t H1 locs1 ht hvm hw1 hB hz hk1 hS1
  exact k r τ h2 H1 locs1 ls (by rw [← ht]; exact hB.1) hS1 hl
theorem g_cvr (o : OK X cc own sd nL R l) {y : MethodName} {b : ByteArray} {maxL n index : Nat} {ty : FieldType} {rm : Room} {As : List Value} {kk : Nat} {Cw : vw_C} (hc : Cvi y b maxL (some ty) n) (hm : Cond.methodLink own index y ∈ wt) (hk : kd sd i kk) (h6 : kk < 6) (hC : vwCl[kk]? = some Cw) (hcl : Cw.1 = y.cls) (hn : As.length = n) {f : Option (Nat × Mem)} {K : Nat → Mem → Option ρ} (hM : ∀ (r : Nat) (τ : Mem), f = some (r, τ) → Met (xl X) y (Cond.code y b maxL (some ty) :: wt) rm (PW (xE X) (xk X) (.ref (eA (xE X) i) :: As) σ) (QR (xE X) (xk X) r τ) 0 0 (WA (xE X))) (d : decode cc pc = .ok (.invokevirtual index, 3)) (hq : pc + 3 = q) (hR : rm.cells = 0 ∧ rm.slots = 0 ∧ rm.frames + 1 ≤ R.frames ∧ 8 + (maxL + 11) + rm.locals ≤ R.locals) (hw : (rest.map fun v => v.category).sum ≤ 8) {st : List Value} (hst : st = As.reverse ++ .ref (eA (xE X) i) :: rest) (h : vC f K = some res) (k : ∀ r τ, K r τ = some res → G X τ q lv (.ref (eA (xE X) r) :: rest)) : G X σ pc lv st := fun H locs ls hP hS hl => by
  subst hq
  subst hst
  obtain ⟨r, τ, h1, h2⟩ := vC_some h
  have hM := hM r τ h1
  have cw : CallW (xR X) (xs X) (xa X) own y.cls index y b maxL (some ty) (Cond.code y b maxL (some ty) :: wt) rm 0 0 n := cwV n o.ts (gin_v hm hc) rfl hR.1 hR.2.1 ⟨rfl, hc.2.2.2.2⟩ (by rw [o.r]; exact hR.2.2)
  have hp : PreV (xs X) H y.cls (eA (xE X) i) (PW (xE X) (xk X) (.ref (eA (xE X) i) :: As) σ) As := ⟨WD.blind, by rw [← hcl]; exact ws_recv o.ck.1 hP hk h6 hC, fun U hU hW => ⟨rfl, by rw [hU]; exact hP, by rw [hU]; exact o.ck.move hW hS⟩⟩
  refine va_callr (va_runV (As := As) (rest := rest) ⟨o.x, o.b, o.ml, o.ow, o.ts⟩ hM cw hp rfl hn (by rw [← o.n]; exact hl.1) rfl (lv_room hw) d ⟨Nat.zero_le _, Nat.zero_le _⟩) hS (fun _ _ h => h) (fun _ h => h) ?_
  intro u ra t H1 locs1 ht hvm hw1 hB hz hk1 hS1
  obtain ⟨hra, hB⟩ := hB
  subst hra
  exact k r τ h2 H1 locs1 ls (by rw [← ht]; exact hB.1) hS1 hl
theorem g_cvl (o : OK X cc own sd nL R l) {y : MethodName} {b : ByteArray} {maxL n index : Nat} {ty : FieldType} {rm : Room} {As : List Value} {kk : Nat} {Cw : vw_C} (hc : Cvi y b maxL (some ty) n) (hm : Cond.methodLink own index y ∈ wt) (hk : kd sd i kk) (h6 : kk < 6) (hC : vwCl[kk]? = some Cw) (hcl : Cw.1 = y.cls) (hn : As.length = n) {f : Option (Int64 × Mem)} {K : Int64 → Mem → Option ρ} (hM : ∀ (r : Int64) (τ : Mem), f = some (r, τ) → Met (xl X) y (Cond.code y b maxL (some ty) :: wt) rm (PW (xE X) (xk X) (.ref (eA (xE X) i) :: As) σ) (QL (xE X) (xk X) r τ) 0 0 (WA (xE X))) (d : decode cc pc = .ok (.invokevirtual index, 3)) (hq : pc + 3 = q) (hR : rm.cells = 0 ∧ rm.slots = 0 ∧ rm.frames + 1 ≤ R.frames ∧ 8 + (maxL + 11) + rm.locals ≤ R.locals) (hw : (rest.map fun v => v.category).sum ≤ 8) {st : List Value} (hst : st = As.reverse ++ .ref (eA (xE X) i) :: rest) (h : vC f K = some res) (k : ∀ r τ, K r τ = some res → G X τ q lv (.long r :: rest)) : G X σ pc lv st := fun H locs ls hP hS hl => by
  subst hq
  subst hst
  obtain ⟨r, τ, h1, h2⟩ := vC_some h
  have hM := hM r τ h1
  have cw : CallW (xR X) (xs X) (xa X) own y.cls index y b maxL (some ty) (Cond.code y b maxL (some ty) :: wt) rm 0 0 n := cwV n o.ts (gin_v hm hc) rfl hR.1 hR.2.1 ⟨rfl, hc.2.2.2.2⟩ (by rw [o.r]; exact hR.2.2)
  have hp : PreV (xs X) H y.cls (eA (xE X) i) (PW (xE X) (xk X) (.ref (eA (xE X) i) :: As) σ) As := ⟨WD.blind, by rw [← hcl]; exact ws_recv o.ck.1 hP hk h6 hC, fun U hU hW => ⟨rfl, by rw [hU]; exact hP, by rw [hU]; exact o.ck.move hW hS⟩⟩
  refine va_calll (va_runV (As := As) (rest := rest) ⟨o.x, o.b, o.ml, o.ow, o.ts⟩ hM cw hp rfl hn (by rw [← o.n]; exact hl.1) rfl (lv_room hw) d ⟨Nat.zero_le _, Nat.zero_le _⟩) hS (fun _ _ h => h) (fun _ h => h) ?_
  intro r' u t H1 locs1 ht hvm hw1 hB hz hk1 hS1
  subst hw1
  exact k r' τ h2 H1 locs1 ls (by rw [← ht]; exact hB.1) hS1 hl
theorem g_csi (o : OK X cc own sd nL R l) {y : MethodName} {b : ByteArray} {maxL n index : Nat} {ty : FieldType} {rm : Room} {As : List Value} (hc : Cvs y b maxL (some ty) n) (hm : Cond.methodLink own index y ∈ wt) (hn : As.length = n) {f : Option (Int32 × Mem)} {K : Int32 → Mem → Option ρ} (hM : ∀ (r : Int32) (τ : Mem), f = some (r, τ) → Met (xl X) y (Cond.code y b maxL (some ty) :: wt) rm (PW (xE X) (xk X) As σ) (QI (xE X) (xk X) r τ) 0 0 (WA (xE X))) (d : decode cc pc = .ok (.invokestatic index, 3)) (hq : pc + 3 = q) (hR : rm.cells = 0 ∧ rm.slots = 0 ∧ rm.frames + 1 ≤ R.frames ∧ 8 + (maxL + 11) + rm.locals ≤ R.locals) (hw : (rest.map fun v => v.category).sum ≤ 8) {st : List Value} (hst : st = As.reverse ++ rest) (h : vC f K = some res) (k : ∀ r τ, K r τ = some res → G X τ q lv (.int r :: rest)) : G X σ pc lv st := fun H locs ls hP hS hl => by
  subst hq
  subst hst
  obtain ⟨r, τ, h1, h2⟩ := vC_some h
  have hM := hM r τ h1
  have cw : CallB (xR X) (xs X) (xa X) own index y b maxL (some ty) (Cond.code y b maxL (some ty) :: wt) rm 0 0 n ∧ (Cond.static y).before (xa X) (xs X) = true := ⟨callB_of n o.ts (gin_c hc.2.2.1) rfl hR.1 hR.2.1 (o.ts _ hc.2.1) (o.ts _ hm) hc.2.2.2 (by rw [o.r]; exact hR.2.2), o.ts _ hc.1⟩
  have hp : PreS (xs X) H (PW (xE X) (xk X) As σ) As := ⟨WD.blind, fun U hU hW => ⟨rfl, by rw [hU]; exact hP, by rw [hU]; exact o.ck.move hW hS⟩⟩
  refine va_calli (va_runS (As := As) (rest := rest) ⟨o.x, o.b, o.ml, o.ow, o.ts⟩ hM cw hp rfl hn (by rw [← o.n]; exact hl.1) rfl (lv_room hw) d ⟨Nat.zero_le _, Nat.zero_le _⟩) hS (fun _ _ h => h) (fun _ h => h) ?_
  intro r' u t H1 locs1 ht hvm hw1 hB hz hk1 hS1
  subst hw1
  exact k r' τ h2 H1 locs1 ls (by rw [← ht]; exact hB.1) hS1 hl
theorem g_csv (o : OK X cc own sd nL R l) {y : MethodName} {b : ByteArray} {maxL n index : Nat} {rm : Room} {As : List Value} (hc : Cvs y b maxL none n) (hm : Cond.methodLink own index y ∈ wt) (hn : As.length = n) {f : Option (Unit × Mem)} {K : Unit → Mem → Option ρ} (hM : ∀ (r : Unit) (τ : Mem), f = some (r, τ) → Met (xl X) y (Cond.code y b maxL none :: wt) rm (PW (xE X) (xk X) As σ) (QV (xE X) (xk X) τ) 0 0 (WA (xE X))) (d : decode cc pc = .ok (.invokestatic index, 3)) (hq : pc + 3 = q) (hR : rm.cells = 0 ∧ rm.slots = 0 ∧ rm.frames + 1 ≤ R.frames ∧ 8 + (maxL + 11) + rm.locals ≤ R.locals) (hw : (rest.map fun v => v.category).sum ≤ 8) {st : List Value} (hst : st = As.reverse ++ rest) (h : vC f K = some res) (k : ∀ r τ, K r τ = some res → G X τ q lv (rest)) : G X σ pc lv st := fun H locs ls hP hS hl => by
  subst hq
  subst hst
  obtain ⟨r, τ, h1, h2⟩ := vC_some h
  have hM := hM r τ h1
  have cw : CallB (xR X) (xs X) (xa X) own index y b maxL none (Cond.code y b maxL none :: wt) rm 0 0 n ∧ (Cond.static y).before (xa X) (xs X) = true := ⟨callB_of n o.ts (gin_c hc.2.2.1) rfl hR.1 hR.2.1 (o.ts _ hc.2.1) (o.ts _ hm) hc.2.2.2 (by rw [o.r]; exact hR.2.2), o.ts _ hc.1⟩
  have hp : PreS (xs X) H (PW (xE X) (xk X) As σ) As := ⟨WD.blind, fun U hU hW => ⟨rfl, by rw [hU]; exact hP, by rw [hU]; exact o.ck.move hW hS⟩⟩
  refine va_callv (va_runS (As := As) (rest := rest) ⟨o.x, o.b, o.ml, o.ow, o.ts⟩ hM cw hp rfl hn (by rw [← o.n]; exact hl.1) rfl (lv_room hw) d ⟨Nat.zero_le _, Nat.zero_le _⟩) hS (fun _ _ h => h) (fun _ h => h) ?_
  intro u t H1 locs1 ht hvm hw1 hB hz hk1 hS1
  exact k r τ h2 H1 locs1 ls (by rw [← ht]; exact hB.1) hS1 hl
end CROWS
theorem met_i {l : Launch} {y : MethodName} {b : ByteArray} {maxL : Nat} {rm : Room} {E : En} {mk : Mem → Mem} {sd : Nat → Prop} {σ σ' : Mem} {ty : FieldType} {r : Int32} (As : En → List Value) (hy : plainName y.cls = true) (hmk : MK mk sd) (hlen : (lg_sl (As E)).length ≤ maxL) (walk : ∀ X : Cx, OK X b y.cls sd maxL rm l → RI X ty r σ' → G X σ 0 (lv_args 0 (As (xE X))) []) :
    Met l y (Cond.code y b maxL (some ty) :: wt) rm (PW E mk (As E) σ) (QI E mk r σ') 0 0 (WA E) := by
  refine Met.ofW (cc := b) (maxL := maxL) (ret := (some ty)) hy rfl ?_
  intro p e s m args below meth c s₁ B hml hv
  obtain ⟨rfl, hP, hK⟩ := hv
  have hts := atoms_spec (ws := Cond.code y b maxL (some ty) :: wt) B.pre
  have hl := lv_entry (As E) (n := maxL) hlen
  rw [lg_entry_eq]
  exact walk (p, l, e, rm, s, m, (As E).toArray, below, meth, c, MQ below (QI E mk r σ') (As E).toArray s 0 0 (WA E), maxL, E, mk) ⟨B.exec, B.bytes, hml, rfl, findClass_of_methodNamed B.named, fun w h => hts w (List.mem_cons_of_mem _ h), hK, hmk, B.notSynchronized, rfl, rfl⟩ ⟨B.returns, rfl⟩ s.heap [] _ hP va_S.rf hl
theorem met_v {l : Launch} {y : MethodName} {b : ByteArray} {maxL : Nat} {rm : Room} {E : En} {mk : Mem → Mem} {sd : Nat → Prop} {σ σ' : Mem} (As : En → List Value) (hy : plainName y.cls = true) (hmk : MK mk sd) (hlen : (lg_sl (As E)).length ≤ maxL) (walk : ∀ X : Cx, OK X b y.cls sd maxL rm l → RV X σ' → G X σ 0 (lv_args 0 (As (xE X))) []) :
    Met l y (Cond.code y b maxL none :: wt) rm (PW E mk (As E) σ) (QV E mk σ') 0 0 (WA E) := by
  refine Met.ofW (cc := b) (maxL := maxL) (ret := none) hy rfl ?_
  intro p e s m args below meth c s₁ B hml hv
  obtain ⟨rfl, hP, hK⟩ := hv
  have hts := atoms_spec (ws := Cond.code y b maxL none :: wt) B.pre
  have hl := lv_entry (As E) (n := maxL) hlen
  rw [lg_entry_eq]
  exact walk (p, l, e, rm, s, m, (As E).toArray, below, meth, c, MQ below (QV E mk σ') (As E).toArray s 0 0 (WA E), maxL, E, mk) ⟨B.exec, B.bytes, hml, rfl, findClass_of_methodNamed B.named, fun w h => hts w (List.mem_cons_of_mem _ h), hK, hmk, B.notSynchronized, rfl, rfl⟩ ⟨B.returns, rfl⟩ s.heap [] _ hP va_S.rf hl
theorem met_l {l : Launch} {y : MethodName} {b : ByteArray} {maxL : Nat} {rm : Room} {E : En} {mk : Mem → Mem} {sd : Nat → Prop} {σ σ' : Mem} {r : Int64} (As : En → List Value) (hy : plainName y.cls = true) (hmk : MK mk sd) (hlen : (lg_sl (As E)).length ≤ maxL) (walk : ∀ X : Cx, OK X b y.cls sd maxL rm l → RJ X r σ' → G X σ 0 (lv_args 0 (As (xE X))) []) :
    Met l y (Cond.code y b maxL (some .long) :: wt) rm (PW E mk (As E) σ) (QL E mk r σ') 0 0 (WA E) := by
  refine Met.ofW (cc := b) (maxL := maxL) (ret := (some .long)) hy rfl ?_
  intro p e s m args below meth c s₁ B hml hv
  obtain ⟨rfl, hP, hK⟩ := hv
  have hts := atoms_spec (ws := Cond.code y b maxL (some .long) :: wt) B.pre
  have hl := lv_entry (As E) (n := maxL) hlen
  rw [lg_entry_eq]
  exact walk (p, l, e, rm, s, m, (As E).toArray, below, meth, c, MQ below (QL E mk r σ') (As E).toArray s 0 0 (WA E), maxL, E, mk) ⟨B.exec, B.bytes, hml, rfl, findClass_of_methodNamed B.named, fun w h => hts w (List.mem_cons_of_mem _ h), hK, hmk, B.notSynchronized, rfl, rfl⟩ ⟨B.returns, rfl⟩ s.heap [] _ hP va_S.rf hl
theorem met_r {l : Launch} {y : MethodName} {b : ByteArray} {maxL : Nat} {rm : Room} {E : En} {mk : Mem → Mem} {sd : Nat → Prop} {σ σ' : Mem} {r : Nat} {C : String} (As : En → List Value) (hy : plainName y.cls = true) (hmk : MK mk sd) (hlen : (lg_sl (As E)).length ≤ maxL) (walk : ∀ X : Cx, OK X b y.cls sd maxL rm l → RR X r σ' → G X σ 0 (lv_args 0 (As (xE X))) []) :
    Met l y (Cond.code y b maxL (some (.object C)) :: wt) rm (PW E mk (As E) σ) (QR E mk r σ') 0 0 (WA E) := by
  refine Met.ofW (cc := b) (maxL := maxL) (ret := (some (.object C))) hy rfl ?_
  intro p e s m args below meth c s₁ B hml hv
  obtain ⟨rfl, hP, hK⟩ := hv
  have hts := atoms_spec (ws := Cond.code y b maxL (some (.object C)) :: wt) B.pre
  have hl := lv_entry (As E) (n := maxL) hlen
  rw [lg_entry_eq]
  exact walk (p, l, e, rm, s, m, (As E).toArray, below, meth, c, MQ below (QR E mk r σ') (As E).toArray s 0 0 (WA E), maxL, E, mk) ⟨B.exec, B.bytes, hml, rfl, findClass_of_methodNamed B.named, fun w h => hts w (List.mem_cons_of_mem _ h), hK, hmk, B.notSynchronized, rfl, rfl⟩ ⟨⟨C, B.returns⟩, rfl⟩ s.heap [] _ hP va_S.rf hl
end
section
/-! what is left of rows: a shorter list of locals, checks, String constants -/
section SROWS
variable {X : Cx} {cc : ByteArray} {own : String} {sd : Nat → Prop} {nL : Nat} {R : Room} {l : Launch} {σ : Mem} {pc q i : Nat} {lv : LV} {rest : List Value} {ρ : Type} {res : ρ}
theorem g_sub {lv lv' : LV} {st : List Value} (is : List Nat) (h : lv_pick lv is = lv') (k : G X σ pc lv' st) : G X σ pc lv st := fun H locs ls hP hS hl => k H locs ls hP hS (lv_sub hl is h)
theorem vN_some {β : Type} {y : Int32} {K : Option β} {r : β} (h : vN y K = some r) : ¬ y = 0 ∧ K = some r := by
  unfold vN at h
  split at h
  · cases h
  · rename_i c; exact ⟨c, h⟩
theorem vB_some {β : Type} {y : Int32} {K : Option β} {r : β} (h : vB y K = some r) : (y = 0 ∨ y = 1) ∧ K = some r := by
  unfold vB at h
  split at h
  · rename_i c; exact ⟨c, h⟩
  · cases h
theorem g_lkIn (o : OK X cc own sd nL R l) {dflt : Int} {ps : Array (Int × Int)} {len tgt : Nat} {off : Int} {x : Int32} (v : Int32) {A B : Option ρ} (d : decode cc pc = .ok (.lookupswitch dflt ps, len)) (hp : (ps.toList.zip (ps.toList.drop 1)).all (fun (a, next) => a.1 < next.1) = true) (ho : Op.lookupswitch.offset ps.toList dflt v.toInt = off) (ht : (pc : Int) + off = (tgt : Int)) (h : (if x = v then A else B) = some res) (kt : A = some res → G X σ tgt lv rest) (kf : ¬ x = v → B = some res → G X σ pc lv (.int x :: rest)) : G X σ pc lv (.int x :: rest) := by
  by_cases c : x = v
  · rw [if_pos c] at h
    subst c
    exact fun H locs ls hP hS hl => lv_lookup o.x o.b d hp ho ht (kt h H locs ls hP hS hl)
  · rw [if_neg c] at h
    exact kf c h
theorem lk_out2 {x a b : Int32} {dflt oa ob : Int} (ha : ¬ x = a) (hb : ¬ x = b) : Op.lookupswitch.offset [(a.toInt, oa), (b.toInt, ob)] dflt x.toInt = dflt := by
  have h1 : ¬ a.toInt = x.toInt := fun h => ha (Int32.toInt_inj.mp h.symm)
  have h2 : ¬ b.toInt = x.toInt := fun h => hb (Int32.toInt_inj.mp h.symm)
  show (if a.toInt = x.toInt then oa else if b.toInt = x.toInt then ob else dflt) = dflt
  rw [if_neg h1, if_neg h2]
theorem g_ldcS (o : OK X cc own sd nL R l) {t index : Nat} {tx : String} (ht : (own, index, tx, t) ∈ kRefs) (d : decode cc pc = .ok (.ldc index, 2)) (hq : pc + 2 = q) (k : G X σ q lv (.ref (eK (xE X) t) :: rest)) : G X σ pc lv rest := fun H locs ls hP hS hl => by
  subst hq
  exact va_ldcS o.x o.b o.ow (o.ck.2.2.2.2.2.1 _ ht) d (k H locs ls hP hS hl)
theorem g_str (o : OK X cc own sd nL R l) {t : Nat} (ht : t < 14) : va_O "java/lang/String" (eK (xE X) t) (WA (xE X)) (xs X) (xs X).heap ∧ va_OF "java/lang/String" "coder" "B" (.int 0) (eK (xE X) t) (WA (xE X)) (xs X) (xs X).heap ∧ va_OF "java/lang/String" "value" "[B" (.ref (eV (xE X) t)) (eK (xE X) t) (WA (xE X)) (xs X) (xs X).heap ∧ va_T .byte (eV (xE X) t) (kLen.getD t 0) (fun j => .int ((kByt.getD t []).getD j 0)) (WA (xE X)) (xs X) (xs X).heap := o.ck.2.2.2.2.1.1 t ht
theorem g_sval (o : OK X cc own sd nL R l) {t : Nat} (ht : t < 14) {index : Nat} (hf : Cond.fieldLink own index "java/lang/String" "value" "[B" ∈ wt) (d : decode cc pc = .ok (.getfield index, 3)) (hq : pc + 3 = q) (k : G X σ q lv (.ref (eV (xE X) t) :: rest)) : G X σ pc lv (.ref (eK (xE X) t) :: rest) := fun H locs ls hP hS hl => by
  subst hq
  exact vk_getf o.x o.b (g_str o ht).2.2.1 hS o.ow (o.ts _ hf) (fun _ h => h) d (k H locs ls hP hS hl)
theorem g_scod (o : OK X cc own sd nL R l) {t : Nat} (ht : t < 14) {index : Nat} (hf : Cond.fieldLink own index "java/lang/String" "coder" "B" ∈ wt) (d : decode cc pc = .ok (.getfield index, 3)) (hq : pc + 3 = q) (k : G X σ q lv (.int 0 :: rest)) : G X σ pc lv (.ref (eK (xE X) t) :: rest) := fun H locs ls hP hS hl => by
  subst hq
  exact vk_getf o.x o.b (g_str o ht).2.1 hS o.ow (o.ts _ hf) (fun _ h => h) d (k H locs ls hP hS hl)
theorem g_slen (o : OK X cc own sd nL R l) {t : Nat} (ht : t < 14) (d : decode cc pc = .ok (.arraylength, 1)) (hq : pc + 1 = q) (k : G X σ q lv (.int (Int32.ofNat (kLen.getD t 0)) :: rest)) : G X σ pc lv (.ref (eV (xE X) t) :: rest) := fun H locs ls hP hS hl => by
  subst hq
  exact va_tlen o.x o.b (g_str o ht).2.2.2 hS rfl d (k H locs ls hP hS hl)
theorem g_sbld (o : OK X cc own sd nL R l) {t : Nat} (ht : t < 14) {x : Int32} (hin : vp_in x (kLen.getD t 0)) (d : decode cc pc = .ok (.baload, 1)) (hq : pc + 1 = q) (k : G X σ q lv (.int ((kByt.getD t []).getD x.toNatClampNeg 0) :: rest)) : G X σ pc lv (.int x :: .ref (eV (xE X) t) :: rest) := fun H locs ls hP hS hl => by
  subst hq
  exact va_tb o.x o.b (g_str o ht).2.2.2 hS hin rfl d (k H locs ls hP hS hl)
theorem g_comp (o : OK X cc own sd nL R l) {index : Nat} (hf : Cond.fieldLink own index "java/lang/String" "COMPACT_STRINGS" "Z" ∈ wt) (d : decode cc pc = .ok (.getstatic index, 3)) (hq : pc + 3 = q) (k : G X σ q lv (.int 1 :: rest)) : G X σ pc lv rest := fun H locs ls hP hS hl => by
  subst hq
  exact va_gets o.x o.b o.ck.2.2.2.1 hS o.ow (o.ts _ hf) (fun _ h => h) d (k H locs ls hP hS hl)
theorem g_sioo (o : OK X cc own sd nL R l) {index : Nat} (hf : Cond.fieldLink own index "jdk/internal/util/Preconditions" "SIOOBE_FORMATTER" "Ljava/util/function/BiFunction;" ∈ wt) (d : decode cc pc = .ok (.getstatic index, 3)) (hq : pc + 3 = q) (k : ∀ v : Value, v.category = 1 → G X σ q lv (v :: rest)) : G X σ pc lv rest := fun H locs ls hP hS hl => by
  subst hq
  rcases o.ck.2.2.2.2.2.2.2 with h | ⟨t, h⟩
  · exact va_gets o.x o.b h hS o.ow (o.ts _ hf) (fun _ h => h) d (k .null rfl H locs ls hP hS hl)
  · exact va_gets o.x o.b h hS o.ow (o.ts _ hf) (fun _ h => h) d (k (.ref t) rfl H locs ls hP hS hl)
/-- a call of a method of a String constant -/
theorem g_cst (o : OK X cc own sd nL R l) {y : MethodName} {b : ByteArray} {maxL n index : Nat} {ty : FieldType} {rm : Room} {As : List Value} (hc : Cvi y b maxL (some ty) n) (hm : Cond.methodLink own index y ∈ wt) {t : Nat} (ht : t < 14) (hcl : "java/lang/String" = y.cls) (hn : As.length = n) {f : Option (Int32 × Mem)} {K : Int32 → Mem → Option ρ} (hM : ∀ (r : Int32) (τ : Mem), f = some (r, τ) → Met (xl X) y (Cond.code y b maxL (some ty) :: wt) rm (PW (xE X) (xk X) (.ref (eK (xE X) t) :: As) σ) (QI (xE X) (xk X) r τ) 0 0 (WA (xE X))) (d : decode cc pc = .ok (.invokevirtual index, 3)) (hq : pc + 3 = q) (hR : rm.cells = 0 ∧ rm.slots = 0 ∧ rm.frames + 1 ≤ R.frames ∧ 8 + (maxL + 11) + rm.locals ≤ R.locals) (hw : (rest.map fun v => v.category).sum ≤ 8) {st : List Value} (hst : st = As.reverse ++ .ref (eK (xE X) t) :: rest) (h : vC f K = some res) (k : ∀ r τ, K r τ = some res → G X τ q lv (.int r :: rest)) : G X σ pc lv st := fun H locs ls hP hS hl => by
  subst hq
  subst hst
  obtain ⟨r, τ, h1, h2⟩ := vC_some h
  have hM := hM r τ h1
  have cw : CallW (xR X) (xs X) (xa X) own y.cls index y b maxL (some ty) (Cond.code y b maxL (some ty) :: wt) rm 0 0 n := cwV n o.ts (gin_v hm hc) rfl hR.1 hR.2.1 ⟨rfl, hc.2.2.2.2⟩ (by rw [o.r]; exact hR.2.2)
  have hp : PreV (xs X) H y.cls (eK (xE X) t) (PW (xE X) (xk X) (.ref (eK (xE X) t) :: As) σ) As := ⟨WD.blind, by rw [← hcl]; exact vk_recv o.ck.2.2.2.2.1 ht hS, fun U hU hW => ⟨rfl, by rw [hU]; exact hP, by rw [hU]; exact o.ck.move hW hS⟩⟩
  refine va_calli (va_runV (As := As) (rest := rest) ⟨o.x, o.b, o.ml, o.ow, o.ts⟩ hM cw hp rfl hn (by rw [← o.n]; exact hl.1) rfl (lv_room hw) d ⟨Nat.zero_le _, Nat.zero_le _⟩) hS (fun _ _ h => h) (fun _ h => h) ?_
  intro r' u t H1 locs1 ht hvm hw1 hB hz hk1 hS1
  subst hw1
  exact k r' τ h2 H1 locs1 ls (by rw [← ht]; exact hB.1) hS1 hl
end SROWS
end
