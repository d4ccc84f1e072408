-- ===== PART A: goes FIRST, ahead of the names: the tables' words, and 'selects' of the private methods out of them =====
/-- a private method of a class that the tables say can be made, by its rows of tables_1 -/
def lw_okq (q : MethodName × Nat) : Prop := (q.1.cls ≠ "java/lang/invoke/MethodHandle" ∧ q.1.cls ≠ "java/lang/invoke/VarHandle") ∧ Cond.instantiable q.1.cls q.2 ∈ tables_1 ∧ Cond.privateMethod q.1 ∈ tables_1 ∧ Cond.instanceMethod q.1 ∈ tables_1
theorem lw_p0 : lw_okq (⟨"WordForge$Vocabulary", "learn", "(Ljava/lang/String;I)V"⟩, 1) := ⟨⟨by decide +kernel, by decide +kernel⟩, List.mem_of_getElem? (i := 205) (by decide +kernel), List.mem_of_getElem? (i := 212) (by decide +kernel), List.mem_of_getElem? (i := 213) (by decide +kernel)⟩
theorem lw_p1 : lw_okq (⟨"WordForge$Text", "charAt", "(I)C"⟩, 5) := ⟨⟨by decide +kernel, by decide +kernel⟩, List.mem_of_getElem? (i := 28) (by decide +kernel), List.mem_of_getElem? (i := 353) (by decide +kernel), List.mem_of_getElem? (i := 354) (by decide +kernel)⟩
theorem lw_p2 : lw_okq (⟨"WordForge$Loader", "takeWord", "()I"⟩, 5) := ⟨⟨by decide +kernel, by decide +kernel⟩, List.mem_of_getElem? (i := 199) (by decide +kernel), List.mem_of_getElem? (i := 357) (by decide +kernel), List.mem_of_getElem? (i := 358) (by decide +kernel)⟩
theorem lw_p3 : lw_okq (⟨"WordForge$Loader", "opOfWord", "()I"⟩, 5) := ⟨⟨by decide +kernel, by decide +kernel⟩, List.mem_of_getElem? (i := 199) (by decide +kernel), List.mem_of_getElem? (i := 361) (by decide +kernel), List.mem_of_getElem? (i := 362) (by decide +kernel)⟩
theorem lw_p4 : lw_okq (⟨"WordForge$Text", "firstDigit", "()I"⟩, 5) := ⟨⟨by decide +kernel, by decide +kernel⟩, List.mem_of_getElem? (i := 28) (by decide +kernel), List.mem_of_getElem? (i := 369) (by decide +kernel), List.mem_of_getElem? (i := 370) (by decide +kernel)⟩
theorem lw_p5 : lw_okq (⟨"WordForge$Loader", "define", "()I"⟩, 5) := ⟨⟨by decide +kernel, by decide +kernel⟩, List.mem_of_getElem? (i := 199) (by decide +kernel), List.mem_of_getElem? (i := 391) (by decide +kernel), List.mem_of_getElem? (i := 392) (by decide +kernel)⟩
theorem lw_p6 : lw_okq (⟨"WordForge$Loader", "canBeName", "(I)Z"⟩, 5) := ⟨⟨by decide +kernel, by decide +kernel⟩, List.mem_of_getElem? (i := 199) (by decide +kernel), List.mem_of_getElem? (i := 395) (by decide +kernel), List.mem_of_getElem? (i := 396) (by decide +kernel)⟩
theorem lw_p7 : lw_okq (⟨"WordForge$Linker", "begin", "(II)Z"⟩, 4) := ⟨⟨by decide +kernel, by decide +kernel⟩, List.mem_of_getElem? (i := 98) (by decide +kernel), List.mem_of_getElem? (i := 423) (by decide +kernel), List.mem_of_getElem? (i := 424) (by decide +kernel)⟩
theorem lw_p8 : lw_okq (⟨"WordForge$Linker", "divide", "(II)Z"⟩, 4) := ⟨⟨by decide +kernel, by decide +kernel⟩, List.mem_of_getElem? (i := 98) (by decide +kernel), List.mem_of_getElem? (i := 427) (by decide +kernel), List.mem_of_getElem? (i := 428) (by decide +kernel)⟩
theorem lw_p9 : lw_okq (⟨"WordForge$Linker", "close", "(II)Z"⟩, 4) := ⟨⟨by decide +kernel, by decide +kernel⟩, List.mem_of_getElem? (i := 98) (by decide +kernel), List.mem_of_getElem? (i := 435) (by decide +kernel), List.mem_of_getElem? (i := 436) (by decide +kernel)⟩
theorem lw_p10 : lw_okq (⟨"WordForge$Loader", "argOfWord", "(I)I"⟩, 5) := ⟨⟨by decide +kernel, by decide +kernel⟩, List.mem_of_getElem? (i := 199) (by decide +kernel), List.mem_of_getElem? (i := 443) (by decide +kernel), List.mem_of_getElem? (i := 444) (by decide +kernel)⟩
theorem lw_p11 : lw_okq (⟨"WordForge$Loader", "forget", "()I"⟩, 5) := ⟨⟨by decide +kernel, by decide +kernel⟩, List.mem_of_getElem? (i := 199) (by decide +kernel), List.mem_of_getElem? (i := 463) (by decide +kernel), List.mem_of_getElem? (i := 464) (by decide +kernel)⟩
theorem lw_p12 : lw_okq (⟨"WordForge$Machine", "doWord", "(II)I"⟩, 12) := ⟨⟨by decide +kernel, by decide +kernel⟩, List.mem_of_getElem? (i := 136) (by decide +kernel), List.mem_of_getElem? (i := 478) (by decide +kernel), List.mem_of_getElem? (i := 479) (by decide +kernel)⟩
theorem lw_p13 : lw_okq (⟨"WordForge$Machine", "faultOf", "(I)I"⟩, 12) := ⟨⟨by decide +kernel, by decide +kernel⟩, List.mem_of_getElem? (i := 136) (by decide +kernel), List.mem_of_getElem? (i := 485) (by decide +kernel), List.mem_of_getElem? (i := 486) (by decide +kernel)⟩
theorem lw_p14 : lw_okq (⟨"WordForge$Machine", "arrange", "(I)V"⟩, 12) := ⟨⟨by decide +kernel, by decide +kernel⟩, List.mem_of_getElem? (i := 136) (by decide +kernel), List.mem_of_getElem? (i := 517) (by decide +kernel), List.mem_of_getElem? (i := 518) (by decide +kernel)⟩
theorem lw_p15 : lw_okq (⟨"WordForge$Machine", "store", "(I)V"⟩, 12) := ⟨⟨by decide +kernel, by decide +kernel⟩, List.mem_of_getElem? (i := 136) (by decide +kernel), List.mem_of_getElem? (i := 560) (by decide +kernel), List.mem_of_getElem? (i := 561) (by decide +kernel)⟩
def lw_privs_1 : List (MethodName × Nat) := [(⟨"WordForge$Vocabulary", "learn", "(Ljava/lang/String;I)V"⟩, 1), (⟨"WordForge$Text", "charAt", "(I)C"⟩, 5), (⟨"WordForge$Loader", "takeWord", "()I"⟩, 5), (⟨"WordForge$Loader", "opOfWord", "()I"⟩, 5), (⟨"WordForge$Text", "firstDigit", "()I"⟩, 5), (⟨"WordForge$Loader", "define", "()I"⟩, 5), (⟨"WordForge$Loader", "canBeName", "(I)Z"⟩, 5), (⟨"WordForge$Linker", "begin", "(II)Z"⟩, 4), (⟨"WordForge$Linker", "divide", "(II)Z"⟩, 4), (⟨"WordForge$Linker", "close", "(II)Z"⟩, 4), (⟨"WordForge$Loader", "argOfWord", "(I)I"⟩, 5), (⟨"WordForge$Loader", "forget", "()I"⟩, 5), (⟨"WordForge$Machine", "doWord", "(II)I"⟩, 12), (⟨"WordForge$Machine", "faultOf", "(I)I"⟩, 12), (⟨"WordForge$Machine", "arrange", "(I)V"⟩, 12), (⟨"WordForge$Machine", "store", "(I)V"⟩, 12)]
theorem lw_r1 : ∀ q ∈ lw_privs_1, lw_okq q := List.forall_mem_cons.mpr ⟨lw_p0, List.forall_mem_cons.mpr ⟨lw_p1, List.forall_mem_cons.mpr ⟨lw_p2, List.forall_mem_cons.mpr ⟨lw_p3, List.forall_mem_cons.mpr ⟨lw_p4, List.forall_mem_cons.mpr ⟨lw_p5, List.forall_mem_cons.mpr ⟨lw_p6, List.forall_mem_cons.mpr ⟨lw_p7, List.forall_mem_cons.mpr ⟨lw_p8, List.forall_mem_cons.mpr ⟨lw_p9, List.forall_mem_cons.mpr ⟨lw_p10, List.forall_mem_cons.mpr ⟨lw_p11, List.forall_mem_cons.mpr ⟨lw_p12, List.forall_mem_cons.mpr ⟨lw_p13, List.forall_mem_cons.mpr ⟨lw_p14, List.forall_mem_cons.mpr ⟨lw_p15, fun _ h => absurd h List.not_mem_nil⟩⟩⟩⟩⟩⟩⟩⟩⟩⟩⟩⟩⟩⟩⟩⟩
theorem lw_p16 : lw_okq (⟨"WordForge$Machine", "writeCell", "(II)V"⟩, 12) := ⟨⟨by decide +kernel, by decide +kernel⟩, List.mem_of_getElem? (i := 136) (by decide +kernel), List.mem_of_getElem? (i := 568) (by decide +kernel), List.mem_of_getElem? (i := 569) (by decide +kernel)⟩
theorem lw_p17 : lw_okq (⟨"WordForge$Machine", "control", "(II)V"⟩, 12) := ⟨⟨by decide +kernel, by decide +kernel⟩, List.mem_of_getElem? (i := 136) (by decide +kernel), List.mem_of_getElem? (i := 576) (by decide +kernel), List.mem_of_getElem? (i := 577) (by decide +kernel)⟩
theorem lw_p18 : lw_okq (⟨"WordForge$Machine", "enter", "(I)V"⟩, 12) := ⟨⟨by decide +kernel, by decide +kernel⟩, List.mem_of_getElem? (i := 136) (by decide +kernel), List.mem_of_getElem? (i := 580) (by decide +kernel), List.mem_of_getElem? (i := 581) (by decide +kernel)⟩
theorem lw_p19 : lw_okq (⟨"WordForge$Machine", "leave", "()V"⟩, 12) := ⟨⟨by decide +kernel, by decide +kernel⟩, List.mem_of_getElem? (i := 136) (by decide +kernel), List.mem_of_getElem? (i := 589) (by decide +kernel), List.mem_of_getElem? (i := 590) (by decide +kernel)⟩
theorem lw_p20 : lw_okq (⟨"WordForge$Machine", "leads", "(I)Z"⟩, 12) := ⟨⟨by decide +kernel, by decide +kernel⟩, List.mem_of_getElem? (i := 136) (by decide +kernel), List.mem_of_getElem? (i := 601) (by decide +kernel), List.mem_of_getElem? (i := 602) (by decide +kernel)⟩
theorem lw_p21 : lw_okq (⟨"WordForge$Machine", "atBodyEnd", "(I)Z"⟩, 12) := ⟨⟨by decide +kernel, by decide +kernel⟩, List.mem_of_getElem? (i := 136) (by decide +kernel), List.mem_of_getElem? (i := 610) (by decide +kernel), List.mem_of_getElem? (i := 611) (by decide +kernel)⟩
theorem lw_p22 : lw_okq (⟨"WordForgeModel", "split", "()V"⟩, 27) := ⟨⟨by decide +kernel, by decide +kernel⟩, List.mem_of_getElem? (i := 711) (by decide +kernel), List.mem_of_getElem? (i := 811) (by decide +kernel), List.mem_of_getElem? (i := 812) (by decide +kernel)⟩
theorem lw_p23 : lw_okq (⟨"WordForgeModel", "outside", "(I)I"⟩, 27) := ⟨⟨by decide +kernel, by decide +kernel⟩, List.mem_of_getElem? (i := 711) (by decide +kernel), List.mem_of_getElem? (i := 815) (by decide +kernel), List.mem_of_getElem? (i := 816) (by decide +kernel)⟩
theorem lw_p24 : lw_okq (⟨"WordForgeModel", "spelled", "(I)J"⟩, 27) := ⟨⟨by decide +kernel, by decide +kernel⟩, List.mem_of_getElem? (i := 711) (by decide +kernel), List.mem_of_getElem? (i := 819) (by decide +kernel), List.mem_of_getElem? (i := 820) (by decide +kernel)⟩
theorem lw_p25 : lw_okq (⟨"WordForgeModel", "define", "(I)I"⟩, 27) := ⟨⟨by decide +kernel, by decide +kernel⟩, List.mem_of_getElem? (i := 711) (by decide +kernel), List.mem_of_getElem? (i := 826) (by decide +kernel), List.mem_of_getElem? (i := 827) (by decide +kernel)⟩
theorem lw_p26 : lw_okq (⟨"WordForgeModel", "isNumber", "(I)Z"⟩, 27) := ⟨⟨by decide +kernel, by decide +kernel⟩, List.mem_of_getElem? (i := 711) (by decide +kernel), List.mem_of_getElem? (i := 830) (by decide +kernel), List.mem_of_getElem? (i := 831) (by decide +kernel)⟩
theorem lw_p27 : lw_okq (⟨"WordForgeModel", "used", "()I"⟩, 27) := ⟨⟨by decide +kernel, by decide +kernel⟩, List.mem_of_getElem? (i := 711) (by decide +kernel), List.mem_of_getElem? (i := 891) (by decide +kernel), List.mem_of_getElem? (i := 892) (by decide +kernel)⟩
theorem lw_p28 : lw_okq (⟨"WordForgeModel", "balanced", "(II)Z"⟩, 27) := ⟨⟨by decide +kernel, by decide +kernel⟩, List.mem_of_getElem? (i := 711) (by decide +kernel), List.mem_of_getElem? (i := 895) (by decide +kernel), List.mem_of_getElem? (i := 896) (by decide +kernel)⟩
theorem lw_p29 : lw_okq (⟨"WordForgeModel", "entry", "(IJI)Z"⟩, 27) := ⟨⟨by decide +kernel, by decide +kernel⟩, List.mem_of_getElem? (i := 711) (by decide +kernel), List.mem_of_getElem? (i := 899) (by decide +kernel), List.mem_of_getElem? (i := 900) (by decide +kernel)⟩
theorem lw_p30 : lw_okq (⟨"WordForgeModel", "number", "(I)I"⟩, 27) := ⟨⟨by decide +kernel, by decide +kernel⟩, List.mem_of_getElem? (i := 711) (by decide +kernel), List.mem_of_getElem? (i := 903) (by decide +kernel), List.mem_of_getElem? (i := 904) (by decide +kernel)⟩
theorem lw_p31 : lw_okq (⟨"WordForgeModel", "meant", "(J)I"⟩, 27) := ⟨⟨by decide +kernel, by decide +kernel⟩, List.mem_of_getElem? (i := 711) (by decide +kernel), List.mem_of_getElem? (i := 907) (by decide +kernel), List.mem_of_getElem? (i := 908) (by decide +kernel)⟩
def lw_privs_2 : List (MethodName × Nat) := [(⟨"WordForge$Machine", "writeCell", "(II)V"⟩, 12), (⟨"WordForge$Machine", "control", "(II)V"⟩, 12), (⟨"WordForge$Machine", "enter", "(I)V"⟩, 12), (⟨"WordForge$Machine", "leave", "()V"⟩, 12), (⟨"WordForge$Machine", "leads", "(I)Z"⟩, 12), (⟨"WordForge$Machine", "atBodyEnd", "(I)Z"⟩, 12), (⟨"WordForgeModel", "split", "()V"⟩, 27), (⟨"WordForgeModel", "outside", "(I)I"⟩, 27), (⟨"WordForgeModel", "spelled", "(I)J"⟩, 27), (⟨"WordForgeModel", "define", "(I)I"⟩, 27), (⟨"WordForgeModel", "isNumber", "(I)Z"⟩, 27), (⟨"WordForgeModel", "used", "()I"⟩, 27), (⟨"WordForgeModel", "balanced", "(II)Z"⟩, 27), (⟨"WordForgeModel", "entry", "(IJI)Z"⟩, 27), (⟨"WordForgeModel", "number", "(I)I"⟩, 27), (⟨"WordForgeModel", "meant", "(J)I"⟩, 27)]
theorem lw_r2 : ∀ q ∈ lw_privs_2, lw_okq q := List.forall_mem_cons.mpr ⟨lw_p16, List.forall_mem_cons.mpr ⟨lw_p17, List.forall_mem_cons.mpr ⟨lw_p18, List.forall_mem_cons.mpr ⟨lw_p19, List.forall_mem_cons.mpr ⟨lw_p20, List.forall_mem_cons.mpr ⟨lw_p21, List.forall_mem_cons.mpr ⟨lw_p22, List.forall_mem_cons.mpr ⟨lw_p23, List.forall_mem_cons.mpr ⟨lw_p24, List.forall_mem_cons.mpr ⟨lw_p25, List.forall_mem_cons.mpr ⟨lw_p26, List.forall_mem_cons.mpr ⟨lw_p27, List.forall_mem_cons.mpr ⟨lw_p28, List.forall_mem_cons.mpr ⟨lw_p29, List.forall_mem_cons.mpr ⟨lw_p30, List.forall_mem_cons.mpr ⟨lw_p31, fun _ h => absurd h List.not_mem_nil⟩⟩⟩⟩⟩⟩⟩⟩⟩⟩⟩⟩⟩⟩⟩⟩
theorem lw_p32 : lw_okq (⟨"WordForgeModel", "numberStep", "(I)Z"⟩, 27) := ⟨⟨by decide +kernel, by decide +kernel⟩, List.mem_of_getElem? (i := 711) (by decide +kernel), List.mem_of_getElem? (i := 911) (by decide +kernel), List.mem_of_getElem? (i := 912) (by decide +kernel)⟩
theorem lw_p33 : lw_okq (⟨"WordForgeModel", "stop", "(I)Z"⟩, 27) := ⟨⟨by decide +kernel, by decide +kernel⟩, List.mem_of_getElem? (i := 711) (by decide +kernel), List.mem_of_getElem? (i := 915) (by decide +kernel), List.mem_of_getElem? (i := 916) (by decide +kernel)⟩
theorem lw_p34 : lw_okq (⟨"WordForgeModel", "put", "(J)V"⟩, 27) := ⟨⟨by decide +kernel, by decide +kernel⟩, List.mem_of_getElem? (i := 711) (by decide +kernel), List.mem_of_getElem? (i := 919) (by decide +kernel), List.mem_of_getElem? (i := 920) (by decide +kernel)⟩
theorem lw_p35 : lw_okq (⟨"WordForgeModel", "plainStep", "(I)Z"⟩, 27) := ⟨⟨by decide +kernel, by decide +kernel⟩, List.mem_of_getElem? (i := 711) (by decide +kernel), List.mem_of_getElem? (i := 923) (by decide +kernel), List.mem_of_getElem? (i := 924) (by decide +kernel)⟩
theorem lw_p36 : lw_okq (⟨"WordForgeModel", "grows", "(I)Z"⟩, 27) := ⟨⟨by decide +kernel, by decide +kernel⟩, List.mem_of_getElem? (i := 711) (by decide +kernel), List.mem_of_getElem? (i := 930) (by decide +kernel), List.mem_of_getElem? (i := 931) (by decide +kernel)⟩
theorem lw_p37 : lw_okq (⟨"WordForgeModel", "made", "(III)J"⟩, 27) := ⟨⟨by decide +kernel, by decide +kernel⟩, List.mem_of_getElem? (i := 711) (by decide +kernel), List.mem_of_getElem? (i := 934) (by decide +kernel), List.mem_of_getElem? (i := 935) (by decide +kernel)⟩
theorem lw_p38 : lw_okq (⟨"WordForgeModel", "call", "(I)Z"⟩, 27) := ⟨⟨by decide +kernel, by decide +kernel⟩, List.mem_of_getElem? (i := 711) (by decide +kernel), List.mem_of_getElem? (i := 941) (by decide +kernel), List.mem_of_getElem? (i := 942) (by decide +kernel)⟩
theorem lw_p39 : lw_okq (⟨"WordForgeModel", "go", "()Z"⟩, 27) := ⟨⟨by decide +kernel, by decide +kernel⟩, List.mem_of_getElem? (i := 711) (by decide +kernel), List.mem_of_getElem? (i := 945) (by decide +kernel), List.mem_of_getElem? (i := 946) (by decide +kernel)⟩
theorem lw_p40 : lw_okq (⟨"WordForgeModel", "leave", "()V"⟩, 27) := ⟨⟨by decide +kernel, by decide +kernel⟩, List.mem_of_getElem? (i := 711) (by decide +kernel), List.mem_of_getElem? (i := 950) (by decide +kernel), List.mem_of_getElem? (i := 951) (by decide +kernel)⟩
theorem lw_p41 : lw_okq (⟨"WordForgeModel", "kindAt", "(II)I"⟩, 27) := ⟨⟨by decide +kernel, by decide +kernel⟩, List.mem_of_getElem? (i := 711) (by decide +kernel), List.mem_of_getElem? (i := 954) (by decide +kernel), List.mem_of_getElem? (i := 955) (by decide +kernel)⟩
theorem lw_p42 : lw_okq (⟨"WordForgeModel", "controlStep", "(III)Z"⟩, 27) := ⟨⟨by decide +kernel, by decide +kernel⟩, List.mem_of_getElem? (i := 711) (by decide +kernel), List.mem_of_getElem? (i := 958) (by decide +kernel), List.mem_of_getElem? (i := 959) (by decide +kernel)⟩
theorem lw_p43 : lw_okq (⟨"WordForgeModel", "behind", "(IIZ)I"⟩, 27) := ⟨⟨by decide +kernel, by decide +kernel⟩, List.mem_of_getElem? (i := 711) (by decide +kernel), List.mem_of_getElem? (i := 962) (by decide +kernel), List.mem_of_getElem? (i := 963) (by decide +kernel)⟩
theorem lw_p44 : lw_okq (⟨"WordForgeModel", "is", "(III)Z"⟩, 27) := ⟨⟨by decide +kernel, by decide +kernel⟩, List.mem_of_getElem? (i := 711) (by decide +kernel), List.mem_of_getElem? (i := 966) (by decide +kernel), List.mem_of_getElem? (i := 967) (by decide +kernel)⟩
theorem lw_p45 : lw_okq (⟨"WordForgeModel", "opens", "(II)I"⟩, 27) := ⟨⟨by decide +kernel, by decide +kernel⟩, List.mem_of_getElem? (i := 711) (by decide +kernel), List.mem_of_getElem? (i := 970) (by decide +kernel), List.mem_of_getElem? (i := 971) (by decide +kernel)⟩
theorem lw_p46 : lw_okq (⟨"WordForgeModel", "closes", "(II)I"⟩, 27) := ⟨⟨by decide +kernel, by decide +kernel⟩, List.mem_of_getElem? (i := 711) (by decide +kernel), List.mem_of_getElem? (i := 974) (by decide +kernel), List.mem_of_getElem? (i := 975) (by decide +kernel)⟩
theorem lw_p47 : lw_okq (⟨"WordForgeModel", "back", "(II)I"⟩, 27) := ⟨⟨by decide +kernel, by decide +kernel⟩, List.mem_of_getElem? (i := 711) (by decide +kernel), List.mem_of_getElem? (i := 978) (by decide +kernel), List.mem_of_getElem? (i := 979) (by decide +kernel)⟩
def lw_privs_3 : List (MethodName × Nat) := [(⟨"WordForgeModel", "numberStep", "(I)Z"⟩, 27), (⟨"WordForgeModel", "stop", "(I)Z"⟩, 27), (⟨"WordForgeModel", "put", "(J)V"⟩, 27), (⟨"WordForgeModel", "plainStep", "(I)Z"⟩, 27), (⟨"WordForgeModel", "grows", "(I)Z"⟩, 27), (⟨"WordForgeModel", "made", "(III)J"⟩, 27), (⟨"WordForgeModel", "call", "(I)Z"⟩, 27), (⟨"WordForgeModel", "go", "()Z"⟩, 27), (⟨"WordForgeModel", "leave", "()V"⟩, 27), (⟨"WordForgeModel", "kindAt", "(II)I"⟩, 27), (⟨"WordForgeModel", "controlStep", "(III)Z"⟩, 27), (⟨"WordForgeModel", "behind", "(IIZ)I"⟩, 27), (⟨"WordForgeModel", "is", "(III)Z"⟩, 27), (⟨"WordForgeModel", "opens", "(II)I"⟩, 27), (⟨"WordForgeModel", "closes", "(II)I"⟩, 27), (⟨"WordForgeModel", "back", "(II)I"⟩, 27)]
theorem lw_r3 : ∀ q ∈ lw_privs_3, lw_okq q := List.forall_mem_cons.mpr ⟨lw_p32, List.forall_mem_cons.mpr ⟨lw_p33, List.forall_mem_cons.mpr ⟨lw_p34, List.forall_mem_cons.mpr ⟨lw_p35, List.forall_mem_cons.mpr ⟨lw_p36, List.forall_mem_cons.mpr ⟨lw_p37, List.forall_mem_cons.mpr ⟨lw_p38, List.forall_mem_cons.mpr ⟨lw_p39, List.forall_mem_cons.mpr ⟨lw_p40, List.forall_mem_cons.mpr ⟨lw_p41, List.forall_mem_cons.mpr ⟨lw_p42, List.forall_mem_cons.mpr ⟨lw_p43, List.forall_mem_cons.mpr ⟨lw_p44, List.forall_mem_cons.mpr ⟨lw_p45, List.forall_mem_cons.mpr ⟨lw_p46, List.forall_mem_cons.mpr ⟨lw_p47, fun _ h => absurd h List.not_mem_nil⟩⟩⟩⟩⟩⟩⟩⟩⟩⟩⟩⟩⟩⟩⟩⟩
def lw_privs : List (MethodName × Nat) := lw_privs_1 ++ (lw_privs_2 ++ (lw_privs_3))
def lw_tbl : List Cond := k2_sels lw_privs ++ tables_1
theorem lw_privs_ok : ∀ q ∈ lw_privs, lw_okq q := by
  show ∀ q ∈ lw_privs_1 ++ (lw_privs_2 ++ (lw_privs_3)), lw_okq q
  exact List.forall_mem_append.mpr ⟨lw_r1, List.forall_mem_append.mpr ⟨lw_r2, lw_r3⟩⟩
/-! one list of words for all methods: the good words of the tables -/
theorem goodIn_app {big a b : List Cond} (ha : GoodIn big a) (hb : GoodIn big b) : GoodIn big (a ++ b) := fun w h => (List.mem_append.mp h).elim (ha w) (hb w)
theorem goodIn_r {big : List Cond} (ws : List Cond) (ps : List Nat) (hp : ws = ps.filterMap (fun i => big[i]?)) : ∀ w ∈ ws, w ∈ big := by
  intro w hw
  rw [hp] at hw
  obtain ⟨i, -, hi⟩ := List.mem_filterMap.mp hw
  exact List.mem_of_getElem? hi
def lw_gt : List Cond := lw_tbl.filter goodWord
theorem lw_gd : ∀ w ∈ lw_gt, ((w.onTables && w.keeps) = true ∨ ∃ ty, w = .arrayClass ty) := fun w h => good_of_word (List.mem_filter.mp h).2
theorem gw_ {big : List Cond} (hb : ∀ w ∈ lw_gt, w ∈ big) {y : MethodName} {cc : ByteArray} {n : Nat} {r : Option FieldType} (h : Cond.code y cc n r ∈ lw_gt) : GoodIn big (Cond.code y cc n r :: lw_gt) := by
  intro w hw
  rcases List.mem_cons.mp hw with e | hw
  · rw [e]; exact ⟨hb _ h, lw_gd _ h⟩
  · exact ⟨hb w hw, lw_gd w hw⟩
theorem gV_ {big : List Cond} (hb : ∀ w ∈ lw_gt, w ∈ big) {own C : String} {idx : Nat} {y : MethodName} {cc : ByteArray} {n : Nat} {r : Option FieldType} (h1 : Cond.methodLink own idx y ∈ lw_gt) (h2 : Cond.instanceMethod y ∈ lw_gt) (h3 : Cond.selects C y y ∈ lw_gt) (h4 : Cond.initialized C ∈ lw_gt) (h5 : Cond.code y cc n r ∈ lw_gt) : GoodIn big (wsV own idx C y (Cond.code y cc n r :: lw_gt)) := by
  refine goodIn_app ?_ (gw_ hb h5)
  intro w hw
  have h : w ∈ lw_gt := by
    simp only [List.mem_cons, List.not_mem_nil, or_false] at hw
    rcases hw with e | e | e | e <;> rw [e] <;> assumption
  exact ⟨hb w h, lw_gd w h⟩
theorem gS_ {big : List Cond} (hb : ∀ w ∈ lw_gt, w ∈ big) {own : String} {idx : Nat} {y : MethodName} {cc : ByteArray} {n : Nat} {r : Option FieldType} (h1 : Cond.methodLink own idx y ∈ lw_gt) (h2 : Cond.static y ∈ lw_gt) (h4 : Cond.initialized y.cls ∈ lw_gt) (h5 : Cond.code y cc n r ∈ lw_gt) : GoodIn big (va_wsS own idx y (Cond.code y cc n r :: lw_gt)) := by
  refine goodIn_app ?_ (gw_ hb h5)
  intro w hw
  have h : w ∈ lw_gt := by
    simp only [List.mem_cons, List.not_mem_nil, or_false] at hw
    rcases hw with e | e | e <;> rw [e] <;> assumption
  exact ⟨hb w h, lw_gd w h⟩
theorem hc_ {c : Cond} : ∀ w ∈ lw_gt, w ∈ c :: lw_gt := fun w h => List.mem_cons_of_mem _ h
def RX0 : String := "WordForge$Code"
def TX0 : u_T := fun k => match k with
  | 0 => ("WordForge$Code", "ops", "[I", true)
  | _ => ("WordForge$Code", "args", "[I", true)
def tyX0 : Nat → FieldType := fun k => match k with
  | 0 => .array .int
  | _ => .array .int
theorem nmX0 : ∀ a, a < 2 → ∀ b, b < 2 → a ≠ b → (TX0 a).2.1 ≠ (TX0 b).2.1 := by decide +kernel
theorem tyX0_ok : ∀ k, k < 2 → parseFieldDescriptor (TX0 k).2.2.1 = some (tyX0 k) := by decide +kernel
abbrev cX0_init : ByteArray := prog_2_method_1_code
def yX0_init : MethodName := ⟨RX0, "<init>", "()V"⟩
abbrev cX0_opAt : ByteArray := prog_2_method_2_code
def yX0_opAt : MethodName := ⟨RX0, "opAt", "(I)I"⟩
abbrev cX0_argAt : ByteArray := prog_2_method_3_code
def yX0_argAt : MethodName := ⟨RX0, "argAt", "(I)I"⟩
abbrev cX0_set : ByteArray := prog_2_method_4_code
def yX0_set : MethodName := ⟨RX0, "set", "(III)V"⟩
abbrev cX0_lead : ByteArray := prog_2_method_5_code
def yX0_lead : MethodName := ⟨RX0, "lead", "(II)V"⟩
def RX1 : String := "WordForge$Dictionary"
def TX1 : u_T := fun k => match k with
  | 0 => ("WordForge$Dictionary", "keys", "[J", true)
  | 1 => ("WordForge$Dictionary", "starts", "[I", true)
  | 2 => ("WordForge$Dictionary", "code", "LWordForge$Code;", true)
  | 3 => ("WordForge$Dictionary", "linker", "LWordForge$Linker;", true)
  | 4 => ("WordForge$Dictionary", "size", "I", false)
  | _ => ("WordForge$Dictionary", "openLength", "I", false)
def tyX1 : Nat → FieldType := fun k => match k with
  | 0 => .array .long
  | 1 => .array .int
  | 2 => .object "WordForge$Code"
  | 3 => .object "WordForge$Linker"
  | 4 => .int
  | _ => .int
theorem nmX1 : ∀ a, a < 6 → ∀ b, b < 6 → a ≠ b → (TX1 a).2.1 ≠ (TX1 b).2.1 := by decide +kernel
theorem tyX1_ok : ∀ k, k < 6 → parseFieldDescriptor (TX1 k).2.2.1 = some (tyX1 k) := by decide +kernel
abbrev cX1_init : ByteArray := prog_3_method_1_code
def yX1_init : MethodName := ⟨RX1, "<init>", "()V"⟩
abbrev cX1_size : ByteArray := prog_3_method_2_code
def yX1_size : MethodName := ⟨RX1, "size", "()I"⟩
abbrev cX1_code : ByteArray := prog_3_method_3_code
def yX1_code : MethodName := ⟨RX1, "code", "()LWordForge$Code;"⟩
abbrev cX1_has : ByteArray := prog_3_method_4_code
def yX1_has : MethodName := ⟨RX1, "has", "(I)Z"⟩
abbrev cX1_keyOf : ByteArray := prog_3_method_5_code
def yX1_keyOf : MethodName := ⟨RX1, "keyOf", "(I)J"⟩
abbrev cX1_startOf : ByteArray := prog_3_method_6_code
def yX1_startOf : MethodName := ⟨RX1, "startOf", "(I)I"⟩
abbrev cX1_endOf : ByteArray := prog_3_method_7_code
def yX1_endOf : MethodName := ⟨RX1, "endOf", "(I)I"⟩
abbrev cX1_find : ByteArray := prog_3_method_8_code
def yX1_find : MethodName := ⟨RX1, "find", "(J)I"⟩
abbrev cX1_forgetFrom : ByteArray := prog_3_method_9_code
def yX1_forgetFrom : MethodName := ⟨RX1, "forgetFrom", "(I)V"⟩
abbrev cX1_openBody : ByteArray := prog_3_method_10_code
def yX1_openBody : MethodName := ⟨RX1, "openBody", "()V"⟩
abbrev cX1_addWord : ByteArray := prog_3_method_11_code
def yX1_addWord : MethodName := ⟨RX1, "addWord", "(II)V"⟩
abbrev cX1_closeBody : ByteArray := prog_3_method_12_code
def yX1_closeBody : MethodName := ⟨RX1, "closeBody", "(J)I"⟩
def RX2 : String := "WordForge$Linker"
def TX2 : u_T := fun k => match k with
  | 0 => ("WordForge$Linker", "code", "LWordForge$Code;", true)
  | 1 => ("WordForge$Linker", "waiting", "[I", true)
  | 2 => ("WordForge$Linker", "open", "I", false)
  | _ => ("WordForge$Linker", "openLoops", "I", false)
def tyX2 : Nat → FieldType := fun k => match k with
  | 0 => .object "WordForge$Code"
  | 1 => .array .int
  | 2 => .int
  | _ => .int
theorem nmX2 : ∀ a, a < 4 → ∀ b, b < 4 → a ≠ b → (TX2 a).2.1 ≠ (TX2 b).2.1 := by decide +kernel
theorem tyX2_ok : ∀ k, k < 4 → parseFieldDescriptor (TX2 k).2.2.1 = some (tyX2 k) := by decide +kernel
abbrev cX2_init : ByteArray := prog_4_method_1_code
def yX2_init : MethodName := ⟨RX2, "<init>", "(LWordForge$Code;)V"⟩
abbrev cX2_link : ByteArray := prog_4_method_2_code
def yX2_link : MethodName := ⟨RX2, "link", "(II)Z"⟩
abbrev cX2_begin : ByteArray := prog_4_method_3_code
def yX2_begin : MethodName := ⟨RX2, "begin", "(II)Z"⟩
abbrev cX2_divide : ByteArray := prog_4_method_4_code
def yX2_divide : MethodName := ⟨RX2, "divide", "(II)Z"⟩
abbrev cX2_close : ByteArray := prog_4_method_5_code
def yX2_close : MethodName := ⟨RX2, "close", "(II)Z"⟩
def RX3 : String := "WordForge$Loader"
def TX3 : u_T := fun k => match k with
  | 0 => ("WordForge$Loader", "text", "LWordForge$Text;", true)
  | 1 => ("WordForge$Loader", "dictionary", "LWordForge$Dictionary;", true)
  | 2 => ("WordForge$Loader", "machine", "LWordForge$Machine;", true)
  | 3 => ("WordForge$Loader", "vocabulary", "LWordForge$Vocabulary;", true)
  | _ => ("WordForge$Loader", "faultPlace", "I", false)
def tyX3 : Nat → FieldType := fun k => match k with
  | 0 => .object "WordForge$Text"
  | 1 => .object "WordForge$Dictionary"
  | 2 => .object "WordForge$Machine"
  | 3 => .object "WordForge$Vocabulary"
  | _ => .int
theorem nmX3 : ∀ a, a < 5 → ∀ b, b < 5 → a ≠ b → (TX3 a).2.1 ≠ (TX3 b).2.1 := by decide +kernel
theorem tyX3_ok : ∀ k, k < 5 → parseFieldDescriptor (TX3 k).2.2.1 = some (tyX3 k) := by decide +kernel
abbrev cX3_init : ByteArray := prog_5_method_1_code
def yX3_init : MethodName := ⟨RX3, "<init>", "(LWordForge$Text;LWordForge$Dictionary;LWordForge$Machine;)V"⟩
abbrev cX3_faultPlace : ByteArray := prog_5_method_2_code
def yX3_faultPlace : MethodName := ⟨RX3, "faultPlace", "()I"⟩
abbrev cX3_loadText : ByteArray := prog_5_method_3_code
def yX3_loadText : MethodName := ⟨RX3, "loadText", "()I"⟩
abbrev cX3_takeWord : ByteArray := prog_5_method_4_code
def yX3_takeWord : MethodName := ⟨RX3, "takeWord", "()I"⟩
abbrev cX3_opOfWord : ByteArray := prog_5_method_5_code
def yX3_opOfWord : MethodName := ⟨RX3, "opOfWord", "()I"⟩
abbrev cX3_argOfWord : ByteArray := prog_5_method_6_code
def yX3_argOfWord : MethodName := ⟨RX3, "argOfWord", "(I)I"⟩
abbrev cX3_define : ByteArray := prog_5_method_7_code
def yX3_define : MethodName := ⟨RX3, "define", "()I"⟩
abbrev cX3_canBeName : ByteArray := prog_5_method_8_code
def yX3_canBeName : MethodName := ⟨RX3, "canBeName", "(I)Z"⟩
abbrev cX3_forget : ByteArray := prog_5_method_9_code
def yX3_forget : MethodName := ⟨RX3, "forget", "()I"⟩
def RX4 : String := "WordForge$Loops"
def TX4 : u_T := fun k => match k with
  | 0 => ("WordForge$Loops", "counts", "[I", true)
  | 1 => ("WordForge$Loops", "limits", "[I", true)
  | _ => ("WordForge$Loops", "open", "I", false)
def tyX4 : Nat → FieldType := fun k => match k with
  | 0 => .array .int
  | 1 => .array .int
  | _ => .int
theorem nmX4 : ∀ a, a < 3 → ∀ b, b < 3 → a ≠ b → (TX4 a).2.1 ≠ (TX4 b).2.1 := by decide +kernel
theorem tyX4_ok : ∀ k, k < 3 → parseFieldDescriptor (TX4 k).2.2.1 = some (tyX4 k) := by decide +kernel
abbrev cX4_init : ByteArray := prog_6_method_1_code
def yX4_init : MethodName := ⟨RX4, "<init>", "()V"⟩
abbrev cX4_openCount : ByteArray := prog_6_method_2_code
def yX4_openCount : MethodName := ⟨RX4, "openCount", "()I"⟩
abbrev cX4_closeDownTo : ByteArray := prog_6_method_3_code
def yX4_closeDownTo : MethodName := ⟨RX4, "closeDownTo", "(I)V"⟩
abbrev cX4_begin : ByteArray := prog_6_method_4_code
def yX4_begin : MethodName := ⟨RX4, "begin", "(II)V"⟩
abbrev cX4_innermostCount : ByteArray := prog_6_method_5_code
def yX4_innermostCount : MethodName := ⟨RX4, "innermostCount", "()I"⟩
abbrev cX4_goesRound : ByteArray := prog_6_method_6_code
def yX4_goesRound : MethodName := ⟨RX4, "goesRound", "()Z"⟩
def RX5 : String := "WordForge$Machine"
def TX5 : u_T := fun k => match k with
  | 0 => ("WordForge$Machine", "stack", "LWordForge$Stack;", true)
  | 1 => ("WordForge$Machine", "tape", "LWordForge$Tape;", true)
  | 2 => ("WordForge$Machine", "dictionary", "LWordForge$Dictionary;", true)
  | 3 => ("WordForge$Machine", "code", "LWordForge$Code;", true)
  | 4 => ("WordForge$Machine", "cells", "[I", true)
  | 5 => ("WordForge$Machine", "loops", "LWordForge$Loops;", true)
  | 6 => ("WordForge$Machine", "ends", "[I", true)
  | 7 => ("WordForge$Machine", "returns", "[I", true)
  | 8 => ("WordForge$Machine", "loopsBefore", "[I", true)
  | 9 => ("WordForge$Machine", "bodies", "I", false)
  | 10 => ("WordForge$Machine", "place", "I", false)
  | _ => ("WordForge$Machine", "steps", "I", false)
def tyX5 : Nat → FieldType := fun k => match k with
  | 0 => .object "WordForge$Stack"
  | 1 => .object "WordForge$Tape"
  | 2 => .object "WordForge$Dictionary"
  | 3 => .object "WordForge$Code"
  | 4 => .array .int
  | 5 => .object "WordForge$Loops"
  | 6 => .array .int
  | 7 => .array .int
  | 8 => .array .int
  | 9 => .int
  | 10 => .int
  | _ => .int
theorem nmX5 : ∀ a, a < 12 → ∀ b, b < 12 → a ≠ b → (TX5 a).2.1 ≠ (TX5 b).2.1 := by decide +kernel
theorem tyX5_ok : ∀ k, k < 12 → parseFieldDescriptor (TX5 k).2.2.1 = some (tyX5 k) := by decide +kernel
abbrev cX5_init : ByteArray := prog_7_method_1_code
def yX5_init : MethodName := ⟨RX5, "<init>", "(LWordForge$Stack;LWordForge$Tape;LWordForge$Dictionary;)V"⟩
abbrev cX5_hasCell : ByteArray := prog_7_method_2_code
def yX5_hasCell : MethodName := ⟨RX5, "hasCell", "(I)Z"⟩
abbrev cX5_readCell : ByteArray := prog_7_method_3_code
def yX5_readCell : MethodName := ⟨RX5, "readCell", "(I)I"⟩
abbrev cX5_writeCell : ByteArray := prog_7_method_4_code
def yX5_writeCell : MethodName := ⟨RX5, "writeCell", "(II)V"⟩
abbrev cX5_stepCount : ByteArray := prog_7_method_5_code
def yX5_stepCount : MethodName := ⟨RX5, "stepCount", "()I"⟩
abbrev cX5_begin : ByteArray := prog_7_method_6_code
def yX5_begin : MethodName := ⟨RX5, "begin", "()V"⟩
abbrev cX5_emptyStack : ByteArray := prog_7_method_7_code
def yX5_emptyStack : MethodName := ⟨RX5, "emptyStack", "()V"⟩
abbrev cX5_obey : ByteArray := prog_7_method_8_code
def yX5_obey : MethodName := ⟨RX5, "obey", "(II)I"⟩
abbrev cX5_atBodyEnd : ByteArray := prog_7_method_9_code
def yX5_atBodyEnd : MethodName := ⟨RX5, "atBodyEnd", "(I)Z"⟩
abbrev cX5_doWord : ByteArray := prog_7_method_10_code
def yX5_doWord : MethodName := ⟨RX5, "doWord", "(II)I"⟩
abbrev cX5_faultOf : ByteArray := prog_7_method_11_code
def yX5_faultOf : MethodName := ⟨RX5, "faultOf", "(I)I"⟩
abbrev cX5_arrange : ByteArray := prog_7_method_12_code
def yX5_arrange : MethodName := ⟨RX5, "arrange", "(I)V"⟩
abbrev cX5_ofPair : ByteArray := prog_7_method_13_code
def yX5_ofPair : MethodName := ⟨RX5, "ofPair", "(III)I"⟩
abbrev cX5_ofOne : ByteArray := prog_7_method_14_code
def yX5_ofOne : MethodName := ⟨RX5, "ofOne", "(II)I"⟩
abbrev cX5_flag : ByteArray := prog_7_method_15_code
def yX5_flag : MethodName := ⟨RX5, "flag", "(Z)I"⟩
abbrev cX5_store : ByteArray := prog_7_method_16_code
def yX5_store : MethodName := ⟨RX5, "store", "(I)V"⟩
abbrev cX5_control : ByteArray := prog_7_method_17_code
def yX5_control : MethodName := ⟨RX5, "control", "(II)V"⟩
abbrev cX5_leads : ByteArray := prog_7_method_18_code
def yX5_leads : MethodName := ⟨RX5, "leads", "(I)Z"⟩
abbrev cX5_enter : ByteArray := prog_7_method_19_code
def yX5_enter : MethodName := ⟨RX5, "enter", "(I)V"⟩
abbrev cX5_leave : ByteArray := prog_7_method_20_code
def yX5_leave : MethodName := ⟨RX5, "leave", "()V"⟩
def RX6 : String := "WordForge$Op"
def TX6 : u_T := fun k => match k with
  | _ => ("", "", "", false)
def tyX6 : Nat → FieldType := fun k => match k with
  | _ => .int
theorem nmX6 : ∀ a, a < 0 → ∀ b, b < 0 → a ≠ b → (TX6 a).2.1 ≠ (TX6 b).2.1 := by decide +kernel
theorem tyX6_ok : ∀ k, k < 0 → parseFieldDescriptor (TX6 k).2.2.1 = some (tyX6 k) := by decide +kernel
abbrev cX6_takes : ByteArray := prog_8_method_2_code
def yX6_takes : MethodName := ⟨RX6, "takes", "(I)I"⟩
abbrev cX6_gives : ByteArray := prog_8_method_3_code
def yX6_gives : MethodName := ⟨RX6, "gives", "(I)I"⟩
abbrev cX6_isPlain : ByteArray := prog_8_method_4_code
def yX6_isPlain : MethodName := ⟨RX6, "isPlain", "(I)Z"⟩
abbrev cX6_isStackWord : ByteArray := prog_8_method_5_code
def yX6_isStackWord : MethodName := ⟨RX6, "isStackWord", "(I)Z"⟩
abbrev cX6_isPairWord : ByteArray := prog_8_method_6_code
def yX6_isPairWord : MethodName := ⟨RX6, "isPairWord", "(I)Z"⟩
abbrev cX6_isLoneWord : ByteArray := prog_8_method_7_code
def yX6_isLoneWord : MethodName := ⟨RX6, "isLoneWord", "(I)Z"⟩
abbrev cX6_isStoreWord : ByteArray := prog_8_method_8_code
def yX6_isStoreWord : MethodName := ⟨RX6, "isStoreWord", "(I)Z"⟩
abbrev cX6_isStep : ByteArray := prog_8_method_9_code
def yX6_isStep : MethodName := ⟨RX6, "isStep", "(I)Z"⟩
def RX7 : String := "WordForge$Stack"
def TX7 : u_T := fun k => match k with
  | 0 => ("WordForge$Stack", "values", "[I", true)
  | _ => ("WordForge$Stack", "size", "I", false)
def tyX7 : Nat → FieldType := fun k => match k with
  | 0 => .array .int
  | _ => .int
theorem nmX7 : ∀ a, a < 2 → ∀ b, b < 2 → a ≠ b → (TX7 a).2.1 ≠ (TX7 b).2.1 := by decide +kernel
theorem tyX7_ok : ∀ k, k < 2 → parseFieldDescriptor (TX7 k).2.2.1 = some (tyX7 k) := by decide +kernel
abbrev cX7_init : ByteArray := prog_9_method_1_code
def yX7_init : MethodName := ⟨RX7, "<init>", "()V"⟩
abbrev cX7_size : ByteArray := prog_9_method_2_code
def yX7_size : MethodName := ⟨RX7, "size", "()I"⟩
abbrev cX7_empty : ByteArray := prog_9_method_3_code
def yX7_empty : MethodName := ⟨RX7, "empty", "()V"⟩
abbrev cX7_has : ByteArray := prog_9_method_4_code
def yX7_has : MethodName := ⟨RX7, "has", "(I)Z"⟩
abbrev cX7_put : ByteArray := prog_9_method_5_code
def yX7_put : MethodName := ⟨RX7, "put", "(I)Z"⟩
abbrev cX7_take : ByteArray := prog_9_method_6_code
def yX7_take : MethodName := ⟨RX7, "take", "()I"⟩
abbrev cX7_drop : ByteArray := prog_9_method_7_code
def yX7_drop : MethodName := ⟨RX7, "drop", "(I)V"⟩
abbrev cX7_fromTop : ByteArray := prog_9_method_8_code
def yX7_fromTop : MethodName := ⟨RX7, "fromTop", "(I)I"⟩
def RX8 : String := "WordForge$Tape"
def TX8 : u_T := fun k => match k with
  | 0 => ("WordForge$Tape", "latest", "[I", true)
  | _ => ("WordForge$Tape", "count", "I", false)
def tyX8 : Nat → FieldType := fun k => match k with
  | 0 => .array .int
  | _ => .int
theorem nmX8 : ∀ a, a < 2 → ∀ b, b < 2 → a ≠ b → (TX8 a).2.1 ≠ (TX8 b).2.1 := by decide +kernel
theorem tyX8_ok : ∀ k, k < 2 → parseFieldDescriptor (TX8 k).2.2.1 = some (tyX8 k) := by decide +kernel
abbrev cX8_init : ByteArray := prog_10_method_1_code
def yX8_init : MethodName := ⟨RX8, "<init>", "()V"⟩
abbrev cX8_count : ByteArray := prog_10_method_2_code
def yX8_count : MethodName := ⟨RX8, "count", "()I"⟩
abbrev cX8_add : ByteArray := prog_10_method_3_code
def yX8_add : MethodName := ⟨RX8, "add", "(I)V"⟩
abbrev cX8_has : ByteArray := prog_10_method_4_code
def yX8_has : MethodName := ⟨RX8, "has", "(I)Z"⟩
abbrev cX8_fromLatest : ByteArray := prog_10_method_5_code
def yX8_fromLatest : MethodName := ⟨RX8, "fromLatest", "(I)I"⟩
def RX9 : String := "WordForge$Text"
def TX9 : u_T := fun k => match k with
  | 0 => ("WordForge$Text", "codes", "[C", true)
  | 1 => ("WordForge$Text", "length", "I", false)
  | 2 => ("WordForge$Text", "wordStart", "I", false)
  | 3 => ("WordForge$Text", "wordEnd", "I", false)
  | _ => ("WordForge$Text", "wordPlace", "I", false)
def tyX9 : Nat → FieldType := fun k => match k with
  | 0 => .array .char
  | 1 => .int
  | 2 => .int
  | 3 => .int
  | _ => .int
theorem nmX9 : ∀ a, a < 5 → ∀ b, b < 5 → a ≠ b → (TX9 a).2.1 ≠ (TX9 b).2.1 := by decide +kernel
theorem tyX9_ok : ∀ k, k < 5 → parseFieldDescriptor (TX9 k).2.2.1 = some (tyX9 k) := by decide +kernel
abbrev cX9_init : ByteArray := prog_11_method_1_code
def yX9_init : MethodName := ⟨RX9, "<init>", "()V"⟩
abbrev cX9_erase : ByteArray := prog_11_method_2_code
def yX9_erase : MethodName := ⟨RX9, "erase", "()V"⟩
abbrev cX9_append : ByteArray := prog_11_method_3_code
def yX9_append : MethodName := ⟨RX9, "append", "(I)I"⟩
abbrev cX9_codeOf : ByteArray := prog_11_method_4_code
def yX9_codeOf : MethodName := ⟨RX9, "codeOf", "(II)I"⟩
abbrev cX9_rewind : ByteArray := prog_11_method_5_code
def yX9_rewind : MethodName := ⟨RX9, "rewind", "()V"⟩
abbrev cX9_advance : ByteArray := prog_11_method_6_code
def yX9_advance : MethodName := ⟨RX9, "advance", "()Z"⟩
abbrev cX9_charAt : ByteArray := prog_11_method_7_code
def yX9_charAt : MethodName := ⟨RX9, "charAt", "(I)C"⟩
abbrev cX9_wordPlace : ByteArray := prog_11_method_8_code
def yX9_wordPlace : MethodName := ⟨RX9, "wordPlace", "()I"⟩
abbrev cX9_wordLength : ByteArray := prog_11_method_9_code
def yX9_wordLength : MethodName := ⟨RX9, "wordLength", "()I"⟩
abbrev cX9_wordKey : ByteArray := prog_11_method_10_code
def yX9_wordKey : MethodName := ⟨RX9, "wordKey", "()J"⟩
abbrev cX9_isNumber : ByteArray := prog_11_method_11_code
def yX9_isNumber : MethodName := ⟨RX9, "isNumber", "()Z"⟩
abbrev cX9_numberValue : ByteArray := prog_11_method_12_code
def yX9_numberValue : MethodName := ⟨RX9, "numberValue", "()I"⟩
abbrev cX9_firstDigit : ByteArray := prog_11_method_13_code
def yX9_firstDigit : MethodName := ⟨RX9, "firstDigit", "()I"⟩
def RX10 : String := "WordForge$Vocabulary"
def TX10 : u_T := fun k => match k with
  | _ => ("WordForge$Vocabulary", "keys", "[J", true)
def tyX10 : Nat → FieldType := fun k => match k with
  | _ => .array .long
theorem nmX10 : ∀ a, a < 1 → ∀ b, b < 1 → a ≠ b → (TX10 a).2.1 ≠ (TX10 b).2.1 := by decide +kernel
theorem tyX10_ok : ∀ k, k < 1 → parseFieldDescriptor (TX10 k).2.2.1 = some (tyX10 k) := by decide +kernel
abbrev cX10_init : ByteArray := prog_12_method_1_code
def yX10_init : MethodName := ⟨RX10, "<init>", "()V"⟩
abbrev cX10_learn : ByteArray := prog_12_method_2_code
def yX10_learn : MethodName := ⟨RX10, "learn", "(Ljava/lang/String;I)V"⟩
abbrev cX10_find : ByteArray := prog_12_method_3_code
def yX10_find : MethodName := ⟨RX10, "find", "(J)I"⟩
def RX11 : String := "WordForge"
def TX11 : u_T := fun k => match k with
  | 0 => ("WordForge", "text", "LWordForge$Text;", true)
  | 1 => ("WordForge", "stack", "LWordForge$Stack;", true)
  | 2 => ("WordForge", "tape", "LWordForge$Tape;", true)
  | 3 => ("WordForge", "dictionary", "LWordForge$Dictionary;", true)
  | 4 => ("WordForge", "machine", "LWordForge$Machine;", true)
  | _ => ("WordForge", "loader", "LWordForge$Loader;", true)
def tyX11 : Nat → FieldType := fun k => match k with
  | 0 => .object "WordForge$Text"
  | 1 => .object "WordForge$Stack"
  | 2 => .object "WordForge$Tape"
  | 3 => .object "WordForge$Dictionary"
  | 4 => .object "WordForge$Machine"
  | _ => .object "WordForge$Loader"
theorem nmX11 : ∀ a, a < 6 → ∀ b, b < 6 → a ≠ b → (TX11 a).2.1 ≠ (TX11 b).2.1 := by decide +kernel
theorem tyX11_ok : ∀ k, k < 6 → parseFieldDescriptor (TX11 k).2.2.1 = some (tyX11 k) := by decide +kernel
abbrev cX11_init : ByteArray := prog_1_method_1_code
def yX11_init : MethodName := ⟨RX11, "<init>", "()V"⟩
abbrev cX11_feed : ByteArray := prog_1_method_2_code
def yX11_feed : MethodName := ⟨RX11, "feed", "(I)I"⟩
abbrev cX11_clear : ByteArray := prog_1_method_3_code
def yX11_clear : MethodName := ⟨RX11, "clear", "()V"⟩
abbrev cX11_load : ByteArray := prog_1_method_4_code
def yX11_load : MethodName := ⟨RX11, "load", "()I"⟩
abbrev cX11_faultAt : ByteArray := prog_1_method_5_code
def yX11_faultAt : MethodName := ⟨RX11, "faultAt", "()I"⟩
abbrev cX11_steps : ByteArray := prog_1_method_6_code
def yX11_steps : MethodName := ⟨RX11, "steps", "()I"⟩
abbrev cX11_depth : ByteArray := prog_1_method_7_code
def yX11_depth : MethodName := ⟨RX11, "depth", "()I"⟩
abbrev cX11_value : ByteArray := prog_1_method_8_code
def yX11_value : MethodName := ⟨RX11, "value", "(I)J"⟩
abbrev cX11_push : ByteArray := prog_1_method_9_code
def yX11_push : MethodName := ⟨RX11, "push", "(I)Z"⟩
abbrev cX11_cell : ByteArray := prog_1_method_10_code
def yX11_cell : MethodName := ⟨RX11, "cell", "(I)J"⟩
abbrev cX11_puts : ByteArray := prog_1_method_11_code
def yX11_puts : MethodName := ⟨RX11, "puts", "()I"⟩
abbrev cX11_output : ByteArray := prog_1_method_12_code
def yX11_output : MethodName := ⟨RX11, "output", "(I)J"⟩
abbrev cX11_definitions : ByteArray := prog_1_method_13_code
def yX11_definitions : MethodName := ⟨RX11, "definitions", "()I"⟩
abbrev cX11_body : ByteArray := prog_1_method_14_code
def yX11_body : MethodName := ⟨RX11, "body", "(I)I"⟩
abbrev cX11_name : ByteArray := prog_1_method_15_code
def yX11_name : MethodName := ⟨RX11, "name", "(I)J"⟩
def RX12 : String := "WordForgeModel"
def TX12 : u_T := fun k => match k with
  | 0 => ("WordForgeModel", "text", "[I", true)
  | 1 => ("WordForgeModel", "length", "I", false)
  | 2 => ("WordForgeModel", "from", "[I", true)
  | 3 => ("WordForgeModel", "to", "[I", true)
  | 4 => ("WordForgeModel", "words", "I", false)
  | 5 => ("WordForgeModel", "stack", "[I", true)
  | 6 => ("WordForgeModel", "height", "I", false)
  | 7 => ("WordForgeModel", "memory", "[I", true)
  | 8 => ("WordForgeModel", "out", "[I", true)
  | 9 => ("WordForgeModel", "outs", "I", false)
  | 10 => ("WordForgeModel", "names", "[J", true)
  | 11 => ("WordForgeModel", "starts", "[I", true)
  | 12 => ("WordForgeModel", "sizes", "[I", true)
  | 13 => ("WordForgeModel", "defined", "I", false)
  | 14 => ("WordForgeModel", "kind", "[I", true)
  | 15 => ("WordForgeModel", "what", "[I", true)
  | 16 => ("WordForgeModel", "running", "[I", true)
  | 17 => ("WordForgeModel", "at", "[I", true)
  | 18 => ("WordForgeModel", "deep", "I", false)
  | 19 => ("WordForgeModel", "limits", "[I", true)
  | 20 => ("WordForgeModel", "counts", "[I", true)
  | 21 => ("WordForgeModel", "owner", "[I", true)
  | 22 => ("WordForgeModel", "loops", "I", false)
  | 23 => ("WordForgeModel", "open", "[I", true)
  | 24 => ("WordForgeModel", "steps", "I", false)
  | 25 => ("WordForgeModel", "fault", "I", false)
  | _ => ("WordForgeModel", "place", "I", false)
def tyX12 : Nat → FieldType := fun k => match k with
  | 0 => .array .int
  | 1 => .int
  | 2 => .array .int
  | 3 => .array .int
  | 4 => .int
  | 5 => .array .int
  | 6 => .int
  | 7 => .array .int
  | 8 => .array .int
  | 9 => .int
  | 10 => .array .long
  | 11 => .array .int
  | 12 => .array .int
  | 13 => .int
  | 14 => .array .int
  | 15 => .array .int
  | 16 => .array .int
  | 17 => .array .int
  | 18 => .int
  | 19 => .array .int
  | 20 => .array .int
  | 21 => .array .int
  | 22 => .int
  | 23 => .array .int
  | 24 => .int
  | 25 => .int
  | _ => .int
theorem nmX12 : ∀ a, a < 27 → ∀ b, b < 27 → a ≠ b → (TX12 a).2.1 ≠ (TX12 b).2.1 := by decide +kernel
theorem tyX12_ok : ∀ k, k < 27 → parseFieldDescriptor (TX12 k).2.2.1 = some (tyX12 k) := by decide +kernel
abbrev cX12_init : ByteArray := prog_14_method_1_code
def yX12_init : MethodName := ⟨RX12, "<init>", "()V"⟩
abbrev cX12_feed : ByteArray := prog_14_method_2_code
def yX12_feed : MethodName := ⟨RX12, "feed", "(I)I"⟩
abbrev cX12_clear : ByteArray := prog_14_method_3_code
def yX12_clear : MethodName := ⟨RX12, "clear", "()V"⟩
abbrev cX12_split : ByteArray := prog_14_method_4_code
def yX12_split : MethodName := ⟨RX12, "split", "()V"⟩
abbrev cX12_digit : ByteArray := prog_14_method_5_code
def yX12_digit : MethodName := ⟨RX12, "digit", "(I)Z"⟩
abbrev cX12_spelled : ByteArray := prog_14_method_6_code
def yX12_spelled : MethodName := ⟨RX12, "spelled", "(I)J"⟩
abbrev cX12_isNumber : ByteArray := prog_14_method_7_code
def yX12_isNumber : MethodName := ⟨RX12, "isNumber", "(I)Z"⟩
abbrev cX12_number : ByteArray := prog_14_method_8_code
def yX12_number : MethodName := ⟨RX12, "number", "(I)I"⟩
abbrev cX12_plain : ByteArray := prog_14_method_9_code
def yX12_plain : MethodName := ⟨RX12, "plain", "(J)I"⟩
abbrev cX12_control : ByteArray := prog_14_method_10_code
def yX12_control : MethodName := ⟨RX12, "control", "(J)I"⟩
abbrev cX12_meant : ByteArray := prog_14_method_11_code
def yX12_meant : MethodName := ⟨RX12, "meant", "(J)I"⟩
abbrev cX12_stop : ByteArray := prog_14_method_12_code
def yX12_stop : MethodName := ⟨RX12, "stop", "(I)Z"⟩
abbrev cX12_put : ByteArray := prog_14_method_13_code
def yX12_put : MethodName := ⟨RX12, "put", "(J)V"⟩
abbrev cX12_takes : ByteArray := prog_14_method_14_code
def yX12_takes : MethodName := ⟨RX12, "takes", "(I)I"⟩
abbrev cX12_grows : ByteArray := prog_14_method_15_code
def yX12_grows : MethodName := ⟨RX12, "grows", "(I)Z"⟩
abbrev cX12_floor : ByteArray := prog_14_method_16_code
def yX12_floor : MethodName := ⟨RX12, "floor", "(JJ)J"⟩
abbrev cX12_plainStep : ByteArray := prog_14_method_17_code
def yX12_plainStep : MethodName := ⟨RX12, "plainStep", "(I)Z"⟩
abbrev cX12_made : ByteArray := prog_14_method_18_code
def yX12_made : MethodName := ⟨RX12, "made", "(III)J"⟩
abbrev cX12_numberStep : ByteArray := prog_14_method_19_code
def yX12_numberStep : MethodName := ⟨RX12, "numberStep", "(I)Z"⟩
abbrev cX12_call : ByteArray := prog_14_method_20_code
def yX12_call : MethodName := ⟨RX12, "call", "(I)Z"⟩
abbrev cX12_leave : ByteArray := prog_14_method_21_code
def yX12_leave : MethodName := ⟨RX12, "leave", "()V"⟩
abbrev cX12_kindAt : ByteArray := prog_14_method_22_code
def yX12_kindAt : MethodName := ⟨RX12, "kindAt", "(II)I"⟩
abbrev cX12_is : ByteArray := prog_14_method_23_code
def yX12_is : MethodName := ⟨RX12, "is", "(III)Z"⟩
abbrev cX12_opens : ByteArray := prog_14_method_24_code
def yX12_opens : MethodName := ⟨RX12, "opens", "(II)I"⟩
abbrev cX12_closes : ByteArray := prog_14_method_25_code
def yX12_closes : MethodName := ⟨RX12, "closes", "(II)I"⟩
abbrev cX12_behind : ByteArray := prog_14_method_26_code
def yX12_behind : MethodName := ⟨RX12, "behind", "(IIZ)I"⟩
abbrev cX12_back : ByteArray := prog_14_method_27_code
def yX12_back : MethodName := ⟨RX12, "back", "(II)I"⟩
abbrev cX12_controlStep : ByteArray := prog_14_method_28_code
def yX12_controlStep : MethodName := ⟨RX12, "controlStep", "(III)Z"⟩
abbrev cX12_go : ByteArray := prog_14_method_29_code
def yX12_go : MethodName := ⟨RX12, "go", "()Z"⟩
abbrev cX12_balanced : ByteArray := prog_14_method_30_code
def yX12_balanced : MethodName := ⟨RX12, "balanced", "(II)Z"⟩
abbrev cX12_used : ByteArray := prog_14_method_31_code
def yX12_used : MethodName := ⟨RX12, "used", "()I"⟩
abbrev cX12_define : ByteArray := prog_14_method_32_code
def yX12_define : MethodName := ⟨RX12, "define", "(I)I"⟩
abbrev cX12_entry : ByteArray := prog_14_method_33_code
def yX12_entry : MethodName := ⟨RX12, "entry", "(IJI)Z"⟩
abbrev cX12_load : ByteArray := prog_14_method_34_code
def yX12_load : MethodName := ⟨RX12, "load", "()I"⟩
abbrev cX12_outside : ByteArray := prog_14_method_35_code
def yX12_outside : MethodName := ⟨RX12, "outside", "(I)I"⟩
abbrev cX12_faultAt : ByteArray := prog_14_method_36_code
def yX12_faultAt : MethodName := ⟨RX12, "faultAt", "()I"⟩
abbrev cX12_steps : ByteArray := prog_14_method_37_code
def yX12_steps : MethodName := ⟨RX12, "steps", "()I"⟩
abbrev cX12_depth : ByteArray := prog_14_method_38_code
def yX12_depth : MethodName := ⟨RX12, "depth", "()I"⟩
abbrev cX12_value : ByteArray := prog_14_method_39_code
def yX12_value : MethodName := ⟨RX12, "value", "(I)J"⟩
abbrev cX12_push : ByteArray := prog_14_method_40_code
def yX12_push : MethodName := ⟨RX12, "push", "(I)Z"⟩
abbrev cX12_cell : ByteArray := prog_14_method_41_code
def yX12_cell : MethodName := ⟨RX12, "cell", "(I)J"⟩
abbrev cX12_puts : ByteArray := prog_14_method_42_code
def yX12_puts : MethodName := ⟨RX12, "puts", "()I"⟩
abbrev cX12_output : ByteArray := prog_14_method_43_code
def yX12_output : MethodName := ⟨RX12, "output", "(I)J"⟩
abbrev cX12_definitions : ByteArray := prog_14_method_44_code
def yX12_definitions : MethodName := ⟨RX12, "definitions", "()I"⟩
abbrev cX12_body : ByteArray := prog_14_method_45_code
def yX12_body : MethodName := ⟨RX12, "body", "(I)I"⟩
abbrev cX12_name : ByteArray := prog_14_method_46_code
def yX12_name : MethodName := ⟨RX12, "name", "(I)J"⟩
def RJ9 : String := "java/lang/Math"
abbrev cJ9_floorDiv_7cf53 : ByteArray := prog_15_method_47_code
def yJ9_floorDiv_7cf53 : MethodName := ⟨RJ9, "floorDiv", "(II)I"⟩
abbrev cJ9_max_7cf53 : ByteArray := prog_15_method_65_code
def yJ9_max_7cf53 : MethodName := ⟨RJ9, "max", "(II)I"⟩
abbrev cJ9_min_7cf53 : ByteArray := prog_15_method_69_code
def yJ9_min_7cf53 : MethodName := ⟨RJ9, "min", "(II)I"⟩
def RJ0 : String := "java/lang/String"
abbrev cJ0_length_8abf5 : ByteArray := prog_16_method_54_code
def yJ0_length_8abf5 : MethodName := ⟨RJ0, "length", "()I"⟩
abbrev cJ0_charAt_5068e : ByteArray := prog_16_method_56_code
def yJ0_charAt_5068e : MethodName := ⟨RJ0, "charAt", "(I)C"⟩
abbrev cJ0_coder_7d493 : ByteArray := prog_16_method_152_code
def yJ0_coder_7d493 : MethodName := ⟨RJ0, "coder", "()B"⟩
abbrev cJ0_isLatin1_aae02 : ByteArray := prog_16_method_154_code
def yJ0_isLatin1_aae02 : MethodName := ⟨RJ0, "isLatin1", "()Z"⟩
abbrev cJ0_checkIndex_df160 : ByteArray := prog_16_method_155_code
def yJ0_checkIndex_df160 : MethodName := ⟨RJ0, "checkIndex", "(II)V"⟩
def RJ1 : String := "java/lang/StringLatin1"
abbrev cJ1_charAt_3b067 : ByteArray := prog_17_method_2_code
def yJ1_charAt_3b067 : MethodName := ⟨RJ1, "charAt", "([BI)C"⟩
def RJ2 : String := "java/lang/StringUTF16"
abbrev cJ2_getChar_3b067 : ByteArray := prog_18_method_5_code
def yJ2_getChar_3b067 : MethodName := ⟨RJ2, "getChar", "([BI)C"⟩
abbrev cJ2_length_9d52b : ByteArray := prog_18_method_6_code
def yJ2_length_9d52b : MethodName := ⟨RJ2, "length", "([B)I"⟩
abbrev cJ2_charAt_3b067 : ByteArray := prog_18_method_83_code
def yJ2_charAt_3b067 : MethodName := ⟨RJ2, "charAt", "([BI)C"⟩
abbrev cJ2_checkIndex_2214a : ByteArray := prog_18_method_91_code
def yJ2_checkIndex_2214a : MethodName := ⟨RJ2, "checkIndex", "(I[B)V"⟩
def RJ3 : String := "jdk/internal/util/Preconditions"
abbrev cJ3_checkIndex_8e157 : ByteArray := prog_19_method_11_code
def yJ3_checkIndex_8e157 : MethodName := ⟨RJ3, "checkIndex", "(IILjava/util/function/BiFunction;)I"⟩
def RL : String := "WordForgeLaw"
abbrev cL_law : ByteArray := code
def wsX0_init : List Cond := Cond.code yX0_init cX0_init 1 none :: lw_gt
def wsX0_opAt : List Cond := Cond.code yX0_opAt cX0_opAt 2 (some .int) :: lw_gt
def wsX0_argAt : List Cond := Cond.code yX0_argAt cX0_argAt 2 (some .int) :: lw_gt
def wsX0_set : List Cond := Cond.code yX0_set cX0_set 4 none :: lw_gt
def wsX0_lead : List Cond := Cond.code yX0_lead cX0_lead 3 none :: lw_gt
def wsX1_init : List Cond := Cond.code yX1_init cX1_init 1 none :: lw_gt
def wsX1_size : List Cond := Cond.code yX1_size cX1_size 1 (some .int) :: lw_gt
def wsX1_code : List Cond := Cond.code yX1_code cX1_code 1 (some (.object "WordForge$Code")) :: lw_gt
def wsX1_has : List Cond := Cond.code yX1_has cX1_has 2 (some .boolean) :: lw_gt
def wsX1_keyOf : List Cond := Cond.code yX1_keyOf cX1_keyOf 2 (some .long) :: lw_gt
def wsX1_startOf : List Cond := Cond.code yX1_startOf cX1_startOf 2 (some .int) :: lw_gt
def wsX1_endOf : List Cond := Cond.code yX1_endOf cX1_endOf 2 (some .int) :: lw_gt
def wsX1_find : List Cond := Cond.code yX1_find cX1_find 4 (some .int) :: lw_gt
def wsX1_forgetFrom : List Cond := Cond.code yX1_forgetFrom cX1_forgetFrom 2 none :: lw_gt
def wsX1_openBody : List Cond := Cond.code yX1_openBody cX1_openBody 1 none :: lw_gt
def wsX1_addWord : List Cond := Cond.code yX1_addWord cX1_addWord 3 none :: lw_gt
def wsX1_closeBody : List Cond := Cond.code yX1_closeBody cX1_closeBody 5 (some .int) :: lw_gt
def wsX2_init : List Cond := Cond.code yX2_init cX2_init 2 none :: lw_gt
def wsX2_link : List Cond := Cond.code yX2_link cX2_link 6 (some .boolean) :: lw_gt
def wsX2_begin : List Cond := Cond.code yX2_begin cX2_begin 3 (some .boolean) :: lw_gt
def wsX2_divide : List Cond := Cond.code yX2_divide cX2_divide 4 (some .boolean) :: lw_gt
def wsX2_close : List Cond := Cond.code yX2_close cX2_close 5 (some .boolean) :: lw_gt
def wsX3_init : List Cond := Cond.code yX3_init cX3_init 4 none :: lw_gt
def wsX3_faultPlace : List Cond := Cond.code yX3_faultPlace cX3_faultPlace 1 (some .int) :: lw_gt
def wsX3_loadText : List Cond := Cond.code yX3_loadText cX3_loadText 3 (some .int) :: lw_gt
def wsX3_takeWord : List Cond := Cond.code yX3_takeWord cX3_takeWord 2 (some .int) :: lw_gt
def wsX3_opOfWord : List Cond := Cond.code yX3_opOfWord cX3_opOfWord 4 (some .int) :: lw_gt
def wsX3_argOfWord : List Cond := Cond.code yX3_argOfWord cX3_argOfWord 2 (some .int) :: lw_gt
def wsX3_define : List Cond := Cond.code yX3_define cX3_define 5 (some .int) :: lw_gt
def wsX3_canBeName : List Cond := Cond.code yX3_canBeName cX3_canBeName 2 (some .boolean) :: lw_gt
def wsX3_forget : List Cond := Cond.code yX3_forget cX3_forget 1 (some .int) :: lw_gt
def wsX4_init : List Cond := Cond.code yX4_init cX4_init 1 none :: lw_gt
def wsX4_openCount : List Cond := Cond.code yX4_openCount cX4_openCount 1 (some .int) :: lw_gt
def wsX4_closeDownTo : List Cond := Cond.code yX4_closeDownTo cX4_closeDownTo 2 none :: lw_gt
def wsX4_begin : List Cond := Cond.code yX4_begin cX4_begin 3 none :: lw_gt
def wsX4_innermostCount : List Cond := Cond.code yX4_innermostCount cX4_innermostCount 1 (some .int) :: lw_gt
def wsX4_goesRound : List Cond := Cond.code yX4_goesRound cX4_goesRound 2 (some .boolean) :: lw_gt
def wsX5_init : List Cond := Cond.code yX5_init cX5_init 4 none :: lw_gt
def wsX5_hasCell : List Cond := Cond.code yX5_hasCell cX5_hasCell 1 (some .boolean) :: lw_gt
def wsX5_readCell : List Cond := Cond.code yX5_readCell cX5_readCell 2 (some .int) :: lw_gt
def wsX5_writeCell : List Cond := Cond.code yX5_writeCell cX5_writeCell 3 none :: lw_gt
def wsX5_stepCount : List Cond := Cond.code yX5_stepCount cX5_stepCount 1 (some .int) :: lw_gt
def wsX5_begin : List Cond := Cond.code yX5_begin cX5_begin 1 none :: lw_gt
def wsX5_emptyStack : List Cond := Cond.code yX5_emptyStack cX5_emptyStack 1 none :: lw_gt
def wsX5_obey : List Cond := Cond.code yX5_obey cX5_obey 6 (some .int) :: lw_gt
def wsX5_atBodyEnd : List Cond := Cond.code yX5_atBodyEnd cX5_atBodyEnd 2 (some .boolean) :: lw_gt
def wsX5_doWord : List Cond := Cond.code yX5_doWord cX5_doWord 5 (some .int) :: lw_gt
def wsX5_faultOf : List Cond := Cond.code yX5_faultOf cX5_faultOf 5 (some .int) :: lw_gt
def wsX5_arrange : List Cond := Cond.code yX5_arrange cX5_arrange 5 none :: lw_gt
def wsX5_ofPair : List Cond := Cond.code yX5_ofPair cX5_ofPair 3 (some .int) :: lw_gt
def wsX5_ofOne : List Cond := Cond.code yX5_ofOne cX5_ofOne 2 (some .int) :: lw_gt
def wsX5_flag : List Cond := Cond.code yX5_flag cX5_flag 1 (some .int) :: lw_gt
def wsX5_store : List Cond := Cond.code yX5_store cX5_store 3 none :: lw_gt
def wsX5_control : List Cond := Cond.code yX5_control cX5_control 4 none :: lw_gt
def wsX5_leads : List Cond := Cond.code yX5_leads cX5_leads 2 (some .boolean) :: lw_gt
def wsX5_enter : List Cond := Cond.code yX5_enter cX5_enter 2 none :: lw_gt
def wsX5_leave : List Cond := Cond.code yX5_leave cX5_leave 1 none :: lw_gt
def wsX6_takes : List Cond := Cond.code yX6_takes cX6_takes 1 (some .int) :: lw_gt
def wsX6_gives : List Cond := Cond.code yX6_gives cX6_gives 1 (some .int) :: lw_gt
def wsX6_isPlain : List Cond := Cond.code yX6_isPlain cX6_isPlain 1 (some .boolean) :: lw_gt
def wsX6_isStackWord : List Cond := Cond.code yX6_isStackWord cX6_isStackWord 1 (some .boolean) :: lw_gt
def wsX6_isPairWord : List Cond := Cond.code yX6_isPairWord cX6_isPairWord 1 (some .boolean) :: lw_gt
def wsX6_isLoneWord : List Cond := Cond.code yX6_isLoneWord cX6_isLoneWord 1 (some .boolean) :: lw_gt
def wsX6_isStoreWord : List Cond := Cond.code yX6_isStoreWord cX6_isStoreWord 1 (some .boolean) :: lw_gt
def wsX6_isStep : List Cond := Cond.code yX6_isStep cX6_isStep 1 (some .boolean) :: lw_gt
def wsX7_init : List Cond := Cond.code yX7_init cX7_init 1 none :: lw_gt
def wsX7_size : List Cond := Cond.code yX7_size cX7_size 1 (some .int) :: lw_gt
def wsX7_empty : List Cond := Cond.code yX7_empty cX7_empty 1 none :: lw_gt
def wsX7_has : List Cond := Cond.code yX7_has cX7_has 2 (some .boolean) :: lw_gt
def wsX7_put : List Cond := Cond.code yX7_put cX7_put 2 (some .boolean) :: lw_gt
def wsX7_take : List Cond := Cond.code yX7_take cX7_take 1 (some .int) :: lw_gt
def wsX7_drop : List Cond := Cond.code yX7_drop cX7_drop 2 none :: lw_gt
def wsX7_fromTop : List Cond := Cond.code yX7_fromTop cX7_fromTop 2 (some .int) :: lw_gt
def wsX8_init : List Cond := Cond.code yX8_init cX8_init 1 none :: lw_gt
def wsX8_count : List Cond := Cond.code yX8_count cX8_count 1 (some .int) :: lw_gt
def wsX8_add : List Cond := Cond.code yX8_add cX8_add 2 none :: lw_gt
def wsX8_has : List Cond := Cond.code yX8_has cX8_has 2 (some .boolean) :: lw_gt
def wsX8_fromLatest : List Cond := Cond.code yX8_fromLatest cX8_fromLatest 2 (some .int) :: lw_gt
def wsX9_init : List Cond := Cond.code yX9_init cX9_init 1 none :: lw_gt
def wsX9_erase : List Cond := Cond.code yX9_erase cX9_erase 1 none :: lw_gt
def wsX9_append : List Cond := Cond.code yX9_append cX9_append 4 (some .int) :: lw_gt
def wsX9_codeOf : List Cond := Cond.code yX9_codeOf cX9_codeOf 2 (some .int) :: lw_gt
def wsX9_rewind : List Cond := Cond.code yX9_rewind cX9_rewind 1 none :: lw_gt
def wsX9_advance : List Cond := Cond.code yX9_advance cX9_advance 1 (some .boolean) :: lw_gt
def wsX9_charAt : List Cond := Cond.code yX9_charAt cX9_charAt 2 (some .char) :: lw_gt
def wsX9_wordPlace : List Cond := Cond.code yX9_wordPlace cX9_wordPlace 1 (some .int) :: lw_gt
def wsX9_wordLength : List Cond := Cond.code yX9_wordLength cX9_wordLength 1 (some .int) :: lw_gt
def wsX9_wordKey : List Cond := Cond.code yX9_wordKey cX9_wordKey 4 (some .long) :: lw_gt
def wsX9_isNumber : List Cond := Cond.code yX9_isNumber cX9_isNumber 3 (some .boolean) :: lw_gt
def wsX9_numberValue : List Cond := Cond.code yX9_numberValue cX9_numberValue 4 (some .int) :: lw_gt
def wsX9_firstDigit : List Cond := Cond.code yX9_firstDigit cX9_firstDigit 1 (some .int) :: lw_gt
def wsX10_init : List Cond := Cond.code yX10_init cX10_init 1 none :: lw_gt
def wsX10_learn : List Cond := Cond.code yX10_learn cX10_learn 6 none :: lw_gt
def wsX10_find : List Cond := Cond.code yX10_find cX10_find 4 (some .int) :: lw_gt
def wsX11_init : List Cond := Cond.code yX11_init cX11_init 1 none :: lw_gt
def wsX11_feed : List Cond := Cond.code yX11_feed cX11_feed 2 (some .int) :: lw_gt
def wsX11_clear : List Cond := Cond.code yX11_clear cX11_clear 1 none :: lw_gt
def wsX11_load : List Cond := Cond.code yX11_load cX11_load 1 (some .int) :: lw_gt
def wsX11_faultAt : List Cond := Cond.code yX11_faultAt cX11_faultAt 1 (some .int) :: lw_gt
def wsX11_steps : List Cond := Cond.code yX11_steps cX11_steps 1 (some .int) :: lw_gt
def wsX11_depth : List Cond := Cond.code yX11_depth cX11_depth 1 (some .int) :: lw_gt
def wsX11_value : List Cond := Cond.code yX11_value cX11_value 2 (some .long) :: lw_gt
def wsX11_push : List Cond := Cond.code yX11_push cX11_push 2 (some .boolean) :: lw_gt
def wsX11_cell : List Cond := Cond.code yX11_cell cX11_cell 2 (some .long) :: lw_gt
def wsX11_puts : List Cond := Cond.code yX11_puts cX11_puts 1 (some .int) :: lw_gt
def wsX11_output : List Cond := Cond.code yX11_output cX11_output 2 (some .long) :: lw_gt
def wsX11_definitions : List Cond := Cond.code yX11_definitions cX11_definitions 1 (some .int) :: lw_gt
def wsX11_body : List Cond := Cond.code yX11_body cX11_body 2 (some .int) :: lw_gt
def wsX11_name : List Cond := Cond.code yX11_name cX11_name 2 (some .long) :: lw_gt
def wsX12_init : List Cond := Cond.code yX12_init cX12_init 1 none :: lw_gt
def wsX12_feed : List Cond := Cond.code yX12_feed cX12_feed 5 (some .int) :: lw_gt
def wsX12_clear : List Cond := Cond.code yX12_clear cX12_clear 1 none :: lw_gt
def wsX12_split : List Cond := Cond.code yX12_split cX12_split 2 none :: lw_gt
def wsX12_digit : List Cond := Cond.code yX12_digit cX12_digit 1 (some .boolean) :: lw_gt
def wsX12_spelled : List Cond := Cond.code yX12_spelled cX12_spelled 5 (some .long) :: lw_gt
def wsX12_isNumber : List Cond := Cond.code yX12_isNumber cX12_isNumber 4 (some .boolean) :: lw_gt
def wsX12_number : List Cond := Cond.code yX12_number cX12_number 5 (some .int) :: lw_gt
def wsX12_plain : List Cond := Cond.code yX12_plain cX12_plain 2 (some .int) :: lw_gt
def wsX12_control : List Cond := Cond.code yX12_control cX12_control 2 (some .int) :: lw_gt
def wsX12_meant : List Cond := Cond.code yX12_meant cX12_meant 4 (some .int) :: lw_gt
def wsX12_stop : List Cond := Cond.code yX12_stop cX12_stop 2 (some .boolean) :: lw_gt
def wsX12_put : List Cond := Cond.code yX12_put cX12_put 3 none :: lw_gt
def wsX12_takes : List Cond := Cond.code yX12_takes cX12_takes 1 (some .int) :: lw_gt
def wsX12_grows : List Cond := Cond.code yX12_grows cX12_grows 2 (some .boolean) :: lw_gt
def wsX12_floor : List Cond := Cond.code yX12_floor cX12_floor 6 (some .long) :: lw_gt
def wsX12_plainStep : List Cond := Cond.code yX12_plainStep cX12_plainStep 8 (some .boolean) :: lw_gt
def wsX12_made : List Cond := Cond.code yX12_made cX12_made 4 (some .long) :: lw_gt
def wsX12_numberStep : List Cond := Cond.code yX12_numberStep cX12_numberStep 2 (some .boolean) :: lw_gt
def wsX12_call : List Cond := Cond.code yX12_call cX12_call 2 (some .boolean) :: lw_gt
def wsX12_leave : List Cond := Cond.code yX12_leave cX12_leave 1 none :: lw_gt
def wsX12_kindAt : List Cond := Cond.code yX12_kindAt cX12_kindAt 3 (some .int) :: lw_gt
def wsX12_is : List Cond := Cond.code yX12_is cX12_is 4 (some .boolean) :: lw_gt
def wsX12_opens : List Cond := Cond.code yX12_opens cX12_opens 3 (some .int) :: lw_gt
def wsX12_closes : List Cond := Cond.code yX12_closes cX12_closes 3 (some .int) :: lw_gt
def wsX12_behind : List Cond := Cond.code yX12_behind cX12_behind 7 (some .int) :: lw_gt
def wsX12_back : List Cond := Cond.code yX12_back cX12_back 6 (some .int) :: lw_gt
def wsX12_controlStep : List Cond := Cond.code yX12_controlStep cX12_controlStep 7 (some .boolean) :: lw_gt
def wsX12_go : List Cond := Cond.code yX12_go cX12_go 8 (some .boolean) :: lw_gt
def wsX12_balanced : List Cond := Cond.code yX12_balanced cX12_balanced 9 (some .boolean) :: lw_gt
def wsX12_used : List Cond := Cond.code yX12_used cX12_used 1 (some .int) :: lw_gt
def wsX12_define : List Cond := Cond.code yX12_define cX12_define 9 (some .int) :: lw_gt
def wsX12_entry : List Cond := Cond.code yX12_entry cX12_entry 5 (some .boolean) :: lw_gt
def wsX12_load : List Cond := Cond.code yX12_load cX12_load 3 (some .int) :: lw_gt
def wsX12_outside : List Cond := Cond.code yX12_outside cX12_outside 6 (some .int) :: lw_gt
def wsX12_faultAt : List Cond := Cond.code yX12_faultAt cX12_faultAt 1 (some .int) :: lw_gt
def wsX12_steps : List Cond := Cond.code yX12_steps cX12_steps 1 (some .int) :: lw_gt
def wsX12_depth : List Cond := Cond.code yX12_depth cX12_depth 1 (some .int) :: lw_gt
def wsX12_value : List Cond := Cond.code yX12_value cX12_value 2 (some .long) :: lw_gt
def wsX12_push : List Cond := Cond.code yX12_push cX12_push 2 (some .boolean) :: lw_gt
def wsX12_cell : List Cond := Cond.code yX12_cell cX12_cell 2 (some .long) :: lw_gt
def wsX12_puts : List Cond := Cond.code yX12_puts cX12_puts 1 (some .int) :: lw_gt
def wsX12_output : List Cond := Cond.code yX12_output cX12_output 2 (some .long) :: lw_gt
def wsX12_definitions : List Cond := Cond.code yX12_definitions cX12_definitions 1 (some .int) :: lw_gt
def wsX12_body : List Cond := Cond.code yX12_body cX12_body 2 (some .int) :: lw_gt
def wsX12_name : List Cond := Cond.code yX12_name cX12_name 2 (some .long) :: lw_gt
def wsJ9_floorDiv_7cf53 : List Cond := Cond.code yJ9_floorDiv_7cf53 cJ9_floorDiv_7cf53 3 (some .int) :: lw_gt
def wsJ9_max_7cf53 : List Cond := Cond.code yJ9_max_7cf53 cJ9_max_7cf53 2 (some .int) :: lw_gt
def wsJ9_min_7cf53 : List Cond := Cond.code yJ9_min_7cf53 cJ9_min_7cf53 2 (some .int) :: lw_gt
def wsJ0_length_8abf5 : List Cond := Cond.code yJ0_length_8abf5 cJ0_length_8abf5 1 (some .int) :: lw_gt
def wsJ0_charAt_5068e : List Cond := Cond.code yJ0_charAt_5068e cJ0_charAt_5068e 2 (some .char) :: lw_gt
def wsJ0_coder_7d493 : List Cond := Cond.code yJ0_coder_7d493 cJ0_coder_7d493 1 (some .byte) :: lw_gt
def wsJ0_isLatin1_aae02 : List Cond := Cond.code yJ0_isLatin1_aae02 cJ0_isLatin1_aae02 1 (some .boolean) :: lw_gt
def wsJ0_checkIndex_df160 : List Cond := Cond.code yJ0_checkIndex_df160 cJ0_checkIndex_df160 2 none :: lw_gt
def wsJ1_charAt_3b067 : List Cond := Cond.code yJ1_charAt_3b067 cJ1_charAt_3b067 2 (some .char) :: lw_gt
def wsJ2_getChar_3b067 : List Cond := Cond.code yJ2_getChar_3b067 cJ2_getChar_3b067 2 (some .char) :: lw_gt
def wsJ2_length_9d52b : List Cond := Cond.code yJ2_length_9d52b cJ2_length_9d52b 1 (some .int) :: lw_gt
def wsJ2_charAt_3b067 : List Cond := Cond.code yJ2_charAt_3b067 cJ2_charAt_3b067 2 (some .char) :: lw_gt
def wsJ2_checkIndex_2214a : List Cond := Cond.code yJ2_checkIndex_2214a cJ2_checkIndex_2214a 2 none :: lw_gt
def wsJ3_checkIndex_8e157 : List Cond := Cond.code yJ3_checkIndex_8e157 cJ3_checkIndex_8e157 3 (some .int) :: lw_gt
abbrev vwCl : List vw_C := [(RX0, TX0, 2), (RX1, TX1, 6), (RX2, TX2, 4), (RX3, TX3, 5), (RX4, TX4, 3), (RX5, TX5, 12), (RX7, TX7, 2), (RX8, TX8, 2), (RX9, TX9, 5), (RX10, TX10, 1), (RX11, TX11, 6), (RX12, TX12, 27)]
theorem inX0 : ∀ w ∈ u_ws RX0 TX0 2, w ∈ lw_gt := fun w h => List.mem_filter.mpr ⟨goodIn_r (u_ws RX0 TX0 2) [139, 141] (by decide +kernel) w h, List.all_eq_true.mp (by decide +kernel : (u_ws RX0 TX0 2).all goodWord = true) w h⟩
theorem inX1 : ∀ w ∈ u_ws RX1 TX1 6, w ∈ lw_gt := fun w h => List.mem_filter.mpr ⟨goodIn_r (u_ws RX1 TX1 6) [170, 172, 174, 176, 178, 180] (by decide +kernel) w h, List.all_eq_true.mp (by decide +kernel : (u_ws RX1 TX1 6).all goodWord = true) w h⟩
theorem inX2 : ∀ w ∈ u_ws RX2 TX2 4, w ∈ lw_gt := fun w h => List.mem_filter.mpr ⟨goodIn_r (u_ws RX2 TX2 4) [155, 157, 159, 161] (by decide +kernel) w h, List.all_eq_true.mp (by decide +kernel : (u_ws RX2 TX2 4).all goodWord = true) w h⟩
theorem inX3 : ∀ w ∈ u_ws RX3 TX3 5, w ∈ lw_gt := fun w h => List.mem_filter.mpr ⟨goodIn_r (u_ws RX3 TX3 5) [327, 329, 331, 333, 335] (by decide +kernel) w h, List.all_eq_true.mp (by decide +kernel : (u_ws RX3 TX3 5).all goodWord = true) w h⟩
theorem inX4 : ∀ w ∈ u_ws RX4 TX4 3, w ∈ lw_gt := fun w h => List.mem_filter.mpr ⟨goodIn_r (u_ws RX4 TX4 3) [202, 204, 206] (by decide +kernel) w h, List.all_eq_true.mp (by decide +kernel : (u_ws RX4 TX4 3).all goodWord = true) w h⟩
theorem inX5 : ∀ w ∈ u_ws RX5 TX5 12, w ∈ lw_gt := fun w h => List.mem_filter.mpr ⟨goodIn_r (u_ws RX5 TX5 12) [221, 223, 225, 227, 229, 231, 233, 235, 237, 239, 241, 243] (by decide +kernel) w h, List.all_eq_true.mp (by decide +kernel : (u_ws RX5 TX5 12).all goodWord = true) w h⟩
theorem inX7 : ∀ w ∈ u_ws RX7 TX7 2, w ∈ lw_gt := fun w h => List.mem_filter.mpr ⟨goodIn_r (u_ws RX7 TX7 2) [106, 108] (by decide +kernel) w h, List.all_eq_true.mp (by decide +kernel : (u_ws RX7 TX7 2).all goodWord = true) w h⟩
theorem inX8 : ∀ w ∈ u_ws RX8 TX8 2, w ∈ lw_gt := fun w h => List.mem_filter.mpr ⟨goodIn_r (u_ws RX8 TX8 2) [120, 122] (by decide +kernel) w h, List.all_eq_true.mp (by decide +kernel : (u_ws RX8 TX8 2).all goodWord = true) w h⟩
theorem inX9 : ∀ w ∈ u_ws RX9 TX9 5, w ∈ lw_gt := fun w h => List.mem_filter.mpr ⟨goodIn_r (u_ws RX9 TX9 5) [86, 88, 90, 92, 94] (by decide +kernel) w h, List.all_eq_true.mp (by decide +kernel : (u_ws RX9 TX9 5).all goodWord = true) w h⟩
theorem inX10 : ∀ w ∈ u_ws RX10 TX10 1, w ∈ lw_gt := fun w h => List.mem_filter.mpr ⟨goodIn_r (u_ws RX10 TX10 1) [318] (by decide +kernel) w h, List.all_eq_true.mp (by decide +kernel : (u_ws RX10 TX10 1).all goodWord = true) w h⟩
theorem inX11 : ∀ w ∈ u_ws RX11 TX11 6, w ∈ lw_gt := fun w h => List.mem_filter.mpr ⟨goodIn_r (u_ws RX11 TX11 6) [344, 346, 348, 350, 352, 354] (by decide +kernel) w h, List.all_eq_true.mp (by decide +kernel : (u_ws RX11 TX11 6).all goodWord = true) w h⟩
theorem inX12 : ∀ w ∈ u_ws RX12 TX12 27, w ∈ lw_gt := fun w h => List.mem_filter.mpr ⟨goodIn_r (u_ws RX12 TX12 27) [791, 793, 795, 797, 799, 801, 803, 805, 807, 809, 811, 813, 815, 817, 819, 821, 823, 825, 827, 829, 831, 833, 835, 837, 839, 841, 843] (by decide +kernel) w h, List.all_eq_true.mp (by decide +kernel : (u_ws RX12 TX12 27).all goodWord = true) w h⟩
