section
-- ===== PART A: goes FIRST, ahead of the names: the tables' words, and 'selects' of the private methods out of them =====
/-- a private method of a class that the tables say can be made, by its rows of tables_1 -/
def lw_okq (q : MethodName × Nat) : Prop := (q.1.cls ≠ "java/lang/invoke/MethodHandle" ∧ q.1.cls ≠ "java/lang/invoke/VarHandle") ∧ Cond.instantiable q.1.cls q.2 ∈ tables_1 ∧ Cond.privateMethod q.1 ∈ tables_1 ∧ Cond.instanceMethod q.1 ∈ tables_1
theorem lw_p0 : lw_okq (⟨"PartedVoices", "standing", "()LPartedVoices$Lines;"⟩, 7) := ⟨⟨by decide +kernel, by decide +kernel⟩, List.mem_of_getElem? (i := 15) (by decide +kernel), List.mem_of_getElem? (i := 184) (by decide +kernel), List.mem_of_getElem? (i := 185) (by decide +kernel)⟩
theorem lw_p1 : lw_okq (⟨"PartedVoices$Score", "cell", "(II)I"⟩, 2) := ⟨⟨by decide +kernel, by decide +kernel⟩, List.mem_of_getElem? (i := 23) (by decide +kernel), List.mem_of_getElem? (i := 200) (by decide +kernel), List.mem_of_getElem? (i := 201) (by decide +kernel)⟩
theorem lw_p2 : lw_okq (⟨"PartedVoices$Lines", "costBehind", "(I)I"⟩, 4) := ⟨⟨by decide +kernel, by decide +kernel⟩, List.mem_of_getElem? (i := 42) (by decide +kernel), List.mem_of_getElem? (i := 221) (by decide +kernel), List.mem_of_getElem? (i := 222) (by decide +kernel)⟩
theorem lw_p3 : lw_okq (⟨"PartedVoices", "weighed", "()LPartedVoices$Partings;"⟩, 7) := ⟨⟨by decide +kernel, by decide +kernel⟩, List.mem_of_getElem? (i := 15) (by decide +kernel), List.mem_of_getElem? (i := 250) (by decide +kernel), List.mem_of_getElem? (i := 251) (by decide +kernel)⟩
theorem lw_p4 : lw_okq (⟨"PartedVoices$Partings", "bit", "(I)I"⟩, 9) := ⟨⟨by decide +kernel, by decide +kernel⟩, List.mem_of_getElem? (i := 61) (by decide +kernel), List.mem_of_getElem? (i := 272) (by decide +kernel), List.mem_of_getElem? (i := 273) (by decide +kernel)⟩
theorem lw_p5 : lw_okq (⟨"PartedVoices$Partings", "weighFrom", "(I)V"⟩, 9) := ⟨⟨by decide +kernel, by decide +kernel⟩, List.mem_of_getElem? (i := 61) (by decide +kernel), List.mem_of_getElem? (i := 276) (by decide +kernel), List.mem_of_getElem? (i := 277) (by decide +kernel)⟩
theorem lw_p6 : lw_okq (⟨"PartedVoices$Partings", "lineCost", "(II)I"⟩, 9) := ⟨⟨by decide +kernel, by decide +kernel⟩, List.mem_of_getElem? (i := 61) (by decide +kernel), List.mem_of_getElem? (i := 280) (by decide +kernel), List.mem_of_getElem? (i := 281) (by decide +kernel)⟩
theorem lw_p7 : lw_okq (⟨"PartedVoices$Partings", "weighLine", "(III)V"⟩, 9) := ⟨⟨by decide +kernel, by decide +kernel⟩, List.mem_of_getElem? (i := 61) (by decide +kernel), List.mem_of_getElem? (i := 284) (by decide +kernel), List.mem_of_getElem? (i := 285) (by decide +kernel)⟩
theorem lw_p8 : lw_okq (⟨"PartedVoices$Partings", "findLeast", "()V"⟩, 9) := ⟨⟨by decide +kernel, by decide +kernel⟩, List.mem_of_getElem? (i := 61) (by decide +kernel), List.mem_of_getElem? (i := 288) (by decide +kernel), List.mem_of_getElem? (i := 289) (by decide +kernel)⟩
theorem lw_p9 : lw_okq (⟨"PartedVoices$Partings", "offer", "(II)V"⟩, 9) := ⟨⟨by decide +kernel, by decide +kernel⟩, List.mem_of_getElem? (i := 61) (by decide +kernel), List.mem_of_getElem? (i := 299) (by decide +kernel), List.mem_of_getElem? (i := 300) (by decide +kernel)⟩
theorem lw_p10 : lw_okq (⟨"PartedVoices$Lines", "cross", "(II)Z"⟩, 4) := ⟨⟨by decide +kernel, by decide +kernel⟩, List.mem_of_getElem? (i := 42) (by decide +kernel), List.mem_of_getElem? (i := 328) (by decide +kernel), List.mem_of_getElem? (i := 329) (by decide +kernel)⟩
theorem lw_p11 : lw_okq (⟨"PartedVoices$Partings", "firstNext", "(IIII)I"⟩, 9) := ⟨⟨by decide +kernel, by decide +kernel⟩, List.mem_of_getElem? (i := 61) (by decide +kernel), List.mem_of_getElem? (i := 401) (by decide +kernel), List.mem_of_getElem? (i := 402) (by decide +kernel)⟩
theorem lw_p12 : lw_okq (⟨"PartedVoices$Partings", "leastBehind", "(III)I"⟩, 9) := ⟨⟨by decide +kernel, by decide +kernel⟩, List.mem_of_getElem? (i := 61) (by decide +kernel), List.mem_of_getElem? (i := 405) (by decide +kernel), List.mem_of_getElem? (i := 406) (by decide +kernel)⟩
theorem lw_p13 : lw_okq (⟨"PartedVoices$Lines", "isIn", "(II)Z"⟩, 4) := ⟨⟨by decide +kernel, by decide +kernel⟩, List.mem_of_getElem? (i := 42) (by decide +kernel), List.mem_of_getElem? (i := 426) (by decide +kernel), List.mem_of_getElem? (i := 427) (by decide +kernel)⟩
theorem lw_p14 : lw_okq (⟨"PartedVoices$Score", "placeFor", "(III)I"⟩, 2) := ⟨⟨by decide +kernel, by decide +kernel⟩, List.mem_of_getElem? (i := 23) (by decide +kernel), List.mem_of_getElem? (i := 489) (by decide +kernel), List.mem_of_getElem? (i := 490) (by decide +kernel)⟩
theorem lw_p15 : lw_okq (⟨"PartedVoices$Score", "changed", "()V"⟩, 2) := ⟨⟨by decide +kernel, by decide +kernel⟩, List.mem_of_getElem? (i := 23) (by decide +kernel), List.mem_of_getElem? (i := 500) (by decide +kernel), List.mem_of_getElem? (i := 501) (by decide +kernel)⟩
def lw_privs_1 : List (MethodName × Nat) := [(⟨"PartedVoices", "standing", "()LPartedVoices$Lines;"⟩, 7), (⟨"PartedVoices$Score", "cell", "(II)I"⟩, 2), (⟨"PartedVoices$Lines", "costBehind", "(I)I"⟩, 4), (⟨"PartedVoices", "weighed", "()LPartedVoices$Partings;"⟩, 7), (⟨"PartedVoices$Partings", "bit", "(I)I"⟩, 9), (⟨"PartedVoices$Partings", "weighFrom", "(I)V"⟩, 9), (⟨"PartedVoices$Partings", "lineCost", "(II)I"⟩, 9), (⟨"PartedVoices$Partings", "weighLine", "(III)V"⟩, 9), (⟨"PartedVoices$Partings", "findLeast", "()V"⟩, 9), (⟨"PartedVoices$Partings", "offer", "(II)V"⟩, 9), (⟨"PartedVoices$Lines", "cross", "(II)Z"⟩, 4), (⟨"PartedVoices$Partings", "firstNext", "(IIII)I"⟩, 9), (⟨"PartedVoices$Partings", "leastBehind", "(III)I"⟩, 9), (⟨"PartedVoices$Lines", "isIn", "(II)Z"⟩, 4), (⟨"PartedVoices$Score", "placeFor", "(III)I"⟩, 2), (⟨"PartedVoices$Score", "changed", "()V"⟩, 2)]
theorem lw_r1 : ∀ q ∈ lw_privs_1, lw_okq q := List.forall_mem_cons.mpr ⟨lw_p0, List.forall_mem_cons.mpr ⟨lw_p1, List.forall_mem_cons.mpr ⟨lw_p2, List.forall_mem_cons.mpr ⟨lw_p3, List.forall_mem_cons.mpr ⟨lw_p4, List.forall_mem_cons.mpr ⟨lw_p5, List.forall_mem_cons.mpr ⟨lw_p6, List.forall_mem_cons.mpr ⟨lw_p7, List.forall_mem_cons.mpr ⟨lw_p8, List.forall_mem_cons.mpr ⟨lw_p9, List.forall_mem_cons.mpr ⟨lw_p10, List.forall_mem_cons.mpr ⟨lw_p11, List.forall_mem_cons.mpr ⟨lw_p12, List.forall_mem_cons.mpr ⟨lw_p13, List.forall_mem_cons.mpr ⟨lw_p14, List.forall_mem_cons.mpr ⟨lw_p15, fun _ h => absurd h List.not_mem_nil⟩⟩⟩⟩⟩⟩⟩⟩⟩⟩⟩⟩⟩⟩⟩⟩
theorem lw_p16 : lw_okq (⟨"PartedVoices$Lines", "mendFirst", "()Z"⟩, 4) := ⟨⟨by decide +kernel, by decide +kernel⟩, List.mem_of_getElem? (i := 42) (by decide +kernel), List.mem_of_getElem? (i := 560) (by decide +kernel), List.mem_of_getElem? (i := 561) (by decide +kernel)⟩
theorem lw_p17 : lw_okq (⟨"PartedVoices$Lines", "canMend", "(II)Z"⟩, 4) := ⟨⟨by decide +kernel, by decide +kernel⟩, List.mem_of_getElem? (i := 42) (by decide +kernel), List.mem_of_getElem? (i := 564) (by decide +kernel), List.mem_of_getElem? (i := 565) (by decide +kernel)⟩
theorem lw_p18 : lw_okq (⟨"PartedVoices", "bringDrawn", "()V"⟩, 7) := ⟨⟨by decide +kernel, by decide +kernel⟩, List.mem_of_getElem? (i := 15) (by decide +kernel), List.mem_of_getElem? (i := 582) (by decide +kernel), List.mem_of_getElem? (i := 583) (by decide +kernel)⟩
theorem lw_p19 : lw_okq (⟨"PartedVoicesModel", "voices", "()I"⟩, 11) := ⟨⟨by decide +kernel, by decide +kernel⟩, List.mem_of_getElem? (i := 667) (by decide +kernel), List.mem_of_getElem? (i := 711) (by decide +kernel), List.mem_of_getElem? (i := 712) (by decide +kernel)⟩
theorem lw_p20 : lw_okq (⟨"PartedVoicesModel", "prior", "(I)I"⟩, 11) := ⟨⟨by decide +kernel, by decide +kernel⟩, List.mem_of_getElem? (i := 667) (by decide +kernel), List.mem_of_getElem? (i := 715) (by decide +kernel), List.mem_of_getElem? (i := 716) (by decide +kernel)⟩
theorem lw_p21 : lw_okq (⟨"PartedVoicesModel", "costNow", "()I"⟩, 11) := ⟨⟨by decide +kernel, by decide +kernel⟩, List.mem_of_getElem? (i := 667) (by decide +kernel), List.mem_of_getElem? (i := 719) (by decide +kernel), List.mem_of_getElem? (i := 720) (by decide +kernel)⟩
theorem lw_p22 : lw_okq (⟨"PartedVoicesModel", "costOf", "(II)I"⟩, 11) := ⟨⟨by decide +kernel, by decide +kernel⟩, List.mem_of_getElem? (i := 667) (by decide +kernel), List.mem_of_getElem? (i := 723) (by decide +kernel), List.mem_of_getElem? (i := 724) (by decide +kernel)⟩
theorem lw_p23 : lw_okq (⟨"PartedVoicesModel", "off", "(I)I"⟩, 11) := ⟨⟨by decide +kernel, by decide +kernel⟩, List.mem_of_getElem? (i := 667) (by decide +kernel), List.mem_of_getElem? (i := 727) (by decide +kernel), List.mem_of_getElem? (i := 728) (by decide +kernel)⟩
theorem lw_p24 : lw_okq (⟨"PartedVoicesModel", "fewest", "()I"⟩, 11) := ⟨⟨by decide +kernel, by decide +kernel⟩, List.mem_of_getElem? (i := 667) (by decide +kernel), List.mem_of_getElem? (i := 731) (by decide +kernel), List.mem_of_getElem? (i := 732) (by decide +kernel)⟩
theorem lw_p25 : lw_okq (⟨"PartedVoicesModel", "leastOf", "(II)I"⟩, 11) := ⟨⟨by decide +kernel, by decide +kernel⟩, List.mem_of_getElem? (i := 667) (by decide +kernel), List.mem_of_getElem? (i := 735) (by decide +kernel), List.mem_of_getElem? (i := 736) (by decide +kernel)⟩
theorem lw_p26 : lw_okq (⟨"PartedVoicesModel", "lay", "(II)V"⟩, 11) := ⟨⟨by decide +kernel, by decide +kernel⟩, List.mem_of_getElem? (i := 667) (by decide +kernel), List.mem_of_getElem? (i := 742) (by decide +kernel), List.mem_of_getElem? (i := 743) (by decide +kernel)⟩
theorem lw_p27 : lw_okq (⟨"PartedVoicesModel", "through", "(III)I"⟩, 11) := ⟨⟨by decide +kernel, by decide +kernel⟩, List.mem_of_getElem? (i := 667) (by decide +kernel), List.mem_of_getElem? (i := 750) (by decide +kernel), List.mem_of_getElem? (i := 751) (by decide +kernel)⟩
theorem lw_p28 : lw_okq (⟨"PartedVoicesModel", "bestAt", "(II)I"⟩, 11) := ⟨⟨by decide +kernel, by decide +kernel⟩, List.mem_of_getElem? (i := 667) (by decide +kernel), List.mem_of_getElem? (i := 754) (by decide +kernel), List.mem_of_getElem? (i := 755) (by decide +kernel)⟩
theorem lw_p29 : lw_okq (⟨"PartedVoicesModel", "may", "(II)Z"⟩, 11) := ⟨⟨by decide +kernel, by decide +kernel⟩, List.mem_of_getElem? (i := 667) (by decide +kernel), List.mem_of_getElem? (i := 758) (by decide +kernel), List.mem_of_getElem? (i := 759) (by decide +kernel)⟩
theorem lw_p30 : lw_okq (⟨"PartedVoicesModel", "cheapest", "(I)I"⟩, 11) := ⟨⟨by decide +kernel, by decide +kernel⟩, List.mem_of_getElem? (i := 667) (by decide +kernel), List.mem_of_getElem? (i := 762) (by decide +kernel), List.mem_of_getElem? (i := 763) (by decide +kernel)⟩
theorem lw_p31 : lw_okq (⟨"PartedVoicesModel", "leastOfAll", "(I)I"⟩, 11) := ⟨⟨by decide +kernel, by decide +kernel⟩, List.mem_of_getElem? (i := 667) (by decide +kernel), List.mem_of_getElem? (i := 766) (by decide +kernel), List.mem_of_getElem? (i := 767) (by decide +kernel)⟩
def lw_privs_2 : List (MethodName × Nat) := [(⟨"PartedVoices$Lines", "mendFirst", "()Z"⟩, 4), (⟨"PartedVoices$Lines", "canMend", "(II)Z"⟩, 4), (⟨"PartedVoices", "bringDrawn", "()V"⟩, 7), (⟨"PartedVoicesModel", "voices", "()I"⟩, 11), (⟨"PartedVoicesModel", "prior", "(I)I"⟩, 11), (⟨"PartedVoicesModel", "costNow", "()I"⟩, 11), (⟨"PartedVoicesModel", "costOf", "(II)I"⟩, 11), (⟨"PartedVoicesModel", "off", "(I)I"⟩, 11), (⟨"PartedVoicesModel", "fewest", "()I"⟩, 11), (⟨"PartedVoicesModel", "leastOf", "(II)I"⟩, 11), (⟨"PartedVoicesModel", "lay", "(II)V"⟩, 11), (⟨"PartedVoicesModel", "through", "(III)I"⟩, 11), (⟨"PartedVoicesModel", "bestAt", "(II)I"⟩, 11), (⟨"PartedVoicesModel", "may", "(II)Z"⟩, 11), (⟨"PartedVoicesModel", "cheapest", "(I)I"⟩, 11), (⟨"PartedVoicesModel", "leastOfAll", "(I)I"⟩, 11)]
theorem lw_r2 : ∀ q ∈ lw_privs_2, lw_okq q := List.forall_mem_cons.mpr ⟨lw_p16, List.forall_mem_cons.mpr ⟨lw_p17, List.forall_mem_cons.mpr ⟨lw_p18, List.forall_mem_cons.mpr ⟨lw_p19, List.forall_mem_cons.mpr ⟨lw_p20, List.forall_mem_cons.mpr ⟨lw_p21, List.forall_mem_cons.mpr ⟨lw_p22, List.forall_mem_cons.mpr ⟨lw_p23, List.forall_mem_cons.mpr ⟨lw_p24, List.forall_mem_cons.mpr ⟨lw_p25, List.forall_mem_cons.mpr ⟨lw_p26, List.forall_mem_cons.mpr ⟨lw_p27, List.forall_mem_cons.mpr ⟨lw_p28, List.forall_mem_cons.mpr ⟨lw_p29, List.forall_mem_cons.mpr ⟨lw_p30, List.forall_mem_cons.mpr ⟨lw_p31, fun _ h => absurd h List.not_mem_nil⟩⟩⟩⟩⟩⟩⟩⟩⟩⟩⟩⟩⟩⟩⟩⟩
theorem lw_p32 : lw_okq (⟨"PartedVoicesModel", "crossings", "()I"⟩, 11) := ⟨⟨by decide +kernel, by decide +kernel⟩, List.mem_of_getElem? (i := 667) (by decide +kernel), List.mem_of_getElem? (i := 770) (by decide +kernel), List.mem_of_getElem? (i := 771) (by decide +kernel)⟩
theorem lw_p33 : lw_okq (⟨"PartedVoicesModel", "cross", "(II)Z"⟩, 11) := ⟨⟨by decide +kernel, by decide +kernel⟩, List.mem_of_getElem? (i := 667) (by decide +kernel), List.mem_of_getElem? (i := 774) (by decide +kernel), List.mem_of_getElem? (i := 775) (by decide +kernel)⟩
theorem lw_p34 : lw_okq (⟨"PartedVoicesModel", "toldMore", "(I)I"⟩, 11) := ⟨⟨by decide +kernel, by decide +kernel⟩, List.mem_of_getElem? (i := 667) (by decide +kernel), List.mem_of_getElem? (i := 778) (by decide +kernel), List.mem_of_getElem? (i := 779) (by decide +kernel)⟩
theorem lw_p35 : lw_okq (⟨"PartedVoicesModel", "wrong", "()I"⟩, 11) := ⟨⟨by decide +kernel, by decide +kernel⟩, List.mem_of_getElem? (i := 667) (by decide +kernel), List.mem_of_getElem? (i := 782) (by decide +kernel), List.mem_of_getElem? (i := 783) (by decide +kernel)⟩
theorem lw_p36 : lw_okq (⟨"PartedVoicesModel", "isNote", "(I)Z"⟩, 11) := ⟨⟨by decide +kernel, by decide +kernel⟩, List.mem_of_getElem? (i := 667) (by decide +kernel), List.mem_of_getElem? (i := 791) (by decide +kernel), List.mem_of_getElem? (i := 792) (by decide +kernel)⟩
theorem lw_p37 : lw_okq (⟨"PartedVoicesModel", "voiceOf", "(I)I"⟩, 11) := ⟨⟨by decide +kernel, by decide +kernel⟩, List.mem_of_getElem? (i := 667) (by decide +kernel), List.mem_of_getElem? (i := 796) (by decide +kernel), List.mem_of_getElem? (i := 797) (by decide +kernel)⟩
theorem lw_p38 : lw_okq (⟨"PartedVoicesModel", "followers", "(I)I"⟩, 11) := ⟨⟨by decide +kernel, by decide +kernel⟩, List.mem_of_getElem? (i := 667) (by decide +kernel), List.mem_of_getElem? (i := 800) (by decide +kernel), List.mem_of_getElem? (i := 801) (by decide +kernel)⟩
theorem lw_p39 : lw_okq (⟨"PartedVoicesModel", "layFirst", "(I)Z"⟩, 11) := ⟨⟨by decide +kernel, by decide +kernel⟩, List.mem_of_getElem? (i := 667) (by decide +kernel), List.mem_of_getElem? (i := 817) (by decide +kernel), List.mem_of_getElem? (i := 818) (by decide +kernel)⟩
theorem lw_p40 : lw_okq (⟨"PartedVoicesModel", "firstOf", "(I)I"⟩, 11) := ⟨⟨by decide +kernel, by decide +kernel⟩, List.mem_of_getElem? (i := 667) (by decide +kernel), List.mem_of_getElem? (i := 827) (by decide +kernel), List.mem_of_getElem? (i := 828) (by decide +kernel)⟩
theorem lw_p41 : lw_okq (⟨"PartedVoicesModel", "ofVoice", "(II)I"⟩, 11) := ⟨⟨by decide +kernel, by decide +kernel⟩, List.mem_of_getElem? (i := 667) (by decide +kernel), List.mem_of_getElem? (i := 831) (by decide +kernel), List.mem_of_getElem? (i := 832) (by decide +kernel)⟩
theorem lw_p42 : lw_okq (⟨"PartedVoicesModel", "isNoteOf", "(III)Z"⟩, 11) := ⟨⟨by decide +kernel, by decide +kernel⟩, List.mem_of_getElem? (i := 667) (by decide +kernel), List.mem_of_getElem? (i := 843) (by decide +kernel), List.mem_of_getElem? (i := 844) (by decide +kernel)⟩
theorem lw_p43 : lw_okq (⟨"PartedVoicesModel", "remember", "()V"⟩, 11) := ⟨⟨by decide +kernel, by decide +kernel⟩, List.mem_of_getElem? (i := 667) (by decide +kernel), List.mem_of_getElem? (i := 851) (by decide +kernel), List.mem_of_getElem? (i := 852) (by decide +kernel)⟩
theorem lw_p44 : lw_okq (⟨"PartedVoicesModel", "copyRow", "(II)V"⟩, 11) := ⟨⟨by decide +kernel, by decide +kernel⟩, List.mem_of_getElem? (i := 667) (by decide +kernel), List.mem_of_getElem? (i := 855) (by decide +kernel), List.mem_of_getElem? (i := 856) (by decide +kernel)⟩
theorem lw_p45 : lw_okq (⟨"PartedVoicesModel", "add", "(III)I"⟩, 11) := ⟨⟨by decide +kernel, by decide +kernel⟩, List.mem_of_getElem? (i := 667) (by decide +kernel), List.mem_of_getElem? (i := 859) (by decide +kernel), List.mem_of_getElem? (i := 860) (by decide +kernel)⟩
theorem lw_p46 : lw_okq (⟨"PartedVoicesModel", "stays", "(IIII)Z"⟩, 11) := ⟨⟨by decide +kernel, by decide +kernel⟩, List.mem_of_getElem? (i := 667) (by decide +kernel), List.mem_of_getElem? (i := 863) (by decide +kernel), List.mem_of_getElem? (i := 864) (by decide +kernel)⟩
theorem lw_p47 : lw_okq (⟨"PartedVoicesModel", "part0", "()V"⟩, 11) := ⟨⟨by decide +kernel, by decide +kernel⟩, List.mem_of_getElem? (i := 667) (by decide +kernel), List.mem_of_getElem? (i := 867) (by decide +kernel), List.mem_of_getElem? (i := 868) (by decide +kernel)⟩
def lw_privs_3 : List (MethodName × Nat) := [(⟨"PartedVoicesModel", "crossings", "()I"⟩, 11), (⟨"PartedVoicesModel", "cross", "(II)Z"⟩, 11), (⟨"PartedVoicesModel", "toldMore", "(I)I"⟩, 11), (⟨"PartedVoicesModel", "wrong", "()I"⟩, 11), (⟨"PartedVoicesModel", "isNote", "(I)Z"⟩, 11), (⟨"PartedVoicesModel", "voiceOf", "(I)I"⟩, 11), (⟨"PartedVoicesModel", "followers", "(I)I"⟩, 11), (⟨"PartedVoicesModel", "layFirst", "(I)Z"⟩, 11), (⟨"PartedVoicesModel", "firstOf", "(I)I"⟩, 11), (⟨"PartedVoicesModel", "ofVoice", "(II)I"⟩, 11), (⟨"PartedVoicesModel", "isNoteOf", "(III)Z"⟩, 11), (⟨"PartedVoicesModel", "remember", "()V"⟩, 11), (⟨"PartedVoicesModel", "copyRow", "(II)V"⟩, 11), (⟨"PartedVoicesModel", "add", "(III)I"⟩, 11), (⟨"PartedVoicesModel", "stays", "(IIII)Z"⟩, 11), (⟨"PartedVoicesModel", "part0", "()V"⟩, 11)]
theorem lw_r3 : ∀ q ∈ lw_privs_3, lw_okq q := List.forall_mem_cons.mpr ⟨lw_p32, List.forall_mem_cons.mpr ⟨lw_p33, List.forall_mem_cons.mpr ⟨lw_p34, List.forall_mem_cons.mpr ⟨lw_p35, List.forall_mem_cons.mpr ⟨lw_p36, List.forall_mem_cons.mpr ⟨lw_p37, List.forall_mem_cons.mpr ⟨lw_p38, List.forall_mem_cons.mpr ⟨lw_p39, List.forall_mem_cons.mpr ⟨lw_p40, List.forall_mem_cons.mpr ⟨lw_p41, List.forall_mem_cons.mpr ⟨lw_p42, List.forall_mem_cons.mpr ⟨lw_p43, List.forall_mem_cons.mpr ⟨lw_p44, List.forall_mem_cons.mpr ⟨lw_p45, List.forall_mem_cons.mpr ⟨lw_p46, List.forall_mem_cons.mpr ⟨lw_p47, fun _ h => absurd h List.not_mem_nil⟩⟩⟩⟩⟩⟩⟩⟩⟩⟩⟩⟩⟩⟩⟩⟩
theorem lw_p48 : lw_okq (⟨"PartedVoicesModel", "remove", "(I)V"⟩, 11) := ⟨⟨by decide +kernel, by decide +kernel⟩, List.mem_of_getElem? (i := 667) (by decide +kernel), List.mem_of_getElem? (i := 875) (by decide +kernel), List.mem_of_getElem? (i := 876) (by decide +kernel)⟩
theorem lw_p49 : lw_okq (⟨"PartedVoicesModel", "mendOne", "()Z"⟩, 11) := ⟨⟨by decide +kernel, by decide +kernel⟩, List.mem_of_getElem? (i := 667) (by decide +kernel), List.mem_of_getElem? (i := 909) (by decide +kernel), List.mem_of_getElem? (i := 910) (by decide +kernel)⟩
theorem lw_p50 : lw_okq (⟨"PartedVoicesModel", "draw", "(I)I"⟩, 11) := ⟨⟨by decide +kernel, by decide +kernel⟩, List.mem_of_getElem? (i := 667) (by decide +kernel), List.mem_of_getElem? (i := 921) (by decide +kernel), List.mem_of_getElem? (i := 922) (by decide +kernel)⟩
def lw_privs_4 : List (MethodName × Nat) := [(⟨"PartedVoicesModel", "remove", "(I)V"⟩, 11), (⟨"PartedVoicesModel", "mendOne", "()Z"⟩, 11), (⟨"PartedVoicesModel", "draw", "(I)I"⟩, 11)]
theorem lw_r4 : ∀ q ∈ lw_privs_4, lw_okq q := List.forall_mem_cons.mpr ⟨lw_p48, List.forall_mem_cons.mpr ⟨lw_p49, List.forall_mem_cons.mpr ⟨lw_p50, fun _ h => absurd h List.not_mem_nil⟩⟩⟩
def lw_privs : List (MethodName × Nat) := lw_privs_1 ++ (lw_privs_2 ++ (lw_privs_3 ++ (lw_privs_4)))
def lw_tbl : List Cond := k2_sels lw_privs ++ tables_1
theorem lw_privs_ok : ∀ q ∈ lw_privs, lw_okq q := by
  show ∀ q ∈ lw_privs_1 ++ (lw_privs_2 ++ (lw_privs_3 ++ (lw_privs_4))), lw_okq q
  exact List.forall_mem_append.mpr ⟨lw_r1, List.forall_mem_append.mpr ⟨lw_r2, List.forall_mem_append.mpr ⟨lw_r3, lw_r4⟩⟩⟩
-- ===== end of PART A; then your names; then what follows =====
end
section
def RX0 : String := "PartedVoices$Book"
def TX0 : u_T := fun k => match k with
  | 0 => ("PartedVoices$Book", "voices", "[I", true)
  | 1 => ("PartedVoices$Book", "costs", "[I", true)
  | _ => ("PartedVoices$Book", "size", "I", false)
def tyX0 : Nat → FieldType := fun k => match k with
  | 0 => .array .int
  | 1 => .array .int
  | _ => .int
abbrev wsX00 : List Cond := u_ws RX0 TX0 3
theorem nmX0 : ∀ a, a < 3 → ∀ b, b < 3 → a ≠ b → (TX0 a).2.1 ≠ (TX0 b).2.1 := by decide +kernel
theorem tyX0_ok : ∀ k, k < 3 → parseFieldDescriptor (TX0 k).2.2.1 = some (tyX0 k) := by decide +kernel
abbrev cX0_init : ByteArray := prog_2_method_1_code
def yX0_init : MethodName := ⟨RX0, "<init>", "()V"⟩
abbrev cX0_size : ByteArray := prog_2_method_2_code
def yX0_size : MethodName := ⟨RX0, "size", "()I"⟩
abbrev cX0_isFull : ByteArray := prog_2_method_3_code
def yX0_isFull : MethodName := ⟨RX0, "isFull", "()Z"⟩
abbrev cX0_add : ByteArray := prog_2_method_4_code
def yX0_add : MethodName := ⟨RX0, "add", "(II)V"⟩
abbrev cX0_empty : ByteArray := prog_2_method_5_code
def yX0_empty : MethodName := ⟨RX0, "empty", "()V"⟩
abbrev cX0_wrong : ByteArray := prog_2_method_6_code
def yX0_wrong : MethodName := ⟨RX0, "wrong", "(LPartedVoices$Partings;)I"⟩
def RX1 : String := "PartedVoices$Draws"
def TX1 : u_T := fun k => match k with
  | _ => ("PartedVoices$Draws", "seed", "I", false)
def tyX1 : Nat → FieldType := fun k => match k with
  | _ => .int
abbrev wsX10 : List Cond := u_ws RX1 TX1 1
theorem nmX1 : ∀ a, a < 1 → ∀ b, b < 1 → a ≠ b → (TX1 a).2.1 ≠ (TX1 b).2.1 := by decide +kernel
theorem tyX1_ok : ∀ k, k < 1 → parseFieldDescriptor (TX1 k).2.2.1 = some (tyX1 k) := by decide +kernel
abbrev cX1_init : ByteArray := prog_3_method_1_code
def yX1_init : MethodName := ⟨RX1, "<init>", "()V"⟩
abbrev cX1_state : ByteArray := prog_3_method_2_code
def yX1_state : MethodName := ⟨RX1, "state", "()I"⟩
abbrev cX1_become : ByteArray := prog_3_method_3_code
def yX1_become : MethodName := ⟨RX1, "become", "(I)V"⟩
abbrev cX1_draw : ByteArray := prog_3_method_4_code
def yX1_draw : MethodName := ⟨RX1, "draw", "(I)I"⟩
def RX2 : String := "PartedVoices$History"
def TX2 : u_T := fun k => match k with
  | 0 => ("PartedVoices$History", "shelf", "[I", true)
  | 1 => ("PartedVoices$History", "place", "I", false)
  | _ => ("PartedVoices$History", "held", "I", false)
def tyX2 : Nat → FieldType := fun k => match k with
  | 0 => .array .int
  | 1 => .int
  | _ => .int
abbrev wsX20 : List Cond := u_ws RX2 TX2 3
theorem nmX2 : ∀ a, a < 3 → ∀ b, b < 3 → a ≠ b → (TX2 a).2.1 ≠ (TX2 b).2.1 := by decide +kernel
theorem tyX2_ok : ∀ k, k < 3 → parseFieldDescriptor (TX2 k).2.2.1 = some (tyX2 k) := by decide +kernel
abbrev cX2_init : ByteArray := prog_4_method_1_code
def yX2_init : MethodName := ⟨RX2, "<init>", "()V"⟩
abbrev cX2_held : ByteArray := prog_4_method_2_code
def yX2_held : MethodName := ⟨RX2, "held", "()I"⟩
abbrev cX2_record : ByteArray := prog_4_method_3_code
def yX2_record : MethodName := ⟨RX2, "record", "(LPartedVoices$Score;)V"⟩
abbrev cX2_giveBack : ByteArray := prog_4_method_4_code
def yX2_giveBack : MethodName := ⟨RX2, "giveBack", "(ILPartedVoices$Score;)V"⟩
abbrev cX2_forget : ByteArray := prog_4_method_5_code
def yX2_forget : MethodName := ⟨RX2, "forget", "()V"⟩
def RX3 : String := "PartedVoices$Images"
def TX3 : u_T := fun k => match k with
  | 0 => ("PartedVoices$Images", "shelf", "[I", true)
  | 1 => ("PartedVoices$Images", "seeds", "[I", true)
  | _ => ("PartedVoices$Images", "kept", "[Z", true)
def tyX3 : Nat → FieldType := fun k => match k with
  | 0 => .array .int
  | 1 => .array .int
  | _ => .array .boolean
abbrev wsX30 : List Cond := u_ws RX3 TX3 3
theorem nmX3 : ∀ a, a < 3 → ∀ b, b < 3 → a ≠ b → (TX3 a).2.1 ≠ (TX3 b).2.1 := by decide +kernel
theorem tyX3_ok : ∀ k, k < 3 → parseFieldDescriptor (TX3 k).2.2.1 = some (tyX3 k) := by decide +kernel
abbrev cX3_init : ByteArray := prog_5_method_1_code
def yX3_init : MethodName := ⟨RX3, "<init>", "()V"⟩
abbrev cX3_isImage : ByteArray := prog_5_method_2_code
def yX3_isImage : MethodName := ⟨RX3, "isImage", "(I)Z"⟩
abbrev cX3_isKept : ByteArray := prog_5_method_3_code
def yX3_isKept : MethodName := ⟨RX3, "isKept", "(I)Z"⟩
abbrev cX3_store : ByteArray := prog_5_method_4_code
def yX3_store : MethodName := ⟨RX3, "store", "(ILPartedVoices$Score;LPartedVoices$Draws;)V"⟩
abbrev cX3_restore : ByteArray := prog_5_method_5_code
def yX3_restore : MethodName := ⟨RX3, "restore", "(ILPartedVoices$Score;LPartedVoices$Draws;)V"⟩
def RX4 : String := "PartedVoices$Lines"
def TX4 : u_T := fun k => match k with
  | 0 => ("PartedVoices$Lines", "score", "LPartedVoices$Score;", true)
  | 1 => ("PartedVoices$Lines", "aheadOf", "[I", true)
  | 2 => ("PartedVoices$Lines", "voiceOf", "[I", true)
  | _ => ("PartedVoices$Lines", "voices", "I", false)
def tyX4 : Nat → FieldType := fun k => match k with
  | 0 => .object "PartedVoices$Score"
  | 1 => .array .int
  | 2 => .array .int
  | _ => .int
abbrev wsX40 : List Cond := u_ws RX4 TX4 4
theorem nmX4 : ∀ a, a < 4 → ∀ b, b < 4 → a ≠ b → (TX4 a).2.1 ≠ (TX4 b).2.1 := by decide +kernel
theorem tyX4_ok : ∀ k, k < 4 → parseFieldDescriptor (TX4 k).2.2.1 = some (tyX4 k) := by decide +kernel
abbrev cX4_init : ByteArray := prog_6_method_1_code
def yX4_init : MethodName := ⟨RX4, "<init>", "(LPartedVoices$Score;)V"⟩
abbrev cX4_read : ByteArray := prog_6_method_2_code
def yX4_read : MethodName := ⟨RX4, "read", "()V"⟩
abbrev cX4_ahead : ByteArray := prog_6_method_3_code
def yX4_ahead : MethodName := ⟨RX4, "ahead", "(I)I"⟩
abbrev cX4_voiceWith : ByteArray := prog_6_method_4_code
def yX4_voiceWith : MethodName := ⟨RX4, "voiceWith", "(I)I"⟩
abbrev cX4_countVoices : ByteArray := prog_6_method_5_code
def yX4_countVoices : MethodName := ⟨RX4, "countVoices", "()I"⟩
abbrev cX4_hasVoice : ByteArray := prog_6_method_6_code
def yX4_hasVoice : MethodName := ⟨RX4, "hasVoice", "(I)Z"⟩
abbrev cX4_isIn : ByteArray := prog_6_method_7_code
def yX4_isIn : MethodName := ⟨RX4, "isIn", "(II)Z"⟩
abbrev cX4_size : ByteArray := prog_6_method_8_code
def yX4_size : MethodName := ⟨RX4, "size", "(I)I"⟩
abbrev cX4_noteOf : ByteArray := prog_6_method_9_code
def yX4_noteOf : MethodName := ⟨RX4, "noteOf", "(II)I"⟩
abbrev cX4_lowest : ByteArray := prog_6_method_10_code
def yX4_lowest : MethodName := ⟨RX4, "lowest", "(I)I"⟩
abbrev cX4_highest : ByteArray := prog_6_method_11_code
def yX4_highest : MethodName := ⟨RX4, "highest", "(I)I"⟩
abbrev cX4_rests : ByteArray := prog_6_method_12_code
def yX4_rests : MethodName := ⟨RX4, "rests", "(I)I"⟩
abbrev cX4_costOf : ByteArray := prog_6_method_13_code
def yX4_costOf : MethodName := ⟨RX4, "costOf", "(I)I"⟩
abbrev cX4_costOfAll : ByteArray := prog_6_method_14_code
def yX4_costOfAll : MethodName := ⟨RX4, "costOfAll", "()I"⟩
abbrev cX4_costBehind : ByteArray := prog_6_method_15_code
def yX4_costBehind : MethodName := ⟨RX4, "costBehind", "(I)I"⟩
abbrev cX4_crossings : ByteArray := prog_6_method_16_code
def yX4_crossings : MethodName := ⟨RX4, "crossings", "()I"⟩
abbrev cX4_cross : ByteArray := prog_6_method_17_code
def yX4_cross : MethodName := ⟨RX4, "cross", "(II)Z"⟩
abbrev cX4_mendCrossings : ByteArray := prog_6_method_18_code
def yX4_mendCrossings : MethodName := ⟨RX4, "mendCrossings", "()I"⟩
abbrev cX4_mendFirst : ByteArray := prog_6_method_19_code
def yX4_mendFirst : MethodName := ⟨RX4, "mendFirst", "()Z"⟩
abbrev cX4_canMend : ByteArray := prog_6_method_20_code
def yX4_canMend : MethodName := ⟨RX4, "canMend", "(II)Z"⟩
def RX5 : String := "PartedVoices$Partings"
def TX5 : u_T := fun k => match k with
  | 0 => ("PartedVoices$Partings", "score", "LPartedVoices$Score;", true)
  | 1 => ("PartedVoices$Partings", "lineCosts", "[I", true)
  | 2 => ("PartedVoices$Partings", "leastTo", "[I", true)
  | 3 => ("PartedVoices$Partings", "leastOf", "[I", true)
  | 4 => ("PartedVoices$Partings", "chosen", "[I", true)
  | 5 => ("PartedVoices$Partings", "count", "I", false)
  | 6 => ("PartedVoices$Partings", "entry", "I", false)
  | 7 => ("PartedVoices$Partings", "weighedEdition", "I", false)
  | _ => ("PartedVoices$Partings", "weighedAlone", "I", false)
def tyX5 : Nat → FieldType := fun k => match k with
  | 0 => .object "PartedVoices$Score"
  | 1 => .array .int
  | 2 => .array .int
  | 3 => .array .int
  | 4 => .array .int
  | 5 => .int
  | 6 => .int
  | 7 => .int
  | _ => .int
abbrev wsX50 : List Cond := u_ws RX5 TX5 9
theorem nmX5 : ∀ a, a < 9 → ∀ b, b < 9 → a ≠ b → (TX5 a).2.1 ≠ (TX5 b).2.1 := by decide +kernel
theorem tyX5_ok : ∀ k, k < 9 → parseFieldDescriptor (TX5 k).2.2.1 = some (tyX5 k) := by decide +kernel
abbrev cX5_init : ByteArray := prog_7_method_1_code
def yX5_init : MethodName := ⟨RX5, "<init>", "(LPartedVoices$Score;)V"⟩
abbrev cX5_weigh : ByteArray := prog_7_method_2_code
def yX5_weigh : MethodName := ⟨RX5, "weigh", "(I)V"⟩
abbrev cX5_barredOr : ByteArray := prog_7_method_3_code
def yX5_barredOr : MethodName := ⟨RX5, "barredOr", "(I)I"⟩
abbrev cX5_bit : ByteArray := prog_7_method_4_code
def yX5_bit : MethodName := ⟨RX5, "bit", "(I)I"⟩
abbrev cX5_lineCost : ByteArray := prog_7_method_5_code
def yX5_lineCost : MethodName := ⟨RX5, "lineCost", "(II)I"⟩
abbrev cX5_weighFrom : ByteArray := prog_7_method_6_code
def yX5_weighFrom : MethodName := ⟨RX5, "weighFrom", "(I)V"⟩
abbrev cX5_weighLine : ByteArray := prog_7_method_7_code
def yX5_weighLine : MethodName := ⟨RX5, "weighLine", "(III)V"⟩
abbrev cX5_findLeast : ByteArray := prog_7_method_8_code
def yX5_findLeast : MethodName := ⟨RX5, "findLeast", "()V"⟩
abbrev cX5_offer : ByteArray := prog_7_method_9_code
def yX5_offer : MethodName := ⟨RX5, "offer", "(II)V"⟩
abbrev cX5_leastCost : ByteArray := prog_7_method_10_code
def yX5_leastCost : MethodName := ⟨RX5, "leastCost", "(I)I"⟩
abbrev cX5_fewest : ByteArray := prog_7_method_11_code
def yX5_fewest : MethodName := ⟨RX5, "fewest", "()I"⟩
abbrev cX5_cheapest : ByteArray := prog_7_method_12_code
def yX5_cheapest : MethodName := ⟨RX5, "cheapest", "()I"⟩
abbrev cX5_cheapestCost : ByteArray := prog_7_method_13_code
def yX5_cheapestCost : MethodName := ⟨RX5, "cheapestCost", "()I"⟩
abbrev cX5_price : ByteArray := prog_7_method_14_code
def yX5_price : MethodName := ⟨RX5, "price", "(I)I"⟩
abbrev cX5_chosen : ByteArray := prog_7_method_15_code
def yX5_chosen : MethodName := ⟨RX5, "chosen", "(I)I"⟩
abbrev cX5_choose : ByteArray := prog_7_method_16_code
def yX5_choose : MethodName := ⟨RX5, "choose", "(I)Z"⟩
abbrev cX5_firstNext : ByteArray := prog_7_method_17_code
def yX5_firstNext : MethodName := ⟨RX5, "firstNext", "(IIII)I"⟩
abbrev cX5_leastBehind : ByteArray := prog_7_method_18_code
def yX5_leastBehind : MethodName := ⟨RX5, "leastBehind", "(III)I"⟩
def RX6 : String := "PartedVoices$Score"
def TX6 : u_T := fun k => match k with
  | 0 => ("PartedVoices$Score", "cells", "[I", true)
  | _ => ("PartedVoices$Score", "edition", "I", false)
def tyX6 : Nat → FieldType := fun k => match k with
  | 0 => .array .int
  | _ => .int
abbrev wsX60 : List Cond := u_ws RX6 TX6 2
theorem nmX6 : ∀ a, a < 2 → ∀ b, b < 2 → a ≠ b → (TX6 a).2.1 ≠ (TX6 b).2.1 := by decide +kernel
theorem tyX6_ok : ∀ k, k < 2 → parseFieldDescriptor (TX6 k).2.2.1 = some (tyX6 k) := by decide +kernel
abbrev cX6_init : ByteArray := prog_8_method_1_code
def yX6_init : MethodName := ⟨RX6, "<init>", "()V"⟩
abbrev cX6_canBe : ByteArray := prog_8_method_2_code
def yX6_canBe : MethodName := ⟨RX6, "canBe", "(III)Z"⟩
abbrev cX6_canBeTerm : ByteArray := prog_8_method_3_code
def yX6_canBeTerm : MethodName := ⟨RX6, "canBeTerm", "(II)Z"⟩
abbrev cX6_count : ByteArray := prog_8_method_4_code
def yX6_count : MethodName := ⟨RX6, "count", "()I"⟩
abbrev cX6_edition : ByteArray := prog_8_method_5_code
def yX6_edition : MethodName := ⟨RX6, "edition", "()I"⟩
abbrev cX6_isFull : ByteArray := prog_8_method_6_code
def yX6_isFull : MethodName := ⟨RX6, "isFull", "()Z"⟩
abbrev cX6_has : ByteArray := prog_8_method_7_code
def yX6_has : MethodName := ⟨RX6, "has", "(I)Z"⟩
abbrev cX6_on : ByteArray := prog_8_method_8_code
def yX6_on : MethodName := ⟨RX6, "on", "(I)I"⟩
abbrev cX6_length : ByteArray := prog_8_method_9_code
def yX6_length : MethodName := ⟨RX6, "length", "(I)I"⟩
abbrev cX6_off : ByteArray := prog_8_method_10_code
def yX6_off : MethodName := ⟨RX6, "off", "(I)I"⟩
abbrev cX6_pitch : ByteArray := prog_8_method_11_code
def yX6_pitch : MethodName := ⟨RX6, "pitch", "(I)I"⟩
abbrev cX6_next : ByteArray := prog_8_method_12_code
def yX6_next : MethodName := ⟨RX6, "next", "(I)I"⟩
abbrev cX6_cell : ByteArray := prog_8_method_13_code
def yX6_cell : MethodName := ⟨RX6, "cell", "(II)I"⟩
abbrev cX6_valueOf : ByteArray := prog_8_method_14_code
def yX6_valueOf : MethodName := ⟨RX6, "valueOf", "(I)I"⟩
abbrev cX6_changeTerm : ByteArray := prog_8_method_15_code
def yX6_changeTerm : MethodName := ⟨RX6, "changeTerm", "(II)I"⟩
abbrev cX6_mayFollow : ByteArray := prog_8_method_16_code
def yX6_mayFollow : MethodName := ⟨RX6, "mayFollow", "(II)Z"⟩
abbrev cX6_costToFollow : ByteArray := prog_8_method_17_code
def yX6_costToFollow : MethodName := ⟨RX6, "costToFollow", "(II)I"⟩
abbrev cX6_countFollowers : ByteArray := prog_8_method_18_code
def yX6_countFollowers : MethodName := ⟨RX6, "countFollowers", "(I)I"⟩
abbrev cX6_bring : ByteArray := prog_8_method_19_code
def yX6_bring : MethodName := ⟨RX6, "bring", "(III)I"⟩
abbrev cX6_placeFor : ByteArray := prog_8_method_20_code
def yX6_placeFor : MethodName := ⟨RX6, "placeFor", "(III)I"⟩
abbrev cX6_orderKey : ByteArray := prog_8_method_21_code
def yX6_orderKey : MethodName := ⟨RX6, "orderKey", "(III)I"⟩
abbrev cX6_drop : ByteArray := prog_8_method_22_code
def yX6_drop : MethodName := ⟨RX6, "drop", "(I)V"⟩
abbrev cX6_dropAll : ByteArray := prog_8_method_23_code
def yX6_dropAll : MethodName := ⟨RX6, "dropAll", "()V"⟩
abbrev cX6_changed : ByteArray := prog_8_method_24_code
def yX6_changed : MethodName := ⟨RX6, "changed", "()V"⟩
abbrev cX6_link : ByteArray := prog_8_method_25_code
def yX6_link : MethodName := ⟨RX6, "link", "(II)V"⟩
abbrev cX6_copyTo : ByteArray := prog_8_method_26_code
def yX6_copyTo : MethodName := ⟨RX6, "copyTo", "([II)V"⟩
abbrev cX6_copyFrom : ByteArray := prog_8_method_27_code
def yX6_copyFrom : MethodName := ⟨RX6, "copyFrom", "([II)V"⟩
abbrev cX6_fitsOn : ByteArray := prog_8_method_28_code
def yX6_fitsOn : MethodName := ⟨RX6, "fitsOn", "([II)Z"⟩
def RX7 : String := "PartedVoices"
def TX7 : u_T := fun k => match k with
  | 0 => ("PartedVoices", "score", "LPartedVoices$Score;", true)
  | 1 => ("PartedVoices", "lines", "LPartedVoices$Lines;", true)
  | 2 => ("PartedVoices", "partings", "LPartedVoices$Partings;", true)
  | 3 => ("PartedVoices", "history", "LPartedVoices$History;", true)
  | 4 => ("PartedVoices", "images", "LPartedVoices$Images;", true)
  | 5 => ("PartedVoices", "book", "LPartedVoices$Book;", true)
  | _ => ("PartedVoices", "draws", "LPartedVoices$Draws;", true)
def tyX7 : Nat → FieldType := fun k => match k with
  | 0 => .object "PartedVoices$Score"
  | 1 => .object "PartedVoices$Lines"
  | 2 => .object "PartedVoices$Partings"
  | 3 => .object "PartedVoices$History"
  | 4 => .object "PartedVoices$Images"
  | 5 => .object "PartedVoices$Book"
  | _ => .object "PartedVoices$Draws"
abbrev wsX70 : List Cond := u_ws RX7 TX7 7
theorem nmX7 : ∀ a, a < 7 → ∀ b, b < 7 → a ≠ b → (TX7 a).2.1 ≠ (TX7 b).2.1 := by decide +kernel
theorem tyX7_ok : ∀ k, k < 7 → parseFieldDescriptor (TX7 k).2.2.1 = some (tyX7 k) := by decide +kernel
abbrev cX7_init : ByteArray := prog_1_method_1_code
def yX7_init : MethodName := ⟨RX7, "<init>", "()V"⟩
abbrev cX7_told : ByteArray := prog_1_method_2_code
def yX7_told : MethodName := ⟨RX7, "told", "(I)I"⟩
abbrev cX7_at : ByteArray := prog_1_method_3_code
def yX7_at : MethodName := ⟨RX7, "at", "(II)I"⟩
abbrev cX7_cost : ByteArray := prog_1_method_4_code
def yX7_cost : MethodName := ⟨RX7, "cost", "(II)I"⟩
abbrev cX7_least : ByteArray := prog_1_method_5_code
def yX7_least : MethodName := ⟨RX7, "least", "(I)I"⟩
abbrev cX7_first : ByteArray := prog_1_method_6_code
def yX7_first : MethodName := ⟨RX7, "first", "(II)I"⟩
abbrev cX7_voice : ByteArray := prog_1_method_7_code
def yX7_voice : MethodName := ⟨RX7, "voice", "(II)I"⟩
abbrev cX7_member : ByteArray := prog_1_method_8_code
def yX7_member : MethodName := ⟨RX7, "member", "(II)I"⟩
abbrev cX7_note : ByteArray := prog_1_method_9_code
def yX7_note : MethodName := ⟨RX7, "note", "(III)I"⟩
abbrev cX7_take : ByteArray := prog_1_method_10_code
def yX7_take : MethodName := ⟨RX7, "take", "(I)I"⟩
abbrev cX7_move : ByteArray := prog_1_method_11_code
def yX7_move : MethodName := ⟨RX7, "move", "(IIII)I"⟩
abbrev cX7_share : ByteArray := prog_1_method_12_code
def yX7_share : MethodName := ⟨RX7, "share", "(I)I"⟩
abbrev cX7_term : ByteArray := prog_1_method_13_code
def yX7_term : MethodName := ⟨RX7, "term", "(II)I"⟩
abbrev cX7_follow : ByteArray := prog_1_method_14_code
def yX7_follow : MethodName := ⟨RX7, "follow", "(II)I"⟩
abbrev cX7_cut : ByteArray := prog_1_method_15_code
def yX7_cut : MethodName := ⟨RX7, "cut", "(I)I"⟩
abbrev cX7_part : ByteArray := prog_1_method_16_code
def yX7_part : MethodName := ⟨RX7, "part", "(I)I"⟩
abbrev cX7_mend : ByteArray := prog_1_method_17_code
def yX7_mend : MethodName := ⟨RX7, "mend", "()I"⟩
abbrev cX7_clear : ByteArray := prog_1_method_18_code
def yX7_clear : MethodName := ⟨RX7, "clear", "()I"⟩
abbrev cX7_drift : ByteArray := prog_1_method_19_code
def yX7_drift : MethodName := ⟨RX7, "drift", "(I)I"⟩
abbrev cX7_undo : ByteArray := prog_1_method_20_code
def yX7_undo : MethodName := ⟨RX7, "undo", "(I)I"⟩
abbrev cX7_write : ByteArray := prog_1_method_21_code
def yX7_write : MethodName := ⟨RX7, "write", "(II)I"⟩
abbrev cX7_tear : ByteArray := prog_1_method_22_code
def yX7_tear : MethodName := ⟨RX7, "tear", "()I"⟩
abbrev cX7_seed : ByteArray := prog_1_method_23_code
def yX7_seed : MethodName := ⟨RX7, "seed", "(I)I"⟩
abbrev cX7_keep : ByteArray := prog_1_method_24_code
def yX7_keep : MethodName := ⟨RX7, "keep", "(I)I"⟩
abbrev cX7_goBack : ByteArray := prog_1_method_25_code
def yX7_goBack : MethodName := ⟨RX7, "goBack", "(I)I"⟩
abbrev cX7_isVoiceCount : ByteArray := prog_1_method_26_code
def yX7_isVoiceCount : MethodName := ⟨RX7, "isVoiceCount", "(I)Z"⟩
abbrev cX7_standing : ByteArray := prog_1_method_27_code
def yX7_standing : MethodName := ⟨RX7, "standing", "()LPartedVoices$Lines;"⟩
abbrev cX7_weighed : ByteArray := prog_1_method_28_code
def yX7_weighed : MethodName := ⟨RX7, "weighed", "()LPartedVoices$Partings;"⟩
abbrev cX7_bringDrawn : ByteArray := prog_1_method_29_code
def yX7_bringDrawn : MethodName := ⟨RX7, "bringDrawn", "()V"⟩
def RX8 : String := "PartedVoicesModel"
def TX8 : u_T := fun k => match k with
  | 0 => ("PartedVoicesModel", "w", "[I", true)
  | 1 => ("PartedVoicesModel", "known", "I", false)
  | 2 => ("PartedVoicesModel", "kept", "I", false)
  | 3 => ("PartedVoicesModel", "seed", "I", false)
  | 4 => ("PartedVoicesModel", "imageSeed", "[I", true)
  | 5 => ("PartedVoicesModel", "bookOf", "[I", true)
  | 6 => ("PartedVoicesModel", "bookIs", "[I", true)
  | 7 => ("PartedVoicesModel", "written", "I", false)
  | 8 => ("PartedVoicesModel", "best", "[I", true)
  | 9 => ("PartedVoicesModel", "firstRow", "[I", true)
  | _ => ("PartedVoicesModel", "latest", "I", false)
def tyX8 : Nat → FieldType := fun k => match k with
  | 0 => .array .int
  | 1 => .int
  | 2 => .int
  | 3 => .int
  | 4 => .array .int
  | 5 => .array .int
  | 6 => .array .int
  | 7 => .int
  | 8 => .array .int
  | 9 => .array .int
  | _ => .int
abbrev wsX80 : List Cond := u_ws RX8 TX8 11
theorem nmX8 : ∀ a, a < 11 → ∀ b, b < 11 → a ≠ b → (TX8 a).2.1 ≠ (TX8 b).2.1 := by decide +kernel
theorem tyX8_ok : ∀ k, k < 11 → parseFieldDescriptor (TX8 k).2.2.1 = some (tyX8 k) := by decide +kernel
abbrev cX8_init : ByteArray := prog_10_method_1_code
def yX8_init : MethodName := ⟨RX8, "<init>", "()V"⟩
abbrev cX8_in : ByteArray := prog_10_method_2_code
def yX8_in : MethodName := ⟨RX8, "in", "(JJJ)Z"⟩
abbrev cX8_copyRow : ByteArray := prog_10_method_3_code
def yX8_copyRow : MethodName := ⟨RX8, "copyRow", "(II)V"⟩
abbrev cX8_remember : ByteArray := prog_10_method_4_code
def yX8_remember : MethodName := ⟨RX8, "remember", "()V"⟩
abbrev cX8_part0 : ByteArray := prog_10_method_5_code
def yX8_part0 : MethodName := ⟨RX8, "part0", "()V"⟩
abbrev cX8_off : ByteArray := prog_10_method_6_code
def yX8_off : MethodName := ⟨RX8, "off", "(I)I"⟩
abbrev cX8_may : ByteArray := prog_10_method_7_code
def yX8_may : MethodName := ⟨RX8, "may", "(II)Z"⟩
abbrev cX8_costOf : ByteArray := prog_10_method_8_code
def yX8_costOf : MethodName := ⟨RX8, "costOf", "(II)I"⟩
abbrev cX8_ones : ByteArray := prog_10_method_9_code
def yX8_ones : MethodName := ⟨RX8, "ones", "(I)I"⟩
abbrev cX8_bestAt : ByteArray := prog_10_method_10_code
def yX8_bestAt : MethodName := ⟨RX8, "bestAt", "(II)I"⟩
abbrev cX8_through : ByteArray := prog_10_method_11_code
def yX8_through : MethodName := ⟨RX8, "through", "(III)I"⟩
abbrev cX8_lay : ByteArray := prog_10_method_12_code
def yX8_lay : MethodName := ⟨RX8, "lay", "(II)V"⟩
abbrev cX8_leastOf : ByteArray := prog_10_method_13_code
def yX8_leastOf : MethodName := ⟨RX8, "leastOf", "(II)I"⟩
abbrev cX8_cheapest : ByteArray := prog_10_method_14_code
def yX8_cheapest : MethodName := ⟨RX8, "cheapest", "(I)I"⟩
abbrev cX8_leastOfAll : ByteArray := prog_10_method_15_code
def yX8_leastOfAll : MethodName := ⟨RX8, "leastOfAll", "(I)I"⟩
abbrev cX8_fewest : ByteArray := prog_10_method_16_code
def yX8_fewest : MethodName := ⟨RX8, "fewest", "()I"⟩
abbrev cX8_layFirst : ByteArray := prog_10_method_17_code
def yX8_layFirst : MethodName := ⟨RX8, "layFirst", "(I)Z"⟩
abbrev cX8_prior : ByteArray := prog_10_method_18_code
def yX8_prior : MethodName := ⟨RX8, "prior", "(I)I"⟩
abbrev cX8_firstOf : ByteArray := prog_10_method_19_code
def yX8_firstOf : MethodName := ⟨RX8, "firstOf", "(I)I"⟩
abbrev cX8_voices : ByteArray := prog_10_method_20_code
def yX8_voices : MethodName := ⟨RX8, "voices", "()I"⟩
abbrev cX8_costNow : ByteArray := prog_10_method_21_code
def yX8_costNow : MethodName := ⟨RX8, "costNow", "()I"⟩
abbrev cX8_voiceOf : ByteArray := prog_10_method_22_code
def yX8_voiceOf : MethodName := ⟨RX8, "voiceOf", "(I)I"⟩
abbrev cX8_cross : ByteArray := prog_10_method_23_code
def yX8_cross : MethodName := ⟨RX8, "cross", "(II)Z"⟩
abbrev cX8_crossings : ByteArray := prog_10_method_24_code
def yX8_crossings : MethodName := ⟨RX8, "crossings", "()I"⟩
abbrev cX8_mendOne : ByteArray := prog_10_method_25_code
def yX8_mendOne : MethodName := ⟨RX8, "mendOne", "()Z"⟩
abbrev cX8_wrong : ByteArray := prog_10_method_26_code
def yX8_wrong : MethodName := ⟨RX8, "wrong", "()I"⟩
abbrev cX8_toldMore : ByteArray := prog_10_method_27_code
def yX8_toldMore : MethodName := ⟨RX8, "toldMore", "(I)I"⟩
abbrev cX8_told : ByteArray := prog_10_method_28_code
def yX8_told : MethodName := ⟨RX8, "told", "(I)I"⟩
abbrev cX8_isNote : ByteArray := prog_10_method_29_code
def yX8_isNote : MethodName := ⟨RX8, "isNote", "(I)Z"⟩
abbrev cX8_followers : ByteArray := prog_10_method_30_code
def yX8_followers : MethodName := ⟨RX8, "followers", "(I)I"⟩
abbrev cX8_at : ByteArray := prog_10_method_31_code
def yX8_at : MethodName := ⟨RX8, "at", "(II)I"⟩
abbrev cX8_cost : ByteArray := prog_10_method_32_code
def yX8_cost : MethodName := ⟨RX8, "cost", "(II)I"⟩
abbrev cX8_least : ByteArray := prog_10_method_33_code
def yX8_least : MethodName := ⟨RX8, "least", "(I)I"⟩
abbrev cX8_first : ByteArray := prog_10_method_34_code
def yX8_first : MethodName := ⟨RX8, "first", "(II)I"⟩
abbrev cX8_ofVoice : ByteArray := prog_10_method_35_code
def yX8_ofVoice : MethodName := ⟨RX8, "ofVoice", "(II)I"⟩
abbrev cX8_voice : ByteArray := prog_10_method_36_code
def yX8_voice : MethodName := ⟨RX8, "voice", "(II)I"⟩
abbrev cX8_member : ByteArray := prog_10_method_37_code
def yX8_member : MethodName := ⟨RX8, "member", "(II)I"⟩
abbrev cX8_isNoteOf : ByteArray := prog_10_method_38_code
def yX8_isNoteOf : MethodName := ⟨RX8, "isNoteOf", "(III)Z"⟩
abbrev cX8_stays : ByteArray := prog_10_method_39_code
def yX8_stays : MethodName := ⟨RX8, "stays", "(IIII)Z"⟩
abbrev cX8_add : ByteArray := prog_10_method_40_code
def yX8_add : MethodName := ⟨RX8, "add", "(III)I"⟩
abbrev cX8_remove : ByteArray := prog_10_method_41_code
def yX8_remove : MethodName := ⟨RX8, "remove", "(I)V"⟩
abbrev cX8_note : ByteArray := prog_10_method_42_code
def yX8_note : MethodName := ⟨RX8, "note", "(III)I"⟩
abbrev cX8_take : ByteArray := prog_10_method_43_code
def yX8_take : MethodName := ⟨RX8, "take", "(I)I"⟩
abbrev cX8_move : ByteArray := prog_10_method_44_code
def yX8_move : MethodName := ⟨RX8, "move", "(IIII)I"⟩
abbrev cX8_share : ByteArray := prog_10_method_45_code
def yX8_share : MethodName := ⟨RX8, "share", "(I)I"⟩
abbrev cX8_term : ByteArray := prog_10_method_46_code
def yX8_term : MethodName := ⟨RX8, "term", "(II)I"⟩
abbrev cX8_follow : ByteArray := prog_10_method_47_code
def yX8_follow : MethodName := ⟨RX8, "follow", "(II)I"⟩
abbrev cX8_cut : ByteArray := prog_10_method_48_code
def yX8_cut : MethodName := ⟨RX8, "cut", "(I)I"⟩
abbrev cX8_part : ByteArray := prog_10_method_49_code
def yX8_part : MethodName := ⟨RX8, "part", "(I)I"⟩
abbrev cX8_mend : ByteArray := prog_10_method_50_code
def yX8_mend : MethodName := ⟨RX8, "mend", "()I"⟩
abbrev cX8_clear : ByteArray := prog_10_method_51_code
def yX8_clear : MethodName := ⟨RX8, "clear", "()I"⟩
abbrev cX8_draw : ByteArray := prog_10_method_52_code
def yX8_draw : MethodName := ⟨RX8, "draw", "(I)I"⟩
abbrev cX8_drift : ByteArray := prog_10_method_53_code
def yX8_drift : MethodName := ⟨RX8, "drift", "(I)I"⟩
abbrev cX8_undo : ByteArray := prog_10_method_54_code
def yX8_undo : MethodName := ⟨RX8, "undo", "(I)I"⟩
abbrev cX8_write : ByteArray := prog_10_method_55_code
def yX8_write : MethodName := ⟨RX8, "write", "(II)I"⟩
abbrev cX8_tear : ByteArray := prog_10_method_56_code
def yX8_tear : MethodName := ⟨RX8, "tear", "()I"⟩
abbrev cX8_seed : ByteArray := prog_10_method_57_code
def yX8_seed : MethodName := ⟨RX8, "seed", "(I)I"⟩
abbrev cX8_keep : ByteArray := prog_10_method_58_code
def yX8_keep : MethodName := ⟨RX8, "keep", "(I)I"⟩
abbrev cX8_goBack : ByteArray := prog_10_method_59_code
def yX8_goBack : MethodName := ⟨RX8, "goBack", "(I)I"⟩
def RJ6 : String := "java/lang/Integer"
def TJ6 : u_T := fun k => match k with
  | _ => ("", "", "", false)
def tyJ6 : Nat → FieldType := fun k => match k with
  | _ => .int
abbrev wsJ60 : List Cond := u_ws RJ6 TJ6 0
theorem nmJ6 : ∀ a, a < 0 → ∀ b, b < 0 → a ≠ b → (TJ6 a).2.1 ≠ (TJ6 b).2.1 := by decide +kernel
theorem tyJ6_ok : ∀ k, k < 0 → parseFieldDescriptor (TJ6 k).2.2.1 = some (tyJ6 k) := by decide +kernel
abbrev cJ6_bitCount_0f7a4 : ByteArray := prog_11_method_49_code
def yJ6_bitCount_0f7a4 : MethodName := ⟨RJ6, "bitCount", "(I)I"⟩
def RJ9 : String := "java/lang/Math"
def TJ9 : u_T := fun k => match k with
  | _ => ("", "", "", false)
def tyJ9 : Nat → FieldType := fun k => match k with
  | _ => .int
abbrev wsJ90 : List Cond := u_ws RJ9 TJ9 0
theorem nmJ9 : ∀ a, a < 0 → ∀ b, b < 0 → a ≠ b → (TJ9 a).2.1 ≠ (TJ9 b).2.1 := by decide +kernel
theorem tyJ9_ok : ∀ k, k < 0 → parseFieldDescriptor (TJ9 k).2.2.1 = some (tyJ9 k) := by decide +kernel
abbrev cJ9_abs_0f7a4 : ByteArray := prog_12_method_59_code
def yJ9_abs_0f7a4 : MethodName := ⟨RJ9, "abs", "(I)I"⟩
abbrev cJ9_max_7cf53 : ByteArray := prog_12_method_65_code
def yJ9_max_7cf53 : MethodName := ⟨RJ9, "max", "(II)I"⟩
abbrev cJ9_min_7cf53 : ByteArray := prog_12_method_69_code
def yJ9_min_7cf53 : MethodName := ⟨RJ9, "min", "(II)I"⟩
def RJ10 : String := "java/lang/System"
def TJ10 : u_T := fun k => match k with
  | _ => ("", "", "", false)
def tyJ10 : Nat → FieldType := fun k => match k with
  | _ => .int
abbrev wsJ100 : List Cond := u_ws RJ10 TJ10 0
theorem nmJ10 : ∀ a, a < 0 → ∀ b, b < 0 → a ≠ b → (TJ10 a).2.1 ≠ (TJ10 b).2.1 := by decide +kernel
theorem tyJ10_ok : ∀ k, k < 0 → parseFieldDescriptor (TJ10 k).2.2.1 = some (tyJ10 k) := by decide +kernel
def RJ7 : String := "java/util/Arrays"
def TJ7 : u_T := fun k => match k with
  | _ => ("", "", "", false)
def tyJ7 : Nat → FieldType := fun k => match k with
  | _ => .int
abbrev wsJ70 : List Cond := u_ws RJ7 TJ7 0
theorem nmJ7 : ∀ a, a < 0 → ∀ b, b < 0 → a ≠ b → (TJ7 a).2.1 ≠ (TJ7 b).2.1 := by decide +kernel
theorem tyJ7_ok : ∀ k, k < 0 → parseFieldDescriptor (TJ7 k).2.2.1 = some (tyJ7 k) := by decide +kernel
abbrev cJ7_fill_53178 : ByteArray := prog_14_method_103_code
def yJ7_fill_53178 : MethodName := ⟨RJ7, "fill", "([II)V"⟩
def RL : String := "PartedVoicesLaw"
abbrev cL_law : ByteArray := code
def yL_law : MethodName := ⟨RL, "law", "([I)Z"⟩
abbrev vwCl : List vw_C := [(RX0, TX0, 3), (RX1, TX1, 1), (RX2, TX2, 3), (RX3, TX3, 3), (RX4, TX4, 4), (RX5, TX5, 9), (RX6, TX6, 2), (RX7, TX7, 7), (RX8, TX8, 11)]
end
section
theorem dX0_init_0 : decode cX0_init 0 = .ok (.aload_n 0, 1) := by decide +kernel
theorem dX0_init_1 : decode cX0_init 1 = .ok (.invokespecial 3, 3) := by decide +kernel
theorem dX0_init_4 : decode cX0_init 4 = .ok (.aload_n 0, 1) := by decide +kernel
theorem dX0_init_5 : decode cX0_init 5 = .ok (.bipush 20, 2) := by decide +kernel
theorem dX0_init_7 : decode cX0_init 7 = .ok (.newarray .int, 2) := by decide +kernel
theorem dX0_init_9 : decode cX0_init 9 = .ok (.putfield 11, 3) := by decide +kernel
theorem dX0_init_12 : decode cX0_init 12 = .ok (.aload_n 0, 1) := by decide +kernel
theorem dX0_init_13 : decode cX0_init 13 = .ok (.bipush 20, 2) := by decide +kernel
theorem dX0_init_15 : decode cX0_init 15 = .ok (.newarray .int, 2) := by decide +kernel
theorem dX0_init_17 : decode cX0_init 17 = .ok (.putfield 15, 3) := by decide +kernel
theorem dX0_init_20 : decode cX0_init 20 = .ok (.return_, 1) := by decide +kernel
theorem dX0_size_0 : decode cX0_size 0 = .ok (.aload_n 0, 1) := by decide +kernel
theorem dX0_size_1 : decode cX0_size 1 = .ok (.getfield 18, 3) := by decide +kernel
theorem dX0_size_4 : decode cX0_size 4 = .ok (.ireturn, 1) := by decide +kernel
theorem dX0_isFull_0 : decode cX0_isFull 0 = .ok (.aload_n 0, 1) := by decide +kernel
theorem dX0_isFull_1 : decode cX0_isFull 1 = .ok (.getfield 18, 3) := by decide +kernel
theorem dX0_isFull_4 : decode cX0_isFull 4 = .ok (.bipush 20, 2) := by decide +kernel
theorem dX0_isFull_6 : decode cX0_isFull 6 = .ok (.if_icmp .lt 7, 3) := by decide +kernel
theorem dX0_isFull_9 : decode cX0_isFull 9 = .ok (.iconst 1, 1) := by decide +kernel
theorem dX0_isFull_10 : decode cX0_isFull 10 = .ok (.goto 4, 3) := by decide +kernel
theorem dX0_isFull_13 : decode cX0_isFull 13 = .ok (.iconst 0, 1) := by decide +kernel
theorem dX0_isFull_14 : decode cX0_isFull 14 = .ok (.ireturn, 1) := by decide +kernel
theorem dX0_add_0 : decode cX0_add 0 = .ok (.aload_n 0, 1) := by decide +kernel
theorem dX0_add_1 : decode cX0_add 1 = .ok (.invokevirtual 22, 3) := by decide +kernel
theorem dX0_add_4 : decode cX0_add 4 = .ok (.ifCond .eq 4, 3) := by decide +kernel
theorem dX0_add_7 : decode cX0_add 7 = .ok (.return_, 1) := by decide +kernel
theorem dX0_add_8 : decode cX0_add 8 = .ok (.aload_n 0, 1) := by decide +kernel
theorem dX0_add_9 : decode cX0_add 9 = .ok (.getfield 11, 3) := by decide +kernel
theorem dX0_add_12 : decode cX0_add 12 = .ok (.aload_n 0, 1) := by decide +kernel
theorem dX0_add_13 : decode cX0_add 13 = .ok (.getfield 18, 3) := by decide +kernel
theorem dX0_add_16 : decode cX0_add 16 = .ok (.iload_n 1, 1) := by decide +kernel
theorem dX0_add_17 : decode cX0_add 17 = .ok (.iastore, 1) := by decide +kernel
theorem dX0_add_18 : decode cX0_add 18 = .ok (.aload_n 0, 1) := by decide +kernel
theorem dX0_add_19 : decode cX0_add 19 = .ok (.getfield 15, 3) := by decide +kernel
theorem dX0_add_22 : decode cX0_add 22 = .ok (.aload_n 0, 1) := by decide +kernel
theorem dX0_add_23 : decode cX0_add 23 = .ok (.getfield 18, 3) := by decide +kernel
theorem dX0_add_26 : decode cX0_add 26 = .ok (.iload_n 2, 1) := by decide +kernel
theorem dX0_add_27 : decode cX0_add 27 = .ok (.iastore, 1) := by decide +kernel
theorem dX0_add_28 : decode cX0_add 28 = .ok (.aload_n 0, 1) := by decide +kernel
theorem dX0_add_29 : decode cX0_add 29 = .ok (.dup, 1) := by decide +kernel
theorem dX0_add_30 : decode cX0_add 30 = .ok (.getfield 18, 3) := by decide +kernel
theorem dX0_add_33 : decode cX0_add 33 = .ok (.iconst 1, 1) := by decide +kernel
theorem dX0_add_34 : decode cX0_add 34 = .ok (.iadd, 1) := by decide +kernel
theorem dX0_add_35 : decode cX0_add 35 = .ok (.putfield 18, 3) := by decide +kernel
theorem dX0_add_38 : decode cX0_add 38 = .ok (.return_, 1) := by decide +kernel
theorem dX0_empty_0 : decode cX0_empty 0 = .ok (.aload_n 0, 1) := by decide +kernel
theorem dX0_empty_1 : decode cX0_empty 1 = .ok (.iconst 0, 1) := by decide +kernel
theorem dX0_empty_2 : decode cX0_empty 2 = .ok (.putfield 18, 3) := by decide +kernel
theorem dX0_empty_5 : decode cX0_empty 5 = .ok (.return_, 1) := by decide +kernel
theorem dX0_wrong_0 : decode cX0_wrong 0 = .ok (.iconst 0, 1) := by decide +kernel
theorem dX0_wrong_1 : decode cX0_wrong 1 = .ok (.istore_n 2, 1) := by decide +kernel
theorem dX0_wrong_2 : decode cX0_wrong 2 = .ok (.iload_n 2, 1) := by decide +kernel
theorem dX0_wrong_3 : decode cX0_wrong 3 = .ok (.aload_n 0, 1) := by decide +kernel
theorem dX0_wrong_4 : decode cX0_wrong 4 = .ok (.getfield 18, 3) := by decide +kernel
theorem dX0_wrong_7 : decode cX0_wrong 7 = .ok (.if_icmp .ge 36, 3) := by decide +kernel
theorem dX0_wrong_10 : decode cX0_wrong 10 = .ok (.iload_n 2, 1) := by decide +kernel
theorem dX0_wrong_11 : decode cX0_wrong 11 = .ok (.bipush 20, 2) := by decide +kernel
theorem dX0_wrong_13 : decode cX0_wrong 13 = .ok (.if_icmp .ge 30, 3) := by decide +kernel
theorem dX0_wrong_16 : decode cX0_wrong 16 = .ok (.aload_n 1, 1) := by decide +kernel
theorem dX0_wrong_17 : decode cX0_wrong 17 = .ok (.aload_n 0, 1) := by decide +kernel
theorem dX0_wrong_18 : decode cX0_wrong 18 = .ok (.getfield 11, 3) := by decide +kernel
theorem dX0_wrong_21 : decode cX0_wrong 21 = .ok (.iload_n 2, 1) := by decide +kernel
theorem dX0_wrong_22 : decode cX0_wrong 22 = .ok (.iaload, 1) := by decide +kernel
theorem dX0_wrong_23 : decode cX0_wrong 23 = .ok (.invokevirtual 26, 3) := by decide +kernel
theorem dX0_wrong_26 : decode cX0_wrong 26 = .ok (.aload_n 0, 1) := by decide +kernel
theorem dX0_wrong_27 : decode cX0_wrong 27 = .ok (.getfield 15, 3) := by decide +kernel
theorem dX0_wrong_30 : decode cX0_wrong 30 = .ok (.iload_n 2, 1) := by decide +kernel
theorem dX0_wrong_31 : decode cX0_wrong 31 = .ok (.iaload, 1) := by decide +kernel
theorem dX0_wrong_32 : decode cX0_wrong 32 = .ok (.if_icmp .eq 5, 3) := by decide +kernel
theorem dX0_wrong_35 : decode cX0_wrong 35 = .ok (.iload_n 2, 1) := by decide +kernel
theorem dX0_wrong_36 : decode cX0_wrong 36 = .ok (.ireturn, 1) := by decide +kernel
theorem dX0_wrong_37 : decode cX0_wrong 37 = .ok (.iinc 2 1, 3) := by decide +kernel
theorem dX0_wrong_40 : decode cX0_wrong 40 = .ok (.goto (-38), 3) := by decide +kernel
theorem dX0_wrong_43 : decode cX0_wrong 43 = .ok (.iconst (-1), 1) := by decide +kernel
theorem dX0_wrong_44 : decode cX0_wrong 44 = .ok (.ireturn, 1) := by decide +kernel
theorem dX1_init_0 : decode cX1_init 0 = .ok (.aload_n 0, 1) := by decide +kernel
theorem dX1_init_1 : decode cX1_init 1 = .ok (.invokespecial 1, 3) := by decide +kernel
theorem dX1_init_4 : decode cX1_init 4 = .ok (.return_, 1) := by decide +kernel
theorem dX1_state_0 : decode cX1_state 0 = .ok (.aload_n 0, 1) := by decide +kernel
theorem dX1_state_1 : decode cX1_state 1 = .ok (.getfield 7, 3) := by decide +kernel
theorem dX1_state_4 : decode cX1_state 4 = .ok (.ireturn, 1) := by decide +kernel
theorem dX1_become_0 : decode cX1_become 0 = .ok (.aload_n 0, 1) := by decide +kernel
theorem dX1_become_1 : decode cX1_become 1 = .ok (.iload_n 1, 1) := by decide +kernel
theorem dX1_become_2 : decode cX1_become 2 = .ok (.putfield 7, 3) := by decide +kernel
theorem dX1_become_5 : decode cX1_become 5 = .ok (.return_, 1) := by decide +kernel
theorem dX1_draw_0 : decode cX1_draw 0 = .ok (.aload_n 0, 1) := by decide +kernel
theorem dX1_draw_1 : decode cX1_draw 1 = .ok (.aload_n 0, 1) := by decide +kernel
theorem dX1_draw_2 : decode cX1_draw 2 = .ok (.getfield 7, 3) := by decide +kernel
theorem dX1_draw_5 : decode cX1_draw 5 = .ok (.ldc 13, 2) := by decide +kernel
theorem dX1_draw_7 : decode cX1_draw 7 = .ok (.imul, 1) := by decide +kernel
theorem dX1_draw_8 : decode cX1_draw 8 = .ok (.sipush 12345, 3) := by decide +kernel
theorem dX1_draw_11 : decode cX1_draw 11 = .ok (.iadd, 1) := by decide +kernel
theorem dX1_draw_12 : decode cX1_draw 12 = .ok (.ldc 14, 2) := by decide +kernel
theorem dX1_draw_14 : decode cX1_draw 14 = .ok (.iand, 1) := by decide +kernel
theorem dX1_draw_15 : decode cX1_draw 15 = .ok (.putfield 7, 3) := by decide +kernel
theorem dX1_draw_18 : decode cX1_draw 18 = .ok (.iload_n 1, 1) := by decide +kernel
theorem dX1_draw_19 : decode cX1_draw 19 = .ok (.iconst 1, 1) := by decide +kernel
theorem dX1_draw_20 : decode cX1_draw 20 = .ok (.if_icmp .ge 7, 3) := by decide +kernel
theorem dX1_draw_23 : decode cX1_draw 23 = .ok (.iconst 0, 1) := by decide +kernel
theorem dX1_draw_24 : decode cX1_draw 24 = .ok (.goto 12, 3) := by decide +kernel
theorem dX1_draw_27 : decode cX1_draw 27 = .ok (.aload_n 0, 1) := by decide +kernel
theorem dX1_draw_28 : decode cX1_draw 28 = .ok (.getfield 7, 3) := by decide +kernel
theorem dX1_draw_31 : decode cX1_draw 31 = .ok (.ldc 15, 2) := by decide +kernel
theorem dX1_draw_33 : decode cX1_draw 33 = .ok (.idiv, 1) := by decide +kernel
theorem dX1_draw_34 : decode cX1_draw 34 = .ok (.iload_n 1, 1) := by decide +kernel
theorem dX1_draw_35 : decode cX1_draw 35 = .ok (.irem, 1) := by decide +kernel
theorem dX1_draw_36 : decode cX1_draw 36 = .ok (.ireturn, 1) := by decide +kernel
theorem dX2_init_0 : decode cX2_init 0 = .ok (.aload_n 0, 1) := by decide +kernel
theorem dX2_init_1 : decode cX2_init 1 = .ok (.invokespecial 1, 3) := by decide +kernel
theorem dX2_init_4 : decode cX2_init 4 = .ok (.aload_n 0, 1) := by decide +kernel
theorem dX2_init_5 : decode cX2_init 5 = .ok (.sipush 736, 3) := by decide +kernel
theorem dX2_init_8 : decode cX2_init 8 = .ok (.newarray .int, 2) := by decide +kernel
theorem dX2_init_10 : decode cX2_init 10 = .ok (.putfield 11, 3) := by decide +kernel
theorem dX2_init_13 : decode cX2_init 13 = .ok (.return_, 1) := by decide +kernel
theorem dX2_held_0 : decode cX2_held 0 = .ok (.aload_n 0, 1) := by decide +kernel
theorem dX2_held_1 : decode cX2_held 1 = .ok (.getfield 15, 3) := by decide +kernel
theorem dX2_held_4 : decode cX2_held 4 = .ok (.ireturn, 1) := by decide +kernel
theorem dX2_record_0 : decode cX2_record 0 = .ok (.aload_n 1, 1) := by decide +kernel
theorem dX2_record_1 : decode cX2_record 1 = .ok (.aload_n 0, 1) := by decide +kernel
theorem dX2_record_2 : decode cX2_record 2 = .ok (.getfield 11, 3) := by decide +kernel
theorem dX2_record_5 : decode cX2_record 5 = .ok (.aload_n 0, 1) := by decide +kernel
theorem dX2_record_6 : decode cX2_record 6 = .ok (.getfield 19, 3) := by decide +kernel
theorem dX2_record_9 : decode cX2_record 9 = .ok (.invokevirtual 22, 3) := by decide +kernel
theorem dX2_record_12 : decode cX2_record 12 = .ok (.aload_n 0, 1) := by decide +kernel
theorem dX2_record_13 : decode cX2_record 13 = .ok (.aload_n 0, 1) := by decide +kernel
theorem dX2_record_14 : decode cX2_record 14 = .ok (.getfield 19, 3) := by decide +kernel
theorem dX2_record_17 : decode cX2_record 17 = .ok (.iconst 1, 1) := by decide +kernel
theorem dX2_record_18 : decode cX2_record 18 = .ok (.iadd, 1) := by decide +kernel
theorem dX2_record_19 : decode cX2_record 19 = .ok (.bipush 16, 2) := by decide +kernel
theorem dX2_record_21 : decode cX2_record 21 = .ok (.irem, 1) := by decide +kernel
theorem dX2_record_22 : decode cX2_record 22 = .ok (.putfield 19, 3) := by decide +kernel
theorem dX2_record_25 : decode cX2_record 25 = .ok (.aload_n 0, 1) := by decide +kernel
theorem dX2_record_26 : decode cX2_record 26 = .ok (.aload_n 0, 1) := by decide +kernel
theorem dX2_record_27 : decode cX2_record 27 = .ok (.getfield 15, 3) := by decide +kernel
theorem dX2_record_30 : decode cX2_record 30 = .ok (.iconst 1, 1) := by decide +kernel
theorem dX2_record_31 : decode cX2_record 31 = .ok (.iadd, 1) := by decide +kernel
theorem dX2_record_32 : decode cX2_record 32 = .ok (.bipush 16, 2) := by decide +kernel
theorem dX2_record_34 : decode cX2_record 34 = .ok (.invokestatic 26, 3) := by decide +kernel
theorem dX2_record_37 : decode cX2_record 37 = .ok (.putfield 15, 3) := by decide +kernel
theorem dX2_record_40 : decode cX2_record 40 = .ok (.return_, 1) := by decide +kernel
theorem dX2_giveBack_0 : decode cX2_giveBack 0 = .ok (.iload_n 1, 1) := by decide +kernel
theorem dX2_giveBack_1 : decode cX2_giveBack 1 = .ok (.iconst 1, 1) := by decide +kernel
theorem dX2_giveBack_2 : decode cX2_giveBack 2 = .ok (.if_icmp .lt 11, 3) := by decide +kernel
theorem dX2_giveBack_5 : decode cX2_giveBack 5 = .ok (.iload_n 1, 1) := by decide +kernel
theorem dX2_giveBack_6 : decode cX2_giveBack 6 = .ok (.aload_n 0, 1) := by decide +kernel
theorem dX2_giveBack_7 : decode cX2_giveBack 7 = .ok (.getfield 15, 3) := by decide +kernel
theorem dX2_giveBack_10 : decode cX2_giveBack 10 = .ok (.if_icmp .le 4, 3) := by decide +kernel
theorem dX2_giveBack_13 : decode cX2_giveBack 13 = .ok (.return_, 1) := by decide +kernel
theorem dX2_giveBack_14 : decode cX2_giveBack 14 = .ok (.aload_n 0, 1) := by decide +kernel
theorem dX2_giveBack_15 : decode cX2_giveBack 15 = .ok (.aload_n 0, 1) := by decide +kernel
theorem dX2_giveBack_16 : decode cX2_giveBack 16 = .ok (.getfield 19, 3) := by decide +kernel
theorem dX2_giveBack_19 : decode cX2_giveBack 19 = .ok (.bipush 16, 2) := by decide +kernel
theorem dX2_giveBack_21 : decode cX2_giveBack 21 = .ok (.iadd, 1) := by decide +kernel
theorem dX2_giveBack_22 : decode cX2_giveBack 22 = .ok (.iload_n 1, 1) := by decide +kernel
theorem dX2_giveBack_23 : decode cX2_giveBack 23 = .ok (.isub, 1) := by decide +kernel
theorem dX2_giveBack_24 : decode cX2_giveBack 24 = .ok (.bipush 16, 2) := by decide +kernel
theorem dX2_giveBack_26 : decode cX2_giveBack 26 = .ok (.irem, 1) := by decide +kernel
theorem dX2_giveBack_27 : decode cX2_giveBack 27 = .ok (.putfield 19, 3) := by decide +kernel
theorem dX2_giveBack_30 : decode cX2_giveBack 30 = .ok (.aload_n 0, 1) := by decide +kernel
theorem dX2_giveBack_31 : decode cX2_giveBack 31 = .ok (.dup, 1) := by decide +kernel
theorem dX2_giveBack_32 : decode cX2_giveBack 32 = .ok (.getfield 15, 3) := by decide +kernel
theorem dX2_giveBack_35 : decode cX2_giveBack 35 = .ok (.iload_n 1, 1) := by decide +kernel
theorem dX2_giveBack_36 : decode cX2_giveBack 36 = .ok (.isub, 1) := by decide +kernel
theorem dX2_giveBack_37 : decode cX2_giveBack 37 = .ok (.putfield 15, 3) := by decide +kernel
theorem dX2_giveBack_40 : decode cX2_giveBack 40 = .ok (.aload_n 2, 1) := by decide +kernel
theorem dX2_giveBack_41 : decode cX2_giveBack 41 = .ok (.aload_n 0, 1) := by decide +kernel
theorem dX2_giveBack_42 : decode cX2_giveBack 42 = .ok (.getfield 11, 3) := by decide +kernel
theorem dX2_giveBack_45 : decode cX2_giveBack 45 = .ok (.aload_n 0, 1) := by decide +kernel
theorem dX2_giveBack_46 : decode cX2_giveBack 46 = .ok (.getfield 19, 3) := by decide +kernel
theorem dX2_giveBack_49 : decode cX2_giveBack 49 = .ok (.invokevirtual 32, 3) := by decide +kernel
theorem dX2_giveBack_52 : decode cX2_giveBack 52 = .ok (.return_, 1) := by decide +kernel
theorem dX2_forget_0 : decode cX2_forget 0 = .ok (.aload_n 0, 1) := by decide +kernel
theorem dX2_forget_1 : decode cX2_forget 1 = .ok (.iconst 0, 1) := by decide +kernel
theorem dX2_forget_2 : decode cX2_forget 2 = .ok (.putfield 15, 3) := by decide +kernel
theorem dX2_forget_5 : decode cX2_forget 5 = .ok (.return_, 1) := by decide +kernel
theorem dX3_init_0 : decode cX3_init 0 = .ok (.aload_n 0, 1) := by decide +kernel
theorem dX3_init_1 : decode cX3_init 1 = .ok (.invokespecial 1, 3) := by decide +kernel
theorem dX3_init_4 : decode cX3_init 4 = .ok (.aload_n 0, 1) := by decide +kernel
theorem dX3_init_5 : decode cX3_init 5 = .ok (.bipush 92, 2) := by decide +kernel
theorem dX3_init_7 : decode cX3_init 7 = .ok (.newarray .int, 2) := by decide +kernel
theorem dX3_init_9 : decode cX3_init 9 = .ok (.putfield 11, 3) := by decide +kernel
theorem dX3_init_12 : decode cX3_init 12 = .ok (.aload_n 0, 1) := by decide +kernel
theorem dX3_init_13 : decode cX3_init 13 = .ok (.iconst 2, 1) := by decide +kernel
theorem dX3_init_14 : decode cX3_init 14 = .ok (.newarray .int, 2) := by decide +kernel
theorem dX3_init_16 : decode cX3_init 16 = .ok (.putfield 15, 3) := by decide +kernel
theorem dX3_init_19 : decode cX3_init 19 = .ok (.aload_n 0, 1) := by decide +kernel
theorem dX3_init_20 : decode cX3_init 20 = .ok (.iconst 2, 1) := by decide +kernel
theorem dX3_init_21 : decode cX3_init 21 = .ok (.newarray .boolean, 2) := by decide +kernel
theorem dX3_init_23 : decode cX3_init 23 = .ok (.putfield 18, 3) := by decide +kernel
theorem dX3_init_26 : decode cX3_init 26 = .ok (.return_, 1) := by decide +kernel
theorem dX3_isImage_0 : decode cX3_isImage 0 = .ok (.iload_n 0, 1) := by decide +kernel
theorem dX3_isImage_1 : decode cX3_isImage 1 = .ok (.ifCond .lt 12, 3) := by decide +kernel
theorem dX3_isImage_4 : decode cX3_isImage 4 = .ok (.iload_n 0, 1) := by decide +kernel
theorem dX3_isImage_5 : decode cX3_isImage 5 = .ok (.iconst 2, 1) := by decide +kernel
theorem dX3_isImage_6 : decode cX3_isImage 6 = .ok (.if_icmp .ge 7, 3) := by decide +kernel
theorem dX3_isImage_9 : decode cX3_isImage 9 = .ok (.iconst 1, 1) := by decide +kernel
theorem dX3_isImage_10 : decode cX3_isImage 10 = .ok (.goto 4, 3) := by decide +kernel
theorem dX3_isImage_13 : decode cX3_isImage 13 = .ok (.iconst 0, 1) := by decide +kernel
theorem dX3_isImage_14 : decode cX3_isImage 14 = .ok (.ireturn, 1) := by decide +kernel
theorem dX3_isKept_0 : decode cX3_isKept 0 = .ok (.iload_n 1, 1) := by decide +kernel
theorem dX3_isKept_1 : decode cX3_isKept 1 = .ok (.invokestatic 22, 3) := by decide +kernel
theorem dX3_isKept_4 : decode cX3_isKept 4 = .ok (.ifCond .eq 16, 3) := by decide +kernel
theorem dX3_isKept_7 : decode cX3_isKept 7 = .ok (.aload_n 0, 1) := by decide +kernel
theorem dX3_isKept_8 : decode cX3_isKept 8 = .ok (.getfield 18, 3) := by decide +kernel
theorem dX3_isKept_11 : decode cX3_isKept 11 = .ok (.iload_n 1, 1) := by decide +kernel
theorem dX3_isKept_12 : decode cX3_isKept 12 = .ok (.baload, 1) := by decide +kernel
theorem dX3_isKept_13 : decode cX3_isKept 13 = .ok (.ifCond .eq 7, 3) := by decide +kernel
theorem dX3_isKept_16 : decode cX3_isKept 16 = .ok (.iconst 1, 1) := by decide +kernel
theorem dX3_isKept_17 : decode cX3_isKept 17 = .ok (.goto 4, 3) := by decide +kernel
theorem dX3_isKept_20 : decode cX3_isKept 20 = .ok (.iconst 0, 1) := by decide +kernel
theorem dX3_isKept_21 : decode cX3_isKept 21 = .ok (.ireturn, 1) := by decide +kernel
theorem dX3_store_0 : decode cX3_store 0 = .ok (.iload_n 1, 1) := by decide +kernel
theorem dX3_store_1 : decode cX3_store 1 = .ok (.invokestatic 22, 3) := by decide +kernel
theorem dX3_store_4 : decode cX3_store 4 = .ok (.ifCond .ne 4, 3) := by decide +kernel
theorem dX3_store_7 : decode cX3_store 7 = .ok (.return_, 1) := by decide +kernel
theorem dX3_store_8 : decode cX3_store 8 = .ok (.aload_n 2, 1) := by decide +kernel
theorem dX3_store_9 : decode cX3_store 9 = .ok (.aload_n 0, 1) := by decide +kernel
theorem dX3_store_10 : decode cX3_store 10 = .ok (.getfield 11, 3) := by decide +kernel
theorem dX3_store_13 : decode cX3_store 13 = .ok (.iload_n 1, 1) := by decide +kernel
theorem dX3_store_14 : decode cX3_store 14 = .ok (.invokevirtual 26, 3) := by decide +kernel
theorem dX3_store_17 : decode cX3_store 17 = .ok (.aload_n 0, 1) := by decide +kernel
theorem dX3_store_18 : decode cX3_store 18 = .ok (.getfield 15, 3) := by decide +kernel
theorem dX3_store_21 : decode cX3_store 21 = .ok (.iload_n 1, 1) := by decide +kernel
theorem dX3_store_22 : decode cX3_store 22 = .ok (.aload_n 3, 1) := by decide +kernel
theorem dX3_store_23 : decode cX3_store 23 = .ok (.invokevirtual 30, 3) := by decide +kernel
theorem dX3_store_26 : decode cX3_store 26 = .ok (.iastore, 1) := by decide +kernel
theorem dX3_store_27 : decode cX3_store 27 = .ok (.aload_n 0, 1) := by decide +kernel
theorem dX3_store_28 : decode cX3_store 28 = .ok (.getfield 18, 3) := by decide +kernel
theorem dX3_store_31 : decode cX3_store 31 = .ok (.iload_n 1, 1) := by decide +kernel
theorem dX3_store_32 : decode cX3_store 32 = .ok (.iconst 1, 1) := by decide +kernel
theorem dX3_store_33 : decode cX3_store 33 = .ok (.bastore, 1) := by decide +kernel
theorem dX3_store_34 : decode cX3_store 34 = .ok (.return_, 1) := by decide +kernel
theorem dX3_restore_0 : decode cX3_restore 0 = .ok (.aload_n 0, 1) := by decide +kernel
theorem dX3_restore_1 : decode cX3_restore 1 = .ok (.iload_n 1, 1) := by decide +kernel
theorem dX3_restore_2 : decode cX3_restore 2 = .ok (.invokevirtual 36, 3) := by decide +kernel
theorem dX3_restore_5 : decode cX3_restore 5 = .ok (.ifCond .ne 4, 3) := by decide +kernel
theorem dX3_restore_8 : decode cX3_restore 8 = .ok (.return_, 1) := by decide +kernel
theorem dX3_restore_9 : decode cX3_restore 9 = .ok (.aload_n 2, 1) := by decide +kernel
theorem dX3_restore_10 : decode cX3_restore 10 = .ok (.aload_n 0, 1) := by decide +kernel
theorem dX3_restore_11 : decode cX3_restore 11 = .ok (.getfield 11, 3) := by decide +kernel
theorem dX3_restore_14 : decode cX3_restore 14 = .ok (.iload_n 1, 1) := by decide +kernel
theorem dX3_restore_15 : decode cX3_restore 15 = .ok (.invokevirtual 39, 3) := by decide +kernel
theorem dX3_restore_18 : decode cX3_restore 18 = .ok (.aload_n 3, 1) := by decide +kernel
theorem dX3_restore_19 : decode cX3_restore 19 = .ok (.aload_n 0, 1) := by decide +kernel
theorem dX3_restore_20 : decode cX3_restore 20 = .ok (.getfield 15, 3) := by decide +kernel
theorem dX3_restore_23 : decode cX3_restore 23 = .ok (.iload_n 1, 1) := by decide +kernel
theorem dX3_restore_24 : decode cX3_restore 24 = .ok (.iaload, 1) := by decide +kernel
theorem dX3_restore_25 : decode cX3_restore 25 = .ok (.invokevirtual 42, 3) := by decide +kernel
theorem dX3_restore_28 : decode cX3_restore 28 = .ok (.return_, 1) := by decide +kernel
theorem dX4_init_0 : decode cX4_init 0 = .ok (.aload_n 0, 1) := by decide +kernel
theorem dX4_init_1 : decode cX4_init 1 = .ok (.invokespecial 3, 3) := by decide +kernel
theorem dX4_init_4 : decode cX4_init 4 = .ok (.aload_n 0, 1) := by decide +kernel
theorem dX4_init_5 : decode cX4_init 5 = .ok (.bipush 10, 2) := by decide +kernel
theorem dX4_init_7 : decode cX4_init 7 = .ok (.newarray .int, 2) := by decide +kernel
theorem dX4_init_9 : decode cX4_init 9 = .ok (.putfield 9, 3) := by decide +kernel
theorem dX4_init_12 : decode cX4_init 12 = .ok (.aload_n 0, 1) := by decide +kernel
theorem dX4_init_13 : decode cX4_init 13 = .ok (.bipush 10, 2) := by decide +kernel
theorem dX4_init_15 : decode cX4_init 15 = .ok (.newarray .int, 2) := by decide +kernel
theorem dX4_init_17 : decode cX4_init 17 = .ok (.putfield 15, 3) := by decide +kernel
theorem dX4_init_20 : decode cX4_init 20 = .ok (.aload_n 0, 1) := by decide +kernel
theorem dX4_init_21 : decode cX4_init 21 = .ok (.aload_n 1, 1) := by decide +kernel
theorem dX4_init_22 : decode cX4_init 22 = .ok (.putfield 18, 3) := by decide +kernel
theorem dX4_init_25 : decode cX4_init 25 = .ok (.return_, 1) := by decide +kernel
theorem dX4_read_0 : decode cX4_read 0 = .ok (.aload_n 0, 1) := by decide +kernel
theorem dX4_read_1 : decode cX4_read 1 = .ok (.getfield 9, 3) := by decide +kernel
theorem dX4_read_4 : decode cX4_read 4 = .ok (.iconst (-1), 1) := by decide +kernel
theorem dX4_read_5 : decode cX4_read 5 = .ok (.invokestatic 22, 3) := by decide +kernel
theorem dX4_read_8 : decode cX4_read 8 = .ok (.iconst 0, 1) := by decide +kernel
theorem dX4_read_9 : decode cX4_read 9 = .ok (.istore_n 1, 1) := by decide +kernel
theorem dX4_read_10 : decode cX4_read 10 = .ok (.iload_n 1, 1) := by decide +kernel
theorem dX4_read_11 : decode cX4_read 11 = .ok (.aload_n 0, 1) := by decide +kernel
theorem dX4_read_12 : decode cX4_read 12 = .ok (.getfield 18, 3) := by decide +kernel
theorem dX4_read_15 : decode cX4_read 15 = .ok (.invokevirtual 28, 3) := by decide +kernel
theorem dX4_read_18 : decode cX4_read 18 = .ok (.if_icmp .ge 36, 3) := by decide +kernel
theorem dX4_read_21 : decode cX4_read 21 = .ok (.aload_n 0, 1) := by decide +kernel
theorem dX4_read_22 : decode cX4_read 22 = .ok (.getfield 18, 3) := by decide +kernel
theorem dX4_read_25 : decode cX4_read 25 = .ok (.iload_n 1, 1) := by decide +kernel
theorem dX4_read_26 : decode cX4_read 26 = .ok (.invokevirtual 34, 3) := by decide +kernel
theorem dX4_read_29 : decode cX4_read 29 = .ok (.istore_n 2, 1) := by decide +kernel
theorem dX4_read_30 : decode cX4_read 30 = .ok (.aload_n 0, 1) := by decide +kernel
theorem dX4_read_31 : decode cX4_read 31 = .ok (.getfield 18, 3) := by decide +kernel
theorem dX4_read_34 : decode cX4_read 34 = .ok (.iload_n 2, 1) := by decide +kernel
theorem dX4_read_35 : decode cX4_read 35 = .ok (.invokevirtual 38, 3) := by decide +kernel
theorem dX4_read_38 : decode cX4_read 38 = .ok (.ifCond .eq 10, 3) := by decide +kernel
theorem dX4_read_41 : decode cX4_read 41 = .ok (.aload_n 0, 1) := by decide +kernel
theorem dX4_read_42 : decode cX4_read 42 = .ok (.getfield 9, 3) := by decide +kernel
theorem dX4_read_45 : decode cX4_read 45 = .ok (.iload_n 2, 1) := by decide +kernel
theorem dX4_read_46 : decode cX4_read 46 = .ok (.iload_n 1, 1) := by decide +kernel
theorem dX4_read_47 : decode cX4_read 47 = .ok (.iastore, 1) := by decide +kernel
theorem dX4_read_48 : decode cX4_read 48 = .ok (.iinc 1 1, 3) := by decide +kernel
theorem dX4_read_51 : decode cX4_read 51 = .ok (.goto (-41), 3) := by decide +kernel
theorem dX4_read_54 : decode cX4_read 54 = .ok (.aload_n 0, 1) := by decide +kernel
theorem dX4_read_55 : decode cX4_read 55 = .ok (.iconst 0, 1) := by decide +kernel
theorem dX4_read_56 : decode cX4_read 56 = .ok (.putfield 42, 3) := by decide +kernel
theorem dX4_read_59 : decode cX4_read 59 = .ok (.iconst 0, 1) := by decide +kernel
theorem dX4_read_60 : decode cX4_read 60 = .ok (.istore_n 1, 1) := by decide +kernel
theorem dX4_read_61 : decode cX4_read 61 = .ok (.iload_n 1, 1) := by decide +kernel
theorem dX4_read_62 : decode cX4_read 62 = .ok (.aload_n 0, 1) := by decide +kernel
theorem dX4_read_63 : decode cX4_read 63 = .ok (.getfield 18, 3) := by decide +kernel
theorem dX4_read_66 : decode cX4_read 66 = .ok (.invokevirtual 28, 3) := by decide +kernel
theorem dX4_read_69 : decode cX4_read 69 = .ok (.if_icmp .ge 66, 3) := by decide +kernel
theorem dX4_read_72 : decode cX4_read 72 = .ok (.iload_n 1, 1) := by decide +kernel
theorem dX4_read_73 : decode cX4_read 73 = .ok (.bipush 10, 2) := by decide +kernel
theorem dX4_read_75 : decode cX4_read 75 = .ok (.if_icmp .ge 60, 3) := by decide +kernel
theorem dX4_read_78 : decode cX4_read 78 = .ok (.aload_n 0, 1) := by decide +kernel
theorem dX4_read_79 : decode cX4_read 79 = .ok (.getfield 9, 3) := by decide +kernel
theorem dX4_read_82 : decode cX4_read 82 = .ok (.iload_n 1, 1) := by decide +kernel
theorem dX4_read_83 : decode cX4_read 83 = .ok (.iaload, 1) := by decide +kernel
theorem dX4_read_84 : decode cX4_read 84 = .ok (.istore_n 2, 1) := by decide +kernel
theorem dX4_read_85 : decode cX4_read 85 = .ok (.iload_n 2, 1) := by decide +kernel
theorem dX4_read_86 : decode cX4_read 86 = .ok (.ifCond .lt 23, 3) := by decide +kernel
theorem dX4_read_89 : decode cX4_read 89 = .ok (.iload_n 2, 1) := by decide +kernel
theorem dX4_read_90 : decode cX4_read 90 = .ok (.iload_n 1, 1) := by decide +kernel
theorem dX4_read_91 : decode cX4_read 91 = .ok (.if_icmp .ge 18, 3) := by decide +kernel
theorem dX4_read_94 : decode cX4_read 94 = .ok (.aload_n 0, 1) := by decide +kernel
theorem dX4_read_95 : decode cX4_read 95 = .ok (.getfield 15, 3) := by decide +kernel
theorem dX4_read_98 : decode cX4_read 98 = .ok (.iload_n 1, 1) := by decide +kernel
theorem dX4_read_99 : decode cX4_read 99 = .ok (.aload_n 0, 1) := by decide +kernel
theorem dX4_read_100 : decode cX4_read 100 = .ok (.getfield 15, 3) := by decide +kernel
theorem dX4_read_103 : decode cX4_read 103 = .ok (.iload_n 2, 1) := by decide +kernel
theorem dX4_read_104 : decode cX4_read 104 = .ok (.iaload, 1) := by decide +kernel
theorem dX4_read_105 : decode cX4_read 105 = .ok (.iastore, 1) := by decide +kernel
theorem dX4_read_106 : decode cX4_read 106 = .ok (.goto 23, 3) := by decide +kernel
theorem dX4_read_109 : decode cX4_read 109 = .ok (.aload_n 0, 1) := by decide +kernel
theorem dX4_read_110 : decode cX4_read 110 = .ok (.getfield 15, 3) := by decide +kernel
theorem dX4_read_113 : decode cX4_read 113 = .ok (.iload_n 1, 1) := by decide +kernel
theorem dX4_read_114 : decode cX4_read 114 = .ok (.aload_n 0, 1) := by decide +kernel
theorem dX4_read_115 : decode cX4_read 115 = .ok (.getfield 42, 3) := by decide +kernel
theorem dX4_read_118 : decode cX4_read 118 = .ok (.iastore, 1) := by decide +kernel
theorem dX4_read_119 : decode cX4_read 119 = .ok (.aload_n 0, 1) := by decide +kernel
theorem dX4_read_120 : decode cX4_read 120 = .ok (.dup, 1) := by decide +kernel
theorem dX4_read_121 : decode cX4_read 121 = .ok (.getfield 42, 3) := by decide +kernel
theorem dX4_read_124 : decode cX4_read 124 = .ok (.iconst 1, 1) := by decide +kernel
theorem dX4_read_125 : decode cX4_read 125 = .ok (.iadd, 1) := by decide +kernel
theorem dX4_read_126 : decode cX4_read 126 = .ok (.putfield 42, 3) := by decide +kernel
theorem dX4_read_129 : decode cX4_read 129 = .ok (.iinc 1 1, 3) := by decide +kernel
theorem dX4_read_132 : decode cX4_read 132 = .ok (.goto (-71), 3) := by decide +kernel
theorem dX4_read_135 : decode cX4_read 135 = .ok (.return_, 1) := by decide +kernel
theorem dX4_ahead_0 : decode cX4_ahead 0 = .ok (.aload_n 0, 1) := by decide +kernel
theorem dX4_ahead_1 : decode cX4_ahead 1 = .ok (.getfield 18, 3) := by decide +kernel
theorem dX4_ahead_4 : decode cX4_ahead 4 = .ok (.iload_n 1, 1) := by decide +kernel
theorem dX4_ahead_5 : decode cX4_ahead 5 = .ok (.invokevirtual 38, 3) := by decide +kernel
theorem dX4_ahead_8 : decode cX4_ahead 8 = .ok (.ifCond .eq 12, 3) := by decide +kernel
theorem dX4_ahead_11 : decode cX4_ahead 11 = .ok (.aload_n 0, 1) := by decide +kernel
theorem dX4_ahead_12 : decode cX4_ahead 12 = .ok (.getfield 9, 3) := by decide +kernel
theorem dX4_ahead_15 : decode cX4_ahead 15 = .ok (.iload_n 1, 1) := by decide +kernel
theorem dX4_ahead_16 : decode cX4_ahead 16 = .ok (.iaload, 1) := by decide +kernel
theorem dX4_ahead_17 : decode cX4_ahead 17 = .ok (.goto 4, 3) := by decide +kernel
theorem dX4_ahead_20 : decode cX4_ahead 20 = .ok (.iconst (-1), 1) := by decide +kernel
theorem dX4_ahead_21 : decode cX4_ahead 21 = .ok (.ireturn, 1) := by decide +kernel
theorem dX4_voiceWith_0 : decode cX4_voiceWith 0 = .ok (.aload_n 0, 1) := by decide +kernel
theorem dX4_voiceWith_1 : decode cX4_voiceWith 1 = .ok (.getfield 18, 3) := by decide +kernel
theorem dX4_voiceWith_4 : decode cX4_voiceWith 4 = .ok (.iload_n 1, 1) := by decide +kernel
theorem dX4_voiceWith_5 : decode cX4_voiceWith 5 = .ok (.invokevirtual 38, 3) := by decide +kernel
theorem dX4_voiceWith_8 : decode cX4_voiceWith 8 = .ok (.ifCond .eq 12, 3) := by decide +kernel
theorem dX4_voiceWith_11 : decode cX4_voiceWith 11 = .ok (.aload_n 0, 1) := by decide +kernel
theorem dX4_voiceWith_12 : decode cX4_voiceWith 12 = .ok (.getfield 15, 3) := by decide +kernel
theorem dX4_voiceWith_15 : decode cX4_voiceWith 15 = .ok (.iload_n 1, 1) := by decide +kernel
theorem dX4_voiceWith_16 : decode cX4_voiceWith 16 = .ok (.iaload, 1) := by decide +kernel
theorem dX4_voiceWith_17 : decode cX4_voiceWith 17 = .ok (.goto 4, 3) := by decide +kernel
theorem dX4_voiceWith_20 : decode cX4_voiceWith 20 = .ok (.iconst (-1), 1) := by decide +kernel
theorem dX4_voiceWith_21 : decode cX4_voiceWith 21 = .ok (.ireturn, 1) := by decide +kernel
theorem dX4_countVoices_0 : decode cX4_countVoices 0 = .ok (.aload_n 0, 1) := by decide +kernel
theorem dX4_countVoices_1 : decode cX4_countVoices 1 = .ok (.getfield 42, 3) := by decide +kernel
theorem dX4_countVoices_4 : decode cX4_countVoices 4 = .ok (.ireturn, 1) := by decide +kernel
theorem dX4_hasVoice_0 : decode cX4_hasVoice 0 = .ok (.iload_n 1, 1) := by decide +kernel
theorem dX4_hasVoice_1 : decode cX4_hasVoice 1 = .ok (.ifCond .lt 15, 3) := by decide +kernel
theorem dX4_hasVoice_4 : decode cX4_hasVoice 4 = .ok (.iload_n 1, 1) := by decide +kernel
theorem dX4_hasVoice_5 : decode cX4_hasVoice 5 = .ok (.aload_n 0, 1) := by decide +kernel
theorem dX4_hasVoice_6 : decode cX4_hasVoice 6 = .ok (.getfield 42, 3) := by decide +kernel
theorem dX4_hasVoice_9 : decode cX4_hasVoice 9 = .ok (.if_icmp .ge 7, 3) := by decide +kernel
theorem dX4_hasVoice_12 : decode cX4_hasVoice 12 = .ok (.iconst 1, 1) := by decide +kernel
theorem dX4_hasVoice_13 : decode cX4_hasVoice 13 = .ok (.goto 4, 3) := by decide +kernel
theorem dX4_hasVoice_16 : decode cX4_hasVoice 16 = .ok (.iconst 0, 1) := by decide +kernel
theorem dX4_hasVoice_17 : decode cX4_hasVoice 17 = .ok (.ireturn, 1) := by decide +kernel
theorem dX4_isIn_0 : decode cX4_isIn 0 = .ok (.aload_n 0, 1) := by decide +kernel
theorem dX4_isIn_1 : decode cX4_isIn 1 = .ok (.getfield 18, 3) := by decide +kernel
theorem dX4_isIn_4 : decode cX4_isIn 4 = .ok (.iload_n 2, 1) := by decide +kernel
theorem dX4_isIn_5 : decode cX4_isIn 5 = .ok (.invokevirtual 38, 3) := by decide +kernel
theorem dX4_isIn_8 : decode cX4_isIn 8 = .ok (.ifCond .eq 17, 3) := by decide +kernel
theorem dX4_isIn_11 : decode cX4_isIn 11 = .ok (.aload_n 0, 1) := by decide +kernel
theorem dX4_isIn_12 : decode cX4_isIn 12 = .ok (.getfield 15, 3) := by decide +kernel
theorem dX4_isIn_15 : decode cX4_isIn 15 = .ok (.iload_n 2, 1) := by decide +kernel
theorem dX4_isIn_16 : decode cX4_isIn 16 = .ok (.iaload, 1) := by decide +kernel
theorem dX4_isIn_17 : decode cX4_isIn 17 = .ok (.iload_n 1, 1) := by decide +kernel
theorem dX4_isIn_18 : decode cX4_isIn 18 = .ok (.if_icmp .ne 7, 3) := by decide +kernel
theorem dX4_isIn_21 : decode cX4_isIn 21 = .ok (.iconst 1, 1) := by decide +kernel
theorem dX4_isIn_22 : decode cX4_isIn 22 = .ok (.goto 4, 3) := by decide +kernel
theorem dX4_isIn_25 : decode cX4_isIn 25 = .ok (.iconst 0, 1) := by decide +kernel
theorem dX4_isIn_26 : decode cX4_isIn 26 = .ok (.ireturn, 1) := by decide +kernel
theorem dX4_size_0 : decode cX4_size 0 = .ok (.iconst 0, 1) := by decide +kernel
theorem dX4_size_1 : decode cX4_size 1 = .ok (.istore_n 2, 1) := by decide +kernel
theorem dX4_size_2 : decode cX4_size 2 = .ok (.iconst 0, 1) := by decide +kernel
theorem dX4_size_3 : decode cX4_size 3 = .ok (.istore_n 3, 1) := by decide +kernel
theorem dX4_size_4 : decode cX4_size 4 = .ok (.iload_n 3, 1) := by decide +kernel
theorem dX4_size_5 : decode cX4_size 5 = .ok (.aload_n 0, 1) := by decide +kernel
theorem dX4_size_6 : decode cX4_size 6 = .ok (.getfield 18, 3) := by decide +kernel
theorem dX4_size_9 : decode cX4_size 9 = .ok (.invokevirtual 28, 3) := by decide +kernel
theorem dX4_size_12 : decode cX4_size 12 = .ok (.if_icmp .ge 21, 3) := by decide +kernel
theorem dX4_size_15 : decode cX4_size 15 = .ok (.aload_n 0, 1) := by decide +kernel
theorem dX4_size_16 : decode cX4_size 16 = .ok (.iload_n 1, 1) := by decide +kernel
theorem dX4_size_17 : decode cX4_size 17 = .ok (.iload_n 3, 1) := by decide +kernel
theorem dX4_size_18 : decode cX4_size 18 = .ok (.invokevirtual 46, 3) := by decide +kernel
theorem dX4_size_21 : decode cX4_size 21 = .ok (.ifCond .eq 6, 3) := by decide +kernel
theorem dX4_size_24 : decode cX4_size 24 = .ok (.iinc 2 1, 3) := by decide +kernel
theorem dX4_size_27 : decode cX4_size 27 = .ok (.iinc 3 1, 3) := by decide +kernel
theorem dX4_size_30 : decode cX4_size 30 = .ok (.goto (-26), 3) := by decide +kernel
theorem dX4_size_33 : decode cX4_size 33 = .ok (.iload_n 2, 1) := by decide +kernel
theorem dX4_size_34 : decode cX4_size 34 = .ok (.ireturn, 1) := by decide +kernel
theorem dX4_noteOf_0 : decode cX4_noteOf 0 = .ok (.iconst 0, 1) := by decide +kernel
theorem dX4_noteOf_1 : decode cX4_noteOf 1 = .ok (.istore_n 3, 1) := by decide +kernel
theorem dX4_noteOf_2 : decode cX4_noteOf 2 = .ok (.iconst 0, 1) := by decide +kernel
theorem dX4_noteOf_3 : decode cX4_noteOf 3 = .ok (.istore 4, 2) := by decide +kernel
theorem dX4_noteOf_5 : decode cX4_noteOf 5 = .ok (.iload 4, 2) := by decide +kernel
theorem dX4_noteOf_7 : decode cX4_noteOf 7 = .ok (.aload_n 0, 1) := by decide +kernel
theorem dX4_noteOf_8 : decode cX4_noteOf 8 = .ok (.getfield 18, 3) := by decide +kernel
theorem dX4_noteOf_11 : decode cX4_noteOf 11 = .ok (.invokevirtual 28, 3) := by decide +kernel
theorem dX4_noteOf_14 : decode cX4_noteOf 14 = .ok (.if_icmp .ge 30, 3) := by decide +kernel
theorem dX4_noteOf_17 : decode cX4_noteOf 17 = .ok (.aload_n 0, 1) := by decide +kernel
theorem dX4_noteOf_18 : decode cX4_noteOf 18 = .ok (.iload_n 1, 1) := by decide +kernel
theorem dX4_noteOf_19 : decode cX4_noteOf 19 = .ok (.iload 4, 2) := by decide +kernel
theorem dX4_noteOf_21 : decode cX4_noteOf 21 = .ok (.invokevirtual 46, 3) := by decide +kernel
theorem dX4_noteOf_24 : decode cX4_noteOf 24 = .ok (.ifCond .eq 14, 3) := by decide +kernel
theorem dX4_noteOf_27 : decode cX4_noteOf 27 = .ok (.iload_n 3, 1) := by decide +kernel
theorem dX4_noteOf_28 : decode cX4_noteOf 28 = .ok (.iload_n 2, 1) := by decide +kernel
theorem dX4_noteOf_29 : decode cX4_noteOf 29 = .ok (.if_icmp .ne 6, 3) := by decide +kernel
theorem dX4_noteOf_32 : decode cX4_noteOf 32 = .ok (.iload 4, 2) := by decide +kernel
theorem dX4_noteOf_34 : decode cX4_noteOf 34 = .ok (.ireturn, 1) := by decide +kernel
theorem dX4_noteOf_35 : decode cX4_noteOf 35 = .ok (.iinc 3 1, 3) := by decide +kernel
theorem dX4_noteOf_38 : decode cX4_noteOf 38 = .ok (.iinc 4 1, 3) := by decide +kernel
theorem dX4_noteOf_41 : decode cX4_noteOf 41 = .ok (.goto (-36), 3) := by decide +kernel
theorem dX4_noteOf_44 : decode cX4_noteOf 44 = .ok (.iconst (-1), 1) := by decide +kernel
theorem dX4_noteOf_45 : decode cX4_noteOf 45 = .ok (.ireturn, 1) := by decide +kernel
theorem dX4_lowest_0 : decode cX4_lowest 0 = .ok (.aload_n 0, 1) := by decide +kernel
theorem dX4_lowest_1 : decode cX4_lowest 1 = .ok (.getfield 18, 3) := by decide +kernel
theorem dX4_lowest_4 : decode cX4_lowest 4 = .ok (.aload_n 0, 1) := by decide +kernel
theorem dX4_lowest_5 : decode cX4_lowest 5 = .ok (.iload_n 1, 1) := by decide +kernel
theorem dX4_lowest_6 : decode cX4_lowest 6 = .ok (.iconst 0, 1) := by decide +kernel
theorem dX4_lowest_7 : decode cX4_lowest 7 = .ok (.invokevirtual 50, 3) := by decide +kernel
theorem dX4_lowest_10 : decode cX4_lowest 10 = .ok (.invokevirtual 54, 3) := by decide +kernel
theorem dX4_lowest_13 : decode cX4_lowest 13 = .ok (.istore_n 2, 1) := by decide +kernel
theorem dX4_lowest_14 : decode cX4_lowest 14 = .ok (.iconst 0, 1) := by decide +kernel
theorem dX4_lowest_15 : decode cX4_lowest 15 = .ok (.istore_n 3, 1) := by decide +kernel
theorem dX4_lowest_16 : decode cX4_lowest 16 = .ok (.iload_n 3, 1) := by decide +kernel
theorem dX4_lowest_17 : decode cX4_lowest 17 = .ok (.aload_n 0, 1) := by decide +kernel
theorem dX4_lowest_18 : decode cX4_lowest 18 = .ok (.getfield 18, 3) := by decide +kernel
theorem dX4_lowest_21 : decode cX4_lowest 21 = .ok (.invokevirtual 28, 3) := by decide +kernel
theorem dX4_lowest_24 : decode cX4_lowest 24 = .ok (.if_icmp .ge 31, 3) := by decide +kernel
theorem dX4_lowest_27 : decode cX4_lowest 27 = .ok (.aload_n 0, 1) := by decide +kernel
theorem dX4_lowest_28 : decode cX4_lowest 28 = .ok (.iload_n 1, 1) := by decide +kernel
theorem dX4_lowest_29 : decode cX4_lowest 29 = .ok (.iload_n 3, 1) := by decide +kernel
theorem dX4_lowest_30 : decode cX4_lowest 30 = .ok (.invokevirtual 46, 3) := by decide +kernel
theorem dX4_lowest_33 : decode cX4_lowest 33 = .ok (.ifCond .eq 16, 3) := by decide +kernel
theorem dX4_lowest_36 : decode cX4_lowest 36 = .ok (.iload_n 2, 1) := by decide +kernel
theorem dX4_lowest_37 : decode cX4_lowest 37 = .ok (.aload_n 0, 1) := by decide +kernel
theorem dX4_lowest_38 : decode cX4_lowest 38 = .ok (.getfield 18, 3) := by decide +kernel
theorem dX4_lowest_41 : decode cX4_lowest 41 = .ok (.iload_n 3, 1) := by decide +kernel
theorem dX4_lowest_42 : decode cX4_lowest 42 = .ok (.invokevirtual 54, 3) := by decide +kernel
theorem dX4_lowest_45 : decode cX4_lowest 45 = .ok (.invokestatic 57, 3) := by decide +kernel
theorem dX4_lowest_48 : decode cX4_lowest 48 = .ok (.istore_n 2, 1) := by decide +kernel
theorem dX4_lowest_49 : decode cX4_lowest 49 = .ok (.iinc 3 1, 3) := by decide +kernel
theorem dX4_lowest_52 : decode cX4_lowest 52 = .ok (.goto (-36), 3) := by decide +kernel
theorem dX4_lowest_55 : decode cX4_lowest 55 = .ok (.iload_n 2, 1) := by decide +kernel
theorem dX4_lowest_56 : decode cX4_lowest 56 = .ok (.ireturn, 1) := by decide +kernel
theorem dX4_highest_0 : decode cX4_highest 0 = .ok (.aload_n 0, 1) := by decide +kernel
theorem dX4_highest_1 : decode cX4_highest 1 = .ok (.getfield 18, 3) := by decide +kernel
theorem dX4_highest_4 : decode cX4_highest 4 = .ok (.aload_n 0, 1) := by decide +kernel
theorem dX4_highest_5 : decode cX4_highest 5 = .ok (.iload_n 1, 1) := by decide +kernel
theorem dX4_highest_6 : decode cX4_highest 6 = .ok (.iconst 0, 1) := by decide +kernel
theorem dX4_highest_7 : decode cX4_highest 7 = .ok (.invokevirtual 50, 3) := by decide +kernel
theorem dX4_highest_10 : decode cX4_highest 10 = .ok (.invokevirtual 54, 3) := by decide +kernel
theorem dX4_highest_13 : decode cX4_highest 13 = .ok (.istore_n 2, 1) := by decide +kernel
theorem dX4_highest_14 : decode cX4_highest 14 = .ok (.iconst 0, 1) := by decide +kernel
theorem dX4_highest_15 : decode cX4_highest 15 = .ok (.istore_n 3, 1) := by decide +kernel
theorem dX4_highest_16 : decode cX4_highest 16 = .ok (.iload_n 3, 1) := by decide +kernel
theorem dX4_highest_17 : decode cX4_highest 17 = .ok (.aload_n 0, 1) := by decide +kernel
theorem dX4_highest_18 : decode cX4_highest 18 = .ok (.getfield 18, 3) := by decide +kernel
theorem dX4_highest_21 : decode cX4_highest 21 = .ok (.invokevirtual 28, 3) := by decide +kernel
theorem dX4_highest_24 : decode cX4_highest 24 = .ok (.if_icmp .ge 31, 3) := by decide +kernel
theorem dX4_highest_27 : decode cX4_highest 27 = .ok (.aload_n 0, 1) := by decide +kernel
theorem dX4_highest_28 : decode cX4_highest 28 = .ok (.iload_n 1, 1) := by decide +kernel
theorem dX4_highest_29 : decode cX4_highest 29 = .ok (.iload_n 3, 1) := by decide +kernel
theorem dX4_highest_30 : decode cX4_highest 30 = .ok (.invokevirtual 46, 3) := by decide +kernel
theorem dX4_highest_33 : decode cX4_highest 33 = .ok (.ifCond .eq 16, 3) := by decide +kernel
theorem dX4_highest_36 : decode cX4_highest 36 = .ok (.iload_n 2, 1) := by decide +kernel
theorem dX4_highest_37 : decode cX4_highest 37 = .ok (.aload_n 0, 1) := by decide +kernel
theorem dX4_highest_38 : decode cX4_highest 38 = .ok (.getfield 18, 3) := by decide +kernel
theorem dX4_highest_41 : decode cX4_highest 41 = .ok (.iload_n 3, 1) := by decide +kernel
theorem dX4_highest_42 : decode cX4_highest 42 = .ok (.invokevirtual 54, 3) := by decide +kernel
theorem dX4_highest_45 : decode cX4_highest 45 = .ok (.invokestatic 62, 3) := by decide +kernel
theorem dX4_highest_48 : decode cX4_highest 48 = .ok (.istore_n 2, 1) := by decide +kernel
theorem dX4_highest_49 : decode cX4_highest 49 = .ok (.iinc 3 1, 3) := by decide +kernel
theorem dX4_highest_52 : decode cX4_highest 52 = .ok (.goto (-36), 3) := by decide +kernel
theorem dX4_highest_55 : decode cX4_highest 55 = .ok (.iload_n 2, 1) := by decide +kernel
theorem dX4_highest_56 : decode cX4_highest 56 = .ok (.ireturn, 1) := by decide +kernel
theorem dX4_rests_0 : decode cX4_rests 0 = .ok (.iconst 0, 1) := by decide +kernel
theorem dX4_rests_1 : decode cX4_rests 1 = .ok (.istore_n 2, 1) := by decide +kernel
theorem dX4_rests_2 : decode cX4_rests 2 = .ok (.iconst 0, 1) := by decide +kernel
theorem dX4_rests_3 : decode cX4_rests 3 = .ok (.istore_n 3, 1) := by decide +kernel
theorem dX4_rests_4 : decode cX4_rests 4 = .ok (.iload_n 3, 1) := by decide +kernel
theorem dX4_rests_5 : decode cX4_rests 5 = .ok (.aload_n 0, 1) := by decide +kernel
theorem dX4_rests_6 : decode cX4_rests 6 = .ok (.getfield 18, 3) := by decide +kernel
theorem dX4_rests_9 : decode cX4_rests 9 = .ok (.invokevirtual 28, 3) := by decide +kernel
theorem dX4_rests_12 : decode cX4_rests 12 = .ok (.if_icmp .ge 55, 3) := by decide +kernel
theorem dX4_rests_15 : decode cX4_rests 15 = .ok (.aload_n 0, 1) := by decide +kernel
theorem dX4_rests_16 : decode cX4_rests 16 = .ok (.getfield 18, 3) := by decide +kernel
theorem dX4_rests_19 : decode cX4_rests 19 = .ok (.iload_n 3, 1) := by decide +kernel
theorem dX4_rests_20 : decode cX4_rests 20 = .ok (.invokevirtual 34, 3) := by decide +kernel
theorem dX4_rests_23 : decode cX4_rests 23 = .ok (.istore 4, 2) := by decide +kernel
theorem dX4_rests_25 : decode cX4_rests 25 = .ok (.aload_n 0, 1) := by decide +kernel
theorem dX4_rests_26 : decode cX4_rests 26 = .ok (.iload_n 1, 1) := by decide +kernel
theorem dX4_rests_27 : decode cX4_rests 27 = .ok (.iload_n 3, 1) := by decide +kernel
theorem dX4_rests_28 : decode cX4_rests 28 = .ok (.invokevirtual 46, 3) := by decide +kernel
theorem dX4_rests_31 : decode cX4_rests 31 = .ok (.ifCond .eq 30, 3) := by decide +kernel
theorem dX4_rests_34 : decode cX4_rests 34 = .ok (.iload 4, 2) := by decide +kernel
theorem dX4_rests_36 : decode cX4_rests 36 = .ok (.iconst (-1), 1) := by decide +kernel
theorem dX4_rests_37 : decode cX4_rests 37 = .ok (.if_icmp .eq 24, 3) := by decide +kernel
theorem dX4_rests_40 : decode cX4_rests 40 = .ok (.iload_n 2, 1) := by decide +kernel
theorem dX4_rests_41 : decode cX4_rests 41 = .ok (.aload_n 0, 1) := by decide +kernel
theorem dX4_rests_42 : decode cX4_rests 42 = .ok (.getfield 18, 3) := by decide +kernel
theorem dX4_rests_45 : decode cX4_rests 45 = .ok (.iload 4, 2) := by decide +kernel
theorem dX4_rests_47 : decode cX4_rests 47 = .ok (.invokevirtual 65, 3) := by decide +kernel
theorem dX4_rests_50 : decode cX4_rests 50 = .ok (.aload_n 0, 1) := by decide +kernel
theorem dX4_rests_51 : decode cX4_rests 51 = .ok (.getfield 18, 3) := by decide +kernel
theorem dX4_rests_54 : decode cX4_rests 54 = .ok (.iload_n 3, 1) := by decide +kernel
theorem dX4_rests_55 : decode cX4_rests 55 = .ok (.invokevirtual 68, 3) := by decide +kernel
theorem dX4_rests_58 : decode cX4_rests 58 = .ok (.isub, 1) := by decide +kernel
theorem dX4_rests_59 : decode cX4_rests 59 = .ok (.iadd, 1) := by decide +kernel
theorem dX4_rests_60 : decode cX4_rests 60 = .ok (.istore_n 2, 1) := by decide +kernel
theorem dX4_rests_61 : decode cX4_rests 61 = .ok (.iinc 3 1, 3) := by decide +kernel
theorem dX4_rests_64 : decode cX4_rests 64 = .ok (.goto (-60), 3) := by decide +kernel
theorem dX4_rests_67 : decode cX4_rests 67 = .ok (.iload_n 2, 1) := by decide +kernel
theorem dX4_rests_68 : decode cX4_rests 68 = .ok (.ireturn, 1) := by decide +kernel
theorem dX4_costOf_0 : decode cX4_costOf 0 = .ok (.aload_n 0, 1) := by decide +kernel
theorem dX4_costOf_1 : decode cX4_costOf 1 = .ok (.getfield 18, 3) := by decide +kernel
theorem dX4_costOf_4 : decode cX4_costOf 4 = .ok (.iconst 3, 1) := by decide +kernel
theorem dX4_costOf_5 : decode cX4_costOf 5 = .ok (.invokevirtual 71, 3) := by decide +kernel
theorem dX4_costOf_8 : decode cX4_costOf 8 = .ok (.istore_n 2, 1) := by decide +kernel
theorem dX4_costOf_9 : decode cX4_costOf 9 = .ok (.iconst 0, 1) := by decide +kernel
theorem dX4_costOf_10 : decode cX4_costOf 10 = .ok (.istore_n 3, 1) := by decide +kernel
theorem dX4_costOf_11 : decode cX4_costOf 11 = .ok (.iload_n 3, 1) := by decide +kernel
theorem dX4_costOf_12 : decode cX4_costOf 12 = .ok (.aload_n 0, 1) := by decide +kernel
theorem dX4_costOf_13 : decode cX4_costOf 13 = .ok (.getfield 18, 3) := by decide +kernel
theorem dX4_costOf_16 : decode cX4_costOf 16 = .ok (.invokevirtual 28, 3) := by decide +kernel
theorem dX4_costOf_19 : decode cX4_costOf 19 = .ok (.if_icmp .ge 26, 3) := by decide +kernel
theorem dX4_costOf_22 : decode cX4_costOf 22 = .ok (.aload_n 0, 1) := by decide +kernel
theorem dX4_costOf_23 : decode cX4_costOf 23 = .ok (.iload_n 1, 1) := by decide +kernel
theorem dX4_costOf_24 : decode cX4_costOf 24 = .ok (.iload_n 3, 1) := by decide +kernel
theorem dX4_costOf_25 : decode cX4_costOf 25 = .ok (.invokevirtual 46, 3) := by decide +kernel
theorem dX4_costOf_28 : decode cX4_costOf 28 = .ok (.ifCond .eq 11, 3) := by decide +kernel
theorem dX4_costOf_31 : decode cX4_costOf 31 = .ok (.iload_n 2, 1) := by decide +kernel
theorem dX4_costOf_32 : decode cX4_costOf 32 = .ok (.aload_n 0, 1) := by decide +kernel
theorem dX4_costOf_33 : decode cX4_costOf 33 = .ok (.iload_n 3, 1) := by decide +kernel
theorem dX4_costOf_34 : decode cX4_costOf 34 = .ok (.invokevirtual 74, 3) := by decide +kernel
theorem dX4_costOf_37 : decode cX4_costOf 37 = .ok (.iadd, 1) := by decide +kernel
theorem dX4_costOf_38 : decode cX4_costOf 38 = .ok (.istore_n 2, 1) := by decide +kernel
theorem dX4_costOf_39 : decode cX4_costOf 39 = .ok (.iinc 3 1, 3) := by decide +kernel
theorem dX4_costOf_42 : decode cX4_costOf 42 = .ok (.goto (-31), 3) := by decide +kernel
theorem dX4_costOf_45 : decode cX4_costOf 45 = .ok (.iload_n 2, 1) := by decide +kernel
theorem dX4_costOf_46 : decode cX4_costOf 46 = .ok (.ireturn, 1) := by decide +kernel
theorem dX4_costOfAll_0 : decode cX4_costOfAll 0 = .ok (.aload_n 0, 1) := by decide +kernel
theorem dX4_costOfAll_1 : decode cX4_costOfAll 1 = .ok (.invokevirtual 77, 3) := by decide +kernel
theorem dX4_costOfAll_4 : decode cX4_costOfAll 4 = .ok (.aload_n 0, 1) := by decide +kernel
theorem dX4_costOfAll_5 : decode cX4_costOfAll 5 = .ok (.getfield 18, 3) := by decide +kernel
theorem dX4_costOfAll_8 : decode cX4_costOfAll 8 = .ok (.iconst 3, 1) := by decide +kernel
theorem dX4_costOfAll_9 : decode cX4_costOfAll 9 = .ok (.invokevirtual 71, 3) := by decide +kernel
theorem dX4_costOfAll_12 : decode cX4_costOfAll 12 = .ok (.imul, 1) := by decide +kernel
theorem dX4_costOfAll_13 : decode cX4_costOfAll 13 = .ok (.istore_n 1, 1) := by decide +kernel
theorem dX4_costOfAll_14 : decode cX4_costOfAll 14 = .ok (.iconst 0, 1) := by decide +kernel
theorem dX4_costOfAll_15 : decode cX4_costOfAll 15 = .ok (.istore_n 2, 1) := by decide +kernel
theorem dX4_costOfAll_16 : decode cX4_costOfAll 16 = .ok (.iload_n 2, 1) := by decide +kernel
theorem dX4_costOfAll_17 : decode cX4_costOfAll 17 = .ok (.aload_n 0, 1) := by decide +kernel
theorem dX4_costOfAll_18 : decode cX4_costOfAll 18 = .ok (.getfield 18, 3) := by decide +kernel
theorem dX4_costOfAll_21 : decode cX4_costOfAll 21 = .ok (.invokevirtual 28, 3) := by decide +kernel
theorem dX4_costOfAll_24 : decode cX4_costOfAll 24 = .ok (.if_icmp .ge 17, 3) := by decide +kernel
theorem dX4_costOfAll_27 : decode cX4_costOfAll 27 = .ok (.iload_n 1, 1) := by decide +kernel
theorem dX4_costOfAll_28 : decode cX4_costOfAll 28 = .ok (.aload_n 0, 1) := by decide +kernel
theorem dX4_costOfAll_29 : decode cX4_costOfAll 29 = .ok (.iload_n 2, 1) := by decide +kernel
theorem dX4_costOfAll_30 : decode cX4_costOfAll 30 = .ok (.invokevirtual 74, 3) := by decide +kernel
theorem dX4_costOfAll_33 : decode cX4_costOfAll 33 = .ok (.iadd, 1) := by decide +kernel
theorem dX4_costOfAll_34 : decode cX4_costOfAll 34 = .ok (.istore_n 1, 1) := by decide +kernel
theorem dX4_costOfAll_35 : decode cX4_costOfAll 35 = .ok (.iinc 2 1, 3) := by decide +kernel
theorem dX4_costOfAll_38 : decode cX4_costOfAll 38 = .ok (.goto (-22), 3) := by decide +kernel
theorem dX4_costOfAll_41 : decode cX4_costOfAll 41 = .ok (.iload_n 1, 1) := by decide +kernel
theorem dX4_costOfAll_42 : decode cX4_costOfAll 42 = .ok (.ireturn, 1) := by decide +kernel
theorem dX4_costBehind_0 : decode cX4_costBehind 0 = .ok (.aload_n 0, 1) := by decide +kernel
theorem dX4_costBehind_1 : decode cX4_costBehind 1 = .ok (.getfield 18, 3) := by decide +kernel
theorem dX4_costBehind_4 : decode cX4_costBehind 4 = .ok (.iload_n 1, 1) := by decide +kernel
theorem dX4_costBehind_5 : decode cX4_costBehind 5 = .ok (.invokevirtual 34, 3) := by decide +kernel
theorem dX4_costBehind_8 : decode cX4_costBehind 8 = .ok (.istore_n 2, 1) := by decide +kernel
theorem dX4_costBehind_9 : decode cX4_costBehind 9 = .ok (.iload_n 2, 1) := by decide +kernel
theorem dX4_costBehind_10 : decode cX4_costBehind 10 = .ok (.iconst (-1), 1) := by decide +kernel
theorem dX4_costBehind_11 : decode cX4_costBehind 11 = .ok (.if_icmp .ne 7, 3) := by decide +kernel
theorem dX4_costBehind_14 : decode cX4_costBehind 14 = .ok (.iconst 0, 1) := by decide +kernel
theorem dX4_costBehind_15 : decode cX4_costBehind 15 = .ok (.goto 12, 3) := by decide +kernel
theorem dX4_costBehind_18 : decode cX4_costBehind 18 = .ok (.aload_n 0, 1) := by decide +kernel
theorem dX4_costBehind_19 : decode cX4_costBehind 19 = .ok (.getfield 18, 3) := by decide +kernel
theorem dX4_costBehind_22 : decode cX4_costBehind 22 = .ok (.iload_n 1, 1) := by decide +kernel
theorem dX4_costBehind_23 : decode cX4_costBehind 23 = .ok (.iload_n 2, 1) := by decide +kernel
theorem dX4_costBehind_24 : decode cX4_costBehind 24 = .ok (.invokevirtual 80, 3) := by decide +kernel
theorem dX4_costBehind_27 : decode cX4_costBehind 27 = .ok (.ireturn, 1) := by decide +kernel
theorem dX4_crossings_0 : decode cX4_crossings 0 = .ok (.iconst 0, 1) := by decide +kernel
theorem dX4_crossings_1 : decode cX4_crossings 1 = .ok (.istore_n 1, 1) := by decide +kernel
theorem dX4_crossings_2 : decode cX4_crossings 2 = .ok (.iconst 0, 1) := by decide +kernel
theorem dX4_crossings_3 : decode cX4_crossings 3 = .ok (.istore_n 2, 1) := by decide +kernel
theorem dX4_crossings_4 : decode cX4_crossings 4 = .ok (.iload_n 2, 1) := by decide +kernel
theorem dX4_crossings_5 : decode cX4_crossings 5 = .ok (.aload_n 0, 1) := by decide +kernel
theorem dX4_crossings_6 : decode cX4_crossings 6 = .ok (.getfield 18, 3) := by decide +kernel
theorem dX4_crossings_9 : decode cX4_crossings 9 = .ok (.invokevirtual 28, 3) := by decide +kernel
theorem dX4_crossings_12 : decode cX4_crossings 12 = .ok (.if_icmp .ge 42, 3) := by decide +kernel
theorem dX4_crossings_15 : decode cX4_crossings 15 = .ok (.iload_n 2, 1) := by decide +kernel
theorem dX4_crossings_16 : decode cX4_crossings 16 = .ok (.iconst 1, 1) := by decide +kernel
theorem dX4_crossings_17 : decode cX4_crossings 17 = .ok (.iadd, 1) := by decide +kernel
theorem dX4_crossings_18 : decode cX4_crossings 18 = .ok (.istore_n 3, 1) := by decide +kernel
theorem dX4_crossings_19 : decode cX4_crossings 19 = .ok (.iload_n 3, 1) := by decide +kernel
theorem dX4_crossings_20 : decode cX4_crossings 20 = .ok (.aload_n 0, 1) := by decide +kernel
theorem dX4_crossings_21 : decode cX4_crossings 21 = .ok (.getfield 18, 3) := by decide +kernel
theorem dX4_crossings_24 : decode cX4_crossings 24 = .ok (.invokevirtual 28, 3) := by decide +kernel
theorem dX4_crossings_27 : decode cX4_crossings 27 = .ok (.if_icmp .ge 21, 3) := by decide +kernel
theorem dX4_crossings_30 : decode cX4_crossings 30 = .ok (.aload_n 0, 1) := by decide +kernel
theorem dX4_crossings_31 : decode cX4_crossings 31 = .ok (.iload_n 2, 1) := by decide +kernel
theorem dX4_crossings_32 : decode cX4_crossings 32 = .ok (.iload_n 3, 1) := by decide +kernel
theorem dX4_crossings_33 : decode cX4_crossings 33 = .ok (.invokevirtual 83, 3) := by decide +kernel
theorem dX4_crossings_36 : decode cX4_crossings 36 = .ok (.ifCond .eq 6, 3) := by decide +kernel
theorem dX4_crossings_39 : decode cX4_crossings 39 = .ok (.iinc 1 1, 3) := by decide +kernel
theorem dX4_crossings_42 : decode cX4_crossings 42 = .ok (.iinc 3 1, 3) := by decide +kernel
theorem dX4_crossings_45 : decode cX4_crossings 45 = .ok (.goto (-26), 3) := by decide +kernel
theorem dX4_crossings_48 : decode cX4_crossings 48 = .ok (.iinc 2 1, 3) := by decide +kernel
theorem dX4_crossings_51 : decode cX4_crossings 51 = .ok (.goto (-47), 3) := by decide +kernel
theorem dX4_crossings_54 : decode cX4_crossings 54 = .ok (.iload_n 1, 1) := by decide +kernel
theorem dX4_crossings_55 : decode cX4_crossings 55 = .ok (.ireturn, 1) := by decide +kernel
theorem dX4_cross_0 : decode cX4_cross 0 = .ok (.aload_n 0, 1) := by decide +kernel
theorem dX4_cross_1 : decode cX4_cross 1 = .ok (.getfield 18, 3) := by decide +kernel
theorem dX4_cross_4 : decode cX4_cross 4 = .ok (.iload_n 1, 1) := by decide +kernel
theorem dX4_cross_5 : decode cX4_cross 5 = .ok (.invokevirtual 34, 3) := by decide +kernel
theorem dX4_cross_8 : decode cX4_cross 8 = .ok (.istore_n 3, 1) := by decide +kernel
theorem dX4_cross_9 : decode cX4_cross 9 = .ok (.aload_n 0, 1) := by decide +kernel
theorem dX4_cross_10 : decode cX4_cross 10 = .ok (.getfield 18, 3) := by decide +kernel
theorem dX4_cross_13 : decode cX4_cross 13 = .ok (.iload_n 2, 1) := by decide +kernel
theorem dX4_cross_14 : decode cX4_cross 14 = .ok (.invokevirtual 34, 3) := by decide +kernel
theorem dX4_cross_17 : decode cX4_cross 17 = .ok (.istore 4, 2) := by decide +kernel
theorem dX4_cross_19 : decode cX4_cross 19 = .ok (.iload_n 3, 1) := by decide +kernel
theorem dX4_cross_20 : decode cX4_cross 20 = .ok (.iconst (-1), 1) := by decide +kernel
theorem dX4_cross_21 : decode cX4_cross 21 = .ok (.if_icmp .eq 9, 3) := by decide +kernel
theorem dX4_cross_24 : decode cX4_cross 24 = .ok (.iload 4, 2) := by decide +kernel
theorem dX4_cross_26 : decode cX4_cross 26 = .ok (.iconst (-1), 1) := by decide +kernel
theorem dX4_cross_27 : decode cX4_cross 27 = .ok (.if_icmp .ne 5, 3) := by decide +kernel
theorem dX4_cross_30 : decode cX4_cross 30 = .ok (.iconst 0, 1) := by decide +kernel
theorem dX4_cross_31 : decode cX4_cross 31 = .ok (.ireturn, 1) := by decide +kernel
theorem dX4_cross_32 : decode cX4_cross 32 = .ok (.aload_n 0, 1) := by decide +kernel
theorem dX4_cross_33 : decode cX4_cross 33 = .ok (.getfield 18, 3) := by decide +kernel
theorem dX4_cross_36 : decode cX4_cross 36 = .ok (.iload_n 1, 1) := by decide +kernel
theorem dX4_cross_37 : decode cX4_cross 37 = .ok (.invokevirtual 65, 3) := by decide +kernel
theorem dX4_cross_40 : decode cX4_cross 40 = .ok (.aload_n 0, 1) := by decide +kernel
theorem dX4_cross_41 : decode cX4_cross 41 = .ok (.getfield 18, 3) := by decide +kernel
theorem dX4_cross_44 : decode cX4_cross 44 = .ok (.iload 4, 2) := by decide +kernel
theorem dX4_cross_46 : decode cX4_cross 46 = .ok (.invokevirtual 65, 3) := by decide +kernel
theorem dX4_cross_49 : decode cX4_cross 49 = .ok (.if_icmp .ge 22, 3) := by decide +kernel
theorem dX4_cross_52 : decode cX4_cross 52 = .ok (.aload_n 0, 1) := by decide +kernel
theorem dX4_cross_53 : decode cX4_cross 53 = .ok (.getfield 18, 3) := by decide +kernel
theorem dX4_cross_56 : decode cX4_cross 56 = .ok (.iload_n 2, 1) := by decide +kernel
theorem dX4_cross_57 : decode cX4_cross 57 = .ok (.invokevirtual 65, 3) := by decide +kernel
theorem dX4_cross_60 : decode cX4_cross 60 = .ok (.aload_n 0, 1) := by decide +kernel
theorem dX4_cross_61 : decode cX4_cross 61 = .ok (.getfield 18, 3) := by decide +kernel
theorem dX4_cross_64 : decode cX4_cross 64 = .ok (.iload_n 3, 1) := by decide +kernel
theorem dX4_cross_65 : decode cX4_cross 65 = .ok (.invokevirtual 65, 3) := by decide +kernel
theorem dX4_cross_68 : decode cX4_cross 68 = .ok (.if_icmp .lt 5, 3) := by decide +kernel
theorem dX4_cross_71 : decode cX4_cross 71 = .ok (.iconst 0, 1) := by decide +kernel
theorem dX4_cross_72 : decode cX4_cross 72 = .ok (.ireturn, 1) := by decide +kernel
theorem dX4_cross_73 : decode cX4_cross 73 = .ok (.aload_n 0, 1) := by decide +kernel
theorem dX4_cross_74 : decode cX4_cross 74 = .ok (.getfield 18, 3) := by decide +kernel
theorem dX4_cross_77 : decode cX4_cross 77 = .ok (.iload_n 1, 1) := by decide +kernel
theorem dX4_cross_78 : decode cX4_cross 78 = .ok (.invokevirtual 54, 3) := by decide +kernel
theorem dX4_cross_81 : decode cX4_cross 81 = .ok (.aload_n 0, 1) := by decide +kernel
theorem dX4_cross_82 : decode cX4_cross 82 = .ok (.getfield 18, 3) := by decide +kernel
theorem dX4_cross_85 : decode cX4_cross 85 = .ok (.iload_n 2, 1) := by decide +kernel
theorem dX4_cross_86 : decode cX4_cross 86 = .ok (.invokevirtual 54, 3) := by decide +kernel
theorem dX4_cross_89 : decode cX4_cross 89 = .ok (.isub, 1) := by decide +kernel
theorem dX4_cross_90 : decode cX4_cross 90 = .ok (.istore 5, 2) := by decide +kernel
theorem dX4_cross_92 : decode cX4_cross 92 = .ok (.aload_n 0, 1) := by decide +kernel
theorem dX4_cross_93 : decode cX4_cross 93 = .ok (.getfield 18, 3) := by decide +kernel
theorem dX4_cross_96 : decode cX4_cross 96 = .ok (.iload_n 3, 1) := by decide +kernel
theorem dX4_cross_97 : decode cX4_cross 97 = .ok (.invokevirtual 54, 3) := by decide +kernel
theorem dX4_cross_100 : decode cX4_cross 100 = .ok (.aload_n 0, 1) := by decide +kernel
theorem dX4_cross_101 : decode cX4_cross 101 = .ok (.getfield 18, 3) := by decide +kernel
theorem dX4_cross_104 : decode cX4_cross 104 = .ok (.iload 4, 2) := by decide +kernel
theorem dX4_cross_106 : decode cX4_cross 106 = .ok (.invokevirtual 54, 3) := by decide +kernel
theorem dX4_cross_109 : decode cX4_cross 109 = .ok (.isub, 1) := by decide +kernel
theorem dX4_cross_110 : decode cX4_cross 110 = .ok (.istore 6, 2) := by decide +kernel
theorem dX4_cross_112 : decode cX4_cross 112 = .ok (.iload 5, 2) := by decide +kernel
theorem dX4_cross_114 : decode cX4_cross 114 = .ok (.ifCond .ge 8, 3) := by decide +kernel
theorem dX4_cross_117 : decode cX4_cross 117 = .ok (.iload 6, 2) := by decide +kernel
theorem dX4_cross_119 : decode cX4_cross 119 = .ok (.ifCond .gt 13, 3) := by decide +kernel
theorem dX4_cross_122 : decode cX4_cross 122 = .ok (.iload 5, 2) := by decide +kernel
theorem dX4_cross_124 : decode cX4_cross 124 = .ok (.ifCond .le 12, 3) := by decide +kernel
theorem dX4_cross_127 : decode cX4_cross 127 = .ok (.iload 6, 2) := by decide +kernel
theorem dX4_cross_129 : decode cX4_cross 129 = .ok (.ifCond .ge 7, 3) := by decide +kernel
theorem dX4_cross_132 : decode cX4_cross 132 = .ok (.iconst 1, 1) := by decide +kernel
theorem dX4_cross_133 : decode cX4_cross 133 = .ok (.goto 4, 3) := by decide +kernel
theorem dX4_cross_136 : decode cX4_cross 136 = .ok (.iconst 0, 1) := by decide +kernel
theorem dX4_cross_137 : decode cX4_cross 137 = .ok (.ireturn, 1) := by decide +kernel
theorem dX4_mendCrossings_0 : decode cX4_mendCrossings 0 = .ok (.iconst 0, 1) := by decide +kernel
theorem dX4_mendCrossings_1 : decode cX4_mendCrossings 1 = .ok (.istore_n 1, 1) := by decide +kernel
theorem dX4_mendCrossings_2 : decode cX4_mendCrossings 2 = .ok (.iload_n 1, 1) := by decide +kernel
theorem dX4_mendCrossings_3 : decode cX4_mendCrossings 3 = .ok (.bipush 50, 2) := by decide +kernel
theorem dX4_mendCrossings_5 : decode cX4_mendCrossings 5 = .ok (.if_icmp .ge 16, 3) := by decide +kernel
theorem dX4_mendCrossings_8 : decode cX4_mendCrossings 8 = .ok (.aload_n 0, 1) := by decide +kernel
theorem dX4_mendCrossings_9 : decode cX4_mendCrossings 9 = .ok (.invokevirtual 86, 3) := by decide +kernel
theorem dX4_mendCrossings_12 : decode cX4_mendCrossings 12 = .ok (.ifCond .eq 9, 3) := by decide +kernel
theorem dX4_mendCrossings_15 : decode cX4_mendCrossings 15 = .ok (.iinc 1 1, 3) := by decide +kernel
theorem dX4_mendCrossings_18 : decode cX4_mendCrossings 18 = .ok (.goto (-16), 3) := by decide +kernel
theorem dX4_mendCrossings_21 : decode cX4_mendCrossings 21 = .ok (.iload_n 1, 1) := by decide +kernel
theorem dX4_mendCrossings_22 : decode cX4_mendCrossings 22 = .ok (.ireturn, 1) := by decide +kernel
theorem dX4_mendFirst_0 : decode cX4_mendFirst 0 = .ok (.iconst 0, 1) := by decide +kernel
theorem dX4_mendFirst_1 : decode cX4_mendFirst 1 = .ok (.istore_n 1, 1) := by decide +kernel
theorem dX4_mendFirst_2 : decode cX4_mendFirst 2 = .ok (.iload_n 1, 1) := by decide +kernel
theorem dX4_mendFirst_3 : decode cX4_mendFirst 3 = .ok (.aload_n 0, 1) := by decide +kernel
theorem dX4_mendFirst_4 : decode cX4_mendFirst 4 = .ok (.getfield 18, 3) := by decide +kernel
theorem dX4_mendFirst_7 : decode cX4_mendFirst 7 = .ok (.invokevirtual 28, 3) := by decide +kernel
theorem dX4_mendFirst_10 : decode cX4_mendFirst 10 = .ok (.if_icmp .ge 75, 3) := by decide +kernel
theorem dX4_mendFirst_13 : decode cX4_mendFirst 13 = .ok (.iload_n 1, 1) := by decide +kernel
theorem dX4_mendFirst_14 : decode cX4_mendFirst 14 = .ok (.iconst 1, 1) := by decide +kernel
theorem dX4_mendFirst_15 : decode cX4_mendFirst 15 = .ok (.iadd, 1) := by decide +kernel
theorem dX4_mendFirst_16 : decode cX4_mendFirst 16 = .ok (.istore_n 2, 1) := by decide +kernel
theorem dX4_mendFirst_17 : decode cX4_mendFirst 17 = .ok (.iload_n 2, 1) := by decide +kernel
theorem dX4_mendFirst_18 : decode cX4_mendFirst 18 = .ok (.aload_n 0, 1) := by decide +kernel
theorem dX4_mendFirst_19 : decode cX4_mendFirst 19 = .ok (.getfield 18, 3) := by decide +kernel
theorem dX4_mendFirst_22 : decode cX4_mendFirst 22 = .ok (.invokevirtual 28, 3) := by decide +kernel
theorem dX4_mendFirst_25 : decode cX4_mendFirst 25 = .ok (.if_icmp .ge 54, 3) := by decide +kernel
theorem dX4_mendFirst_28 : decode cX4_mendFirst 28 = .ok (.aload_n 0, 1) := by decide +kernel
theorem dX4_mendFirst_29 : decode cX4_mendFirst 29 = .ok (.iload_n 1, 1) := by decide +kernel
theorem dX4_mendFirst_30 : decode cX4_mendFirst 30 = .ok (.iload_n 2, 1) := by decide +kernel
theorem dX4_mendFirst_31 : decode cX4_mendFirst 31 = .ok (.invokevirtual 90, 3) := by decide +kernel
theorem dX4_mendFirst_34 : decode cX4_mendFirst 34 = .ok (.ifCond .eq 39, 3) := by decide +kernel
theorem dX4_mendFirst_37 : decode cX4_mendFirst 37 = .ok (.aload_n 0, 1) := by decide +kernel
theorem dX4_mendFirst_38 : decode cX4_mendFirst 38 = .ok (.getfield 18, 3) := by decide +kernel
theorem dX4_mendFirst_41 : decode cX4_mendFirst 41 = .ok (.iload_n 1, 1) := by decide +kernel
theorem dX4_mendFirst_42 : decode cX4_mendFirst 42 = .ok (.invokevirtual 34, 3) := by decide +kernel
theorem dX4_mendFirst_45 : decode cX4_mendFirst 45 = .ok (.istore_n 3, 1) := by decide +kernel
theorem dX4_mendFirst_46 : decode cX4_mendFirst 46 = .ok (.aload_n 0, 1) := by decide +kernel
theorem dX4_mendFirst_47 : decode cX4_mendFirst 47 = .ok (.getfield 18, 3) := by decide +kernel
theorem dX4_mendFirst_50 : decode cX4_mendFirst 50 = .ok (.iload_n 1, 1) := by decide +kernel
theorem dX4_mendFirst_51 : decode cX4_mendFirst 51 = .ok (.aload_n 0, 1) := by decide +kernel
theorem dX4_mendFirst_52 : decode cX4_mendFirst 52 = .ok (.getfield 18, 3) := by decide +kernel
theorem dX4_mendFirst_55 : decode cX4_mendFirst 55 = .ok (.iload_n 2, 1) := by decide +kernel
theorem dX4_mendFirst_56 : decode cX4_mendFirst 56 = .ok (.invokevirtual 34, 3) := by decide +kernel
theorem dX4_mendFirst_59 : decode cX4_mendFirst 59 = .ok (.invokevirtual 93, 3) := by decide +kernel
theorem dX4_mendFirst_62 : decode cX4_mendFirst 62 = .ok (.aload_n 0, 1) := by decide +kernel
theorem dX4_mendFirst_63 : decode cX4_mendFirst 63 = .ok (.getfield 18, 3) := by decide +kernel
theorem dX4_mendFirst_66 : decode cX4_mendFirst 66 = .ok (.iload_n 2, 1) := by decide +kernel
theorem dX4_mendFirst_67 : decode cX4_mendFirst 67 = .ok (.iload_n 3, 1) := by decide +kernel
theorem dX4_mendFirst_68 : decode cX4_mendFirst 68 = .ok (.invokevirtual 93, 3) := by decide +kernel
theorem dX4_mendFirst_71 : decode cX4_mendFirst 71 = .ok (.iconst 1, 1) := by decide +kernel
theorem dX4_mendFirst_72 : decode cX4_mendFirst 72 = .ok (.ireturn, 1) := by decide +kernel
theorem dX4_mendFirst_73 : decode cX4_mendFirst 73 = .ok (.iinc 2 1, 3) := by decide +kernel
theorem dX4_mendFirst_76 : decode cX4_mendFirst 76 = .ok (.goto (-59), 3) := by decide +kernel
theorem dX4_mendFirst_79 : decode cX4_mendFirst 79 = .ok (.iinc 1 1, 3) := by decide +kernel
theorem dX4_mendFirst_82 : decode cX4_mendFirst 82 = .ok (.goto (-80), 3) := by decide +kernel
theorem dX4_mendFirst_85 : decode cX4_mendFirst 85 = .ok (.iconst 0, 1) := by decide +kernel
theorem dX4_mendFirst_86 : decode cX4_mendFirst 86 = .ok (.ireturn, 1) := by decide +kernel
theorem dX4_canMend_0 : decode cX4_canMend 0 = .ok (.aload_n 0, 1) := by decide +kernel
theorem dX4_canMend_1 : decode cX4_canMend 1 = .ok (.iload_n 1, 1) := by decide +kernel
theorem dX4_canMend_2 : decode cX4_canMend 2 = .ok (.iload_n 2, 1) := by decide +kernel
theorem dX4_canMend_3 : decode cX4_canMend 3 = .ok (.invokevirtual 83, 3) := by decide +kernel
theorem dX4_canMend_6 : decode cX4_canMend 6 = .ok (.ifCond .eq 45, 3) := by decide +kernel
theorem dX4_canMend_9 : decode cX4_canMend 9 = .ok (.aload_n 0, 1) := by decide +kernel
theorem dX4_canMend_10 : decode cX4_canMend 10 = .ok (.getfield 18, 3) := by decide +kernel
theorem dX4_canMend_13 : decode cX4_canMend 13 = .ok (.iload_n 1, 1) := by decide +kernel
theorem dX4_canMend_14 : decode cX4_canMend 14 = .ok (.aload_n 0, 1) := by decide +kernel
theorem dX4_canMend_15 : decode cX4_canMend 15 = .ok (.getfield 18, 3) := by decide +kernel
theorem dX4_canMend_18 : decode cX4_canMend 18 = .ok (.iload_n 2, 1) := by decide +kernel
theorem dX4_canMend_19 : decode cX4_canMend 19 = .ok (.invokevirtual 34, 3) := by decide +kernel
theorem dX4_canMend_22 : decode cX4_canMend 22 = .ok (.invokevirtual 97, 3) := by decide +kernel
theorem dX4_canMend_25 : decode cX4_canMend 25 = .ok (.ifCond .eq 26, 3) := by decide +kernel
theorem dX4_canMend_28 : decode cX4_canMend 28 = .ok (.aload_n 0, 1) := by decide +kernel
theorem dX4_canMend_29 : decode cX4_canMend 29 = .ok (.getfield 18, 3) := by decide +kernel
theorem dX4_canMend_32 : decode cX4_canMend 32 = .ok (.iload_n 2, 1) := by decide +kernel
theorem dX4_canMend_33 : decode cX4_canMend 33 = .ok (.aload_n 0, 1) := by decide +kernel
theorem dX4_canMend_34 : decode cX4_canMend 34 = .ok (.getfield 18, 3) := by decide +kernel
theorem dX4_canMend_37 : decode cX4_canMend 37 = .ok (.iload_n 1, 1) := by decide +kernel
theorem dX4_canMend_38 : decode cX4_canMend 38 = .ok (.invokevirtual 34, 3) := by decide +kernel
theorem dX4_canMend_41 : decode cX4_canMend 41 = .ok (.invokevirtual 97, 3) := by decide +kernel
theorem dX4_canMend_44 : decode cX4_canMend 44 = .ok (.ifCond .eq 7, 3) := by decide +kernel
theorem dX4_canMend_47 : decode cX4_canMend 47 = .ok (.iconst 1, 1) := by decide +kernel
theorem dX4_canMend_48 : decode cX4_canMend 48 = .ok (.goto 4, 3) := by decide +kernel
theorem dX4_canMend_51 : decode cX4_canMend 51 = .ok (.iconst 0, 1) := by decide +kernel
theorem dX4_canMend_52 : decode cX4_canMend 52 = .ok (.ireturn, 1) := by decide +kernel
theorem dX5_init_0 : decode cX5_init 0 = .ok (.aload_n 0, 1) := by decide +kernel
theorem dX5_init_1 : decode cX5_init 1 = .ok (.invokespecial 3, 3) := by decide +kernel
theorem dX5_init_4 : decode cX5_init 4 = .ok (.aload_n 0, 1) := by decide +kernel
theorem dX5_init_5 : decode cX5_init 5 = .ok (.bipush 100, 2) := by decide +kernel
theorem dX5_init_7 : decode cX5_init 7 = .ok (.newarray .int, 2) := by decide +kernel
theorem dX5_init_9 : decode cX5_init 9 = .ok (.putfield 9, 3) := by decide +kernel
theorem dX5_init_12 : decode cX5_init 12 = .ok (.aload_n 0, 1) := by decide +kernel
theorem dX5_init_13 : decode cX5_init 13 = .ok (.sipush 1024, 3) := by decide +kernel
theorem dX5_init_16 : decode cX5_init 16 = .ok (.newarray .int, 2) := by decide +kernel
theorem dX5_init_18 : decode cX5_init 18 = .ok (.putfield 15, 3) := by decide +kernel
theorem dX5_init_21 : decode cX5_init 21 = .ok (.aload_n 0, 1) := by decide +kernel
theorem dX5_init_22 : decode cX5_init 22 = .ok (.bipush 11, 2) := by decide +kernel
theorem dX5_init_24 : decode cX5_init 24 = .ok (.newarray .int, 2) := by decide +kernel
theorem dX5_init_26 : decode cX5_init 26 = .ok (.putfield 18, 3) := by decide +kernel
theorem dX5_init_29 : decode cX5_init 29 = .ok (.aload_n 0, 1) := by decide +kernel
theorem dX5_init_30 : decode cX5_init 30 = .ok (.bipush 10, 2) := by decide +kernel
theorem dX5_init_32 : decode cX5_init 32 = .ok (.newarray .int, 2) := by decide +kernel
theorem dX5_init_34 : decode cX5_init 34 = .ok (.putfield 21, 3) := by decide +kernel
theorem dX5_init_37 : decode cX5_init 37 = .ok (.aload_n 0, 1) := by decide +kernel
theorem dX5_init_38 : decode cX5_init 38 = .ok (.iconst (-1), 1) := by decide +kernel
theorem dX5_init_39 : decode cX5_init 39 = .ok (.putfield 24, 3) := by decide +kernel
theorem dX5_init_42 : decode cX5_init 42 = .ok (.aload_n 0, 1) := by decide +kernel
theorem dX5_init_43 : decode cX5_init 43 = .ok (.iconst (-1), 1) := by decide +kernel
theorem dX5_init_44 : decode cX5_init 44 = .ok (.putfield 28, 3) := by decide +kernel
theorem dX5_init_47 : decode cX5_init 47 = .ok (.aload_n 0, 1) := by decide +kernel
theorem dX5_init_48 : decode cX5_init 48 = .ok (.aload_n 1, 1) := by decide +kernel
theorem dX5_init_49 : decode cX5_init 49 = .ok (.putfield 31, 3) := by decide +kernel
theorem dX5_init_52 : decode cX5_init 52 = .ok (.return_, 1) := by decide +kernel
theorem dX5_weigh_0 : decode cX5_weigh 0 = .ok (.aload_n 0, 1) := by decide +kernel
theorem dX5_weigh_1 : decode cX5_weigh 1 = .ok (.getfield 24, 3) := by decide +kernel
theorem dX5_weigh_4 : decode cX5_weigh 4 = .ok (.aload_n 0, 1) := by decide +kernel
theorem dX5_weigh_5 : decode cX5_weigh 5 = .ok (.getfield 31, 3) := by decide +kernel
theorem dX5_weigh_8 : decode cX5_weigh 8 = .ok (.invokevirtual 35, 3) := by decide +kernel
theorem dX5_weigh_11 : decode cX5_weigh 11 = .ok (.if_icmp .ne 12, 3) := by decide +kernel
theorem dX5_weigh_14 : decode cX5_weigh 14 = .ok (.aload_n 0, 1) := by decide +kernel
theorem dX5_weigh_15 : decode cX5_weigh 15 = .ok (.getfield 28, 3) := by decide +kernel
theorem dX5_weigh_18 : decode cX5_weigh 18 = .ok (.iload_n 1, 1) := by decide +kernel
theorem dX5_weigh_19 : decode cX5_weigh 19 = .ok (.if_icmp .ne 4, 3) := by decide +kernel
theorem dX5_weigh_22 : decode cX5_weigh 22 = .ok (.return_, 1) := by decide +kernel
theorem dX5_weigh_23 : decode cX5_weigh 23 = .ok (.aload_n 0, 1) := by decide +kernel
theorem dX5_weigh_24 : decode cX5_weigh 24 = .ok (.aload_n 0, 1) := by decide +kernel
theorem dX5_weigh_25 : decode cX5_weigh 25 = .ok (.getfield 31, 3) := by decide +kernel
theorem dX5_weigh_28 : decode cX5_weigh 28 = .ok (.invokevirtual 35, 3) := by decide +kernel
theorem dX5_weigh_31 : decode cX5_weigh 31 = .ok (.putfield 24, 3) := by decide +kernel
theorem dX5_weigh_34 : decode cX5_weigh 34 = .ok (.aload_n 0, 1) := by decide +kernel
theorem dX5_weigh_35 : decode cX5_weigh 35 = .ok (.iload_n 1, 1) := by decide +kernel
theorem dX5_weigh_36 : decode cX5_weigh 36 = .ok (.putfield 28, 3) := by decide +kernel
theorem dX5_weigh_39 : decode cX5_weigh 39 = .ok (.aload_n 0, 1) := by decide +kernel
theorem dX5_weigh_40 : decode cX5_weigh 40 = .ok (.aload_n 0, 1) := by decide +kernel
theorem dX5_weigh_41 : decode cX5_weigh 41 = .ok (.getfield 31, 3) := by decide +kernel
theorem dX5_weigh_44 : decode cX5_weigh 44 = .ok (.invokevirtual 41, 3) := by decide +kernel
theorem dX5_weigh_47 : decode cX5_weigh 47 = .ok (.bipush 10, 2) := by decide +kernel
theorem dX5_weigh_49 : decode cX5_weigh 49 = .ok (.invokestatic 44, 3) := by decide +kernel
theorem dX5_weigh_52 : decode cX5_weigh 52 = .ok (.putfield 50, 3) := by decide +kernel
theorem dX5_weigh_55 : decode cX5_weigh 55 = .ok (.aload_n 0, 1) := by decide +kernel
theorem dX5_weigh_56 : decode cX5_weigh 56 = .ok (.aload_n 0, 1) := by decide +kernel
theorem dX5_weigh_57 : decode cX5_weigh 57 = .ok (.getfield 31, 3) := by decide +kernel
theorem dX5_weigh_60 : decode cX5_weigh 60 = .ok (.iconst 3, 1) := by decide +kernel
theorem dX5_weigh_61 : decode cX5_weigh 61 = .ok (.invokevirtual 52, 3) := by decide +kernel
theorem dX5_weigh_64 : decode cX5_weigh 64 = .ok (.putfield 56, 3) := by decide +kernel
theorem dX5_weigh_67 : decode cX5_weigh 67 = .ok (.iconst 0, 1) := by decide +kernel
theorem dX5_weigh_68 : decode cX5_weigh 68 = .ok (.istore_n 2, 1) := by decide +kernel
theorem dX5_weigh_69 : decode cX5_weigh 69 = .ok (.iload_n 2, 1) := by decide +kernel
theorem dX5_weigh_70 : decode cX5_weigh 70 = .ok (.aload_n 0, 1) := by decide +kernel
theorem dX5_weigh_71 : decode cX5_weigh 71 = .ok (.getfield 50, 3) := by decide +kernel
theorem dX5_weigh_74 : decode cX5_weigh 74 = .ok (.if_icmp .ge 63, 3) := by decide +kernel
theorem dX5_weigh_77 : decode cX5_weigh 77 = .ok (.iconst 0, 1) := by decide +kernel
theorem dX5_weigh_78 : decode cX5_weigh 78 = .ok (.istore_n 3, 1) := by decide +kernel
theorem dX5_weigh_79 : decode cX5_weigh 79 = .ok (.iload_n 3, 1) := by decide +kernel
theorem dX5_weigh_80 : decode cX5_weigh 80 = .ok (.aload_n 0, 1) := by decide +kernel
theorem dX5_weigh_81 : decode cX5_weigh 81 = .ok (.getfield 50, 3) := by decide +kernel
theorem dX5_weigh_84 : decode cX5_weigh 84 = .ok (.if_icmp .ge 47, 3) := by decide +kernel
theorem dX5_weigh_87 : decode cX5_weigh 87 = .ok (.aload_n 0, 1) := by decide +kernel
theorem dX5_weigh_88 : decode cX5_weigh 88 = .ok (.getfield 9, 3) := by decide +kernel
theorem dX5_weigh_91 : decode cX5_weigh 91 = .ok (.iload_n 2, 1) := by decide +kernel
theorem dX5_weigh_92 : decode cX5_weigh 92 = .ok (.bipush 10, 2) := by decide +kernel
theorem dX5_weigh_94 : decode cX5_weigh 94 = .ok (.imul, 1) := by decide +kernel
theorem dX5_weigh_95 : decode cX5_weigh 95 = .ok (.iload_n 3, 1) := by decide +kernel
theorem dX5_weigh_96 : decode cX5_weigh 96 = .ok (.iadd, 1) := by decide +kernel
theorem dX5_weigh_97 : decode cX5_weigh 97 = .ok (.iload_n 2, 1) := by decide +kernel
theorem dX5_weigh_98 : decode cX5_weigh 98 = .ok (.iload_n 1, 1) := by decide +kernel
theorem dX5_weigh_99 : decode cX5_weigh 99 = .ok (.if_icmp .eq 8, 3) := by decide +kernel
theorem dX5_weigh_102 : decode cX5_weigh 102 = .ok (.iload_n 3, 1) := by decide +kernel
theorem dX5_weigh_103 : decode cX5_weigh 103 = .ok (.iload_n 1, 1) := by decide +kernel
theorem dX5_weigh_104 : decode cX5_weigh 104 = .ok (.if_icmp .ne 8, 3) := by decide +kernel
theorem dX5_weigh_107 : decode cX5_weigh 107 = .ok (.ldc 59, 2) := by decide +kernel
theorem dX5_weigh_109 : decode cX5_weigh 109 = .ok (.goto 15, 3) := by decide +kernel
theorem dX5_weigh_112 : decode cX5_weigh 112 = .ok (.aload_n 0, 1) := by decide +kernel
theorem dX5_weigh_113 : decode cX5_weigh 113 = .ok (.getfield 31, 3) := by decide +kernel
theorem dX5_weigh_116 : decode cX5_weigh 116 = .ok (.iload_n 2, 1) := by decide +kernel
theorem dX5_weigh_117 : decode cX5_weigh 117 = .ok (.iload_n 3, 1) := by decide +kernel
theorem dX5_weigh_118 : decode cX5_weigh 118 = .ok (.invokevirtual 60, 3) := by decide +kernel
theorem dX5_weigh_121 : decode cX5_weigh 121 = .ok (.invokestatic 63, 3) := by decide +kernel
theorem dX5_weigh_124 : decode cX5_weigh 124 = .ok (.iastore, 1) := by decide +kernel
theorem dX5_weigh_125 : decode cX5_weigh 125 = .ok (.iinc 3 1, 3) := by decide +kernel
theorem dX5_weigh_128 : decode cX5_weigh 128 = .ok (.goto (-49), 3) := by decide +kernel
theorem dX5_weigh_131 : decode cX5_weigh 131 = .ok (.iinc 2 1, 3) := by decide +kernel
theorem dX5_weigh_134 : decode cX5_weigh 134 = .ok (.goto (-65), 3) := by decide +kernel
theorem dX5_weigh_137 : decode cX5_weigh 137 = .ok (.aload_n 0, 1) := by decide +kernel
theorem dX5_weigh_138 : decode cX5_weigh 138 = .ok (.getfield 50, 3) := by decide +kernel
theorem dX5_weigh_141 : decode cX5_weigh 141 = .ok (.ifCond .le 19, 3) := by decide +kernel
theorem dX5_weigh_144 : decode cX5_weigh 144 = .ok (.aload_n 0, 1) := by decide +kernel
theorem dX5_weigh_145 : decode cX5_weigh 145 = .ok (.getfield 15, 3) := by decide +kernel
theorem dX5_weigh_148 : decode cX5_weigh 148 = .ok (.aload_n 0, 1) := by decide +kernel
theorem dX5_weigh_149 : decode cX5_weigh 149 = .ok (.aload_n 0, 1) := by decide +kernel
theorem dX5_weigh_150 : decode cX5_weigh 150 = .ok (.getfield 50, 3) := by decide +kernel
theorem dX5_weigh_153 : decode cX5_weigh 153 = .ok (.iconst 1, 1) := by decide +kernel
theorem dX5_weigh_154 : decode cX5_weigh 154 = .ok (.isub, 1) := by decide +kernel
theorem dX5_weigh_155 : decode cX5_weigh 155 = .ok (.invokevirtual 66, 3) := by decide +kernel
theorem dX5_weigh_158 : decode cX5_weigh 158 = .ok (.iconst 0, 1) := by decide +kernel
theorem dX5_weigh_159 : decode cX5_weigh 159 = .ok (.iastore, 1) := by decide +kernel
theorem dX5_weigh_160 : decode cX5_weigh 160 = .ok (.aload_n 0, 1) := by decide +kernel
theorem dX5_weigh_161 : decode cX5_weigh 161 = .ok (.getfield 50, 3) := by decide +kernel
theorem dX5_weigh_164 : decode cX5_weigh 164 = .ok (.iconst 2, 1) := by decide +kernel
theorem dX5_weigh_165 : decode cX5_weigh 165 = .ok (.isub, 1) := by decide +kernel
theorem dX5_weigh_166 : decode cX5_weigh 166 = .ok (.istore_n 2, 1) := by decide +kernel
theorem dX5_weigh_167 : decode cX5_weigh 167 = .ok (.iload_n 2, 1) := by decide +kernel
theorem dX5_weigh_168 : decode cX5_weigh 168 = .ok (.ifCond .lt 14, 3) := by decide +kernel
theorem dX5_weigh_171 : decode cX5_weigh 171 = .ok (.aload_n 0, 1) := by decide +kernel
theorem dX5_weigh_172 : decode cX5_weigh 172 = .ok (.iload_n 2, 1) := by decide +kernel
theorem dX5_weigh_173 : decode cX5_weigh 173 = .ok (.invokevirtual 69, 3) := by decide +kernel
theorem dX5_weigh_176 : decode cX5_weigh 176 = .ok (.iinc 2 (-1), 3) := by decide +kernel
theorem dX5_weigh_179 : decode cX5_weigh 179 = .ok (.goto (-12), 3) := by decide +kernel
theorem dX5_weigh_182 : decode cX5_weigh 182 = .ok (.aload_n 0, 1) := by decide +kernel
theorem dX5_weigh_183 : decode cX5_weigh 183 = .ok (.invokevirtual 73, 3) := by decide +kernel
theorem dX5_weigh_186 : decode cX5_weigh 186 = .ok (.return_, 1) := by decide +kernel
theorem dX5_barredOr_0 : decode cX5_barredOr 0 = .ok (.iload_n 0, 1) := by decide +kernel
theorem dX5_barredOr_1 : decode cX5_barredOr 1 = .ok (.iconst (-1), 1) := by decide +kernel
theorem dX5_barredOr_2 : decode cX5_barredOr 2 = .ok (.if_icmp .ne 8, 3) := by decide +kernel
theorem dX5_barredOr_5 : decode cX5_barredOr 5 = .ok (.ldc 59, 2) := by decide +kernel
theorem dX5_barredOr_7 : decode cX5_barredOr 7 = .ok (.goto 4, 3) := by decide +kernel
theorem dX5_barredOr_10 : decode cX5_barredOr 10 = .ok (.iload_n 0, 1) := by decide +kernel
theorem dX5_barredOr_11 : decode cX5_barredOr 11 = .ok (.ireturn, 1) := by decide +kernel
theorem dX5_bit_0 : decode cX5_bit 0 = .ok (.iconst 1, 1) := by decide +kernel
theorem dX5_bit_1 : decode cX5_bit 1 = .ok (.aload_n 0, 1) := by decide +kernel
theorem dX5_bit_2 : decode cX5_bit 2 = .ok (.getfield 50, 3) := by decide +kernel
theorem dX5_bit_5 : decode cX5_bit 5 = .ok (.iconst 1, 1) := by decide +kernel
theorem dX5_bit_6 : decode cX5_bit 6 = .ok (.isub, 1) := by decide +kernel
theorem dX5_bit_7 : decode cX5_bit 7 = .ok (.iload_n 1, 1) := by decide +kernel
theorem dX5_bit_8 : decode cX5_bit 8 = .ok (.isub, 1) := by decide +kernel
theorem dX5_bit_9 : decode cX5_bit 9 = .ok (.ishl, 1) := by decide +kernel
theorem dX5_bit_10 : decode cX5_bit 10 = .ok (.ireturn, 1) := by decide +kernel
theorem dX5_lineCost_0 : decode cX5_lineCost 0 = .ok (.iload_n 1, 1) := by decide +kernel
theorem dX5_lineCost_1 : decode cX5_lineCost 1 = .ok (.ifCond .lt 33, 3) := by decide +kernel
theorem dX5_lineCost_4 : decode cX5_lineCost 4 = .ok (.iload_n 1, 1) := by decide +kernel
theorem dX5_lineCost_5 : decode cX5_lineCost 5 = .ok (.bipush 10, 2) := by decide +kernel
theorem dX5_lineCost_7 : decode cX5_lineCost 7 = .ok (.if_icmp .ge 27, 3) := by decide +kernel
theorem dX5_lineCost_10 : decode cX5_lineCost 10 = .ok (.iload_n 2, 1) := by decide +kernel
theorem dX5_lineCost_11 : decode cX5_lineCost 11 = .ok (.ifCond .lt 23, 3) := by decide +kernel
theorem dX5_lineCost_14 : decode cX5_lineCost 14 = .ok (.iload_n 2, 1) := by decide +kernel
theorem dX5_lineCost_15 : decode cX5_lineCost 15 = .ok (.bipush 10, 2) := by decide +kernel
theorem dX5_lineCost_17 : decode cX5_lineCost 17 = .ok (.if_icmp .ge 17, 3) := by decide +kernel
theorem dX5_lineCost_20 : decode cX5_lineCost 20 = .ok (.aload_n 0, 1) := by decide +kernel
theorem dX5_lineCost_21 : decode cX5_lineCost 21 = .ok (.getfield 9, 3) := by decide +kernel
theorem dX5_lineCost_24 : decode cX5_lineCost 24 = .ok (.iload_n 1, 1) := by decide +kernel
theorem dX5_lineCost_25 : decode cX5_lineCost 25 = .ok (.bipush 10, 2) := by decide +kernel
theorem dX5_lineCost_27 : decode cX5_lineCost 27 = .ok (.imul, 1) := by decide +kernel
theorem dX5_lineCost_28 : decode cX5_lineCost 28 = .ok (.iload_n 2, 1) := by decide +kernel
theorem dX5_lineCost_29 : decode cX5_lineCost 29 = .ok (.iadd, 1) := by decide +kernel
theorem dX5_lineCost_30 : decode cX5_lineCost 30 = .ok (.iaload, 1) := by decide +kernel
theorem dX5_lineCost_31 : decode cX5_lineCost 31 = .ok (.goto 5, 3) := by decide +kernel
theorem dX5_lineCost_34 : decode cX5_lineCost 34 = .ok (.ldc 59, 2) := by decide +kernel
theorem dX5_lineCost_36 : decode cX5_lineCost 36 = .ok (.ireturn, 1) := by decide +kernel
theorem dX5_weighFrom_0 : decode cX5_weighFrom 0 = .ok (.aload_n 0, 1) := by decide +kernel
theorem dX5_weighFrom_1 : decode cX5_weighFrom 1 = .ok (.iload_n 1, 1) := by decide +kernel
theorem dX5_weighFrom_2 : decode cX5_weighFrom 2 = .ok (.iconst 1, 1) := by decide +kernel
theorem dX5_weighFrom_3 : decode cX5_weighFrom 3 = .ok (.iadd, 1) := by decide +kernel
theorem dX5_weighFrom_4 : decode cX5_weighFrom 4 = .ok (.invokevirtual 66, 3) := by decide +kernel
theorem dX5_weighFrom_7 : decode cX5_weighFrom 7 = .ok (.istore_n 2, 1) := by decide +kernel
theorem dX5_weighFrom_8 : decode cX5_weighFrom 8 = .ok (.iconst 0, 1) := by decide +kernel
theorem dX5_weighFrom_9 : decode cX5_weighFrom 9 = .ok (.istore_n 3, 1) := by decide +kernel
theorem dX5_weighFrom_10 : decode cX5_weighFrom 10 = .ok (.iload_n 3, 1) := by decide +kernel
theorem dX5_weighFrom_11 : decode cX5_weighFrom 11 = .ok (.iload_n 2, 1) := by decide +kernel
theorem dX5_weighFrom_12 : decode cX5_weighFrom 12 = .ok (.if_icmp .ge 39, 3) := by decide +kernel
theorem dX5_weighFrom_15 : decode cX5_weighFrom 15 = .ok (.aload_n 0, 1) := by decide +kernel
theorem dX5_weighFrom_16 : decode cX5_weighFrom 16 = .ok (.getfield 15, 3) := by decide +kernel
theorem dX5_weighFrom_19 : decode cX5_weighFrom 19 = .ok (.iconst 2, 1) := by decide +kernel
theorem dX5_weighFrom_20 : decode cX5_weighFrom 20 = .ok (.iload_n 2, 1) := by decide +kernel
theorem dX5_weighFrom_21 : decode cX5_weighFrom 21 = .ok (.imul, 1) := by decide +kernel
theorem dX5_weighFrom_22 : decode cX5_weighFrom 22 = .ok (.iload_n 3, 1) := by decide +kernel
theorem dX5_weighFrom_23 : decode cX5_weighFrom 23 = .ok (.iadd, 1) := by decide +kernel
theorem dX5_weighFrom_24 : decode cX5_weighFrom 24 = .ok (.aload_n 0, 1) := by decide +kernel
theorem dX5_weighFrom_25 : decode cX5_weighFrom 25 = .ok (.getfield 15, 3) := by decide +kernel
theorem dX5_weighFrom_28 : decode cX5_weighFrom 28 = .ok (.iload_n 2, 1) := by decide +kernel
theorem dX5_weighFrom_29 : decode cX5_weighFrom 29 = .ok (.iload_n 3, 1) := by decide +kernel
theorem dX5_weighFrom_30 : decode cX5_weighFrom 30 = .ok (.iadd, 1) := by decide +kernel
theorem dX5_weighFrom_31 : decode cX5_weighFrom 31 = .ok (.iaload, 1) := by decide +kernel
theorem dX5_weighFrom_32 : decode cX5_weighFrom 32 = .ok (.iastore, 1) := by decide +kernel
theorem dX5_weighFrom_33 : decode cX5_weighFrom 33 = .ok (.aload_n 0, 1) := by decide +kernel
theorem dX5_weighFrom_34 : decode cX5_weighFrom 34 = .ok (.getfield 15, 3) := by decide +kernel
theorem dX5_weighFrom_37 : decode cX5_weighFrom 37 = .ok (.iconst 3, 1) := by decide +kernel
theorem dX5_weighFrom_38 : decode cX5_weighFrom 38 = .ok (.iload_n 2, 1) := by decide +kernel
theorem dX5_weighFrom_39 : decode cX5_weighFrom 39 = .ok (.imul, 1) := by decide +kernel
theorem dX5_weighFrom_40 : decode cX5_weighFrom 40 = .ok (.iload_n 3, 1) := by decide +kernel
theorem dX5_weighFrom_41 : decode cX5_weighFrom 41 = .ok (.iadd, 1) := by decide +kernel
theorem dX5_weighFrom_42 : decode cX5_weighFrom 42 = .ok (.ldc 59, 2) := by decide +kernel
theorem dX5_weighFrom_44 : decode cX5_weighFrom 44 = .ok (.iastore, 1) := by decide +kernel
theorem dX5_weighFrom_45 : decode cX5_weighFrom 45 = .ok (.iinc 3 1, 3) := by decide +kernel
theorem dX5_weighFrom_48 : decode cX5_weighFrom 48 = .ok (.goto (-38), 3) := by decide +kernel
theorem dX5_weighFrom_51 : decode cX5_weighFrom 51 = .ok (.iload_n 1, 1) := by decide +kernel
theorem dX5_weighFrom_52 : decode cX5_weighFrom 52 = .ok (.iconst 1, 1) := by decide +kernel
theorem dX5_weighFrom_53 : decode cX5_weighFrom 53 = .ok (.iadd, 1) := by decide +kernel
theorem dX5_weighFrom_54 : decode cX5_weighFrom 54 = .ok (.istore_n 3, 1) := by decide +kernel
theorem dX5_weighFrom_55 : decode cX5_weighFrom 55 = .ok (.iload_n 3, 1) := by decide +kernel
theorem dX5_weighFrom_56 : decode cX5_weighFrom 56 = .ok (.aload_n 0, 1) := by decide +kernel
theorem dX5_weighFrom_57 : decode cX5_weighFrom 57 = .ok (.getfield 50, 3) := by decide +kernel
theorem dX5_weighFrom_60 : decode cX5_weighFrom 60 = .ok (.if_icmp .ge 36, 3) := by decide +kernel
theorem dX5_weighFrom_63 : decode cX5_weighFrom 63 = .ok (.aload_n 0, 1) := by decide +kernel
theorem dX5_weighFrom_64 : decode cX5_weighFrom 64 = .ok (.iload_n 1, 1) := by decide +kernel
theorem dX5_weighFrom_65 : decode cX5_weighFrom 65 = .ok (.iload_n 3, 1) := by decide +kernel
theorem dX5_weighFrom_66 : decode cX5_weighFrom 66 = .ok (.invokevirtual 76, 3) := by decide +kernel
theorem dX5_weighFrom_69 : decode cX5_weighFrom 69 = .ok (.ldc 59, 2) := by decide +kernel
theorem dX5_weighFrom_71 : decode cX5_weighFrom 71 = .ok (.if_icmp .ge 19, 3) := by decide +kernel
theorem dX5_weighFrom_74 : decode cX5_weighFrom 74 = .ok (.aload_n 0, 1) := by decide +kernel
theorem dX5_weighFrom_75 : decode cX5_weighFrom 75 = .ok (.iload_n 2, 1) := by decide +kernel
theorem dX5_weighFrom_76 : decode cX5_weighFrom 76 = .ok (.aload_n 0, 1) := by decide +kernel
theorem dX5_weighFrom_77 : decode cX5_weighFrom 77 = .ok (.iload_n 3, 1) := by decide +kernel
theorem dX5_weighFrom_78 : decode cX5_weighFrom 78 = .ok (.invokevirtual 66, 3) := by decide +kernel
theorem dX5_weighFrom_81 : decode cX5_weighFrom 81 = .ok (.aload_n 0, 1) := by decide +kernel
theorem dX5_weighFrom_82 : decode cX5_weighFrom 82 = .ok (.iload_n 1, 1) := by decide +kernel
theorem dX5_weighFrom_83 : decode cX5_weighFrom 83 = .ok (.iload_n 3, 1) := by decide +kernel
theorem dX5_weighFrom_84 : decode cX5_weighFrom 84 = .ok (.invokevirtual 76, 3) := by decide +kernel
theorem dX5_weighFrom_87 : decode cX5_weighFrom 87 = .ok (.invokevirtual 79, 3) := by decide +kernel
theorem dX5_weighFrom_90 : decode cX5_weighFrom 90 = .ok (.iinc 3 1, 3) := by decide +kernel
theorem dX5_weighFrom_93 : decode cX5_weighFrom 93 = .ok (.goto (-38), 3) := by decide +kernel
theorem dX5_weighFrom_96 : decode cX5_weighFrom 96 = .ok (.return_, 1) := by decide +kernel
theorem dX5_weighLine_0 : decode cX5_weighLine 0 = .ok (.iconst 0, 1) := by decide +kernel
theorem dX5_weighLine_1 : decode cX5_weighLine 1 = .ok (.istore 4, 2) := by decide +kernel
theorem dX5_weighLine_3 : decode cX5_weighLine 3 = .ok (.iload 4, 2) := by decide +kernel
theorem dX5_weighLine_5 : decode cX5_weighLine 5 = .ok (.iload_n 1, 1) := by decide +kernel
theorem dX5_weighLine_6 : decode cX5_weighLine 6 = .ok (.if_icmp .ge 54, 3) := by decide +kernel
theorem dX5_weighLine_9 : decode cX5_weighLine 9 = .ok (.iload 4, 2) := by decide +kernel
theorem dX5_weighLine_11 : decode cX5_weighLine 11 = .ok (.iload_n 2, 1) := by decide +kernel
theorem dX5_weighLine_12 : decode cX5_weighLine 12 = .ok (.iand, 1) := by decide +kernel
theorem dX5_weighLine_13 : decode cX5_weighLine 13 = .ok (.ifCond .ne 41, 3) := by decide +kernel
theorem dX5_weighLine_16 : decode cX5_weighLine 16 = .ok (.iconst 2, 1) := by decide +kernel
theorem dX5_weighLine_17 : decode cX5_weighLine 17 = .ok (.iload_n 1, 1) := by decide +kernel
theorem dX5_weighLine_18 : decode cX5_weighLine 18 = .ok (.imul, 1) := by decide +kernel
theorem dX5_weighLine_19 : decode cX5_weighLine 19 = .ok (.iload 4, 2) := by decide +kernel
theorem dX5_weighLine_21 : decode cX5_weighLine 21 = .ok (.iadd, 1) := by decide +kernel
theorem dX5_weighLine_22 : decode cX5_weighLine 22 = .ok (.iload_n 2, 1) := by decide +kernel
theorem dX5_weighLine_23 : decode cX5_weighLine 23 = .ok (.iadd, 1) := by decide +kernel
theorem dX5_weighLine_24 : decode cX5_weighLine 24 = .ok (.istore 5, 2) := by decide +kernel
theorem dX5_weighLine_26 : decode cX5_weighLine 26 = .ok (.aload_n 0, 1) := by decide +kernel
theorem dX5_weighLine_27 : decode cX5_weighLine 27 = .ok (.getfield 15, 3) := by decide +kernel
theorem dX5_weighLine_30 : decode cX5_weighLine 30 = .ok (.iload 5, 2) := by decide +kernel
theorem dX5_weighLine_32 : decode cX5_weighLine 32 = .ok (.aload_n 0, 1) := by decide +kernel
theorem dX5_weighLine_33 : decode cX5_weighLine 33 = .ok (.getfield 15, 3) := by decide +kernel
theorem dX5_weighLine_36 : decode cX5_weighLine 36 = .ok (.iload 5, 2) := by decide +kernel
theorem dX5_weighLine_38 : decode cX5_weighLine 38 = .ok (.iaload, 1) := by decide +kernel
theorem dX5_weighLine_39 : decode cX5_weighLine 39 = .ok (.iload_n 3, 1) := by decide +kernel
theorem dX5_weighLine_40 : decode cX5_weighLine 40 = .ok (.aload_n 0, 1) := by decide +kernel
theorem dX5_weighLine_41 : decode cX5_weighLine 41 = .ok (.getfield 15, 3) := by decide +kernel
theorem dX5_weighLine_44 : decode cX5_weighLine 44 = .ok (.iload_n 1, 1) := by decide +kernel
theorem dX5_weighLine_45 : decode cX5_weighLine 45 = .ok (.iload 4, 2) := by decide +kernel
theorem dX5_weighLine_47 : decode cX5_weighLine 47 = .ok (.iadd, 1) := by decide +kernel
theorem dX5_weighLine_48 : decode cX5_weighLine 48 = .ok (.iaload, 1) := by decide +kernel
theorem dX5_weighLine_49 : decode cX5_weighLine 49 = .ok (.iadd, 1) := by decide +kernel
theorem dX5_weighLine_50 : decode cX5_weighLine 50 = .ok (.invokestatic 44, 3) := by decide +kernel
theorem dX5_weighLine_53 : decode cX5_weighLine 53 = .ok (.iastore, 1) := by decide +kernel
theorem dX5_weighLine_54 : decode cX5_weighLine 54 = .ok (.iinc 4 1, 3) := by decide +kernel
theorem dX5_weighLine_57 : decode cX5_weighLine 57 = .ok (.goto (-54), 3) := by decide +kernel
theorem dX5_weighLine_60 : decode cX5_weighLine 60 = .ok (.return_, 1) := by decide +kernel
theorem dX5_findLeast_0 : decode cX5_findLeast 0 = .ok (.aload_n 0, 1) := by decide +kernel
theorem dX5_findLeast_1 : decode cX5_findLeast 1 = .ok (.getfield 18, 3) := by decide +kernel
theorem dX5_findLeast_4 : decode cX5_findLeast 4 = .ok (.iconst (-1), 1) := by decide +kernel
theorem dX5_findLeast_5 : decode cX5_findLeast 5 = .ok (.invokestatic 83, 3) := by decide +kernel
theorem dX5_findLeast_8 : decode cX5_findLeast 8 = .ok (.aload_n 0, 1) := by decide +kernel
theorem dX5_findLeast_9 : decode cX5_findLeast 9 = .ok (.getfield 50, 3) := by decide +kernel
theorem dX5_findLeast_12 : decode cX5_findLeast 12 = .ok (.ifCond .ne 11, 3) := by decide +kernel
theorem dX5_findLeast_15 : decode cX5_findLeast 15 = .ok (.aload_n 0, 1) := by decide +kernel
theorem dX5_findLeast_16 : decode cX5_findLeast 16 = .ok (.getfield 18, 3) := by decide +kernel
theorem dX5_findLeast_19 : decode cX5_findLeast 19 = .ok (.iconst 0, 1) := by decide +kernel
theorem dX5_findLeast_20 : decode cX5_findLeast 20 = .ok (.iconst 0, 1) := by decide +kernel
theorem dX5_findLeast_21 : decode cX5_findLeast 21 = .ok (.iastore, 1) := by decide +kernel
theorem dX5_findLeast_22 : decode cX5_findLeast 22 = .ok (.return_, 1) := by decide +kernel
theorem dX5_findLeast_23 : decode cX5_findLeast 23 = .ok (.aload_n 0, 1) := by decide +kernel
theorem dX5_findLeast_24 : decode cX5_findLeast 24 = .ok (.iconst 0, 1) := by decide +kernel
theorem dX5_findLeast_25 : decode cX5_findLeast 25 = .ok (.invokevirtual 66, 3) := by decide +kernel
theorem dX5_findLeast_28 : decode cX5_findLeast 28 = .ok (.istore_n 1, 1) := by decide +kernel
theorem dX5_findLeast_29 : decode cX5_findLeast 29 = .ok (.iconst 0, 1) := by decide +kernel
theorem dX5_findLeast_30 : decode cX5_findLeast 30 = .ok (.istore_n 2, 1) := by decide +kernel
theorem dX5_findLeast_31 : decode cX5_findLeast 31 = .ok (.iload_n 2, 1) := by decide +kernel
theorem dX5_findLeast_32 : decode cX5_findLeast 32 = .ok (.iload_n 1, 1) := by decide +kernel
theorem dX5_findLeast_33 : decode cX5_findLeast 33 = .ok (.if_icmp .ge 38, 3) := by decide +kernel
theorem dX5_findLeast_36 : decode cX5_findLeast 36 = .ok (.aload_n 0, 1) := by decide +kernel
theorem dX5_findLeast_37 : decode cX5_findLeast 37 = .ok (.getfield 15, 3) := by decide +kernel
theorem dX5_findLeast_40 : decode cX5_findLeast 40 = .ok (.iload_n 1, 1) := by decide +kernel
theorem dX5_findLeast_41 : decode cX5_findLeast 41 = .ok (.iload_n 2, 1) := by decide +kernel
theorem dX5_findLeast_42 : decode cX5_findLeast 42 = .ok (.iadd, 1) := by decide +kernel
theorem dX5_findLeast_43 : decode cX5_findLeast 43 = .ok (.iaload, 1) := by decide +kernel
theorem dX5_findLeast_44 : decode cX5_findLeast 44 = .ok (.istore_n 3, 1) := by decide +kernel
theorem dX5_findLeast_45 : decode cX5_findLeast 45 = .ok (.iload_n 3, 1) := by decide +kernel
theorem dX5_findLeast_46 : decode cX5_findLeast 46 = .ok (.ldc 59, 2) := by decide +kernel
theorem dX5_findLeast_48 : decode cX5_findLeast 48 = .ok (.if_icmp .ge 17, 3) := by decide +kernel
theorem dX5_findLeast_51 : decode cX5_findLeast 51 = .ok (.aload_n 0, 1) := by decide +kernel
theorem dX5_findLeast_52 : decode cX5_findLeast 52 = .ok (.aload_n 0, 1) := by decide +kernel
theorem dX5_findLeast_53 : decode cX5_findLeast 53 = .ok (.getfield 50, 3) := by decide +kernel
theorem dX5_findLeast_56 : decode cX5_findLeast 56 = .ok (.iload_n 2, 1) := by decide +kernel
theorem dX5_findLeast_57 : decode cX5_findLeast 57 = .ok (.invokestatic 89, 3) := by decide +kernel
theorem dX5_findLeast_60 : decode cX5_findLeast 60 = .ok (.isub, 1) := by decide +kernel
theorem dX5_findLeast_61 : decode cX5_findLeast 61 = .ok (.iload_n 3, 1) := by decide +kernel
theorem dX5_findLeast_62 : decode cX5_findLeast 62 = .ok (.invokevirtual 94, 3) := by decide +kernel
theorem dX5_findLeast_65 : decode cX5_findLeast 65 = .ok (.iinc 2 1, 3) := by decide +kernel
theorem dX5_findLeast_68 : decode cX5_findLeast 68 = .ok (.goto (-37), 3) := by decide +kernel
theorem dX5_findLeast_71 : decode cX5_findLeast 71 = .ok (.return_, 1) := by decide +kernel
theorem dX5_offer_0 : decode cX5_offer 0 = .ok (.iload_n 2, 1) := by decide +kernel
theorem dX5_offer_1 : decode cX5_offer 1 = .ok (.iload_n 1, 1) := by decide +kernel
theorem dX5_offer_2 : decode cX5_offer 2 = .ok (.aload_n 0, 1) := by decide +kernel
theorem dX5_offer_3 : decode cX5_offer 3 = .ok (.getfield 56, 3) := by decide +kernel
theorem dX5_offer_6 : decode cX5_offer 6 = .ok (.imul, 1) := by decide +kernel
theorem dX5_offer_7 : decode cX5_offer 7 = .ok (.iadd, 1) := by decide +kernel
theorem dX5_offer_8 : decode cX5_offer 8 = .ok (.istore_n 3, 1) := by decide +kernel
theorem dX5_offer_9 : decode cX5_offer 9 = .ok (.iload_n 1, 1) := by decide +kernel
theorem dX5_offer_10 : decode cX5_offer 10 = .ok (.invokestatic 98, 3) := by decide +kernel
theorem dX5_offer_13 : decode cX5_offer 13 = .ok (.ifCond .eq 30, 3) := by decide +kernel
theorem dX5_offer_16 : decode cX5_offer 16 = .ok (.aload_n 0, 1) := by decide +kernel
theorem dX5_offer_17 : decode cX5_offer 17 = .ok (.getfield 18, 3) := by decide +kernel
theorem dX5_offer_20 : decode cX5_offer 20 = .ok (.iload_n 1, 1) := by decide +kernel
theorem dX5_offer_21 : decode cX5_offer 21 = .ok (.iaload, 1) := by decide +kernel
theorem dX5_offer_22 : decode cX5_offer 22 = .ok (.iconst (-1), 1) := by decide +kernel
theorem dX5_offer_23 : decode cX5_offer 23 = .ok (.if_icmp .eq 13, 3) := by decide +kernel
theorem dX5_offer_26 : decode cX5_offer 26 = .ok (.iload_n 3, 1) := by decide +kernel
theorem dX5_offer_27 : decode cX5_offer 27 = .ok (.aload_n 0, 1) := by decide +kernel
theorem dX5_offer_28 : decode cX5_offer 28 = .ok (.getfield 18, 3) := by decide +kernel
theorem dX5_offer_31 : decode cX5_offer 31 = .ok (.iload_n 1, 1) := by decide +kernel
theorem dX5_offer_32 : decode cX5_offer 32 = .ok (.iaload, 1) := by decide +kernel
theorem dX5_offer_33 : decode cX5_offer 33 = .ok (.if_icmp .ge 10, 3) := by decide +kernel
theorem dX5_offer_36 : decode cX5_offer 36 = .ok (.aload_n 0, 1) := by decide +kernel
theorem dX5_offer_37 : decode cX5_offer 37 = .ok (.getfield 18, 3) := by decide +kernel
theorem dX5_offer_40 : decode cX5_offer 40 = .ok (.iload_n 1, 1) := by decide +kernel
theorem dX5_offer_41 : decode cX5_offer 41 = .ok (.iload_n 3, 1) := by decide +kernel
theorem dX5_offer_42 : decode cX5_offer 42 = .ok (.iastore, 1) := by decide +kernel
theorem dX5_offer_43 : decode cX5_offer 43 = .ok (.return_, 1) := by decide +kernel
theorem dX5_leastCost_0 : decode cX5_leastCost 0 = .ok (.iload_n 1, 1) := by decide +kernel
theorem dX5_leastCost_1 : decode cX5_leastCost 1 = .ok (.invokestatic 98, 3) := by decide +kernel
theorem dX5_leastCost_4 : decode cX5_leastCost 4 = .ok (.ifCond .eq 12, 3) := by decide +kernel
theorem dX5_leastCost_7 : decode cX5_leastCost 7 = .ok (.aload_n 0, 1) := by decide +kernel
theorem dX5_leastCost_8 : decode cX5_leastCost 8 = .ok (.getfield 18, 3) := by decide +kernel
theorem dX5_leastCost_11 : decode cX5_leastCost 11 = .ok (.iload_n 1, 1) := by decide +kernel
theorem dX5_leastCost_12 : decode cX5_leastCost 12 = .ok (.iaload, 1) := by decide +kernel
theorem dX5_leastCost_13 : decode cX5_leastCost 13 = .ok (.goto 4, 3) := by decide +kernel
theorem dX5_leastCost_16 : decode cX5_leastCost 16 = .ok (.iconst (-1), 1) := by decide +kernel
theorem dX5_leastCost_17 : decode cX5_leastCost 17 = .ok (.ireturn, 1) := by decide +kernel
theorem dX5_fewest_0 : decode cX5_fewest 0 = .ok (.iconst 0, 1) := by decide +kernel
theorem dX5_fewest_1 : decode cX5_fewest 1 = .ok (.istore_n 1, 1) := by decide +kernel
theorem dX5_fewest_2 : decode cX5_fewest 2 = .ok (.iload_n 1, 1) := by decide +kernel
theorem dX5_fewest_3 : decode cX5_fewest 3 = .ok (.bipush 10, 2) := by decide +kernel
theorem dX5_fewest_5 : decode cX5_fewest 5 = .ok (.if_icmp .gt 21, 3) := by decide +kernel
theorem dX5_fewest_8 : decode cX5_fewest 8 = .ok (.aload_n 0, 1) := by decide +kernel
theorem dX5_fewest_9 : decode cX5_fewest 9 = .ok (.getfield 18, 3) := by decide +kernel
theorem dX5_fewest_12 : decode cX5_fewest 12 = .ok (.iload_n 1, 1) := by decide +kernel
theorem dX5_fewest_13 : decode cX5_fewest 13 = .ok (.iaload, 1) := by decide +kernel
theorem dX5_fewest_14 : decode cX5_fewest 14 = .ok (.iconst (-1), 1) := by decide +kernel
theorem dX5_fewest_15 : decode cX5_fewest 15 = .ok (.if_icmp .eq 5, 3) := by decide +kernel
theorem dX5_fewest_18 : decode cX5_fewest 18 = .ok (.iload_n 1, 1) := by decide +kernel
theorem dX5_fewest_19 : decode cX5_fewest 19 = .ok (.ireturn, 1) := by decide +kernel
theorem dX5_fewest_20 : decode cX5_fewest 20 = .ok (.iinc 1 1, 3) := by decide +kernel
theorem dX5_fewest_23 : decode cX5_fewest 23 = .ok (.goto (-21), 3) := by decide +kernel
theorem dX5_fewest_26 : decode cX5_fewest 26 = .ok (.iconst 0, 1) := by decide +kernel
theorem dX5_fewest_27 : decode cX5_fewest 27 = .ok (.ireturn, 1) := by decide +kernel
theorem dX5_cheapest_0 : decode cX5_cheapest 0 = .ok (.aload_n 0, 1) := by decide +kernel
theorem dX5_cheapest_1 : decode cX5_cheapest 1 = .ok (.invokevirtual 102, 3) := by decide +kernel
theorem dX5_cheapest_4 : decode cX5_cheapest 4 = .ok (.istore_n 1, 1) := by decide +kernel
theorem dX5_cheapest_5 : decode cX5_cheapest 5 = .ok (.iload_n 1, 1) := by decide +kernel
theorem dX5_cheapest_6 : decode cX5_cheapest 6 = .ok (.iconst 1, 1) := by decide +kernel
theorem dX5_cheapest_7 : decode cX5_cheapest 7 = .ok (.iadd, 1) := by decide +kernel
theorem dX5_cheapest_8 : decode cX5_cheapest 8 = .ok (.istore_n 2, 1) := by decide +kernel
theorem dX5_cheapest_9 : decode cX5_cheapest 9 = .ok (.iload_n 2, 1) := by decide +kernel
theorem dX5_cheapest_10 : decode cX5_cheapest 10 = .ok (.bipush 10, 2) := by decide +kernel
theorem dX5_cheapest_12 : decode cX5_cheapest 12 = .ok (.if_icmp .gt 35, 3) := by decide +kernel
theorem dX5_cheapest_15 : decode cX5_cheapest 15 = .ok (.aload_n 0, 1) := by decide +kernel
theorem dX5_cheapest_16 : decode cX5_cheapest 16 = .ok (.getfield 18, 3) := by decide +kernel
theorem dX5_cheapest_19 : decode cX5_cheapest 19 = .ok (.iload_n 2, 1) := by decide +kernel
theorem dX5_cheapest_20 : decode cX5_cheapest 20 = .ok (.iaload, 1) := by decide +kernel
theorem dX5_cheapest_21 : decode cX5_cheapest 21 = .ok (.iconst (-1), 1) := by decide +kernel
theorem dX5_cheapest_22 : decode cX5_cheapest 22 = .ok (.if_icmp .eq 19, 3) := by decide +kernel
theorem dX5_cheapest_25 : decode cX5_cheapest 25 = .ok (.aload_n 0, 1) := by decide +kernel
theorem dX5_cheapest_26 : decode cX5_cheapest 26 = .ok (.getfield 18, 3) := by decide +kernel
theorem dX5_cheapest_29 : decode cX5_cheapest 29 = .ok (.iload_n 2, 1) := by decide +kernel
theorem dX5_cheapest_30 : decode cX5_cheapest 30 = .ok (.iaload, 1) := by decide +kernel
theorem dX5_cheapest_31 : decode cX5_cheapest 31 = .ok (.aload_n 0, 1) := by decide +kernel
theorem dX5_cheapest_32 : decode cX5_cheapest 32 = .ok (.iload_n 1, 1) := by decide +kernel
theorem dX5_cheapest_33 : decode cX5_cheapest 33 = .ok (.invokevirtual 105, 3) := by decide +kernel
theorem dX5_cheapest_36 : decode cX5_cheapest 36 = .ok (.if_icmp .ge 5, 3) := by decide +kernel
theorem dX5_cheapest_39 : decode cX5_cheapest 39 = .ok (.iload_n 2, 1) := by decide +kernel
theorem dX5_cheapest_40 : decode cX5_cheapest 40 = .ok (.istore_n 1, 1) := by decide +kernel
theorem dX5_cheapest_41 : decode cX5_cheapest 41 = .ok (.iinc 2 1, 3) := by decide +kernel
theorem dX5_cheapest_44 : decode cX5_cheapest 44 = .ok (.goto (-35), 3) := by decide +kernel
theorem dX5_cheapest_47 : decode cX5_cheapest 47 = .ok (.iload_n 1, 1) := by decide +kernel
theorem dX5_cheapest_48 : decode cX5_cheapest 48 = .ok (.ireturn, 1) := by decide +kernel
theorem dX5_cheapestCost_0 : decode cX5_cheapestCost 0 = .ok (.aload_n 0, 1) := by decide +kernel
theorem dX5_cheapestCost_1 : decode cX5_cheapestCost 1 = .ok (.aload_n 0, 1) := by decide +kernel
theorem dX5_cheapestCost_2 : decode cX5_cheapestCost 2 = .ok (.invokevirtual 108, 3) := by decide +kernel
theorem dX5_cheapestCost_5 : decode cX5_cheapestCost 5 = .ok (.invokevirtual 105, 3) := by decide +kernel
theorem dX5_cheapestCost_8 : decode cX5_cheapestCost 8 = .ok (.ireturn, 1) := by decide +kernel
theorem dX5_price_0 : decode cX5_price 0 = .ok (.aload_n 0, 1) := by decide +kernel
theorem dX5_price_1 : decode cX5_price 1 = .ok (.iconst (-1), 1) := by decide +kernel
theorem dX5_price_2 : decode cX5_price 2 = .ok (.invokevirtual 111, 3) := by decide +kernel
theorem dX5_price_5 : decode cX5_price 5 = .ok (.aload_n 0, 1) := by decide +kernel
theorem dX5_price_6 : decode cX5_price 6 = .ok (.invokevirtual 114, 3) := by decide +kernel
theorem dX5_price_9 : decode cX5_price 9 = .ok (.istore_n 2, 1) := by decide +kernel
theorem dX5_price_10 : decode cX5_price 10 = .ok (.aload_n 0, 1) := by decide +kernel
theorem dX5_price_11 : decode cX5_price 11 = .ok (.iload_n 1, 1) := by decide +kernel
theorem dX5_price_12 : decode cX5_price 12 = .ok (.invokevirtual 111, 3) := by decide +kernel
theorem dX5_price_15 : decode cX5_price 15 = .ok (.iload_n 2, 1) := by decide +kernel
theorem dX5_price_16 : decode cX5_price 16 = .ok (.aload_n 0, 1) := by decide +kernel
theorem dX5_price_17 : decode cX5_price 17 = .ok (.invokevirtual 114, 3) := by decide +kernel
theorem dX5_price_20 : decode cX5_price 20 = .ok (.aload_n 0, 1) := by decide +kernel
theorem dX5_price_21 : decode cX5_price 21 = .ok (.getfield 56, 3) := by decide +kernel
theorem dX5_price_24 : decode cX5_price 24 = .ok (.isub, 1) := by decide +kernel
theorem dX5_price_25 : decode cX5_price 25 = .ok (.isub, 1) := by decide +kernel
theorem dX5_price_26 : decode cX5_price 26 = .ok (.ireturn, 1) := by decide +kernel
theorem dX5_chosen_0 : decode cX5_chosen 0 = .ok (.iload_n 1, 1) := by decide +kernel
theorem dX5_chosen_1 : decode cX5_chosen 1 = .ok (.ifCond .lt 18, 3) := by decide +kernel
theorem dX5_chosen_4 : decode cX5_chosen 4 = .ok (.iload_n 1, 1) := by decide +kernel
theorem dX5_chosen_5 : decode cX5_chosen 5 = .ok (.bipush 10, 2) := by decide +kernel
theorem dX5_chosen_7 : decode cX5_chosen 7 = .ok (.if_icmp .ge 12, 3) := by decide +kernel
theorem dX5_chosen_10 : decode cX5_chosen 10 = .ok (.aload_n 0, 1) := by decide +kernel
theorem dX5_chosen_11 : decode cX5_chosen 11 = .ok (.getfield 21, 3) := by decide +kernel
theorem dX5_chosen_14 : decode cX5_chosen 14 = .ok (.iload_n 1, 1) := by decide +kernel
theorem dX5_chosen_15 : decode cX5_chosen 15 = .ok (.iaload, 1) := by decide +kernel
theorem dX5_chosen_16 : decode cX5_chosen 16 = .ok (.goto 4, 3) := by decide +kernel
theorem dX5_chosen_19 : decode cX5_chosen 19 = .ok (.iconst (-1), 1) := by decide +kernel
theorem dX5_chosen_20 : decode cX5_chosen 20 = .ok (.ireturn, 1) := by decide +kernel
theorem dX5_choose_0 : decode cX5_choose 0 = .ok (.aload_n 0, 1) := by decide +kernel
theorem dX5_choose_1 : decode cX5_choose 1 = .ok (.iload_n 1, 1) := by decide +kernel
theorem dX5_choose_2 : decode cX5_choose 2 = .ok (.invokevirtual 105, 3) := by decide +kernel
theorem dX5_choose_5 : decode cX5_choose 5 = .ok (.iconst (-1), 1) := by decide +kernel
theorem dX5_choose_6 : decode cX5_choose 6 = .ok (.if_icmp .ne 5, 3) := by decide +kernel
theorem dX5_choose_9 : decode cX5_choose 9 = .ok (.iconst 0, 1) := by decide +kernel
theorem dX5_choose_10 : decode cX5_choose 10 = .ok (.ireturn, 1) := by decide +kernel
theorem dX5_choose_11 : decode cX5_choose 11 = .ok (.aload_n 0, 1) := by decide +kernel
theorem dX5_choose_12 : decode cX5_choose 12 = .ok (.iload_n 1, 1) := by decide +kernel
theorem dX5_choose_13 : decode cX5_choose 13 = .ok (.invokevirtual 105, 3) := by decide +kernel
theorem dX5_choose_16 : decode cX5_choose 16 = .ok (.iload_n 1, 1) := by decide +kernel
theorem dX5_choose_17 : decode cX5_choose 17 = .ok (.aload_n 0, 1) := by decide +kernel
theorem dX5_choose_18 : decode cX5_choose 18 = .ok (.getfield 56, 3) := by decide +kernel
theorem dX5_choose_21 : decode cX5_choose 21 = .ok (.imul, 1) := by decide +kernel
theorem dX5_choose_22 : decode cX5_choose 22 = .ok (.isub, 1) := by decide +kernel
theorem dX5_choose_23 : decode cX5_choose 23 = .ok (.istore_n 2, 1) := by decide +kernel
theorem dX5_choose_24 : decode cX5_choose 24 = .ok (.aload_n 0, 1) := by decide +kernel
theorem dX5_choose_25 : decode cX5_choose 25 = .ok (.getfield 50, 3) := by decide +kernel
theorem dX5_choose_28 : decode cX5_choose 28 = .ok (.iload_n 1, 1) := by decide +kernel
theorem dX5_choose_29 : decode cX5_choose 29 = .ok (.isub, 1) := by decide +kernel
theorem dX5_choose_30 : decode cX5_choose 30 = .ok (.istore_n 3, 1) := by decide +kernel
theorem dX5_choose_31 : decode cX5_choose 31 = .ok (.iconst 0, 1) := by decide +kernel
theorem dX5_choose_32 : decode cX5_choose 32 = .ok (.istore 4, 2) := by decide +kernel
theorem dX5_choose_34 : decode cX5_choose 34 = .ok (.iconst 0, 1) := by decide +kernel
theorem dX5_choose_35 : decode cX5_choose 35 = .ok (.istore 5, 2) := by decide +kernel
theorem dX5_choose_37 : decode cX5_choose 37 = .ok (.iload 5, 2) := by decide +kernel
theorem dX5_choose_39 : decode cX5_choose 39 = .ok (.aload_n 0, 1) := by decide +kernel
theorem dX5_choose_40 : decode cX5_choose 40 = .ok (.getfield 50, 3) := by decide +kernel
theorem dX5_choose_43 : decode cX5_choose 43 = .ok (.if_icmp .ge 61, 3) := by decide +kernel
theorem dX5_choose_46 : decode cX5_choose 46 = .ok (.aload_n 0, 1) := by decide +kernel
theorem dX5_choose_47 : decode cX5_choose 47 = .ok (.iload 5, 2) := by decide +kernel
theorem dX5_choose_49 : decode cX5_choose 49 = .ok (.iload_n 2, 1) := by decide +kernel
theorem dX5_choose_50 : decode cX5_choose 50 = .ok (.iload_n 3, 1) := by decide +kernel
theorem dX5_choose_51 : decode cX5_choose 51 = .ok (.iload 4, 2) := by decide +kernel
theorem dX5_choose_53 : decode cX5_choose 53 = .ok (.invokevirtual 117, 3) := by decide +kernel
theorem dX5_choose_56 : decode cX5_choose 56 = .ok (.istore 6, 2) := by decide +kernel
theorem dX5_choose_58 : decode cX5_choose 58 = .ok (.aload_n 0, 1) := by decide +kernel
theorem dX5_choose_59 : decode cX5_choose 59 = .ok (.getfield 21, 3) := by decide +kernel
theorem dX5_choose_62 : decode cX5_choose 62 = .ok (.iload 5, 2) := by decide +kernel
theorem dX5_choose_64 : decode cX5_choose 64 = .ok (.iload 6, 2) := by decide +kernel
theorem dX5_choose_66 : decode cX5_choose 66 = .ok (.iastore, 1) := by decide +kernel
theorem dX5_choose_67 : decode cX5_choose 67 = .ok (.iload 6, 2) := by decide +kernel
theorem dX5_choose_69 : decode cX5_choose 69 = .ok (.iconst (-1), 1) := by decide +kernel
theorem dX5_choose_70 : decode cX5_choose 70 = .ok (.if_icmp .eq 28, 3) := by decide +kernel
theorem dX5_choose_73 : decode cX5_choose 73 = .ok (.iload_n 2, 1) := by decide +kernel
theorem dX5_choose_74 : decode cX5_choose 74 = .ok (.aload_n 0, 1) := by decide +kernel
theorem dX5_choose_75 : decode cX5_choose 75 = .ok (.iload 5, 2) := by decide +kernel
theorem dX5_choose_77 : decode cX5_choose 77 = .ok (.iload 6, 2) := by decide +kernel
theorem dX5_choose_79 : decode cX5_choose 79 = .ok (.invokevirtual 76, 3) := by decide +kernel
theorem dX5_choose_82 : decode cX5_choose 82 = .ok (.isub, 1) := by decide +kernel
theorem dX5_choose_83 : decode cX5_choose 83 = .ok (.istore_n 2, 1) := by decide +kernel
theorem dX5_choose_84 : decode cX5_choose 84 = .ok (.iinc 3 (-1), 3) := by decide +kernel
theorem dX5_choose_87 : decode cX5_choose 87 = .ok (.iload 4, 2) := by decide +kernel
theorem dX5_choose_89 : decode cX5_choose 89 = .ok (.aload_n 0, 1) := by decide +kernel
theorem dX5_choose_90 : decode cX5_choose 90 = .ok (.iload 6, 2) := by decide +kernel
theorem dX5_choose_92 : decode cX5_choose 92 = .ok (.invokevirtual 66, 3) := by decide +kernel
theorem dX5_choose_95 : decode cX5_choose 95 = .ok (.ior, 1) := by decide +kernel
theorem dX5_choose_96 : decode cX5_choose 96 = .ok (.istore 4, 2) := by decide +kernel
theorem dX5_choose_98 : decode cX5_choose 98 = .ok (.iinc 5 1, 3) := by decide +kernel
theorem dX5_choose_101 : decode cX5_choose 101 = .ok (.goto (-64), 3) := by decide +kernel
theorem dX5_choose_104 : decode cX5_choose 104 = .ok (.iconst 1, 1) := by decide +kernel
theorem dX5_choose_105 : decode cX5_choose 105 = .ok (.ireturn, 1) := by decide +kernel
theorem dX5_firstNext_0 : decode cX5_firstNext 0 = .ok (.aload_n 0, 1) := by decide +kernel
theorem dX5_firstNext_1 : decode cX5_firstNext 1 = .ok (.iload_n 1, 1) := by decide +kernel
theorem dX5_firstNext_2 : decode cX5_firstNext 2 = .ok (.iload_n 3, 1) := by decide +kernel
theorem dX5_firstNext_3 : decode cX5_firstNext 3 = .ok (.iload 4, 2) := by decide +kernel
theorem dX5_firstNext_5 : decode cX5_firstNext 5 = .ok (.invokevirtual 121, 3) := by decide +kernel
theorem dX5_firstNext_8 : decode cX5_firstNext 8 = .ok (.iload_n 2, 1) := by decide +kernel
theorem dX5_firstNext_9 : decode cX5_firstNext 9 = .ok (.if_icmp .ne 5, 3) := by decide +kernel
theorem dX5_firstNext_12 : decode cX5_firstNext 12 = .ok (.iconst (-1), 1) := by decide +kernel
theorem dX5_firstNext_13 : decode cX5_firstNext 13 = .ok (.ireturn, 1) := by decide +kernel
theorem dX5_firstNext_14 : decode cX5_firstNext 14 = .ok (.iload_n 1, 1) := by decide +kernel
theorem dX5_firstNext_15 : decode cX5_firstNext 15 = .ok (.iconst 1, 1) := by decide +kernel
theorem dX5_firstNext_16 : decode cX5_firstNext 16 = .ok (.iadd, 1) := by decide +kernel
theorem dX5_firstNext_17 : decode cX5_firstNext 17 = .ok (.istore 5, 2) := by decide +kernel
theorem dX5_firstNext_19 : decode cX5_firstNext 19 = .ok (.iload 5, 2) := by decide +kernel
theorem dX5_firstNext_21 : decode cX5_firstNext 21 = .ok (.aload_n 0, 1) := by decide +kernel
theorem dX5_firstNext_22 : decode cX5_firstNext 22 = .ok (.getfield 50, 3) := by decide +kernel
theorem dX5_firstNext_25 : decode cX5_firstNext 25 = .ok (.if_icmp .ge 53, 3) := by decide +kernel
theorem dX5_firstNext_28 : decode cX5_firstNext 28 = .ok (.aload_n 0, 1) := by decide +kernel
theorem dX5_firstNext_29 : decode cX5_firstNext 29 = .ok (.iload 5, 2) := by decide +kernel
theorem dX5_firstNext_31 : decode cX5_firstNext 31 = .ok (.invokevirtual 66, 3) := by decide +kernel
theorem dX5_firstNext_34 : decode cX5_firstNext 34 = .ok (.istore 6, 2) := by decide +kernel
theorem dX5_firstNext_36 : decode cX5_firstNext 36 = .ok (.iload 4, 2) := by decide +kernel
theorem dX5_firstNext_38 : decode cX5_firstNext 38 = .ok (.iload 6, 2) := by decide +kernel
theorem dX5_firstNext_40 : decode cX5_firstNext 40 = .ok (.iand, 1) := by decide +kernel
theorem dX5_firstNext_41 : decode cX5_firstNext 41 = .ok (.ifCond .ne 31, 3) := by decide +kernel
theorem dX5_firstNext_44 : decode cX5_firstNext 44 = .ok (.aload_n 0, 1) := by decide +kernel
theorem dX5_firstNext_45 : decode cX5_firstNext 45 = .ok (.iload_n 1, 1) := by decide +kernel
theorem dX5_firstNext_46 : decode cX5_firstNext 46 = .ok (.iload 5, 2) := by decide +kernel
theorem dX5_firstNext_48 : decode cX5_firstNext 48 = .ok (.invokevirtual 76, 3) := by decide +kernel
theorem dX5_firstNext_51 : decode cX5_firstNext 51 = .ok (.aload_n 0, 1) := by decide +kernel
theorem dX5_firstNext_52 : decode cX5_firstNext 52 = .ok (.iload_n 1, 1) := by decide +kernel
theorem dX5_firstNext_53 : decode cX5_firstNext 53 = .ok (.iload_n 3, 1) := by decide +kernel
theorem dX5_firstNext_54 : decode cX5_firstNext 54 = .ok (.iconst 1, 1) := by decide +kernel
theorem dX5_firstNext_55 : decode cX5_firstNext 55 = .ok (.isub, 1) := by decide +kernel
theorem dX5_firstNext_56 : decode cX5_firstNext 56 = .ok (.iload 4, 2) := by decide +kernel
theorem dX5_firstNext_58 : decode cX5_firstNext 58 = .ok (.iload 6, 2) := by decide +kernel
theorem dX5_firstNext_60 : decode cX5_firstNext 60 = .ok (.ior, 1) := by decide +kernel
theorem dX5_firstNext_61 : decode cX5_firstNext 61 = .ok (.invokevirtual 121, 3) := by decide +kernel
theorem dX5_firstNext_64 : decode cX5_firstNext 64 = .ok (.iadd, 1) := by decide +kernel
theorem dX5_firstNext_65 : decode cX5_firstNext 65 = .ok (.iload_n 2, 1) := by decide +kernel
theorem dX5_firstNext_66 : decode cX5_firstNext 66 = .ok (.if_icmp .ne 6, 3) := by decide +kernel
theorem dX5_firstNext_69 : decode cX5_firstNext 69 = .ok (.iload 5, 2) := by decide +kernel
theorem dX5_firstNext_71 : decode cX5_firstNext 71 = .ok (.ireturn, 1) := by decide +kernel
theorem dX5_firstNext_72 : decode cX5_firstNext 72 = .ok (.iinc 5 1, 3) := by decide +kernel
theorem dX5_firstNext_75 : decode cX5_firstNext 75 = .ok (.goto (-56), 3) := by decide +kernel
theorem dX5_firstNext_78 : decode cX5_firstNext 78 = .ok (.iconst (-1), 1) := by decide +kernel
theorem dX5_firstNext_79 : decode cX5_firstNext 79 = .ok (.ireturn, 1) := by decide +kernel
theorem dX5_leastBehind_0 : decode cX5_leastBehind 0 = .ok (.iload_n 1, 1) := by decide +kernel
theorem dX5_leastBehind_1 : decode cX5_leastBehind 1 = .ok (.iconst 1, 1) := by decide +kernel
theorem dX5_leastBehind_2 : decode cX5_leastBehind 2 = .ok (.iadd, 1) := by decide +kernel
theorem dX5_leastBehind_3 : decode cX5_leastBehind 3 = .ok (.aload_n 0, 1) := by decide +kernel
theorem dX5_leastBehind_4 : decode cX5_leastBehind 4 = .ok (.getfield 50, 3) := by decide +kernel
end
section
theorem dX5_leastBehind_7 : decode cX5_leastBehind 7 = .ok (.if_icmp .lt 14, 3) := by decide +kernel
theorem dX5_leastBehind_10 : decode cX5_leastBehind 10 = .ok (.iload_n 2, 1) := by decide +kernel
theorem dX5_leastBehind_11 : decode cX5_leastBehind 11 = .ok (.ifCond .ne 7, 3) := by decide +kernel
theorem dX5_leastBehind_14 : decode cX5_leastBehind 14 = .ok (.iconst 0, 1) := by decide +kernel
theorem dX5_leastBehind_15 : decode cX5_leastBehind 15 = .ok (.goto 5, 3) := by decide +kernel
theorem dX5_leastBehind_18 : decode cX5_leastBehind 18 = .ok (.ldc 59, 2) := by decide +kernel
theorem dX5_leastBehind_20 : decode cX5_leastBehind 20 = .ok (.ireturn, 1) := by decide +kernel
theorem dX5_leastBehind_21 : decode cX5_leastBehind 21 = .ok (.aload_n 0, 1) := by decide +kernel
theorem dX5_leastBehind_22 : decode cX5_leastBehind 22 = .ok (.iload_n 1, 1) := by decide +kernel
theorem dX5_leastBehind_23 : decode cX5_leastBehind 23 = .ok (.iconst 1, 1) := by decide +kernel
theorem dX5_leastBehind_24 : decode cX5_leastBehind 24 = .ok (.iadd, 1) := by decide +kernel
theorem dX5_leastBehind_25 : decode cX5_leastBehind 25 = .ok (.invokevirtual 66, 3) := by decide +kernel
theorem dX5_leastBehind_28 : decode cX5_leastBehind 28 = .ok (.istore 4, 2) := by decide +kernel
theorem dX5_leastBehind_30 : decode cX5_leastBehind 30 = .ok (.ldc 59, 2) := by decide +kernel
theorem dX5_leastBehind_32 : decode cX5_leastBehind 32 = .ok (.istore 5, 2) := by decide +kernel
theorem dX5_leastBehind_34 : decode cX5_leastBehind 34 = .ok (.iconst 0, 1) := by decide +kernel
theorem dX5_leastBehind_35 : decode cX5_leastBehind 35 = .ok (.istore 6, 2) := by decide +kernel
theorem dX5_leastBehind_37 : decode cX5_leastBehind 37 = .ok (.iload 6, 2) := by decide +kernel
theorem dX5_leastBehind_39 : decode cX5_leastBehind 39 = .ok (.iload 4, 2) := by decide +kernel
theorem dX5_leastBehind_41 : decode cX5_leastBehind 41 = .ok (.if_icmp .ge 42, 3) := by decide +kernel
theorem dX5_leastBehind_44 : decode cX5_leastBehind 44 = .ok (.iload 6, 2) := by decide +kernel
theorem dX5_leastBehind_46 : decode cX5_leastBehind 46 = .ok (.iload_n 3, 1) := by decide +kernel
theorem dX5_leastBehind_47 : decode cX5_leastBehind 47 = .ok (.iand, 1) := by decide +kernel
theorem dX5_leastBehind_48 : decode cX5_leastBehind 48 = .ok (.ifCond .ne 29, 3) := by decide +kernel
theorem dX5_leastBehind_51 : decode cX5_leastBehind 51 = .ok (.iload 6, 2) := by decide +kernel
theorem dX5_leastBehind_53 : decode cX5_leastBehind 53 = .ok (.invokestatic 89, 3) := by decide +kernel
theorem dX5_leastBehind_56 : decode cX5_leastBehind 56 = .ok (.iload_n 2, 1) := by decide +kernel
theorem dX5_leastBehind_57 : decode cX5_leastBehind 57 = .ok (.if_icmp .ne 20, 3) := by decide +kernel
theorem dX5_leastBehind_60 : decode cX5_leastBehind 60 = .ok (.iload 5, 2) := by decide +kernel
theorem dX5_leastBehind_62 : decode cX5_leastBehind 62 = .ok (.aload_n 0, 1) := by decide +kernel
theorem dX5_leastBehind_63 : decode cX5_leastBehind 63 = .ok (.getfield 15, 3) := by decide +kernel
theorem dX5_leastBehind_66 : decode cX5_leastBehind 66 = .ok (.iload 4, 2) := by decide +kernel
theorem dX5_leastBehind_68 : decode cX5_leastBehind 68 = .ok (.iload 6, 2) := by decide +kernel
theorem dX5_leastBehind_70 : decode cX5_leastBehind 70 = .ok (.iadd, 1) := by decide +kernel
theorem dX5_leastBehind_71 : decode cX5_leastBehind 71 = .ok (.iaload, 1) := by decide +kernel
theorem dX5_leastBehind_72 : decode cX5_leastBehind 72 = .ok (.invokestatic 44, 3) := by decide +kernel
theorem dX5_leastBehind_75 : decode cX5_leastBehind 75 = .ok (.istore 5, 2) := by decide +kernel
theorem dX5_leastBehind_77 : decode cX5_leastBehind 77 = .ok (.iinc 6 1, 3) := by decide +kernel
theorem dX5_leastBehind_80 : decode cX5_leastBehind 80 = .ok (.goto (-43), 3) := by decide +kernel
theorem dX5_leastBehind_83 : decode cX5_leastBehind 83 = .ok (.iload 5, 2) := by decide +kernel
theorem dX5_leastBehind_85 : decode cX5_leastBehind 85 = .ok (.ireturn, 1) := by decide +kernel
theorem dX6_init_0 : decode cX6_init 0 = .ok (.aload_n 0, 1) := by decide +kernel
theorem dX6_init_1 : decode cX6_init 1 = .ok (.invokespecial 5, 3) := by decide +kernel
theorem dX6_init_4 : decode cX6_init 4 = .ok (.aload_n 0, 1) := by decide +kernel
theorem dX6_init_5 : decode cX6_init 5 = .ok (.bipush 46, 2) := by decide +kernel
theorem dX6_init_7 : decode cX6_init 7 = .ok (.newarray .int, 2) := by decide +kernel
theorem dX6_init_9 : decode cX6_init 9 = .ok (.putfield 11, 3) := by decide +kernel
theorem dX6_init_12 : decode cX6_init 12 = .ok (.getstatic 15, 3) := by decide +kernel
theorem dX6_init_15 : decode cX6_init 15 = .ok (.iconst 0, 1) := by decide +kernel
theorem dX6_init_16 : decode cX6_init 16 = .ok (.aload_n 0, 1) := by decide +kernel
theorem dX6_init_17 : decode cX6_init 17 = .ok (.getfield 11, 3) := by decide +kernel
theorem dX6_init_20 : decode cX6_init 20 = .ok (.iconst 1, 1) := by decide +kernel
theorem dX6_init_21 : decode cX6_init 21 = .ok (.iconst 5, 1) := by decide +kernel
theorem dX6_init_22 : decode cX6_init 22 = .ok (.invokestatic 18, 3) := by decide +kernel
theorem dX6_init_25 : decode cX6_init 25 = .ok (.return_, 1) := by decide +kernel
theorem dX6_canBe_0 : decode cX6_canBe 0 = .ok (.iload_n 0, 1) := by decide +kernel
theorem dX6_canBe_1 : decode cX6_canBe 1 = .ok (.ifCond .lt 34, 3) := by decide +kernel
theorem dX6_canBe_4 : decode cX6_canBe 4 = .ok (.iload_n 0, 1) := by decide +kernel
theorem dX6_canBe_5 : decode cX6_canBe 5 = .ok (.bipush 99, 2) := by decide +kernel
theorem dX6_canBe_7 : decode cX6_canBe 7 = .ok (.if_icmp .gt 28, 3) := by decide +kernel
theorem dX6_canBe_10 : decode cX6_canBe 10 = .ok (.iload_n 1, 1) := by decide +kernel
theorem dX6_canBe_11 : decode cX6_canBe 11 = .ok (.iconst 1, 1) := by decide +kernel
theorem dX6_canBe_12 : decode cX6_canBe 12 = .ok (.if_icmp .lt 23, 3) := by decide +kernel
theorem dX6_canBe_15 : decode cX6_canBe 15 = .ok (.iload_n 1, 1) := by decide +kernel
theorem dX6_canBe_16 : decode cX6_canBe 16 = .ok (.bipush 32, 2) := by decide +kernel
theorem dX6_canBe_18 : decode cX6_canBe 18 = .ok (.if_icmp .gt 17, 3) := by decide +kernel
theorem dX6_canBe_21 : decode cX6_canBe 21 = .ok (.iload_n 2, 1) := by decide +kernel
theorem dX6_canBe_22 : decode cX6_canBe 22 = .ok (.ifCond .lt 13, 3) := by decide +kernel
theorem dX6_canBe_25 : decode cX6_canBe 25 = .ok (.iload_n 2, 1) := by decide +kernel
theorem dX6_canBe_26 : decode cX6_canBe 26 = .ok (.bipush 127, 2) := by decide +kernel
theorem dX6_canBe_28 : decode cX6_canBe 28 = .ok (.if_icmp .gt 7, 3) := by decide +kernel
theorem dX6_canBe_31 : decode cX6_canBe 31 = .ok (.iconst 1, 1) := by decide +kernel
theorem dX6_canBe_32 : decode cX6_canBe 32 = .ok (.goto 4, 3) := by decide +kernel
theorem dX6_canBe_35 : decode cX6_canBe 35 = .ok (.iconst 0, 1) := by decide +kernel
theorem dX6_canBe_36 : decode cX6_canBe 36 = .ok (.ireturn, 1) := by decide +kernel
theorem dX6_canBeTerm_0 : decode cX6_canBeTerm 0 = .ok (.iload_n 0, 1) := by decide +kernel
theorem dX6_canBeTerm_1 : decode cX6_canBeTerm 1 = .ok (.ifCond .lt 25, 3) := by decide +kernel
theorem dX6_canBeTerm_4 : decode cX6_canBeTerm 4 = .ok (.iload_n 0, 1) := by decide +kernel
theorem dX6_canBeTerm_5 : decode cX6_canBeTerm 5 = .ok (.iconst 5, 1) := by decide +kernel
theorem dX6_canBeTerm_6 : decode cX6_canBeTerm 6 = .ok (.if_icmp .ge 20, 3) := by decide +kernel
theorem dX6_canBeTerm_9 : decode cX6_canBeTerm 9 = .ok (.iload_n 1, 1) := by decide +kernel
theorem dX6_canBeTerm_10 : decode cX6_canBeTerm 10 = .ok (.ifCond .lt 16, 3) := by decide +kernel
theorem dX6_canBeTerm_13 : decode cX6_canBeTerm 13 = .ok (.iload_n 1, 1) := by decide +kernel
theorem dX6_canBeTerm_14 : decode cX6_canBeTerm 14 = .ok (.getstatic 24, 3) := by decide +kernel
theorem dX6_canBeTerm_17 : decode cX6_canBeTerm 17 = .ok (.iload_n 0, 1) := by decide +kernel
theorem dX6_canBeTerm_18 : decode cX6_canBeTerm 18 = .ok (.iaload, 1) := by decide +kernel
theorem dX6_canBeTerm_19 : decode cX6_canBeTerm 19 = .ok (.if_icmp .gt 7, 3) := by decide +kernel
theorem dX6_canBeTerm_22 : decode cX6_canBeTerm 22 = .ok (.iconst 1, 1) := by decide +kernel
theorem dX6_canBeTerm_23 : decode cX6_canBeTerm 23 = .ok (.goto 4, 3) := by decide +kernel
theorem dX6_canBeTerm_26 : decode cX6_canBeTerm 26 = .ok (.iconst 0, 1) := by decide +kernel
theorem dX6_canBeTerm_27 : decode cX6_canBeTerm 27 = .ok (.ireturn, 1) := by decide +kernel
theorem dX6_count_0 : decode cX6_count 0 = .ok (.aload_n 0, 1) := by decide +kernel
theorem dX6_count_1 : decode cX6_count 1 = .ok (.getfield 11, 3) := by decide +kernel
theorem dX6_count_4 : decode cX6_count 4 = .ok (.iconst 0, 1) := by decide +kernel
theorem dX6_count_5 : decode cX6_count 5 = .ok (.iaload, 1) := by decide +kernel
theorem dX6_count_6 : decode cX6_count 6 = .ok (.ireturn, 1) := by decide +kernel
theorem dX6_edition_0 : decode cX6_edition 0 = .ok (.aload_n 0, 1) := by decide +kernel
theorem dX6_edition_1 : decode cX6_edition 1 = .ok (.getfield 27, 3) := by decide +kernel
theorem dX6_edition_4 : decode cX6_edition 4 = .ok (.ireturn, 1) := by decide +kernel
theorem dX6_isFull_0 : decode cX6_isFull 0 = .ok (.aload_n 0, 1) := by decide +kernel
theorem dX6_isFull_1 : decode cX6_isFull 1 = .ok (.getfield 11, 3) := by decide +kernel
theorem dX6_isFull_4 : decode cX6_isFull 4 = .ok (.iconst 0, 1) := by decide +kernel
theorem dX6_isFull_5 : decode cX6_isFull 5 = .ok (.iaload, 1) := by decide +kernel
theorem dX6_isFull_6 : decode cX6_isFull 6 = .ok (.bipush 10, 2) := by decide +kernel
theorem dX6_isFull_8 : decode cX6_isFull 8 = .ok (.if_icmp .lt 7, 3) := by decide +kernel
theorem dX6_isFull_11 : decode cX6_isFull 11 = .ok (.iconst 1, 1) := by decide +kernel
theorem dX6_isFull_12 : decode cX6_isFull 12 = .ok (.goto 4, 3) := by decide +kernel
theorem dX6_isFull_15 : decode cX6_isFull 15 = .ok (.iconst 0, 1) := by decide +kernel
theorem dX6_isFull_16 : decode cX6_isFull 16 = .ok (.ireturn, 1) := by decide +kernel
theorem dX6_has_0 : decode cX6_has 0 = .ok (.iload_n 1, 1) := by decide +kernel
theorem dX6_has_1 : decode cX6_has 1 = .ok (.ifCond .lt 23, 3) := by decide +kernel
theorem dX6_has_4 : decode cX6_has 4 = .ok (.iload_n 1, 1) := by decide +kernel
theorem dX6_has_5 : decode cX6_has 5 = .ok (.bipush 10, 2) := by decide +kernel
theorem dX6_has_7 : decode cX6_has 7 = .ok (.if_icmp .ge 17, 3) := by decide +kernel
theorem dX6_has_10 : decode cX6_has 10 = .ok (.iload_n 1, 1) := by decide +kernel
theorem dX6_has_11 : decode cX6_has 11 = .ok (.aload_n 0, 1) := by decide +kernel
theorem dX6_has_12 : decode cX6_has 12 = .ok (.getfield 11, 3) := by decide +kernel
theorem dX6_has_15 : decode cX6_has 15 = .ok (.iconst 0, 1) := by decide +kernel
theorem dX6_has_16 : decode cX6_has 16 = .ok (.iaload, 1) := by decide +kernel
theorem dX6_has_17 : decode cX6_has 17 = .ok (.if_icmp .ge 7, 3) := by decide +kernel
theorem dX6_has_20 : decode cX6_has 20 = .ok (.iconst 1, 1) := by decide +kernel
theorem dX6_has_21 : decode cX6_has 21 = .ok (.goto 4, 3) := by decide +kernel
theorem dX6_has_24 : decode cX6_has 24 = .ok (.iconst 0, 1) := by decide +kernel
theorem dX6_has_25 : decode cX6_has 25 = .ok (.ireturn, 1) := by decide +kernel
theorem dX6_on_0 : decode cX6_on 0 = .ok (.aload_n 0, 1) := by decide +kernel
theorem dX6_on_1 : decode cX6_on 1 = .ok (.iload_n 1, 1) := by decide +kernel
theorem dX6_on_2 : decode cX6_on 2 = .ok (.iconst 0, 1) := by decide +kernel
theorem dX6_on_3 : decode cX6_on 3 = .ok (.invokevirtual 31, 3) := by decide +kernel
theorem dX6_on_6 : decode cX6_on 6 = .ok (.ireturn, 1) := by decide +kernel
theorem dX6_length_0 : decode cX6_length 0 = .ok (.aload_n 0, 1) := by decide +kernel
theorem dX6_length_1 : decode cX6_length 1 = .ok (.iload_n 1, 1) := by decide +kernel
theorem dX6_length_2 : decode cX6_length 2 = .ok (.iconst 1, 1) := by decide +kernel
theorem dX6_length_3 : decode cX6_length 3 = .ok (.invokevirtual 31, 3) := by decide +kernel
theorem dX6_length_6 : decode cX6_length 6 = .ok (.ireturn, 1) := by decide +kernel
theorem dX6_off_0 : decode cX6_off 0 = .ok (.aload_n 0, 1) := by decide +kernel
theorem dX6_off_1 : decode cX6_off 1 = .ok (.iload_n 1, 1) := by decide +kernel
theorem dX6_off_2 : decode cX6_off 2 = .ok (.iconst 0, 1) := by decide +kernel
theorem dX6_off_3 : decode cX6_off 3 = .ok (.invokevirtual 31, 3) := by decide +kernel
theorem dX6_off_6 : decode cX6_off 6 = .ok (.aload_n 0, 1) := by decide +kernel
theorem dX6_off_7 : decode cX6_off 7 = .ok (.iload_n 1, 1) := by decide +kernel
theorem dX6_off_8 : decode cX6_off 8 = .ok (.iconst 1, 1) := by decide +kernel
theorem dX6_off_9 : decode cX6_off 9 = .ok (.invokevirtual 31, 3) := by decide +kernel
theorem dX6_off_12 : decode cX6_off 12 = .ok (.iadd, 1) := by decide +kernel
theorem dX6_off_13 : decode cX6_off 13 = .ok (.ireturn, 1) := by decide +kernel
theorem dX6_pitch_0 : decode cX6_pitch 0 = .ok (.aload_n 0, 1) := by decide +kernel
theorem dX6_pitch_1 : decode cX6_pitch 1 = .ok (.iload_n 1, 1) := by decide +kernel
theorem dX6_pitch_2 : decode cX6_pitch 2 = .ok (.iconst 2, 1) := by decide +kernel
theorem dX6_pitch_3 : decode cX6_pitch 3 = .ok (.invokevirtual 31, 3) := by decide +kernel
theorem dX6_pitch_6 : decode cX6_pitch 6 = .ok (.ireturn, 1) := by decide +kernel
theorem dX6_next_0 : decode cX6_next 0 = .ok (.aload_n 0, 1) := by decide +kernel
theorem dX6_next_1 : decode cX6_next 1 = .ok (.iload_n 1, 1) := by decide +kernel
theorem dX6_next_2 : decode cX6_next 2 = .ok (.iconst 3, 1) := by decide +kernel
theorem dX6_next_3 : decode cX6_next 3 = .ok (.invokevirtual 31, 3) := by decide +kernel
theorem dX6_next_6 : decode cX6_next 6 = .ok (.ireturn, 1) := by decide +kernel
theorem dX6_cell_0 : decode cX6_cell 0 = .ok (.iload_n 1, 1) := by decide +kernel
theorem dX6_cell_1 : decode cX6_cell 1 = .ok (.ifCond .lt 25, 3) := by decide +kernel
theorem dX6_cell_4 : decode cX6_cell 4 = .ok (.iload_n 1, 1) := by decide +kernel
theorem dX6_cell_5 : decode cX6_cell 5 = .ok (.bipush 10, 2) := by decide +kernel
theorem dX6_cell_7 : decode cX6_cell 7 = .ok (.if_icmp .ge 19, 3) := by decide +kernel
theorem dX6_cell_10 : decode cX6_cell 10 = .ok (.aload_n 0, 1) := by decide +kernel
theorem dX6_cell_11 : decode cX6_cell 11 = .ok (.getfield 11, 3) := by decide +kernel
theorem dX6_cell_14 : decode cX6_cell 14 = .ok (.bipush 6, 2) := by decide +kernel
theorem dX6_cell_16 : decode cX6_cell 16 = .ok (.iload_n 1, 1) := by decide +kernel
theorem dX6_cell_17 : decode cX6_cell 17 = .ok (.iconst 4, 1) := by decide +kernel
theorem dX6_cell_18 : decode cX6_cell 18 = .ok (.imul, 1) := by decide +kernel
theorem dX6_cell_19 : decode cX6_cell 19 = .ok (.iadd, 1) := by decide +kernel
theorem dX6_cell_20 : decode cX6_cell 20 = .ok (.iload_n 2, 1) := by decide +kernel
theorem dX6_cell_21 : decode cX6_cell 21 = .ok (.iadd, 1) := by decide +kernel
theorem dX6_cell_22 : decode cX6_cell 22 = .ok (.iaload, 1) := by decide +kernel
theorem dX6_cell_23 : decode cX6_cell 23 = .ok (.goto 4, 3) := by decide +kernel
theorem dX6_cell_26 : decode cX6_cell 26 = .ok (.iconst (-1), 1) := by decide +kernel
theorem dX6_cell_27 : decode cX6_cell 27 = .ok (.ireturn, 1) := by decide +kernel
theorem dX6_valueOf_0 : decode cX6_valueOf 0 = .ok (.iload_n 1, 1) := by decide +kernel
theorem dX6_valueOf_1 : decode cX6_valueOf 1 = .ok (.ifCond .lt 19, 3) := by decide +kernel
theorem dX6_valueOf_4 : decode cX6_valueOf 4 = .ok (.iload_n 1, 1) := by decide +kernel
theorem dX6_valueOf_5 : decode cX6_valueOf 5 = .ok (.iconst 5, 1) := by decide +kernel
theorem dX6_valueOf_6 : decode cX6_valueOf 6 = .ok (.if_icmp .ge 14, 3) := by decide +kernel
theorem dX6_valueOf_9 : decode cX6_valueOf 9 = .ok (.aload_n 0, 1) := by decide +kernel
theorem dX6_valueOf_10 : decode cX6_valueOf 10 = .ok (.getfield 11, 3) := by decide +kernel
theorem dX6_valueOf_13 : decode cX6_valueOf 13 = .ok (.iconst 1, 1) := by decide +kernel
theorem dX6_valueOf_14 : decode cX6_valueOf 14 = .ok (.iload_n 1, 1) := by decide +kernel
theorem dX6_valueOf_15 : decode cX6_valueOf 15 = .ok (.iadd, 1) := by decide +kernel
theorem dX6_valueOf_16 : decode cX6_valueOf 16 = .ok (.iaload, 1) := by decide +kernel
theorem dX6_valueOf_17 : decode cX6_valueOf 17 = .ok (.goto 4, 3) := by decide +kernel
theorem dX6_valueOf_20 : decode cX6_valueOf 20 = .ok (.iconst (-1), 1) := by decide +kernel
theorem dX6_valueOf_21 : decode cX6_valueOf 21 = .ok (.ireturn, 1) := by decide +kernel
theorem dX6_changeTerm_0 : decode cX6_changeTerm 0 = .ok (.aload_n 0, 1) := by decide +kernel
theorem dX6_changeTerm_1 : decode cX6_changeTerm 1 = .ok (.iload_n 1, 1) := by decide +kernel
theorem dX6_changeTerm_2 : decode cX6_changeTerm 2 = .ok (.invokevirtual 35, 3) := by decide +kernel
theorem dX6_changeTerm_5 : decode cX6_changeTerm 5 = .ok (.istore_n 3, 1) := by decide +kernel
theorem dX6_changeTerm_6 : decode cX6_changeTerm 6 = .ok (.iload_n 1, 1) := by decide +kernel
theorem dX6_changeTerm_7 : decode cX6_changeTerm 7 = .ok (.ifCond .lt 21, 3) := by decide +kernel
theorem dX6_changeTerm_10 : decode cX6_changeTerm 10 = .ok (.iload_n 1, 1) := by decide +kernel
theorem dX6_changeTerm_11 : decode cX6_changeTerm 11 = .ok (.iconst 5, 1) := by decide +kernel
theorem dX6_changeTerm_12 : decode cX6_changeTerm 12 = .ok (.if_icmp .ge 16, 3) := by decide +kernel
theorem dX6_changeTerm_15 : decode cX6_changeTerm 15 = .ok (.aload_n 0, 1) := by decide +kernel
theorem dX6_changeTerm_16 : decode cX6_changeTerm 16 = .ok (.getfield 11, 3) := by decide +kernel
theorem dX6_changeTerm_19 : decode cX6_changeTerm 19 = .ok (.iconst 1, 1) := by decide +kernel
theorem dX6_changeTerm_20 : decode cX6_changeTerm 20 = .ok (.iload_n 1, 1) := by decide +kernel
theorem dX6_changeTerm_21 : decode cX6_changeTerm 21 = .ok (.iadd, 1) := by decide +kernel
theorem dX6_changeTerm_22 : decode cX6_changeTerm 22 = .ok (.iload_n 2, 1) := by decide +kernel
theorem dX6_changeTerm_23 : decode cX6_changeTerm 23 = .ok (.iastore, 1) := by decide +kernel
theorem dX6_changeTerm_24 : decode cX6_changeTerm 24 = .ok (.aload_n 0, 1) := by decide +kernel
theorem dX6_changeTerm_25 : decode cX6_changeTerm 25 = .ok (.invokevirtual 39, 3) := by decide +kernel
theorem dX6_changeTerm_28 : decode cX6_changeTerm 28 = .ok (.iload_n 3, 1) := by decide +kernel
theorem dX6_changeTerm_29 : decode cX6_changeTerm 29 = .ok (.ireturn, 1) := by decide +kernel
theorem dX6_mayFollow_0 : decode cX6_mayFollow 0 = .ok (.aload_n 0, 1) := by decide +kernel
theorem dX6_mayFollow_1 : decode cX6_mayFollow 1 = .ok (.iload_n 1, 1) := by decide +kernel
theorem dX6_mayFollow_2 : decode cX6_mayFollow 2 = .ok (.invokevirtual 42, 3) := by decide +kernel
theorem dX6_mayFollow_5 : decode cX6_mayFollow 5 = .ok (.ifCond .eq 11, 3) := by decide +kernel
theorem dX6_mayFollow_8 : decode cX6_mayFollow 8 = .ok (.aload_n 0, 1) := by decide +kernel
theorem dX6_mayFollow_9 : decode cX6_mayFollow 9 = .ok (.iload_n 2, 1) := by decide +kernel
theorem dX6_mayFollow_10 : decode cX6_mayFollow 10 = .ok (.invokevirtual 42, 3) := by decide +kernel
theorem dX6_mayFollow_13 : decode cX6_mayFollow 13 = .ok (.ifCond .ne 5, 3) := by decide +kernel
theorem dX6_mayFollow_16 : decode cX6_mayFollow 16 = .ok (.iconst 0, 1) := by decide +kernel
theorem dX6_mayFollow_17 : decode cX6_mayFollow 17 = .ok (.ireturn, 1) := by decide +kernel
theorem dX6_mayFollow_18 : decode cX6_mayFollow 18 = .ok (.aload_n 0, 1) := by decide +kernel
theorem dX6_mayFollow_19 : decode cX6_mayFollow 19 = .ok (.iload_n 2, 1) := by decide +kernel
theorem dX6_mayFollow_20 : decode cX6_mayFollow 20 = .ok (.invokevirtual 46, 3) := by decide +kernel
theorem dX6_mayFollow_23 : decode cX6_mayFollow 23 = .ok (.aload_n 0, 1) := by decide +kernel
theorem dX6_mayFollow_24 : decode cX6_mayFollow 24 = .ok (.iload_n 1, 1) := by decide +kernel
theorem dX6_mayFollow_25 : decode cX6_mayFollow 25 = .ok (.invokevirtual 49, 3) := by decide +kernel
theorem dX6_mayFollow_28 : decode cX6_mayFollow 28 = .ok (.isub, 1) := by decide +kernel
theorem dX6_mayFollow_29 : decode cX6_mayFollow 29 = .ok (.istore_n 3, 1) := by decide +kernel
theorem dX6_mayFollow_30 : decode cX6_mayFollow 30 = .ok (.iload_n 3, 1) := by decide +kernel
theorem dX6_mayFollow_31 : decode cX6_mayFollow 31 = .ok (.ifCond .lt 16, 3) := by decide +kernel
theorem dX6_mayFollow_34 : decode cX6_mayFollow 34 = .ok (.iload_n 3, 1) := by decide +kernel
theorem dX6_mayFollow_35 : decode cX6_mayFollow 35 = .ok (.aload_n 0, 1) := by decide +kernel
theorem dX6_mayFollow_36 : decode cX6_mayFollow 36 = .ok (.iconst 4, 1) := by decide +kernel
theorem dX6_mayFollow_37 : decode cX6_mayFollow 37 = .ok (.invokevirtual 35, 3) := by decide +kernel
theorem dX6_mayFollow_40 : decode cX6_mayFollow 40 = .ok (.if_icmp .gt 7, 3) := by decide +kernel
theorem dX6_mayFollow_43 : decode cX6_mayFollow 43 = .ok (.iconst 1, 1) := by decide +kernel
theorem dX6_mayFollow_44 : decode cX6_mayFollow 44 = .ok (.goto 4, 3) := by decide +kernel
theorem dX6_mayFollow_47 : decode cX6_mayFollow 47 = .ok (.iconst 0, 1) := by decide +kernel
theorem dX6_mayFollow_48 : decode cX6_mayFollow 48 = .ok (.ireturn, 1) := by decide +kernel
theorem dX6_costToFollow_0 : decode cX6_costToFollow 0 = .ok (.aload_n 0, 1) := by decide +kernel
theorem dX6_costToFollow_1 : decode cX6_costToFollow 1 = .ok (.iload_n 1, 1) := by decide +kernel
theorem dX6_costToFollow_2 : decode cX6_costToFollow 2 = .ok (.iload_n 2, 1) := by decide +kernel
theorem dX6_costToFollow_3 : decode cX6_costToFollow 3 = .ok (.invokevirtual 52, 3) := by decide +kernel
theorem dX6_costToFollow_6 : decode cX6_costToFollow 6 = .ok (.ifCond .ne 5, 3) := by decide +kernel
theorem dX6_costToFollow_9 : decode cX6_costToFollow 9 = .ok (.iconst (-1), 1) := by decide +kernel
theorem dX6_costToFollow_10 : decode cX6_costToFollow 10 = .ok (.ireturn, 1) := by decide +kernel
theorem dX6_costToFollow_11 : decode cX6_costToFollow 11 = .ok (.aload_n 0, 1) := by decide +kernel
theorem dX6_costToFollow_12 : decode cX6_costToFollow 12 = .ok (.iload_n 2, 1) := by decide +kernel
theorem dX6_costToFollow_13 : decode cX6_costToFollow 13 = .ok (.invokevirtual 56, 3) := by decide +kernel
theorem dX6_costToFollow_16 : decode cX6_costToFollow 16 = .ok (.aload_n 0, 1) := by decide +kernel
theorem dX6_costToFollow_17 : decode cX6_costToFollow 17 = .ok (.iload_n 1, 1) := by decide +kernel
theorem dX6_costToFollow_18 : decode cX6_costToFollow 18 = .ok (.invokevirtual 56, 3) := by decide +kernel
theorem dX6_costToFollow_21 : decode cX6_costToFollow 21 = .ok (.isub, 1) := by decide +kernel
theorem dX6_costToFollow_22 : decode cX6_costToFollow 22 = .ok (.invokestatic 59, 3) := by decide +kernel
theorem dX6_costToFollow_25 : decode cX6_costToFollow 25 = .ok (.istore_n 3, 1) := by decide +kernel
theorem dX6_costToFollow_26 : decode cX6_costToFollow 26 = .ok (.aload_n 0, 1) := by decide +kernel
theorem dX6_costToFollow_27 : decode cX6_costToFollow 27 = .ok (.iload_n 2, 1) := by decide +kernel
theorem dX6_costToFollow_28 : decode cX6_costToFollow 28 = .ok (.invokevirtual 46, 3) := by decide +kernel
theorem dX6_costToFollow_31 : decode cX6_costToFollow 31 = .ok (.aload_n 0, 1) := by decide +kernel
theorem dX6_costToFollow_32 : decode cX6_costToFollow 32 = .ok (.iload_n 1, 1) := by decide +kernel
theorem dX6_costToFollow_33 : decode cX6_costToFollow 33 = .ok (.invokevirtual 49, 3) := by decide +kernel
theorem dX6_costToFollow_36 : decode cX6_costToFollow 36 = .ok (.isub, 1) := by decide +kernel
theorem dX6_costToFollow_37 : decode cX6_costToFollow 37 = .ok (.istore 4, 2) := by decide +kernel
theorem dX6_costToFollow_39 : decode cX6_costToFollow 39 = .ok (.iload_n 3, 1) := by decide +kernel
theorem dX6_costToFollow_40 : decode cX6_costToFollow 40 = .ok (.bipush 12, 2) := by decide +kernel
theorem dX6_costToFollow_42 : decode cX6_costToFollow 42 = .ok (.if_icmp .le 11, 3) := by decide +kernel
theorem dX6_costToFollow_45 : decode cX6_costToFollow 45 = .ok (.aload_n 0, 1) := by decide +kernel
theorem dX6_costToFollow_46 : decode cX6_costToFollow 46 = .ok (.iconst 2, 1) := by decide +kernel
theorem dX6_costToFollow_47 : decode cX6_costToFollow 47 = .ok (.invokevirtual 35, 3) := by decide +kernel
theorem dX6_costToFollow_50 : decode cX6_costToFollow 50 = .ok (.goto 4, 3) := by decide +kernel
theorem dX6_costToFollow_53 : decode cX6_costToFollow 53 = .ok (.iconst 0, 1) := by decide +kernel
theorem dX6_costToFollow_54 : decode cX6_costToFollow 54 = .ok (.istore 5, 2) := by decide +kernel
theorem dX6_costToFollow_56 : decode cX6_costToFollow 56 = .ok (.iload_n 3, 1) := by decide +kernel
theorem dX6_costToFollow_57 : decode cX6_costToFollow 57 = .ok (.aload_n 0, 1) := by decide +kernel
theorem dX6_costToFollow_58 : decode cX6_costToFollow 58 = .ok (.iconst 0, 1) := by decide +kernel
theorem dX6_costToFollow_59 : decode cX6_costToFollow 59 = .ok (.invokevirtual 35, 3) := by decide +kernel
theorem dX6_costToFollow_62 : decode cX6_costToFollow 62 = .ok (.imul, 1) := by decide +kernel
theorem dX6_costToFollow_63 : decode cX6_costToFollow 63 = .ok (.iload 4, 2) := by decide +kernel
theorem dX6_costToFollow_65 : decode cX6_costToFollow 65 = .ok (.aload_n 0, 1) := by decide +kernel
theorem dX6_costToFollow_66 : decode cX6_costToFollow 66 = .ok (.iconst 1, 1) := by decide +kernel
theorem dX6_costToFollow_67 : decode cX6_costToFollow 67 = .ok (.invokevirtual 35, 3) := by decide +kernel
theorem dX6_costToFollow_70 : decode cX6_costToFollow 70 = .ok (.imul, 1) := by decide +kernel
theorem dX6_costToFollow_71 : decode cX6_costToFollow 71 = .ok (.iadd, 1) := by decide +kernel
theorem dX6_costToFollow_72 : decode cX6_costToFollow 72 = .ok (.iload 5, 2) := by decide +kernel
theorem dX6_costToFollow_74 : decode cX6_costToFollow 74 = .ok (.iadd, 1) := by decide +kernel
theorem dX6_costToFollow_75 : decode cX6_costToFollow 75 = .ok (.ireturn, 1) := by decide +kernel
theorem dX6_countFollowers_0 : decode cX6_countFollowers 0 = .ok (.iconst 0, 1) := by decide +kernel
theorem dX6_countFollowers_1 : decode cX6_countFollowers 1 = .ok (.istore_n 2, 1) := by decide +kernel
theorem dX6_countFollowers_2 : decode cX6_countFollowers 2 = .ok (.iconst 0, 1) := by decide +kernel
theorem dX6_countFollowers_3 : decode cX6_countFollowers 3 = .ok (.istore_n 3, 1) := by decide +kernel
theorem dX6_countFollowers_4 : decode cX6_countFollowers 4 = .ok (.iload_n 3, 1) := by decide +kernel
theorem dX6_countFollowers_5 : decode cX6_countFollowers 5 = .ok (.aload_n 0, 1) := by decide +kernel
theorem dX6_countFollowers_6 : decode cX6_countFollowers 6 = .ok (.invokevirtual 64, 3) := by decide +kernel
theorem dX6_countFollowers_9 : decode cX6_countFollowers 9 = .ok (.if_icmp .ge 21, 3) := by decide +kernel
theorem dX6_countFollowers_12 : decode cX6_countFollowers 12 = .ok (.aload_n 0, 1) := by decide +kernel
theorem dX6_countFollowers_13 : decode cX6_countFollowers 13 = .ok (.iload_n 1, 1) := by decide +kernel
theorem dX6_countFollowers_14 : decode cX6_countFollowers 14 = .ok (.iload_n 3, 1) := by decide +kernel
theorem dX6_countFollowers_15 : decode cX6_countFollowers 15 = .ok (.invokevirtual 52, 3) := by decide +kernel
theorem dX6_countFollowers_18 : decode cX6_countFollowers 18 = .ok (.ifCond .eq 6, 3) := by decide +kernel
theorem dX6_countFollowers_21 : decode cX6_countFollowers 21 = .ok (.iinc 2 1, 3) := by decide +kernel
theorem dX6_countFollowers_24 : decode cX6_countFollowers 24 = .ok (.iinc 3 1, 3) := by decide +kernel
theorem dX6_countFollowers_27 : decode cX6_countFollowers 27 = .ok (.goto (-23), 3) := by decide +kernel
theorem dX6_countFollowers_30 : decode cX6_countFollowers 30 = .ok (.iload_n 2, 1) := by decide +kernel
theorem dX6_countFollowers_31 : decode cX6_countFollowers 31 = .ok (.ireturn, 1) := by decide +kernel
theorem dX6_bring_0 : decode cX6_bring 0 = .ok (.aload_n 0, 1) := by decide +kernel
theorem dX6_bring_1 : decode cX6_bring 1 = .ok (.invokevirtual 64, 3) := by decide +kernel
theorem dX6_bring_4 : decode cX6_bring 4 = .ok (.istore 4, 2) := by decide +kernel
theorem dX6_bring_6 : decode cX6_bring 6 = .ok (.iload 4, 2) := by decide +kernel
theorem dX6_bring_8 : decode cX6_bring 8 = .ok (.ifCond .lt 10, 3) := by decide +kernel
theorem dX6_bring_11 : decode cX6_bring 11 = .ok (.iload 4, 2) := by decide +kernel
theorem dX6_bring_13 : decode cX6_bring 13 = .ok (.bipush 10, 2) := by decide +kernel
theorem dX6_bring_15 : decode cX6_bring 15 = .ok (.if_icmp .lt 6, 3) := by decide +kernel
theorem dX6_bring_18 : decode cX6_bring 18 = .ok (.ldc 68, 2) := by decide +kernel
theorem dX6_bring_20 : decode cX6_bring 20 = .ok (.ireturn, 1) := by decide +kernel
theorem dX6_bring_21 : decode cX6_bring 21 = .ok (.aload_n 0, 1) := by decide +kernel
theorem dX6_bring_22 : decode cX6_bring 22 = .ok (.iload_n 1, 1) := by decide +kernel
theorem dX6_bring_23 : decode cX6_bring 23 = .ok (.iload_n 2, 1) := by decide +kernel
theorem dX6_bring_24 : decode cX6_bring 24 = .ok (.iload_n 3, 1) := by decide +kernel
theorem dX6_bring_25 : decode cX6_bring 25 = .ok (.invokevirtual 69, 3) := by decide +kernel
theorem dX6_bring_28 : decode cX6_bring 28 = .ok (.istore 5, 2) := by decide +kernel
theorem dX6_bring_30 : decode cX6_bring 30 = .ok (.bipush 6, 2) := by decide +kernel
theorem dX6_bring_32 : decode cX6_bring 32 = .ok (.iload 5, 2) := by decide +kernel
theorem dX6_bring_34 : decode cX6_bring 34 = .ok (.iconst 4, 1) := by decide +kernel
theorem dX6_bring_35 : decode cX6_bring 35 = .ok (.imul, 1) := by decide +kernel
theorem dX6_bring_36 : decode cX6_bring 36 = .ok (.iadd, 1) := by decide +kernel
theorem dX6_bring_37 : decode cX6_bring 37 = .ok (.istore 6, 2) := by decide +kernel
theorem dX6_bring_39 : decode cX6_bring 39 = .ok (.aload_n 0, 1) := by decide +kernel
theorem dX6_bring_40 : decode cX6_bring 40 = .ok (.getfield 11, 3) := by decide +kernel
theorem dX6_bring_43 : decode cX6_bring 43 = .ok (.iload 6, 2) := by decide +kernel
theorem dX6_bring_45 : decode cX6_bring 45 = .ok (.aload_n 0, 1) := by decide +kernel
theorem dX6_bring_46 : decode cX6_bring 46 = .ok (.getfield 11, 3) := by decide +kernel
theorem dX6_bring_49 : decode cX6_bring 49 = .ok (.iload 6, 2) := by decide +kernel
theorem dX6_bring_51 : decode cX6_bring 51 = .ok (.iconst 4, 1) := by decide +kernel
theorem dX6_bring_52 : decode cX6_bring 52 = .ok (.iadd, 1) := by decide +kernel
theorem dX6_bring_53 : decode cX6_bring 53 = .ok (.iload 4, 2) := by decide +kernel
theorem dX6_bring_55 : decode cX6_bring 55 = .ok (.iload 5, 2) := by decide +kernel
theorem dX6_bring_57 : decode cX6_bring 57 = .ok (.isub, 1) := by decide +kernel
theorem dX6_bring_58 : decode cX6_bring 58 = .ok (.iconst 4, 1) := by decide +kernel
theorem dX6_bring_59 : decode cX6_bring 59 = .ok (.imul, 1) := by decide +kernel
theorem dX6_bring_60 : decode cX6_bring 60 = .ok (.invokestatic 18, 3) := by decide +kernel
theorem dX6_bring_63 : decode cX6_bring 63 = .ok (.aload_n 0, 1) := by decide +kernel
theorem dX6_bring_64 : decode cX6_bring 64 = .ok (.getfield 11, 3) := by decide +kernel
theorem dX6_bring_67 : decode cX6_bring 67 = .ok (.iload 6, 2) := by decide +kernel
theorem dX6_bring_69 : decode cX6_bring 69 = .ok (.iconst 0, 1) := by decide +kernel
theorem dX6_bring_70 : decode cX6_bring 70 = .ok (.iadd, 1) := by decide +kernel
theorem dX6_bring_71 : decode cX6_bring 71 = .ok (.iload_n 1, 1) := by decide +kernel
theorem dX6_bring_72 : decode cX6_bring 72 = .ok (.iastore, 1) := by decide +kernel
theorem dX6_bring_73 : decode cX6_bring 73 = .ok (.aload_n 0, 1) := by decide +kernel
theorem dX6_bring_74 : decode cX6_bring 74 = .ok (.getfield 11, 3) := by decide +kernel
theorem dX6_bring_77 : decode cX6_bring 77 = .ok (.iload 6, 2) := by decide +kernel
theorem dX6_bring_79 : decode cX6_bring 79 = .ok (.iconst 1, 1) := by decide +kernel
theorem dX6_bring_80 : decode cX6_bring 80 = .ok (.iadd, 1) := by decide +kernel
theorem dX6_bring_81 : decode cX6_bring 81 = .ok (.iload_n 2, 1) := by decide +kernel
theorem dX6_bring_82 : decode cX6_bring 82 = .ok (.iastore, 1) := by decide +kernel
theorem dX6_bring_83 : decode cX6_bring 83 = .ok (.aload_n 0, 1) := by decide +kernel
theorem dX6_bring_84 : decode cX6_bring 84 = .ok (.getfield 11, 3) := by decide +kernel
theorem dX6_bring_87 : decode cX6_bring 87 = .ok (.iload 6, 2) := by decide +kernel
theorem dX6_bring_89 : decode cX6_bring 89 = .ok (.iconst 2, 1) := by decide +kernel
theorem dX6_bring_90 : decode cX6_bring 90 = .ok (.iadd, 1) := by decide +kernel
theorem dX6_bring_91 : decode cX6_bring 91 = .ok (.iload_n 3, 1) := by decide +kernel
theorem dX6_bring_92 : decode cX6_bring 92 = .ok (.iastore, 1) := by decide +kernel
theorem dX6_bring_93 : decode cX6_bring 93 = .ok (.aload_n 0, 1) := by decide +kernel
theorem dX6_bring_94 : decode cX6_bring 94 = .ok (.getfield 11, 3) := by decide +kernel
theorem dX6_bring_97 : decode cX6_bring 97 = .ok (.iconst 0, 1) := by decide +kernel
theorem dX6_bring_98 : decode cX6_bring 98 = .ok (.iload 4, 2) := by decide +kernel
theorem dX6_bring_100 : decode cX6_bring 100 = .ok (.iconst 1, 1) := by decide +kernel
theorem dX6_bring_101 : decode cX6_bring 101 = .ok (.iadd, 1) := by decide +kernel
theorem dX6_bring_102 : decode cX6_bring 102 = .ok (.iastore, 1) := by decide +kernel
theorem dX6_bring_103 : decode cX6_bring 103 = .ok (.aload_n 0, 1) := by decide +kernel
theorem dX6_bring_104 : decode cX6_bring 104 = .ok (.invokevirtual 39, 3) := by decide +kernel
theorem dX6_bring_107 : decode cX6_bring 107 = .ok (.iload 5, 2) := by decide +kernel
theorem dX6_bring_109 : decode cX6_bring 109 = .ok (.ireturn, 1) := by decide +kernel
theorem dX6_placeFor_0 : decode cX6_placeFor 0 = .ok (.iload_n 1, 1) := by decide +kernel
theorem dX6_placeFor_1 : decode cX6_placeFor 1 = .ok (.iload_n 2, 1) := by decide +kernel
theorem dX6_placeFor_2 : decode cX6_placeFor 2 = .ok (.iload_n 3, 1) := by decide +kernel
theorem dX6_placeFor_3 : decode cX6_placeFor 3 = .ok (.invokestatic 73, 3) := by decide +kernel
theorem dX6_placeFor_6 : decode cX6_placeFor 6 = .ok (.istore 4, 2) := by decide +kernel
theorem dX6_placeFor_8 : decode cX6_placeFor 8 = .ok (.iconst 0, 1) := by decide +kernel
theorem dX6_placeFor_9 : decode cX6_placeFor 9 = .ok (.istore 5, 2) := by decide +kernel
theorem dX6_placeFor_11 : decode cX6_placeFor 11 = .ok (.iload 5, 2) := by decide +kernel
theorem dX6_placeFor_13 : decode cX6_placeFor 13 = .ok (.aload_n 0, 1) := by decide +kernel
theorem dX6_placeFor_14 : decode cX6_placeFor 14 = .ok (.invokevirtual 64, 3) := by decide +kernel
theorem dX6_placeFor_17 : decode cX6_placeFor 17 = .ok (.if_icmp .ge 35, 3) := by decide +kernel
theorem dX6_placeFor_20 : decode cX6_placeFor 20 = .ok (.aload_n 0, 1) := by decide +kernel
theorem dX6_placeFor_21 : decode cX6_placeFor 21 = .ok (.iload 5, 2) := by decide +kernel
theorem dX6_placeFor_23 : decode cX6_placeFor 23 = .ok (.invokevirtual 46, 3) := by decide +kernel
theorem dX6_placeFor_26 : decode cX6_placeFor 26 = .ok (.aload_n 0, 1) := by decide +kernel
theorem dX6_placeFor_27 : decode cX6_placeFor 27 = .ok (.iload 5, 2) := by decide +kernel
theorem dX6_placeFor_29 : decode cX6_placeFor 29 = .ok (.invokevirtual 76, 3) := by decide +kernel
theorem dX6_placeFor_32 : decode cX6_placeFor 32 = .ok (.aload_n 0, 1) := by decide +kernel
theorem dX6_placeFor_33 : decode cX6_placeFor 33 = .ok (.iload 5, 2) := by decide +kernel
theorem dX6_placeFor_35 : decode cX6_placeFor 35 = .ok (.invokevirtual 56, 3) := by decide +kernel
theorem dX6_placeFor_38 : decode cX6_placeFor 38 = .ok (.invokestatic 73, 3) := by decide +kernel
theorem dX6_placeFor_41 : decode cX6_placeFor 41 = .ok (.iload 4, 2) := by decide +kernel
theorem dX6_placeFor_43 : decode cX6_placeFor 43 = .ok (.if_icmp .gt 9, 3) := by decide +kernel
theorem dX6_placeFor_46 : decode cX6_placeFor 46 = .ok (.iinc 5 1, 3) := by decide +kernel
theorem dX6_placeFor_49 : decode cX6_placeFor 49 = .ok (.goto (-38), 3) := by decide +kernel
theorem dX6_placeFor_52 : decode cX6_placeFor 52 = .ok (.iload 5, 2) := by decide +kernel
theorem dX6_placeFor_54 : decode cX6_placeFor 54 = .ok (.ireturn, 1) := by decide +kernel
theorem dX6_orderKey_0 : decode cX6_orderKey 0 = .ok (.iload_n 0, 1) := by decide +kernel
theorem dX6_orderKey_1 : decode cX6_orderKey 1 = .ok (.sipush 128, 3) := by decide +kernel
theorem dX6_orderKey_4 : decode cX6_orderKey 4 = .ok (.imul, 1) := by decide +kernel
theorem dX6_orderKey_5 : decode cX6_orderKey 5 = .ok (.iload_n 2, 1) := by decide +kernel
theorem dX6_orderKey_6 : decode cX6_orderKey 6 = .ok (.iadd, 1) := by decide +kernel
theorem dX6_orderKey_7 : decode cX6_orderKey 7 = .ok (.bipush 64, 2) := by decide +kernel
theorem dX6_orderKey_9 : decode cX6_orderKey 9 = .ok (.imul, 1) := by decide +kernel
theorem dX6_orderKey_10 : decode cX6_orderKey 10 = .ok (.iload_n 1, 1) := by decide +kernel
theorem dX6_orderKey_11 : decode cX6_orderKey 11 = .ok (.iadd, 1) := by decide +kernel
theorem dX6_orderKey_12 : decode cX6_orderKey 12 = .ok (.ireturn, 1) := by decide +kernel
theorem dX6_drop_0 : decode cX6_drop 0 = .ok (.aload_n 0, 1) := by decide +kernel
theorem dX6_drop_1 : decode cX6_drop 1 = .ok (.iload_n 1, 1) := by decide +kernel
theorem dX6_drop_2 : decode cX6_drop 2 = .ok (.invokevirtual 42, 3) := by decide +kernel
theorem dX6_drop_5 : decode cX6_drop 5 = .ok (.ifCond .ne 4, 3) := by decide +kernel
theorem dX6_drop_8 : decode cX6_drop 8 = .ok (.return_, 1) := by decide +kernel
theorem dX6_drop_9 : decode cX6_drop 9 = .ok (.bipush 6, 2) := by decide +kernel
theorem dX6_drop_11 : decode cX6_drop 11 = .ok (.iload_n 1, 1) := by decide +kernel
theorem dX6_drop_12 : decode cX6_drop 12 = .ok (.iconst 4, 1) := by decide +kernel
theorem dX6_drop_13 : decode cX6_drop 13 = .ok (.imul, 1) := by decide +kernel
theorem dX6_drop_14 : decode cX6_drop 14 = .ok (.iadd, 1) := by decide +kernel
theorem dX6_drop_15 : decode cX6_drop 15 = .ok (.istore_n 2, 1) := by decide +kernel
theorem dX6_drop_16 : decode cX6_drop 16 = .ok (.aload_n 0, 1) := by decide +kernel
theorem dX6_drop_17 : decode cX6_drop 17 = .ok (.invokevirtual 64, 3) := by decide +kernel
theorem dX6_drop_20 : decode cX6_drop 20 = .ok (.iconst 1, 1) := by decide +kernel
theorem dX6_drop_21 : decode cX6_drop 21 = .ok (.isub, 1) := by decide +kernel
theorem dX6_drop_22 : decode cX6_drop 22 = .ok (.iload_n 1, 1) := by decide +kernel
theorem dX6_drop_23 : decode cX6_drop 23 = .ok (.isub, 1) := by decide +kernel
theorem dX6_drop_24 : decode cX6_drop 24 = .ok (.istore_n 3, 1) := by decide +kernel
theorem dX6_drop_25 : decode cX6_drop 25 = .ok (.aload_n 0, 1) := by decide +kernel
theorem dX6_drop_26 : decode cX6_drop 26 = .ok (.getfield 11, 3) := by decide +kernel
theorem dX6_drop_29 : decode cX6_drop 29 = .ok (.iload_n 2, 1) := by decide +kernel
theorem dX6_drop_30 : decode cX6_drop 30 = .ok (.iconst 4, 1) := by decide +kernel
theorem dX6_drop_31 : decode cX6_drop 31 = .ok (.iadd, 1) := by decide +kernel
theorem dX6_drop_32 : decode cX6_drop 32 = .ok (.aload_n 0, 1) := by decide +kernel
theorem dX6_drop_33 : decode cX6_drop 33 = .ok (.getfield 11, 3) := by decide +kernel
theorem dX6_drop_36 : decode cX6_drop 36 = .ok (.iload_n 2, 1) := by decide +kernel
theorem dX6_drop_37 : decode cX6_drop 37 = .ok (.iload_n 3, 1) := by decide +kernel
theorem dX6_drop_38 : decode cX6_drop 38 = .ok (.iconst 4, 1) := by decide +kernel
theorem dX6_drop_39 : decode cX6_drop 39 = .ok (.imul, 1) := by decide +kernel
theorem dX6_drop_40 : decode cX6_drop 40 = .ok (.invokestatic 18, 3) := by decide +kernel
theorem dX6_drop_43 : decode cX6_drop 43 = .ok (.aload_n 0, 1) := by decide +kernel
theorem dX6_drop_44 : decode cX6_drop 44 = .ok (.getfield 11, 3) := by decide +kernel
theorem dX6_drop_47 : decode cX6_drop 47 = .ok (.iconst 0, 1) := by decide +kernel
theorem dX6_drop_48 : decode cX6_drop 48 = .ok (.aload_n 0, 1) := by decide +kernel
theorem dX6_drop_49 : decode cX6_drop 49 = .ok (.invokevirtual 64, 3) := by decide +kernel
theorem dX6_drop_52 : decode cX6_drop 52 = .ok (.iconst 1, 1) := by decide +kernel
theorem dX6_drop_53 : decode cX6_drop 53 = .ok (.isub, 1) := by decide +kernel
theorem dX6_drop_54 : decode cX6_drop 54 = .ok (.iastore, 1) := by decide +kernel
theorem dX6_drop_55 : decode cX6_drop 55 = .ok (.aload_n 0, 1) := by decide +kernel
theorem dX6_drop_56 : decode cX6_drop 56 = .ok (.invokevirtual 39, 3) := by decide +kernel
theorem dX6_drop_59 : decode cX6_drop 59 = .ok (.return_, 1) := by decide +kernel
theorem dX6_dropAll_0 : decode cX6_dropAll 0 = .ok (.aload_n 0, 1) := by decide +kernel
theorem dX6_dropAll_1 : decode cX6_dropAll 1 = .ok (.getfield 11, 3) := by decide +kernel
theorem dX6_dropAll_4 : decode cX6_dropAll 4 = .ok (.iconst 0, 1) := by decide +kernel
theorem dX6_dropAll_5 : decode cX6_dropAll 5 = .ok (.iconst 0, 1) := by decide +kernel
theorem dX6_dropAll_6 : decode cX6_dropAll 6 = .ok (.iastore, 1) := by decide +kernel
theorem dX6_dropAll_7 : decode cX6_dropAll 7 = .ok (.aload_n 0, 1) := by decide +kernel
theorem dX6_dropAll_8 : decode cX6_dropAll 8 = .ok (.invokevirtual 39, 3) := by decide +kernel
theorem dX6_dropAll_11 : decode cX6_dropAll 11 = .ok (.return_, 1) := by decide +kernel
theorem dX6_changed_0 : decode cX6_changed 0 = .ok (.aload_n 0, 1) := by decide +kernel
theorem dX6_changed_1 : decode cX6_changed 1 = .ok (.dup, 1) := by decide +kernel
theorem dX6_changed_2 : decode cX6_changed 2 = .ok (.getfield 27, 3) := by decide +kernel
theorem dX6_changed_5 : decode cX6_changed 5 = .ok (.iconst 1, 1) := by decide +kernel
theorem dX6_changed_6 : decode cX6_changed 6 = .ok (.iadd, 1) := by decide +kernel
theorem dX6_changed_7 : decode cX6_changed 7 = .ok (.putfield 27, 3) := by decide +kernel
theorem dX6_changed_10 : decode cX6_changed 10 = .ok (.iconst 0, 1) := by decide +kernel
theorem dX6_changed_11 : decode cX6_changed 11 = .ok (.istore_n 1, 1) := by decide +kernel
theorem dX6_changed_12 : decode cX6_changed 12 = .ok (.iload_n 1, 1) := by decide +kernel
theorem dX6_changed_13 : decode cX6_changed 13 = .ok (.aload_n 0, 1) := by decide +kernel
theorem dX6_changed_14 : decode cX6_changed 14 = .ok (.invokevirtual 64, 3) := by decide +kernel
theorem dX6_changed_17 : decode cX6_changed 17 = .ok (.if_icmp .ge 15, 3) := by decide +kernel
theorem dX6_changed_20 : decode cX6_changed 20 = .ok (.aload_n 0, 1) := by decide +kernel
theorem dX6_changed_21 : decode cX6_changed 21 = .ok (.iload_n 1, 1) := by decide +kernel
theorem dX6_changed_22 : decode cX6_changed 22 = .ok (.iconst (-1), 1) := by decide +kernel
theorem dX6_changed_23 : decode cX6_changed 23 = .ok (.invokevirtual 79, 3) := by decide +kernel
theorem dX6_changed_26 : decode cX6_changed 26 = .ok (.iinc 1 1, 3) := by decide +kernel
theorem dX6_changed_29 : decode cX6_changed 29 = .ok (.goto (-17), 3) := by decide +kernel
theorem dX6_changed_32 : decode cX6_changed 32 = .ok (.return_, 1) := by decide +kernel
theorem dX6_link_0 : decode cX6_link 0 = .ok (.aload_n 0, 1) := by decide +kernel
theorem dX6_link_1 : decode cX6_link 1 = .ok (.iload_n 1, 1) := by decide +kernel
theorem dX6_link_2 : decode cX6_link 2 = .ok (.invokevirtual 42, 3) := by decide +kernel
theorem dX6_link_5 : decode cX6_link 5 = .ok (.ifCond .eq 17, 3) := by decide +kernel
theorem dX6_link_8 : decode cX6_link 8 = .ok (.aload_n 0, 1) := by decide +kernel
theorem dX6_link_9 : decode cX6_link 9 = .ok (.getfield 11, 3) := by decide +kernel
theorem dX6_link_12 : decode cX6_link 12 = .ok (.bipush 6, 2) := by decide +kernel
theorem dX6_link_14 : decode cX6_link 14 = .ok (.iload_n 1, 1) := by decide +kernel
theorem dX6_link_15 : decode cX6_link 15 = .ok (.iconst 4, 1) := by decide +kernel
theorem dX6_link_16 : decode cX6_link 16 = .ok (.imul, 1) := by decide +kernel
theorem dX6_link_17 : decode cX6_link 17 = .ok (.iadd, 1) := by decide +kernel
theorem dX6_link_18 : decode cX6_link 18 = .ok (.iconst 3, 1) := by decide +kernel
theorem dX6_link_19 : decode cX6_link 19 = .ok (.iadd, 1) := by decide +kernel
theorem dX6_link_20 : decode cX6_link 20 = .ok (.iload_n 2, 1) := by decide +kernel
theorem dX6_link_21 : decode cX6_link 21 = .ok (.iastore, 1) := by decide +kernel
theorem dX6_link_22 : decode cX6_link 22 = .ok (.return_, 1) := by decide +kernel
theorem dX6_copyTo_0 : decode cX6_copyTo 0 = .ok (.aload_n 1, 1) := by decide +kernel
theorem dX6_copyTo_1 : decode cX6_copyTo 1 = .ok (.iload_n 2, 1) := by decide +kernel
theorem dX6_copyTo_2 : decode cX6_copyTo 2 = .ok (.invokestatic 83, 3) := by decide +kernel
theorem dX6_copyTo_5 : decode cX6_copyTo 5 = .ok (.ifCond .eq 18, 3) := by decide +kernel
theorem dX6_copyTo_8 : decode cX6_copyTo 8 = .ok (.aload_n 0, 1) := by decide +kernel
theorem dX6_copyTo_9 : decode cX6_copyTo 9 = .ok (.getfield 11, 3) := by decide +kernel
theorem dX6_copyTo_12 : decode cX6_copyTo 12 = .ok (.iconst 0, 1) := by decide +kernel
theorem dX6_copyTo_13 : decode cX6_copyTo 13 = .ok (.aload_n 1, 1) := by decide +kernel
theorem dX6_copyTo_14 : decode cX6_copyTo 14 = .ok (.iload_n 2, 1) := by decide +kernel
theorem dX6_copyTo_15 : decode cX6_copyTo 15 = .ok (.bipush 46, 2) := by decide +kernel
theorem dX6_copyTo_17 : decode cX6_copyTo 17 = .ok (.imul, 1) := by decide +kernel
theorem dX6_copyTo_18 : decode cX6_copyTo 18 = .ok (.bipush 46, 2) := by decide +kernel
theorem dX6_copyTo_20 : decode cX6_copyTo 20 = .ok (.invokestatic 18, 3) := by decide +kernel
theorem dX6_copyTo_23 : decode cX6_copyTo 23 = .ok (.return_, 1) := by decide +kernel
theorem dX6_copyFrom_0 : decode cX6_copyFrom 0 = .ok (.aload_n 1, 1) := by decide +kernel
theorem dX6_copyFrom_1 : decode cX6_copyFrom 1 = .ok (.iload_n 2, 1) := by decide +kernel
theorem dX6_copyFrom_2 : decode cX6_copyFrom 2 = .ok (.invokestatic 83, 3) := by decide +kernel
theorem dX6_copyFrom_5 : decode cX6_copyFrom 5 = .ok (.ifCond .ne 4, 3) := by decide +kernel
theorem dX6_copyFrom_8 : decode cX6_copyFrom 8 = .ok (.return_, 1) := by decide +kernel
theorem dX6_copyFrom_9 : decode cX6_copyFrom 9 = .ok (.aload_n 1, 1) := by decide +kernel
theorem dX6_copyFrom_10 : decode cX6_copyFrom 10 = .ok (.iload_n 2, 1) := by decide +kernel
theorem dX6_copyFrom_11 : decode cX6_copyFrom 11 = .ok (.bipush 46, 2) := by decide +kernel
theorem dX6_copyFrom_13 : decode cX6_copyFrom 13 = .ok (.imul, 1) := by decide +kernel
theorem dX6_copyFrom_14 : decode cX6_copyFrom 14 = .ok (.aload_n 0, 1) := by decide +kernel
theorem dX6_copyFrom_15 : decode cX6_copyFrom 15 = .ok (.getfield 11, 3) := by decide +kernel
theorem dX6_copyFrom_18 : decode cX6_copyFrom 18 = .ok (.iconst 0, 1) := by decide +kernel
theorem dX6_copyFrom_19 : decode cX6_copyFrom 19 = .ok (.bipush 46, 2) := by decide +kernel
theorem dX6_copyFrom_21 : decode cX6_copyFrom 21 = .ok (.invokestatic 18, 3) := by decide +kernel
theorem dX6_copyFrom_24 : decode cX6_copyFrom 24 = .ok (.aload_n 0, 1) := by decide +kernel
theorem dX6_copyFrom_25 : decode cX6_copyFrom 25 = .ok (.dup, 1) := by decide +kernel
theorem dX6_copyFrom_26 : decode cX6_copyFrom 26 = .ok (.getfield 27, 3) := by decide +kernel
theorem dX6_copyFrom_29 : decode cX6_copyFrom 29 = .ok (.iconst 1, 1) := by decide +kernel
theorem dX6_copyFrom_30 : decode cX6_copyFrom 30 = .ok (.iadd, 1) := by decide +kernel
theorem dX6_copyFrom_31 : decode cX6_copyFrom 31 = .ok (.putfield 27, 3) := by decide +kernel
theorem dX6_copyFrom_34 : decode cX6_copyFrom 34 = .ok (.return_, 1) := by decide +kernel
theorem dX6_fitsOn_0 : decode cX6_fitsOn 0 = .ok (.aload_n 0, 1) := by decide +kernel
theorem dX6_fitsOn_1 : decode cX6_fitsOn 1 = .ok (.ifnull 20, 3) := by decide +kernel
theorem dX6_fitsOn_4 : decode cX6_fitsOn 4 = .ok (.iload_n 1, 1) := by decide +kernel
theorem dX6_fitsOn_5 : decode cX6_fitsOn 5 = .ok (.ifCond .lt 16, 3) := by decide +kernel
theorem dX6_fitsOn_8 : decode cX6_fitsOn 8 = .ok (.iload_n 1, 1) := by decide +kernel
theorem dX6_fitsOn_9 : decode cX6_fitsOn 9 = .ok (.aload_n 0, 1) := by decide +kernel
theorem dX6_fitsOn_10 : decode cX6_fitsOn 10 = .ok (.arraylength, 1) := by decide +kernel
theorem dX6_fitsOn_11 : decode cX6_fitsOn 11 = .ok (.bipush 46, 2) := by decide +kernel
theorem dX6_fitsOn_13 : decode cX6_fitsOn 13 = .ok (.idiv, 1) := by decide +kernel
theorem dX6_fitsOn_14 : decode cX6_fitsOn 14 = .ok (.if_icmp .ge 7, 3) := by decide +kernel
theorem dX6_fitsOn_17 : decode cX6_fitsOn 17 = .ok (.iconst 1, 1) := by decide +kernel
theorem dX6_fitsOn_18 : decode cX6_fitsOn 18 = .ok (.goto 4, 3) := by decide +kernel
theorem dX6_fitsOn_21 : decode cX6_fitsOn 21 = .ok (.iconst 0, 1) := by decide +kernel
theorem dX6_fitsOn_22 : decode cX6_fitsOn 22 = .ok (.ireturn, 1) := by decide +kernel
theorem dX7_init_0 : decode cX7_init 0 = .ok (.aload_n 0, 1) := by decide +kernel
theorem dX7_init_1 : decode cX7_init 1 = .ok (.invokespecial 1, 3) := by decide +kernel
theorem dX7_init_4 : decode cX7_init 4 = .ok (.aload_n 0, 1) := by decide +kernel
theorem dX7_init_5 : decode cX7_init 5 = .ok (.new 7, 3) := by decide +kernel
theorem dX7_init_8 : decode cX7_init 8 = .ok (.dup, 1) := by decide +kernel
theorem dX7_init_9 : decode cX7_init 9 = .ok (.invokespecial 9, 3) := by decide +kernel
theorem dX7_init_12 : decode cX7_init 12 = .ok (.putfield 10, 3) := by decide +kernel
theorem dX7_init_15 : decode cX7_init 15 = .ok (.aload_n 0, 1) := by decide +kernel
theorem dX7_init_16 : decode cX7_init 16 = .ok (.new 16, 3) := by decide +kernel
theorem dX7_init_19 : decode cX7_init 19 = .ok (.dup, 1) := by decide +kernel
theorem dX7_init_20 : decode cX7_init 20 = .ok (.aload_n 0, 1) := by decide +kernel
theorem dX7_init_21 : decode cX7_init 21 = .ok (.getfield 10, 3) := by decide +kernel
theorem dX7_init_24 : decode cX7_init 24 = .ok (.invokespecial 18, 3) := by decide +kernel
theorem dX7_init_27 : decode cX7_init 27 = .ok (.putfield 21, 3) := by decide +kernel
theorem dX7_init_30 : decode cX7_init 30 = .ok (.aload_n 0, 1) := by decide +kernel
theorem dX7_init_31 : decode cX7_init 31 = .ok (.new 25, 3) := by decide +kernel
theorem dX7_init_34 : decode cX7_init 34 = .ok (.dup, 1) := by decide +kernel
theorem dX7_init_35 : decode cX7_init 35 = .ok (.aload_n 0, 1) := by decide +kernel
theorem dX7_init_36 : decode cX7_init 36 = .ok (.getfield 10, 3) := by decide +kernel
theorem dX7_init_39 : decode cX7_init 39 = .ok (.invokespecial 27, 3) := by decide +kernel
theorem dX7_init_42 : decode cX7_init 42 = .ok (.putfield 28, 3) := by decide +kernel
theorem dX7_init_45 : decode cX7_init 45 = .ok (.aload_n 0, 1) := by decide +kernel
theorem dX7_init_46 : decode cX7_init 46 = .ok (.new 32, 3) := by decide +kernel
theorem dX7_init_49 : decode cX7_init 49 = .ok (.dup, 1) := by decide +kernel
theorem dX7_init_50 : decode cX7_init 50 = .ok (.invokespecial 34, 3) := by decide +kernel
theorem dX7_init_53 : decode cX7_init 53 = .ok (.putfield 35, 3) := by decide +kernel
theorem dX7_init_56 : decode cX7_init 56 = .ok (.aload_n 0, 1) := by decide +kernel
theorem dX7_init_57 : decode cX7_init 57 = .ok (.new 39, 3) := by decide +kernel
theorem dX7_init_60 : decode cX7_init 60 = .ok (.dup, 1) := by decide +kernel
theorem dX7_init_61 : decode cX7_init 61 = .ok (.invokespecial 41, 3) := by decide +kernel
theorem dX7_init_64 : decode cX7_init 64 = .ok (.putfield 42, 3) := by decide +kernel
theorem dX7_init_67 : decode cX7_init 67 = .ok (.aload_n 0, 1) := by decide +kernel
theorem dX7_init_68 : decode cX7_init 68 = .ok (.new 46, 3) := by decide +kernel
theorem dX7_init_71 : decode cX7_init 71 = .ok (.dup, 1) := by decide +kernel
theorem dX7_init_72 : decode cX7_init 72 = .ok (.invokespecial 48, 3) := by decide +kernel
theorem dX7_init_75 : decode cX7_init 75 = .ok (.putfield 49, 3) := by decide +kernel
theorem dX7_init_78 : decode cX7_init 78 = .ok (.aload_n 0, 1) := by decide +kernel
theorem dX7_init_79 : decode cX7_init 79 = .ok (.new 53, 3) := by decide +kernel
theorem dX7_init_82 : decode cX7_init 82 = .ok (.dup, 1) := by decide +kernel
theorem dX7_init_83 : decode cX7_init 83 = .ok (.invokespecial 55, 3) := by decide +kernel
theorem dX7_init_86 : decode cX7_init 86 = .ok (.putfield 56, 3) := by decide +kernel
theorem dX7_init_89 : decode cX7_init 89 = .ok (.return_, 1) := by decide +kernel
theorem dX7_told_0 : decode cX7_told 0 = .ok (.iload_n 1, 1) := by decide +kernel
theorem dX7_told_1 : decode cX7_told 1 = .ok (.tableswitch 183 0 15 #[79, 87, 95, 103, 111, 119, 127, 135, 135, 135, 135, 135, 147, 155, 167, 175], 79) := by decide +kernel
theorem dX7_told_80 : decode cX7_told 80 = .ok (.aload_n 0, 1) := by decide +kernel
theorem dX7_told_81 : decode cX7_told 81 = .ok (.getfield 10, 3) := by decide +kernel
theorem dX7_told_84 : decode cX7_told 84 = .ok (.invokevirtual 60, 3) := by decide +kernel
theorem dX7_told_87 : decode cX7_told 87 = .ok (.ireturn, 1) := by decide +kernel
theorem dX7_told_88 : decode cX7_told 88 = .ok (.aload_n 0, 1) := by decide +kernel
theorem dX7_told_89 : decode cX7_told 89 = .ok (.invokevirtual 64, 3) := by decide +kernel
theorem dX7_told_92 : decode cX7_told 92 = .ok (.invokevirtual 68, 3) := by decide +kernel
theorem dX7_told_95 : decode cX7_told 95 = .ok (.ireturn, 1) := by decide +kernel
theorem dX7_told_96 : decode cX7_told 96 = .ok (.aload_n 0, 1) := by decide +kernel
theorem dX7_told_97 : decode cX7_told 97 = .ok (.invokevirtual 64, 3) := by decide +kernel
theorem dX7_told_100 : decode cX7_told 100 = .ok (.invokevirtual 71, 3) := by decide +kernel
theorem dX7_told_103 : decode cX7_told 103 = .ok (.ireturn, 1) := by decide +kernel
theorem dX7_told_104 : decode cX7_told 104 = .ok (.aload_n 0, 1) := by decide +kernel
theorem dX7_told_105 : decode cX7_told 105 = .ok (.invokevirtual 74, 3) := by decide +kernel
theorem dX7_told_108 : decode cX7_told 108 = .ok (.invokevirtual 78, 3) := by decide +kernel
theorem dX7_told_111 : decode cX7_told 111 = .ok (.ireturn, 1) := by decide +kernel
theorem dX7_told_112 : decode cX7_told 112 = .ok (.aload_n 0, 1) := by decide +kernel
theorem dX7_told_113 : decode cX7_told 113 = .ok (.invokevirtual 74, 3) := by decide +kernel
theorem dX7_told_116 : decode cX7_told 116 = .ok (.invokevirtual 81, 3) := by decide +kernel
theorem dX7_told_119 : decode cX7_told 119 = .ok (.ireturn, 1) := by decide +kernel
theorem dX7_told_120 : decode cX7_told 120 = .ok (.aload_n 0, 1) := by decide +kernel
theorem dX7_told_121 : decode cX7_told 121 = .ok (.invokevirtual 74, 3) := by decide +kernel
theorem dX7_told_124 : decode cX7_told 124 = .ok (.invokevirtual 84, 3) := by decide +kernel
theorem dX7_told_127 : decode cX7_told 127 = .ok (.ireturn, 1) := by decide +kernel
theorem dX7_told_128 : decode cX7_told 128 = .ok (.aload_n 0, 1) := by decide +kernel
theorem dX7_told_129 : decode cX7_told 129 = .ok (.getfield 21, 3) := by decide +kernel
theorem dX7_told_132 : decode cX7_told 132 = .ok (.invokevirtual 87, 3) := by decide +kernel
theorem dX7_told_135 : decode cX7_told 135 = .ok (.ireturn, 1) := by decide +kernel
theorem dX7_told_136 : decode cX7_told 136 = .ok (.aload_n 0, 1) := by decide +kernel
theorem dX7_told_137 : decode cX7_told 137 = .ok (.getfield 10, 3) := by decide +kernel
theorem dX7_told_140 : decode cX7_told 140 = .ok (.iload_n 1, 1) := by decide +kernel
theorem dX7_told_141 : decode cX7_told 141 = .ok (.bipush 7, 2) := by decide +kernel
theorem dX7_told_143 : decode cX7_told 143 = .ok (.isub, 1) := by decide +kernel
theorem dX7_told_144 : decode cX7_told 144 = .ok (.invokevirtual 90, 3) := by decide +kernel
theorem dX7_told_147 : decode cX7_told 147 = .ok (.ireturn, 1) := by decide +kernel
theorem dX7_told_148 : decode cX7_told 148 = .ok (.aload_n 0, 1) := by decide +kernel
theorem dX7_told_149 : decode cX7_told 149 = .ok (.getfield 49, 3) := by decide +kernel
theorem dX7_told_152 : decode cX7_told 152 = .ok (.invokevirtual 94, 3) := by decide +kernel
theorem dX7_told_155 : decode cX7_told 155 = .ok (.ireturn, 1) := by decide +kernel
theorem dX7_told_156 : decode cX7_told 156 = .ok (.aload_n 0, 1) := by decide +kernel
theorem dX7_told_157 : decode cX7_told 157 = .ok (.getfield 49, 3) := by decide +kernel
theorem dX7_told_160 : decode cX7_told 160 = .ok (.aload_n 0, 1) := by decide +kernel
theorem dX7_told_161 : decode cX7_told 161 = .ok (.invokevirtual 74, 3) := by decide +kernel
theorem dX7_told_164 : decode cX7_told 164 = .ok (.invokevirtual 97, 3) := by decide +kernel
theorem dX7_told_167 : decode cX7_told 167 = .ok (.ireturn, 1) := by decide +kernel
theorem dX7_told_168 : decode cX7_told 168 = .ok (.aload_n 0, 1) := by decide +kernel
theorem dX7_told_169 : decode cX7_told 169 = .ok (.getfield 35, 3) := by decide +kernel
theorem dX7_told_172 : decode cX7_told 172 = .ok (.invokevirtual 101, 3) := by decide +kernel
theorem dX7_told_175 : decode cX7_told 175 = .ok (.ireturn, 1) := by decide +kernel
theorem dX7_told_176 : decode cX7_told 176 = .ok (.aload_n 0, 1) := by decide +kernel
theorem dX7_told_177 : decode cX7_told 177 = .ok (.getfield 56, 3) := by decide +kernel
theorem dX7_told_180 : decode cX7_told 180 = .ok (.invokevirtual 104, 3) := by decide +kernel
theorem dX7_told_183 : decode cX7_told 183 = .ok (.ireturn, 1) := by decide +kernel
theorem dX7_told_184 : decode cX7_told 184 = .ok (.ldc 107, 2) := by decide +kernel
theorem dX7_told_186 : decode cX7_told 186 = .ok (.ireturn, 1) := by decide +kernel
theorem dX7_at_0 : decode cX7_at 0 = .ok (.aload_n 0, 1) := by decide +kernel
theorem dX7_at_1 : decode cX7_at 1 = .ok (.getfield 10, 3) := by decide +kernel
theorem dX7_at_4 : decode cX7_at 4 = .ok (.iload_n 1, 1) := by decide +kernel
theorem dX7_at_5 : decode cX7_at 5 = .ok (.invokevirtual 108, 3) := by decide +kernel
theorem dX7_at_8 : decode cX7_at 8 = .ok (.ifCond .ne 6, 3) := by decide +kernel
theorem dX7_at_11 : decode cX7_at 11 = .ok (.ldc 112, 2) := by decide +kernel
theorem dX7_at_13 : decode cX7_at 13 = .ok (.ireturn, 1) := by decide +kernel
theorem dX7_at_14 : decode cX7_at 14 = .ok (.iload_n 2, 1) := by decide +kernel
theorem dX7_at_15 : decode cX7_at 15 = .ok (.tableswitch 117 0 7 #[45, 54, 63, 72, 81, 90, 99, 108], 45) := by decide +kernel
theorem dX7_at_60 : decode cX7_at 60 = .ok (.aload_n 0, 1) := by decide +kernel
theorem dX7_at_61 : decode cX7_at 61 = .ok (.getfield 10, 3) := by decide +kernel
theorem dX7_at_64 : decode cX7_at 64 = .ok (.iload_n 1, 1) := by decide +kernel
theorem dX7_at_65 : decode cX7_at 65 = .ok (.invokevirtual 113, 3) := by decide +kernel
theorem dX7_at_68 : decode cX7_at 68 = .ok (.ireturn, 1) := by decide +kernel
theorem dX7_at_69 : decode cX7_at 69 = .ok (.aload_n 0, 1) := by decide +kernel
theorem dX7_at_70 : decode cX7_at 70 = .ok (.getfield 10, 3) := by decide +kernel
theorem dX7_at_73 : decode cX7_at 73 = .ok (.iload_n 1, 1) := by decide +kernel
theorem dX7_at_74 : decode cX7_at 74 = .ok (.invokevirtual 116, 3) := by decide +kernel
theorem dX7_at_77 : decode cX7_at 77 = .ok (.ireturn, 1) := by decide +kernel
theorem dX7_at_78 : decode cX7_at 78 = .ok (.aload_n 0, 1) := by decide +kernel
theorem dX7_at_79 : decode cX7_at 79 = .ok (.getfield 10, 3) := by decide +kernel
theorem dX7_at_82 : decode cX7_at 82 = .ok (.iload_n 1, 1) := by decide +kernel
theorem dX7_at_83 : decode cX7_at 83 = .ok (.invokevirtual 119, 3) := by decide +kernel
theorem dX7_at_86 : decode cX7_at 86 = .ok (.ireturn, 1) := by decide +kernel
theorem dX7_at_87 : decode cX7_at 87 = .ok (.aload_n 0, 1) := by decide +kernel
theorem dX7_at_88 : decode cX7_at 88 = .ok (.getfield 10, 3) := by decide +kernel
theorem dX7_at_91 : decode cX7_at 91 = .ok (.iload_n 1, 1) := by decide +kernel
theorem dX7_at_92 : decode cX7_at 92 = .ok (.invokevirtual 122, 3) := by decide +kernel
theorem dX7_at_95 : decode cX7_at 95 = .ok (.ireturn, 1) := by decide +kernel
theorem dX7_at_96 : decode cX7_at 96 = .ok (.aload_n 0, 1) := by decide +kernel
theorem dX7_at_97 : decode cX7_at 97 = .ok (.invokevirtual 64, 3) := by decide +kernel
theorem dX7_at_100 : decode cX7_at 100 = .ok (.iload_n 1, 1) := by decide +kernel
theorem dX7_at_101 : decode cX7_at 101 = .ok (.invokevirtual 125, 3) := by decide +kernel
theorem dX7_at_104 : decode cX7_at 104 = .ok (.ireturn, 1) := by decide +kernel
theorem dX7_at_105 : decode cX7_at 105 = .ok (.aload_n 0, 1) := by decide +kernel
theorem dX7_at_106 : decode cX7_at 106 = .ok (.invokevirtual 64, 3) := by decide +kernel
theorem dX7_at_109 : decode cX7_at 109 = .ok (.iload_n 1, 1) := by decide +kernel
theorem dX7_at_110 : decode cX7_at 110 = .ok (.invokevirtual 128, 3) := by decide +kernel
theorem dX7_at_113 : decode cX7_at 113 = .ok (.ireturn, 1) := by decide +kernel
theorem dX7_at_114 : decode cX7_at 114 = .ok (.aload_n 0, 1) := by decide +kernel
theorem dX7_at_115 : decode cX7_at 115 = .ok (.getfield 28, 3) := by decide +kernel
theorem dX7_at_118 : decode cX7_at 118 = .ok (.iload_n 1, 1) := by decide +kernel
theorem dX7_at_119 : decode cX7_at 119 = .ok (.invokevirtual 131, 3) := by decide +kernel
theorem dX7_at_122 : decode cX7_at 122 = .ok (.ireturn, 1) := by decide +kernel
theorem dX7_at_123 : decode cX7_at 123 = .ok (.aload_n 0, 1) := by decide +kernel
theorem dX7_at_124 : decode cX7_at 124 = .ok (.getfield 10, 3) := by decide +kernel
theorem dX7_at_127 : decode cX7_at 127 = .ok (.iload_n 1, 1) := by decide +kernel
theorem dX7_at_128 : decode cX7_at 128 = .ok (.invokevirtual 134, 3) := by decide +kernel
theorem dX7_at_131 : decode cX7_at 131 = .ok (.ireturn, 1) := by decide +kernel
theorem dX7_at_132 : decode cX7_at 132 = .ok (.ldc 107, 2) := by decide +kernel
theorem dX7_at_134 : decode cX7_at 134 = .ok (.ireturn, 1) := by decide +kernel
theorem dX7_cost_0 : decode cX7_cost 0 = .ok (.aload_n 0, 1) := by decide +kernel
theorem dX7_cost_1 : decode cX7_cost 1 = .ok (.getfield 10, 3) := by decide +kernel
theorem dX7_cost_4 : decode cX7_cost 4 = .ok (.iload_n 1, 1) := by decide +kernel
theorem dX7_cost_5 : decode cX7_cost 5 = .ok (.invokevirtual 108, 3) := by decide +kernel
theorem dX7_cost_8 : decode cX7_cost 8 = .ok (.ifCond .eq 14, 3) := by decide +kernel
theorem dX7_cost_11 : decode cX7_cost 11 = .ok (.aload_n 0, 1) := by decide +kernel
theorem dX7_cost_12 : decode cX7_cost 12 = .ok (.getfield 10, 3) := by decide +kernel
theorem dX7_cost_15 : decode cX7_cost 15 = .ok (.iload_n 2, 1) := by decide +kernel
theorem dX7_cost_16 : decode cX7_cost 16 = .ok (.invokevirtual 108, 3) := by decide +kernel
theorem dX7_cost_19 : decode cX7_cost 19 = .ok (.ifCond .ne 6, 3) := by decide +kernel
theorem dX7_cost_22 : decode cX7_cost 22 = .ok (.ldc 112, 2) := by decide +kernel
theorem dX7_cost_24 : decode cX7_cost 24 = .ok (.ireturn, 1) := by decide +kernel
theorem dX7_cost_25 : decode cX7_cost 25 = .ok (.aload_n 0, 1) := by decide +kernel
theorem dX7_cost_26 : decode cX7_cost 26 = .ok (.getfield 10, 3) := by decide +kernel
theorem dX7_cost_29 : decode cX7_cost 29 = .ok (.iload_n 1, 1) := by decide +kernel
theorem dX7_cost_30 : decode cX7_cost 30 = .ok (.iload_n 2, 1) := by decide +kernel
theorem dX7_cost_31 : decode cX7_cost 31 = .ok (.invokevirtual 137, 3) := by decide +kernel
theorem dX7_cost_34 : decode cX7_cost 34 = .ok (.ireturn, 1) := by decide +kernel
theorem dX7_least_0 : decode cX7_least 0 = .ok (.iload_n 1, 1) := by decide +kernel
theorem dX7_least_1 : decode cX7_least 1 = .ok (.invokestatic 141, 3) := by decide +kernel
theorem dX7_least_4 : decode cX7_least 4 = .ok (.ifCond .ne 6, 3) := by decide +kernel
theorem dX7_least_7 : decode cX7_least 7 = .ok (.ldc 107, 2) := by decide +kernel
theorem dX7_least_9 : decode cX7_least 9 = .ok (.ireturn, 1) := by decide +kernel
theorem dX7_least_10 : decode cX7_least 10 = .ok (.aload_n 0, 1) := by decide +kernel
theorem dX7_least_11 : decode cX7_least 11 = .ok (.invokevirtual 74, 3) := by decide +kernel
theorem dX7_least_14 : decode cX7_least 14 = .ok (.iload_n 1, 1) := by decide +kernel
theorem dX7_least_15 : decode cX7_least 15 = .ok (.invokevirtual 144, 3) := by decide +kernel
theorem dX7_least_18 : decode cX7_least 18 = .ok (.ireturn, 1) := by decide +kernel
theorem dX7_first_0 : decode cX7_first 0 = .ok (.aload_n 0, 1) := by decide +kernel
theorem dX7_first_1 : decode cX7_first 1 = .ok (.getfield 10, 3) := by decide +kernel
theorem dX7_first_4 : decode cX7_first 4 = .ok (.iload_n 2, 1) := by decide +kernel
theorem dX7_first_5 : decode cX7_first 5 = .ok (.invokevirtual 108, 3) := by decide +kernel
theorem dX7_first_8 : decode cX7_first 8 = .ok (.ifCond .ne 6, 3) := by decide +kernel
theorem dX7_first_11 : decode cX7_first 11 = .ok (.ldc 112, 2) := by decide +kernel
theorem dX7_first_13 : decode cX7_first 13 = .ok (.ireturn, 1) := by decide +kernel
theorem dX7_first_14 : decode cX7_first 14 = .ok (.iload_n 1, 1) := by decide +kernel
theorem dX7_first_15 : decode cX7_first 15 = .ok (.invokestatic 141, 3) := by decide +kernel
theorem dX7_first_18 : decode cX7_first 18 = .ok (.ifCond .ne 6, 3) := by decide +kernel
theorem dX7_first_21 : decode cX7_first 21 = .ok (.ldc 107, 2) := by decide +kernel
theorem dX7_first_23 : decode cX7_first 23 = .ok (.ireturn, 1) := by decide +kernel
theorem dX7_first_24 : decode cX7_first 24 = .ok (.aload_n 0, 1) := by decide +kernel
theorem dX7_first_25 : decode cX7_first 25 = .ok (.invokevirtual 74, 3) := by decide +kernel
theorem dX7_first_28 : decode cX7_first 28 = .ok (.astore_n 3, 1) := by decide +kernel
theorem dX7_first_29 : decode cX7_first 29 = .ok (.aload_n 3, 1) := by decide +kernel
theorem dX7_first_30 : decode cX7_first 30 = .ok (.iload_n 1, 1) := by decide +kernel
theorem dX7_first_31 : decode cX7_first 31 = .ok (.invokevirtual 147, 3) := by decide +kernel
theorem dX7_first_34 : decode cX7_first 34 = .ok (.ifCond .eq 11, 3) := by decide +kernel
theorem dX7_first_37 : decode cX7_first 37 = .ok (.aload_n 3, 1) := by decide +kernel
theorem dX7_first_38 : decode cX7_first 38 = .ok (.iload_n 2, 1) := by decide +kernel
theorem dX7_first_39 : decode cX7_first 39 = .ok (.invokevirtual 150, 3) := by decide +kernel
theorem dX7_first_42 : decode cX7_first 42 = .ok (.goto 5, 3) := by decide +kernel
theorem dX7_first_45 : decode cX7_first 45 = .ok (.ldc 153, 2) := by decide +kernel
theorem dX7_first_47 : decode cX7_first 47 = .ok (.ireturn, 1) := by decide +kernel
theorem dX7_voice_0 : decode cX7_voice 0 = .ok (.aload_n 0, 1) := by decide +kernel
theorem dX7_voice_1 : decode cX7_voice 1 = .ok (.invokevirtual 64, 3) := by decide +kernel
theorem dX7_voice_4 : decode cX7_voice 4 = .ok (.astore_n 3, 1) := by decide +kernel
theorem dX7_voice_5 : decode cX7_voice 5 = .ok (.aload_n 3, 1) := by decide +kernel
theorem dX7_voice_6 : decode cX7_voice 6 = .ok (.iload_n 1, 1) := by decide +kernel
theorem dX7_voice_7 : decode cX7_voice 7 = .ok (.invokevirtual 154, 3) := by decide +kernel
theorem dX7_voice_10 : decode cX7_voice 10 = .ok (.ifCond .ne 6, 3) := by decide +kernel
theorem dX7_voice_13 : decode cX7_voice 13 = .ok (.ldc 112, 2) := by decide +kernel
theorem dX7_voice_15 : decode cX7_voice 15 = .ok (.ireturn, 1) := by decide +kernel
theorem dX7_voice_16 : decode cX7_voice 16 = .ok (.iload_n 2, 1) := by decide +kernel
theorem dX7_voice_17 : decode cX7_voice 17 = .ok (.tableswitch 93 0 6 #[43, 49, 56, 69, 75, 81, 87], 43) := by decide +kernel
theorem dX7_voice_60 : decode cX7_voice 60 = .ok (.aload_n 3, 1) := by decide +kernel
theorem dX7_voice_61 : decode cX7_voice 61 = .ok (.iload_n 1, 1) := by decide +kernel
theorem dX7_voice_62 : decode cX7_voice 62 = .ok (.invokevirtual 157, 3) := by decide +kernel
theorem dX7_voice_65 : decode cX7_voice 65 = .ok (.ireturn, 1) := by decide +kernel
theorem dX7_voice_66 : decode cX7_voice 66 = .ok (.aload_n 3, 1) := by decide +kernel
theorem dX7_voice_67 : decode cX7_voice 67 = .ok (.iload_n 1, 1) := by decide +kernel
theorem dX7_voice_68 : decode cX7_voice 68 = .ok (.iconst 0, 1) := by decide +kernel
theorem dX7_voice_69 : decode cX7_voice 69 = .ok (.invokevirtual 159, 3) := by decide +kernel
theorem dX7_voice_72 : decode cX7_voice 72 = .ok (.ireturn, 1) := by decide +kernel
theorem dX7_voice_73 : decode cX7_voice 73 = .ok (.aload_n 3, 1) := by decide +kernel
theorem dX7_voice_74 : decode cX7_voice 74 = .ok (.iload_n 1, 1) := by decide +kernel
theorem dX7_voice_75 : decode cX7_voice 75 = .ok (.aload_n 3, 1) := by decide +kernel
theorem dX7_voice_76 : decode cX7_voice 76 = .ok (.iload_n 1, 1) := by decide +kernel
theorem dX7_voice_77 : decode cX7_voice 77 = .ok (.invokevirtual 157, 3) := by decide +kernel
theorem dX7_voice_80 : decode cX7_voice 80 = .ok (.iconst 1, 1) := by decide +kernel
theorem dX7_voice_81 : decode cX7_voice 81 = .ok (.isub, 1) := by decide +kernel
theorem dX7_voice_82 : decode cX7_voice 82 = .ok (.invokevirtual 159, 3) := by decide +kernel
theorem dX7_voice_85 : decode cX7_voice 85 = .ok (.ireturn, 1) := by decide +kernel
theorem dX7_voice_86 : decode cX7_voice 86 = .ok (.aload_n 3, 1) := by decide +kernel
theorem dX7_voice_87 : decode cX7_voice 87 = .ok (.iload_n 1, 1) := by decide +kernel
theorem dX7_voice_88 : decode cX7_voice 88 = .ok (.invokevirtual 162, 3) := by decide +kernel
theorem dX7_voice_91 : decode cX7_voice 91 = .ok (.ireturn, 1) := by decide +kernel
theorem dX7_voice_92 : decode cX7_voice 92 = .ok (.aload_n 3, 1) := by decide +kernel
theorem dX7_voice_93 : decode cX7_voice 93 = .ok (.iload_n 1, 1) := by decide +kernel
theorem dX7_voice_94 : decode cX7_voice 94 = .ok (.invokevirtual 165, 3) := by decide +kernel
theorem dX7_voice_97 : decode cX7_voice 97 = .ok (.ireturn, 1) := by decide +kernel
theorem dX7_voice_98 : decode cX7_voice 98 = .ok (.aload_n 3, 1) := by decide +kernel
theorem dX7_voice_99 : decode cX7_voice 99 = .ok (.iload_n 1, 1) := by decide +kernel
theorem dX7_voice_100 : decode cX7_voice 100 = .ok (.invokevirtual 168, 3) := by decide +kernel
theorem dX7_voice_103 : decode cX7_voice 103 = .ok (.ireturn, 1) := by decide +kernel
theorem dX7_voice_104 : decode cX7_voice 104 = .ok (.aload_n 3, 1) := by decide +kernel
theorem dX7_voice_105 : decode cX7_voice 105 = .ok (.iload_n 1, 1) := by decide +kernel
theorem dX7_voice_106 : decode cX7_voice 106 = .ok (.invokevirtual 171, 3) := by decide +kernel
theorem dX7_voice_109 : decode cX7_voice 109 = .ok (.ireturn, 1) := by decide +kernel
theorem dX7_voice_110 : decode cX7_voice 110 = .ok (.ldc 107, 2) := by decide +kernel
theorem dX7_voice_112 : decode cX7_voice 112 = .ok (.ireturn, 1) := by decide +kernel
theorem dX7_member_0 : decode cX7_member 0 = .ok (.aload_n 0, 1) := by decide +kernel
theorem dX7_member_1 : decode cX7_member 1 = .ok (.invokevirtual 64, 3) := by decide +kernel
theorem dX7_member_4 : decode cX7_member 4 = .ok (.astore_n 3, 1) := by decide +kernel
theorem dX7_member_5 : decode cX7_member 5 = .ok (.aload_n 3, 1) := by decide +kernel
theorem dX7_member_6 : decode cX7_member 6 = .ok (.iload_n 1, 1) := by decide +kernel
theorem dX7_member_7 : decode cX7_member 7 = .ok (.invokevirtual 154, 3) := by decide +kernel
theorem dX7_member_10 : decode cX7_member 10 = .ok (.ifCond .ne 6, 3) := by decide +kernel
theorem dX7_member_13 : decode cX7_member 13 = .ok (.ldc 112, 2) := by decide +kernel
theorem dX7_member_15 : decode cX7_member 15 = .ok (.ireturn, 1) := by decide +kernel
theorem dX7_member_16 : decode cX7_member 16 = .ok (.iload_n 2, 1) := by decide +kernel
theorem dX7_member_17 : decode cX7_member 17 = .ok (.ifCond .ge 6, 3) := by decide +kernel
theorem dX7_member_20 : decode cX7_member 20 = .ok (.ldc 107, 2) := by decide +kernel
theorem dX7_member_22 : decode cX7_member 22 = .ok (.ireturn, 1) := by decide +kernel
theorem dX7_member_23 : decode cX7_member 23 = .ok (.aload_n 3, 1) := by decide +kernel
theorem dX7_member_24 : decode cX7_member 24 = .ok (.iload_n 1, 1) := by decide +kernel
theorem dX7_member_25 : decode cX7_member 25 = .ok (.iload_n 2, 1) := by decide +kernel
theorem dX7_member_26 : decode cX7_member 26 = .ok (.invokevirtual 159, 3) := by decide +kernel
theorem dX7_member_29 : decode cX7_member 29 = .ok (.ireturn, 1) := by decide +kernel
theorem dX7_note_0 : decode cX7_note 0 = .ok (.iload_n 1, 1) := by decide +kernel
theorem dX7_note_1 : decode cX7_note 1 = .ok (.iload_n 2, 1) := by decide +kernel
theorem dX7_note_2 : decode cX7_note 2 = .ok (.iload_n 3, 1) := by decide +kernel
theorem dX7_note_3 : decode cX7_note 3 = .ok (.invokestatic 174, 3) := by decide +kernel
theorem dX7_note_6 : decode cX7_note 6 = .ok (.ifCond .ne 6, 3) := by decide +kernel
theorem dX7_note_9 : decode cX7_note 9 = .ok (.ldc 107, 2) := by decide +kernel
theorem dX7_note_11 : decode cX7_note 11 = .ok (.ireturn, 1) := by decide +kernel
theorem dX7_note_12 : decode cX7_note 12 = .ok (.aload_n 0, 1) := by decide +kernel
theorem dX7_note_13 : decode cX7_note 13 = .ok (.getfield 10, 3) := by decide +kernel
theorem dX7_note_16 : decode cX7_note 16 = .ok (.invokevirtual 178, 3) := by decide +kernel
theorem dX7_note_19 : decode cX7_note 19 = .ok (.ifCond .eq 6, 3) := by decide +kernel
theorem dX7_note_22 : decode cX7_note 22 = .ok (.ldc 182, 2) := by decide +kernel
theorem dX7_note_24 : decode cX7_note 24 = .ok (.ireturn, 1) := by decide +kernel
theorem dX7_note_25 : decode cX7_note 25 = .ok (.aload_n 0, 1) := by decide +kernel
theorem dX7_note_26 : decode cX7_note 26 = .ok (.getfield 35, 3) := by decide +kernel
theorem dX7_note_29 : decode cX7_note 29 = .ok (.aload_n 0, 1) := by decide +kernel
theorem dX7_note_30 : decode cX7_note 30 = .ok (.getfield 10, 3) := by decide +kernel
theorem dX7_note_33 : decode cX7_note 33 = .ok (.invokevirtual 183, 3) := by decide +kernel
theorem dX7_note_36 : decode cX7_note 36 = .ok (.aload_n 0, 1) := by decide +kernel
theorem dX7_note_37 : decode cX7_note 37 = .ok (.getfield 10, 3) := by decide +kernel
theorem dX7_note_40 : decode cX7_note 40 = .ok (.iload_n 1, 1) := by decide +kernel
theorem dX7_note_41 : decode cX7_note 41 = .ok (.iload_n 2, 1) := by decide +kernel
theorem dX7_note_42 : decode cX7_note 42 = .ok (.iload_n 3, 1) := by decide +kernel
theorem dX7_note_43 : decode cX7_note 43 = .ok (.invokevirtual 186, 3) := by decide +kernel
theorem dX7_note_46 : decode cX7_note 46 = .ok (.ireturn, 1) := by decide +kernel
theorem dX7_take_0 : decode cX7_take 0 = .ok (.aload_n 0, 1) := by decide +kernel
theorem dX7_take_1 : decode cX7_take 1 = .ok (.getfield 10, 3) := by decide +kernel
theorem dX7_take_4 : decode cX7_take 4 = .ok (.iload_n 1, 1) := by decide +kernel
theorem dX7_take_5 : decode cX7_take 5 = .ok (.invokevirtual 108, 3) := by decide +kernel
theorem dX7_take_8 : decode cX7_take 8 = .ok (.ifCond .ne 6, 3) := by decide +kernel
theorem dX7_take_11 : decode cX7_take 11 = .ok (.ldc 112, 2) := by decide +kernel
theorem dX7_take_13 : decode cX7_take 13 = .ok (.ireturn, 1) := by decide +kernel
theorem dX7_take_14 : decode cX7_take 14 = .ok (.aload_n 0, 1) := by decide +kernel
theorem dX7_take_15 : decode cX7_take 15 = .ok (.getfield 35, 3) := by decide +kernel
theorem dX7_take_18 : decode cX7_take 18 = .ok (.aload_n 0, 1) := by decide +kernel
theorem dX7_take_19 : decode cX7_take 19 = .ok (.getfield 10, 3) := by decide +kernel
theorem dX7_take_22 : decode cX7_take 22 = .ok (.invokevirtual 183, 3) := by decide +kernel
theorem dX7_take_25 : decode cX7_take 25 = .ok (.aload_n 0, 1) := by decide +kernel
theorem dX7_take_26 : decode cX7_take 26 = .ok (.getfield 10, 3) := by decide +kernel
theorem dX7_take_29 : decode cX7_take 29 = .ok (.iload_n 1, 1) := by decide +kernel
theorem dX7_take_30 : decode cX7_take 30 = .ok (.invokevirtual 190, 3) := by decide +kernel
theorem dX7_take_33 : decode cX7_take 33 = .ok (.aload_n 0, 1) := by decide +kernel
theorem dX7_take_34 : decode cX7_take 34 = .ok (.getfield 10, 3) := by decide +kernel
theorem dX7_take_37 : decode cX7_take 37 = .ok (.invokevirtual 60, 3) := by decide +kernel
theorem dX7_take_40 : decode cX7_take 40 = .ok (.ireturn, 1) := by decide +kernel
theorem dX7_move_0 : decode cX7_move 0 = .ok (.aload_n 0, 1) := by decide +kernel
theorem dX7_move_1 : decode cX7_move 1 = .ok (.getfield 10, 3) := by decide +kernel
theorem dX7_move_4 : decode cX7_move 4 = .ok (.iload_n 1, 1) := by decide +kernel
theorem dX7_move_5 : decode cX7_move 5 = .ok (.invokevirtual 108, 3) := by decide +kernel
theorem dX7_move_8 : decode cX7_move 8 = .ok (.ifCond .ne 6, 3) := by decide +kernel
theorem dX7_move_11 : decode cX7_move 11 = .ok (.ldc 112, 2) := by decide +kernel
theorem dX7_move_13 : decode cX7_move 13 = .ok (.ireturn, 1) := by decide +kernel
theorem dX7_move_14 : decode cX7_move 14 = .ok (.iload_n 2, 1) := by decide +kernel
theorem dX7_move_15 : decode cX7_move 15 = .ok (.iload_n 3, 1) := by decide +kernel
theorem dX7_move_16 : decode cX7_move 16 = .ok (.iload 4, 2) := by decide +kernel
theorem dX7_move_18 : decode cX7_move 18 = .ok (.invokestatic 174, 3) := by decide +kernel
theorem dX7_move_21 : decode cX7_move 21 = .ok (.ifCond .ne 6, 3) := by decide +kernel
theorem dX7_move_24 : decode cX7_move 24 = .ok (.ldc 107, 2) := by decide +kernel
theorem dX7_move_26 : decode cX7_move 26 = .ok (.ireturn, 1) := by decide +kernel
theorem dX7_move_27 : decode cX7_move 27 = .ok (.aload_n 0, 1) := by decide +kernel
theorem dX7_move_28 : decode cX7_move 28 = .ok (.getfield 35, 3) := by decide +kernel
theorem dX7_move_31 : decode cX7_move 31 = .ok (.aload_n 0, 1) := by decide +kernel
theorem dX7_move_32 : decode cX7_move 32 = .ok (.getfield 10, 3) := by decide +kernel
theorem dX7_move_35 : decode cX7_move 35 = .ok (.invokevirtual 183, 3) := by decide +kernel
theorem dX7_move_38 : decode cX7_move 38 = .ok (.aload_n 0, 1) := by decide +kernel
theorem dX7_move_39 : decode cX7_move 39 = .ok (.getfield 10, 3) := by decide +kernel
theorem dX7_move_42 : decode cX7_move 42 = .ok (.iload_n 1, 1) := by decide +kernel
theorem dX7_move_43 : decode cX7_move 43 = .ok (.invokevirtual 190, 3) := by decide +kernel
theorem dX7_move_46 : decode cX7_move 46 = .ok (.aload_n 0, 1) := by decide +kernel
theorem dX7_move_47 : decode cX7_move 47 = .ok (.getfield 10, 3) := by decide +kernel
theorem dX7_move_50 : decode cX7_move 50 = .ok (.iload_n 2, 1) := by decide +kernel
theorem dX7_move_51 : decode cX7_move 51 = .ok (.iload_n 3, 1) := by decide +kernel
theorem dX7_move_52 : decode cX7_move 52 = .ok (.iload 4, 2) := by decide +kernel
theorem dX7_move_54 : decode cX7_move 54 = .ok (.invokevirtual 186, 3) := by decide +kernel
theorem dX7_move_57 : decode cX7_move 57 = .ok (.ireturn, 1) := by decide +kernel
theorem dX7_share_0 : decode cX7_share 0 = .ok (.aload_n 0, 1) := by decide +kernel
theorem dX7_share_1 : decode cX7_share 1 = .ok (.getfield 10, 3) := by decide +kernel
theorem dX7_share_4 : decode cX7_share 4 = .ok (.iload_n 1, 1) := by decide +kernel
theorem dX7_share_5 : decode cX7_share 5 = .ok (.invokevirtual 108, 3) := by decide +kernel
theorem dX7_share_8 : decode cX7_share 8 = .ok (.ifCond .ne 6, 3) := by decide +kernel
theorem dX7_share_11 : decode cX7_share 11 = .ok (.ldc 112, 2) := by decide +kernel
theorem dX7_share_13 : decode cX7_share 13 = .ok (.ireturn, 1) := by decide +kernel
theorem dX7_share_14 : decode cX7_share 14 = .ok (.aload_n 0, 1) := by decide +kernel
theorem dX7_share_15 : decode cX7_share 15 = .ok (.getfield 10, 3) := by decide +kernel
theorem dX7_share_18 : decode cX7_share 18 = .ok (.invokevirtual 178, 3) := by decide +kernel
theorem dX7_share_21 : decode cX7_share 21 = .ok (.ifCond .eq 6, 3) := by decide +kernel
theorem dX7_share_24 : decode cX7_share 24 = .ok (.ldc 182, 2) := by decide +kernel
theorem dX7_share_26 : decode cX7_share 26 = .ok (.ireturn, 1) := by decide +kernel
theorem dX7_share_27 : decode cX7_share 27 = .ok (.aload_n 0, 1) := by decide +kernel
theorem dX7_share_28 : decode cX7_share 28 = .ok (.getfield 35, 3) := by decide +kernel
theorem dX7_share_31 : decode cX7_share 31 = .ok (.aload_n 0, 1) := by decide +kernel
theorem dX7_share_32 : decode cX7_share 32 = .ok (.getfield 10, 3) := by decide +kernel
theorem dX7_share_35 : decode cX7_share 35 = .ok (.invokevirtual 183, 3) := by decide +kernel
theorem dX7_share_38 : decode cX7_share 38 = .ok (.aload_n 0, 1) := by decide +kernel
theorem dX7_share_39 : decode cX7_share 39 = .ok (.getfield 10, 3) := by decide +kernel
theorem dX7_share_42 : decode cX7_share 42 = .ok (.aload_n 0, 1) := by decide +kernel
theorem dX7_share_43 : decode cX7_share 43 = .ok (.getfield 10, 3) := by decide +kernel
theorem dX7_share_46 : decode cX7_share 46 = .ok (.iload_n 1, 1) := by decide +kernel
theorem dX7_share_47 : decode cX7_share 47 = .ok (.invokevirtual 113, 3) := by decide +kernel
theorem dX7_share_50 : decode cX7_share 50 = .ok (.aload_n 0, 1) := by decide +kernel
theorem dX7_share_51 : decode cX7_share 51 = .ok (.getfield 10, 3) := by decide +kernel
theorem dX7_share_54 : decode cX7_share 54 = .ok (.iload_n 1, 1) := by decide +kernel
theorem dX7_share_55 : decode cX7_share 55 = .ok (.invokevirtual 194, 3) := by decide +kernel
theorem dX7_share_58 : decode cX7_share 58 = .ok (.aload_n 0, 1) := by decide +kernel
theorem dX7_share_59 : decode cX7_share 59 = .ok (.getfield 10, 3) := by decide +kernel
theorem dX7_share_62 : decode cX7_share 62 = .ok (.iload_n 1, 1) := by decide +kernel
theorem dX7_share_63 : decode cX7_share 63 = .ok (.invokevirtual 119, 3) := by decide +kernel
theorem dX7_share_66 : decode cX7_share 66 = .ok (.invokevirtual 186, 3) := by decide +kernel
theorem dX7_share_69 : decode cX7_share 69 = .ok (.ireturn, 1) := by decide +kernel
theorem dX7_term_0 : decode cX7_term 0 = .ok (.iload_n 1, 1) := by decide +kernel
theorem dX7_term_1 : decode cX7_term 1 = .ok (.iload_n 2, 1) := by decide +kernel
theorem dX7_term_2 : decode cX7_term 2 = .ok (.invokestatic 197, 3) := by decide +kernel
theorem dX7_term_5 : decode cX7_term 5 = .ok (.ifCond .ne 6, 3) := by decide +kernel
theorem dX7_term_8 : decode cX7_term 8 = .ok (.ldc 107, 2) := by decide +kernel
theorem dX7_term_10 : decode cX7_term 10 = .ok (.ireturn, 1) := by decide +kernel
theorem dX7_term_11 : decode cX7_term 11 = .ok (.aload_n 0, 1) := by decide +kernel
theorem dX7_term_12 : decode cX7_term 12 = .ok (.getfield 35, 3) := by decide +kernel
theorem dX7_term_15 : decode cX7_term 15 = .ok (.aload_n 0, 1) := by decide +kernel
theorem dX7_term_16 : decode cX7_term 16 = .ok (.getfield 10, 3) := by decide +kernel
theorem dX7_term_19 : decode cX7_term 19 = .ok (.invokevirtual 183, 3) := by decide +kernel
theorem dX7_term_22 : decode cX7_term 22 = .ok (.aload_n 0, 1) := by decide +kernel
theorem dX7_term_23 : decode cX7_term 23 = .ok (.getfield 10, 3) := by decide +kernel
theorem dX7_term_26 : decode cX7_term 26 = .ok (.iload_n 1, 1) := by decide +kernel
theorem dX7_term_27 : decode cX7_term 27 = .ok (.iload_n 2, 1) := by decide +kernel
theorem dX7_term_28 : decode cX7_term 28 = .ok (.invokevirtual 201, 3) := by decide +kernel
theorem dX7_term_31 : decode cX7_term 31 = .ok (.ireturn, 1) := by decide +kernel
theorem dX7_follow_0 : decode cX7_follow 0 = .ok (.aload_n 0, 1) := by decide +kernel
theorem dX7_follow_1 : decode cX7_follow 1 = .ok (.getfield 10, 3) := by decide +kernel
theorem dX7_follow_4 : decode cX7_follow 4 = .ok (.iload_n 1, 1) := by decide +kernel
theorem dX7_follow_5 : decode cX7_follow 5 = .ok (.invokevirtual 108, 3) := by decide +kernel
theorem dX7_follow_8 : decode cX7_follow 8 = .ok (.ifCond .eq 14, 3) := by decide +kernel
theorem dX7_follow_11 : decode cX7_follow 11 = .ok (.aload_n 0, 1) := by decide +kernel
theorem dX7_follow_12 : decode cX7_follow 12 = .ok (.getfield 10, 3) := by decide +kernel
theorem dX7_follow_15 : decode cX7_follow 15 = .ok (.iload_n 2, 1) := by decide +kernel
theorem dX7_follow_16 : decode cX7_follow 16 = .ok (.invokevirtual 108, 3) := by decide +kernel
theorem dX7_follow_19 : decode cX7_follow 19 = .ok (.ifCond .ne 6, 3) := by decide +kernel
theorem dX7_follow_22 : decode cX7_follow 22 = .ok (.ldc 112, 2) := by decide +kernel
theorem dX7_follow_24 : decode cX7_follow 24 = .ok (.ireturn, 1) := by decide +kernel
theorem dX7_follow_25 : decode cX7_follow 25 = .ok (.aload_n 0, 1) := by decide +kernel
theorem dX7_follow_26 : decode cX7_follow 26 = .ok (.getfield 10, 3) := by decide +kernel
theorem dX7_follow_29 : decode cX7_follow 29 = .ok (.iload_n 1, 1) := by decide +kernel
theorem dX7_follow_30 : decode cX7_follow 30 = .ok (.iload_n 2, 1) := by decide +kernel
theorem dX7_follow_31 : decode cX7_follow 31 = .ok (.invokevirtual 204, 3) := by decide +kernel
theorem dX7_follow_34 : decode cX7_follow 34 = .ok (.ifCond .ne 6, 3) := by decide +kernel
theorem dX7_follow_37 : decode cX7_follow 37 = .ok (.ldc 153, 2) := by decide +kernel
theorem dX7_follow_39 : decode cX7_follow 39 = .ok (.ireturn, 1) := by decide +kernel
theorem dX7_follow_40 : decode cX7_follow 40 = .ok (.aload_n 0, 1) := by decide +kernel
theorem dX7_follow_41 : decode cX7_follow 41 = .ok (.getfield 35, 3) := by decide +kernel
theorem dX7_follow_44 : decode cX7_follow 44 = .ok (.aload_n 0, 1) := by decide +kernel
theorem dX7_follow_45 : decode cX7_follow 45 = .ok (.getfield 10, 3) := by decide +kernel
theorem dX7_follow_48 : decode cX7_follow 48 = .ok (.invokevirtual 183, 3) := by decide +kernel
theorem dX7_follow_51 : decode cX7_follow 51 = .ok (.aload_n 0, 1) := by decide +kernel
theorem dX7_follow_52 : decode cX7_follow 52 = .ok (.getfield 10, 3) := by decide +kernel
theorem dX7_follow_55 : decode cX7_follow 55 = .ok (.aload_n 0, 1) := by decide +kernel
theorem dX7_follow_56 : decode cX7_follow 56 = .ok (.invokevirtual 64, 3) := by decide +kernel
theorem dX7_follow_59 : decode cX7_follow 59 = .ok (.iload_n 2, 1) := by decide +kernel
theorem dX7_follow_60 : decode cX7_follow 60 = .ok (.invokevirtual 125, 3) := by decide +kernel
theorem dX7_follow_63 : decode cX7_follow 63 = .ok (.iconst (-1), 1) := by decide +kernel
theorem dX7_follow_64 : decode cX7_follow 64 = .ok (.invokevirtual 207, 3) := by decide +kernel
theorem dX7_follow_67 : decode cX7_follow 67 = .ok (.aload_n 0, 1) := by decide +kernel
theorem dX7_follow_68 : decode cX7_follow 68 = .ok (.getfield 10, 3) := by decide +kernel
theorem dX7_follow_71 : decode cX7_follow 71 = .ok (.iload_n 1, 1) := by decide +kernel
theorem dX7_follow_72 : decode cX7_follow 72 = .ok (.iload_n 2, 1) := by decide +kernel
theorem dX7_follow_73 : decode cX7_follow 73 = .ok (.invokevirtual 207, 3) := by decide +kernel
theorem dX7_follow_76 : decode cX7_follow 76 = .ok (.aload_n 0, 1) := by decide +kernel
theorem dX7_follow_77 : decode cX7_follow 77 = .ok (.getfield 10, 3) := by decide +kernel
theorem dX7_follow_80 : decode cX7_follow 80 = .ok (.iload_n 1, 1) := by decide +kernel
theorem dX7_follow_81 : decode cX7_follow 81 = .ok (.iload_n 2, 1) := by decide +kernel
theorem dX7_follow_82 : decode cX7_follow 82 = .ok (.invokevirtual 137, 3) := by decide +kernel
theorem dX7_follow_85 : decode cX7_follow 85 = .ok (.ireturn, 1) := by decide +kernel
theorem dX7_cut_0 : decode cX7_cut 0 = .ok (.aload_n 0, 1) := by decide +kernel
theorem dX7_cut_1 : decode cX7_cut 1 = .ok (.getfield 10, 3) := by decide +kernel
theorem dX7_cut_4 : decode cX7_cut 4 = .ok (.iload_n 1, 1) := by decide +kernel
theorem dX7_cut_5 : decode cX7_cut 5 = .ok (.invokevirtual 108, 3) := by decide +kernel
theorem dX7_cut_8 : decode cX7_cut 8 = .ok (.ifCond .ne 6, 3) := by decide +kernel
theorem dX7_cut_11 : decode cX7_cut 11 = .ok (.ldc 112, 2) := by decide +kernel
theorem dX7_cut_13 : decode cX7_cut 13 = .ok (.ireturn, 1) := by decide +kernel
theorem dX7_cut_14 : decode cX7_cut 14 = .ok (.aload_n 0, 1) := by decide +kernel
theorem dX7_cut_15 : decode cX7_cut 15 = .ok (.getfield 35, 3) := by decide +kernel
theorem dX7_cut_18 : decode cX7_cut 18 = .ok (.aload_n 0, 1) := by decide +kernel
theorem dX7_cut_19 : decode cX7_cut 19 = .ok (.getfield 10, 3) := by decide +kernel
theorem dX7_cut_22 : decode cX7_cut 22 = .ok (.invokevirtual 183, 3) := by decide +kernel
theorem dX7_cut_25 : decode cX7_cut 25 = .ok (.aload_n 0, 1) := by decide +kernel
theorem dX7_cut_26 : decode cX7_cut 26 = .ok (.getfield 10, 3) := by decide +kernel
theorem dX7_cut_29 : decode cX7_cut 29 = .ok (.iload_n 1, 1) := by decide +kernel
theorem dX7_cut_30 : decode cX7_cut 30 = .ok (.invokevirtual 122, 3) := by decide +kernel
theorem dX7_cut_33 : decode cX7_cut 33 = .ok (.istore_n 2, 1) := by decide +kernel
theorem dX7_cut_34 : decode cX7_cut 34 = .ok (.aload_n 0, 1) := by decide +kernel
theorem dX7_cut_35 : decode cX7_cut 35 = .ok (.getfield 10, 3) := by decide +kernel
theorem dX7_cut_38 : decode cX7_cut 38 = .ok (.iload_n 1, 1) := by decide +kernel
theorem dX7_cut_39 : decode cX7_cut 39 = .ok (.iconst (-1), 1) := by decide +kernel
theorem dX7_cut_40 : decode cX7_cut 40 = .ok (.invokevirtual 207, 3) := by decide +kernel
theorem dX7_cut_43 : decode cX7_cut 43 = .ok (.iload_n 2, 1) := by decide +kernel
theorem dX7_cut_44 : decode cX7_cut 44 = .ok (.ireturn, 1) := by decide +kernel
theorem dX7_part_0 : decode cX7_part 0 = .ok (.iload_n 1, 1) := by decide +kernel
theorem dX7_part_1 : decode cX7_part 1 = .ok (.iconst (-1), 1) := by decide +kernel
theorem dX7_part_2 : decode cX7_part 2 = .ok (.if_icmp .eq 13, 3) := by decide +kernel
theorem dX7_part_5 : decode cX7_part 5 = .ok (.iload_n 1, 1) := by decide +kernel
theorem dX7_part_6 : decode cX7_part 6 = .ok (.invokestatic 141, 3) := by decide +kernel
theorem dX7_part_9 : decode cX7_part 9 = .ok (.ifCond .ne 6, 3) := by decide +kernel
theorem dX7_part_12 : decode cX7_part 12 = .ok (.ldc 107, 2) := by decide +kernel
theorem dX7_part_14 : decode cX7_part 14 = .ok (.ireturn, 1) := by decide +kernel
theorem dX7_part_15 : decode cX7_part 15 = .ok (.aload_n 0, 1) := by decide +kernel
theorem dX7_part_16 : decode cX7_part 16 = .ok (.invokevirtual 74, 3) := by decide +kernel
theorem dX7_part_19 : decode cX7_part 19 = .ok (.astore_n 2, 1) := by decide +kernel
theorem dX7_part_20 : decode cX7_part 20 = .ok (.iload_n 1, 1) := by decide +kernel
theorem dX7_part_21 : decode cX7_part 21 = .ok (.iconst (-1), 1) := by decide +kernel
theorem dX7_part_22 : decode cX7_part 22 = .ok (.if_icmp .ne 10, 3) := by decide +kernel
theorem dX7_part_25 : decode cX7_part 25 = .ok (.aload_n 2, 1) := by decide +kernel
theorem dX7_part_26 : decode cX7_part 26 = .ok (.invokevirtual 81, 3) := by decide +kernel
theorem dX7_part_29 : decode cX7_part 29 = .ok (.goto 4, 3) := by decide +kernel
theorem dX7_part_32 : decode cX7_part 32 = .ok (.iload_n 1, 1) := by decide +kernel
theorem dX7_part_33 : decode cX7_part 33 = .ok (.istore_n 3, 1) := by decide +kernel
theorem dX7_part_34 : decode cX7_part 34 = .ok (.aload_n 2, 1) := by decide +kernel
theorem dX7_part_35 : decode cX7_part 35 = .ok (.iload_n 3, 1) := by decide +kernel
theorem dX7_part_36 : decode cX7_part 36 = .ok (.invokevirtual 147, 3) := by decide +kernel
theorem dX7_part_39 : decode cX7_part 39 = .ok (.ifCond .ne 6, 3) := by decide +kernel
theorem dX7_part_42 : decode cX7_part 42 = .ok (.ldc 153, 2) := by decide +kernel
theorem dX7_part_44 : decode cX7_part 44 = .ok (.ireturn, 1) := by decide +kernel
theorem dX7_part_45 : decode cX7_part 45 = .ok (.aload_n 0, 1) := by decide +kernel
theorem dX7_part_46 : decode cX7_part 46 = .ok (.getfield 35, 3) := by decide +kernel
theorem dX7_part_49 : decode cX7_part 49 = .ok (.aload_n 0, 1) := by decide +kernel
theorem dX7_part_50 : decode cX7_part 50 = .ok (.getfield 10, 3) := by decide +kernel
theorem dX7_part_53 : decode cX7_part 53 = .ok (.invokevirtual 183, 3) := by decide +kernel
theorem dX7_part_56 : decode cX7_part 56 = .ok (.iconst 0, 1) := by decide +kernel
theorem dX7_part_57 : decode cX7_part 57 = .ok (.istore 4, 2) := by decide +kernel
theorem dX7_part_59 : decode cX7_part 59 = .ok (.iload 4, 2) := by decide +kernel
theorem dX7_part_61 : decode cX7_part 61 = .ok (.aload_n 0, 1) := by decide +kernel
theorem dX7_part_62 : decode cX7_part 62 = .ok (.getfield 10, 3) := by decide +kernel
theorem dX7_part_65 : decode cX7_part 65 = .ok (.invokevirtual 60, 3) := by decide +kernel
theorem dX7_part_68 : decode cX7_part 68 = .ok (.if_icmp .ge 24, 3) := by decide +kernel
theorem dX7_part_71 : decode cX7_part 71 = .ok (.aload_n 0, 1) := by decide +kernel
theorem dX7_part_72 : decode cX7_part 72 = .ok (.getfield 10, 3) := by decide +kernel
theorem dX7_part_75 : decode cX7_part 75 = .ok (.iload 4, 2) := by decide +kernel
theorem dX7_part_77 : decode cX7_part 77 = .ok (.aload_n 2, 1) := by decide +kernel
theorem dX7_part_78 : decode cX7_part 78 = .ok (.iload 4, 2) := by decide +kernel
theorem dX7_part_80 : decode cX7_part 80 = .ok (.invokevirtual 150, 3) := by decide +kernel
theorem dX7_part_83 : decode cX7_part 83 = .ok (.invokevirtual 207, 3) := by decide +kernel
theorem dX7_part_86 : decode cX7_part 86 = .ok (.iinc 4 1, 3) := by decide +kernel
theorem dX7_part_89 : decode cX7_part 89 = .ok (.goto (-30), 3) := by decide +kernel
theorem dX7_part_92 : decode cX7_part 92 = .ok (.aload_n 0, 1) := by decide +kernel
theorem dX7_part_93 : decode cX7_part 93 = .ok (.invokevirtual 64, 3) := by decide +kernel
theorem dX7_part_96 : decode cX7_part 96 = .ok (.invokevirtual 71, 3) := by decide +kernel
theorem dX7_part_99 : decode cX7_part 99 = .ok (.ireturn, 1) := by decide +kernel
theorem dX7_mend_0 : decode cX7_mend 0 = .ok (.aload_n 0, 1) := by decide +kernel
theorem dX7_mend_1 : decode cX7_mend 1 = .ok (.getfield 35, 3) := by decide +kernel
theorem dX7_mend_4 : decode cX7_mend 4 = .ok (.aload_n 0, 1) := by decide +kernel
theorem dX7_mend_5 : decode cX7_mend 5 = .ok (.getfield 10, 3) := by decide +kernel
theorem dX7_mend_8 : decode cX7_mend 8 = .ok (.invokevirtual 183, 3) := by decide +kernel
theorem dX7_mend_11 : decode cX7_mend 11 = .ok (.aload_n 0, 1) := by decide +kernel
theorem dX7_mend_12 : decode cX7_mend 12 = .ok (.getfield 21, 3) := by decide +kernel
theorem dX7_mend_15 : decode cX7_mend 15 = .ok (.invokevirtual 211, 3) := by decide +kernel
theorem dX7_mend_18 : decode cX7_mend 18 = .ok (.ireturn, 1) := by decide +kernel
theorem dX7_clear_0 : decode cX7_clear 0 = .ok (.aload_n 0, 1) := by decide +kernel
theorem dX7_clear_1 : decode cX7_clear 1 = .ok (.getfield 35, 3) := by decide +kernel
theorem dX7_clear_4 : decode cX7_clear 4 = .ok (.aload_n 0, 1) := by decide +kernel
theorem dX7_clear_5 : decode cX7_clear 5 = .ok (.getfield 10, 3) := by decide +kernel
theorem dX7_clear_8 : decode cX7_clear 8 = .ok (.invokevirtual 183, 3) := by decide +kernel
theorem dX7_clear_11 : decode cX7_clear 11 = .ok (.aload_n 0, 1) := by decide +kernel
theorem dX7_clear_12 : decode cX7_clear 12 = .ok (.getfield 10, 3) := by decide +kernel
theorem dX7_clear_15 : decode cX7_clear 15 = .ok (.invokevirtual 60, 3) := by decide +kernel
theorem dX7_clear_18 : decode cX7_clear 18 = .ok (.istore_n 1, 1) := by decide +kernel
theorem dX7_clear_19 : decode cX7_clear 19 = .ok (.aload_n 0, 1) := by decide +kernel
theorem dX7_clear_20 : decode cX7_clear 20 = .ok (.getfield 10, 3) := by decide +kernel
theorem dX7_clear_23 : decode cX7_clear 23 = .ok (.invokevirtual 214, 3) := by decide +kernel
theorem dX7_clear_26 : decode cX7_clear 26 = .ok (.iload_n 1, 1) := by decide +kernel
theorem dX7_clear_27 : decode cX7_clear 27 = .ok (.ireturn, 1) := by decide +kernel
theorem dX7_drift_0 : decode cX7_drift 0 = .ok (.iload_n 1, 1) := by decide +kernel
theorem dX7_drift_1 : decode cX7_drift 1 = .ok (.iconst 1, 1) := by decide +kernel
theorem dX7_drift_2 : decode cX7_drift 2 = .ok (.if_icmp .lt 9, 3) := by decide +kernel
theorem dX7_drift_5 : decode cX7_drift 5 = .ok (.iload_n 1, 1) := by decide +kernel
theorem dX7_drift_6 : decode cX7_drift 6 = .ok (.bipush 10, 2) := by decide +kernel
theorem dX7_drift_8 : decode cX7_drift 8 = .ok (.if_icmp .le 6, 3) := by decide +kernel
theorem dX7_drift_11 : decode cX7_drift 11 = .ok (.ldc 107, 2) := by decide +kernel
theorem dX7_drift_13 : decode cX7_drift 13 = .ok (.ireturn, 1) := by decide +kernel
theorem dX7_drift_14 : decode cX7_drift 14 = .ok (.iconst 0, 1) := by decide +kernel
theorem dX7_drift_15 : decode cX7_drift 15 = .ok (.istore_n 2, 1) := by decide +kernel
theorem dX7_drift_16 : decode cX7_drift 16 = .ok (.iload_n 2, 1) := by decide +kernel
theorem dX7_drift_17 : decode cX7_drift 17 = .ok (.iload_n 1, 1) := by decide +kernel
theorem dX7_drift_18 : decode cX7_drift 18 = .ok (.if_icmp .ge 34, 3) := by decide +kernel
theorem dX7_drift_21 : decode cX7_drift 21 = .ok (.aload_n 0, 1) := by decide +kernel
theorem dX7_drift_22 : decode cX7_drift 22 = .ok (.getfield 10, 3) := by decide +kernel
theorem dX7_drift_25 : decode cX7_drift 25 = .ok (.invokevirtual 178, 3) := by decide +kernel
theorem dX7_drift_28 : decode cX7_drift 28 = .ok (.ifCond .ne 24, 3) := by decide +kernel
theorem dX7_drift_31 : decode cX7_drift 31 = .ok (.aload_n 0, 1) := by decide +kernel
theorem dX7_drift_32 : decode cX7_drift 32 = .ok (.getfield 35, 3) := by decide +kernel
theorem dX7_drift_35 : decode cX7_drift 35 = .ok (.aload_n 0, 1) := by decide +kernel
theorem dX7_drift_36 : decode cX7_drift 36 = .ok (.getfield 10, 3) := by decide +kernel
theorem dX7_drift_39 : decode cX7_drift 39 = .ok (.invokevirtual 183, 3) := by decide +kernel
theorem dX7_drift_42 : decode cX7_drift 42 = .ok (.aload_n 0, 1) := by decide +kernel
theorem dX7_drift_43 : decode cX7_drift 43 = .ok (.invokevirtual 217, 3) := by decide +kernel
theorem dX7_drift_46 : decode cX7_drift 46 = .ok (.iinc 2 1, 3) := by decide +kernel
theorem dX7_drift_49 : decode cX7_drift 49 = .ok (.goto (-33), 3) := by decide +kernel
theorem dX7_drift_52 : decode cX7_drift 52 = .ok (.aload_n 0, 1) := by decide +kernel
theorem dX7_drift_53 : decode cX7_drift 53 = .ok (.getfield 10, 3) := by decide +kernel
theorem dX7_drift_56 : decode cX7_drift 56 = .ok (.invokevirtual 60, 3) := by decide +kernel
theorem dX7_drift_59 : decode cX7_drift 59 = .ok (.ireturn, 1) := by decide +kernel
theorem dX7_undo_0 : decode cX7_undo 0 = .ok (.iload_n 1, 1) := by decide +kernel
theorem dX7_undo_1 : decode cX7_undo 1 = .ok (.iconst 1, 1) := by decide +kernel
theorem dX7_undo_2 : decode cX7_undo 2 = .ok (.if_icmp .lt 9, 3) := by decide +kernel
theorem dX7_undo_5 : decode cX7_undo 5 = .ok (.iload_n 1, 1) := by decide +kernel
theorem dX7_undo_6 : decode cX7_undo 6 = .ok (.bipush 16, 2) := by decide +kernel
theorem dX7_undo_8 : decode cX7_undo 8 = .ok (.if_icmp .le 6, 3) := by decide +kernel
theorem dX7_undo_11 : decode cX7_undo 11 = .ok (.ldc 107, 2) := by decide +kernel
theorem dX7_undo_13 : decode cX7_undo 13 = .ok (.ireturn, 1) := by decide +kernel
theorem dX7_undo_14 : decode cX7_undo 14 = .ok (.iload_n 1, 1) := by decide +kernel
theorem dX7_undo_15 : decode cX7_undo 15 = .ok (.aload_n 0, 1) := by decide +kernel
theorem dX7_undo_16 : decode cX7_undo 16 = .ok (.getfield 35, 3) := by decide +kernel
theorem dX7_undo_19 : decode cX7_undo 19 = .ok (.invokevirtual 101, 3) := by decide +kernel
theorem dX7_undo_22 : decode cX7_undo 22 = .ok (.if_icmp .le 6, 3) := by decide +kernel
theorem dX7_undo_25 : decode cX7_undo 25 = .ok (.ldc 153, 2) := by decide +kernel
theorem dX7_undo_27 : decode cX7_undo 27 = .ok (.ireturn, 1) := by decide +kernel
theorem dX7_undo_28 : decode cX7_undo 28 = .ok (.aload_n 0, 1) := by decide +kernel
theorem dX7_undo_29 : decode cX7_undo 29 = .ok (.getfield 35, 3) := by decide +kernel
theorem dX7_undo_32 : decode cX7_undo 32 = .ok (.iload_n 1, 1) := by decide +kernel
theorem dX7_undo_33 : decode cX7_undo 33 = .ok (.aload_n 0, 1) := by decide +kernel
theorem dX7_undo_34 : decode cX7_undo 34 = .ok (.getfield 10, 3) := by decide +kernel
theorem dX7_undo_37 : decode cX7_undo 37 = .ok (.invokevirtual 220, 3) := by decide +kernel
theorem dX7_undo_40 : decode cX7_undo 40 = .ok (.aload_n 0, 1) := by decide +kernel
theorem dX7_undo_41 : decode cX7_undo 41 = .ok (.getfield 10, 3) := by decide +kernel
theorem dX7_undo_44 : decode cX7_undo 44 = .ok (.invokevirtual 60, 3) := by decide +kernel
theorem dX7_undo_47 : decode cX7_undo 47 = .ok (.ireturn, 1) := by decide +kernel
theorem dX7_write_0 : decode cX7_write 0 = .ok (.iload_n 1, 1) := by decide +kernel
theorem dX7_write_1 : decode cX7_write 1 = .ok (.invokestatic 141, 3) := by decide +kernel
theorem dX7_write_4 : decode cX7_write 4 = .ok (.ifCond .ne 6, 3) := by decide +kernel
theorem dX7_write_7 : decode cX7_write 7 = .ok (.ldc 107, 2) := by decide +kernel
theorem dX7_write_9 : decode cX7_write 9 = .ok (.ireturn, 1) := by decide +kernel
theorem dX7_write_10 : decode cX7_write 10 = .ok (.aload_n 0, 1) := by decide +kernel
theorem dX7_write_11 : decode cX7_write 11 = .ok (.getfield 49, 3) := by decide +kernel
theorem dX7_write_14 : decode cX7_write 14 = .ok (.invokevirtual 224, 3) := by decide +kernel
theorem dX7_write_17 : decode cX7_write 17 = .ok (.ifCond .eq 6, 3) := by decide +kernel
theorem dX7_write_20 : decode cX7_write 20 = .ok (.ldc 182, 2) := by decide +kernel
theorem dX7_write_22 : decode cX7_write 22 = .ok (.ireturn, 1) := by decide +kernel
theorem dX7_write_23 : decode cX7_write 23 = .ok (.aload_n 0, 1) := by decide +kernel
theorem dX7_write_24 : decode cX7_write 24 = .ok (.getfield 49, 3) := by decide +kernel
theorem dX7_write_27 : decode cX7_write 27 = .ok (.iload_n 1, 1) := by decide +kernel
theorem dX7_write_28 : decode cX7_write 28 = .ok (.iload_n 2, 1) := by decide +kernel
theorem dX7_write_29 : decode cX7_write 29 = .ok (.invokevirtual 225, 3) := by decide +kernel
theorem dX7_write_32 : decode cX7_write 32 = .ok (.aload_n 0, 1) := by decide +kernel
theorem dX7_write_33 : decode cX7_write 33 = .ok (.getfield 49, 3) := by decide +kernel
theorem dX7_write_36 : decode cX7_write 36 = .ok (.invokevirtual 94, 3) := by decide +kernel
theorem dX7_write_39 : decode cX7_write 39 = .ok (.ireturn, 1) := by decide +kernel
theorem dX7_tear_0 : decode cX7_tear 0 = .ok (.aload_n 0, 1) := by decide +kernel
theorem dX7_tear_1 : decode cX7_tear 1 = .ok (.getfield 49, 3) := by decide +kernel
theorem dX7_tear_4 : decode cX7_tear 4 = .ok (.invokevirtual 94, 3) := by decide +kernel
theorem dX7_tear_7 : decode cX7_tear 7 = .ok (.istore_n 1, 1) := by decide +kernel
theorem dX7_tear_8 : decode cX7_tear 8 = .ok (.aload_n 0, 1) := by decide +kernel
theorem dX7_tear_9 : decode cX7_tear 9 = .ok (.getfield 49, 3) := by decide +kernel
theorem dX7_tear_12 : decode cX7_tear 12 = .ok (.invokevirtual 228, 3) := by decide +kernel
theorem dX7_tear_15 : decode cX7_tear 15 = .ok (.iload_n 1, 1) := by decide +kernel
theorem dX7_tear_16 : decode cX7_tear 16 = .ok (.ireturn, 1) := by decide +kernel
theorem dX7_seed_0 : decode cX7_seed 0 = .ok (.iload_n 1, 1) := by decide +kernel
theorem dX7_seed_1 : decode cX7_seed 1 = .ok (.ifCond .ge 6, 3) := by decide +kernel
theorem dX7_seed_4 : decode cX7_seed 4 = .ok (.ldc 107, 2) := by decide +kernel
theorem dX7_seed_6 : decode cX7_seed 6 = .ok (.ireturn, 1) := by decide +kernel
theorem dX7_seed_7 : decode cX7_seed 7 = .ok (.aload_n 0, 1) := by decide +kernel
theorem dX7_seed_8 : decode cX7_seed 8 = .ok (.getfield 56, 3) := by decide +kernel
theorem dX7_seed_11 : decode cX7_seed 11 = .ok (.invokevirtual 104, 3) := by decide +kernel
theorem dX7_seed_14 : decode cX7_seed 14 = .ok (.istore_n 2, 1) := by decide +kernel
theorem dX7_seed_15 : decode cX7_seed 15 = .ok (.aload_n 0, 1) := by decide +kernel
theorem dX7_seed_16 : decode cX7_seed 16 = .ok (.getfield 56, 3) := by decide +kernel
theorem dX7_seed_19 : decode cX7_seed 19 = .ok (.iload_n 1, 1) := by decide +kernel
theorem dX7_seed_20 : decode cX7_seed 20 = .ok (.invokevirtual 231, 3) := by decide +kernel
theorem dX7_seed_23 : decode cX7_seed 23 = .ok (.iload_n 2, 1) := by decide +kernel
theorem dX7_seed_24 : decode cX7_seed 24 = .ok (.ireturn, 1) := by decide +kernel
theorem dX7_keep_0 : decode cX7_keep 0 = .ok (.iload_n 1, 1) := by decide +kernel
theorem dX7_keep_1 : decode cX7_keep 1 = .ok (.invokestatic 234, 3) := by decide +kernel
theorem dX7_keep_4 : decode cX7_keep 4 = .ok (.ifCond .ne 6, 3) := by decide +kernel
theorem dX7_keep_7 : decode cX7_keep 7 = .ok (.ldc 112, 2) := by decide +kernel
theorem dX7_keep_9 : decode cX7_keep 9 = .ok (.ireturn, 1) := by decide +kernel
theorem dX7_keep_10 : decode cX7_keep 10 = .ok (.aload_n 0, 1) := by decide +kernel
theorem dX7_keep_11 : decode cX7_keep 11 = .ok (.getfield 42, 3) := by decide +kernel
theorem dX7_keep_14 : decode cX7_keep 14 = .ok (.iload_n 1, 1) := by decide +kernel
theorem dX7_keep_15 : decode cX7_keep 15 = .ok (.aload_n 0, 1) := by decide +kernel
theorem dX7_keep_16 : decode cX7_keep 16 = .ok (.getfield 10, 3) := by decide +kernel
theorem dX7_keep_19 : decode cX7_keep 19 = .ok (.aload_n 0, 1) := by decide +kernel
theorem dX7_keep_20 : decode cX7_keep 20 = .ok (.getfield 56, 3) := by decide +kernel
theorem dX7_keep_23 : decode cX7_keep 23 = .ok (.invokevirtual 237, 3) := by decide +kernel
theorem dX7_keep_26 : decode cX7_keep 26 = .ok (.aload_n 0, 1) := by decide +kernel
theorem dX7_keep_27 : decode cX7_keep 27 = .ok (.getfield 35, 3) := by decide +kernel
theorem dX7_keep_30 : decode cX7_keep 30 = .ok (.invokevirtual 241, 3) := by decide +kernel
theorem dX7_keep_33 : decode cX7_keep 33 = .ok (.iconst 1, 1) := by decide +kernel
theorem dX7_keep_34 : decode cX7_keep 34 = .ok (.ireturn, 1) := by decide +kernel
theorem dX7_goBack_0 : decode cX7_goBack 0 = .ok (.iload_n 1, 1) := by decide +kernel
theorem dX7_goBack_1 : decode cX7_goBack 1 = .ok (.invokestatic 234, 3) := by decide +kernel
theorem dX7_goBack_4 : decode cX7_goBack 4 = .ok (.ifCond .ne 6, 3) := by decide +kernel
theorem dX7_goBack_7 : decode cX7_goBack 7 = .ok (.ldc 112, 2) := by decide +kernel
theorem dX7_goBack_9 : decode cX7_goBack 9 = .ok (.ireturn, 1) := by decide +kernel
theorem dX7_goBack_10 : decode cX7_goBack 10 = .ok (.aload_n 0, 1) := by decide +kernel
theorem dX7_goBack_11 : decode cX7_goBack 11 = .ok (.getfield 42, 3) := by decide +kernel
theorem dX7_goBack_14 : decode cX7_goBack 14 = .ok (.iload_n 1, 1) := by decide +kernel
theorem dX7_goBack_15 : decode cX7_goBack 15 = .ok (.invokevirtual 244, 3) := by decide +kernel
theorem dX7_goBack_18 : decode cX7_goBack 18 = .ok (.ifCond .ne 6, 3) := by decide +kernel
theorem dX7_goBack_21 : decode cX7_goBack 21 = .ok (.ldc 153, 2) := by decide +kernel
theorem dX7_goBack_23 : decode cX7_goBack 23 = .ok (.ireturn, 1) := by decide +kernel
theorem dX7_goBack_24 : decode cX7_goBack 24 = .ok (.aload_n 0, 1) := by decide +kernel
theorem dX7_goBack_25 : decode cX7_goBack 25 = .ok (.getfield 42, 3) := by decide +kernel
theorem dX7_goBack_28 : decode cX7_goBack 28 = .ok (.iload_n 1, 1) := by decide +kernel
theorem dX7_goBack_29 : decode cX7_goBack 29 = .ok (.aload_n 0, 1) := by decide +kernel
theorem dX7_goBack_30 : decode cX7_goBack 30 = .ok (.getfield 10, 3) := by decide +kernel
theorem dX7_goBack_33 : decode cX7_goBack 33 = .ok (.aload_n 0, 1) := by decide +kernel
theorem dX7_goBack_34 : decode cX7_goBack 34 = .ok (.getfield 56, 3) := by decide +kernel
theorem dX7_goBack_37 : decode cX7_goBack 37 = .ok (.invokevirtual 247, 3) := by decide +kernel
theorem dX7_goBack_40 : decode cX7_goBack 40 = .ok (.aload_n 0, 1) := by decide +kernel
theorem dX7_goBack_41 : decode cX7_goBack 41 = .ok (.getfield 35, 3) := by decide +kernel
theorem dX7_goBack_44 : decode cX7_goBack 44 = .ok (.invokevirtual 241, 3) := by decide +kernel
theorem dX7_goBack_47 : decode cX7_goBack 47 = .ok (.iconst 1, 1) := by decide +kernel
theorem dX7_goBack_48 : decode cX7_goBack 48 = .ok (.ireturn, 1) := by decide +kernel
theorem dX7_isVoiceCount_0 : decode cX7_isVoiceCount 0 = .ok (.iload_n 0, 1) := by decide +kernel
theorem dX7_isVoiceCount_1 : decode cX7_isVoiceCount 1 = .ok (.ifCond .lt 13, 3) := by decide +kernel
theorem dX7_isVoiceCount_4 : decode cX7_isVoiceCount 4 = .ok (.iload_n 0, 1) := by decide +kernel
theorem dX7_isVoiceCount_5 : decode cX7_isVoiceCount 5 = .ok (.bipush 10, 2) := by decide +kernel
theorem dX7_isVoiceCount_7 : decode cX7_isVoiceCount 7 = .ok (.if_icmp .gt 7, 3) := by decide +kernel
theorem dX7_isVoiceCount_10 : decode cX7_isVoiceCount 10 = .ok (.iconst 1, 1) := by decide +kernel
theorem dX7_isVoiceCount_11 : decode cX7_isVoiceCount 11 = .ok (.goto 4, 3) := by decide +kernel
theorem dX7_isVoiceCount_14 : decode cX7_isVoiceCount 14 = .ok (.iconst 0, 1) := by decide +kernel
theorem dX7_isVoiceCount_15 : decode cX7_isVoiceCount 15 = .ok (.ireturn, 1) := by decide +kernel
theorem dX7_standing_0 : decode cX7_standing 0 = .ok (.aload_n 0, 1) := by decide +kernel
theorem dX7_standing_1 : decode cX7_standing 1 = .ok (.getfield 21, 3) := by decide +kernel
theorem dX7_standing_4 : decode cX7_standing 4 = .ok (.invokevirtual 250, 3) := by decide +kernel
theorem dX7_standing_7 : decode cX7_standing 7 = .ok (.aload_n 0, 1) := by decide +kernel
theorem dX7_standing_8 : decode cX7_standing 8 = .ok (.getfield 21, 3) := by decide +kernel
theorem dX7_standing_11 : decode cX7_standing 11 = .ok (.areturn, 1) := by decide +kernel
theorem dX7_weighed_0 : decode cX7_weighed 0 = .ok (.aload_n 0, 1) := by decide +kernel
theorem dX7_weighed_1 : decode cX7_weighed 1 = .ok (.getfield 28, 3) := by decide +kernel
theorem dX7_weighed_4 : decode cX7_weighed 4 = .ok (.iconst (-1), 1) := by decide +kernel
theorem dX7_weighed_5 : decode cX7_weighed 5 = .ok (.invokevirtual 253, 3) := by decide +kernel
theorem dX7_weighed_8 : decode cX7_weighed 8 = .ok (.aload_n 0, 1) := by decide +kernel
theorem dX7_weighed_9 : decode cX7_weighed 9 = .ok (.getfield 28, 3) := by decide +kernel
theorem dX7_weighed_12 : decode cX7_weighed 12 = .ok (.areturn, 1) := by decide +kernel
theorem dX7_bringDrawn_0 : decode cX7_bringDrawn 0 = .ok (.aload_n 0, 1) := by decide +kernel
theorem dX7_bringDrawn_1 : decode cX7_bringDrawn 1 = .ok (.getfield 56, 3) := by decide +kernel
theorem dX7_bringDrawn_4 : decode cX7_bringDrawn 4 = .ok (.bipush 24, 2) := by decide +kernel
theorem dX7_bringDrawn_6 : decode cX7_bringDrawn 6 = .ok (.invokevirtual 256, 3) := by decide +kernel
theorem dX7_bringDrawn_9 : decode cX7_bringDrawn 9 = .ok (.istore_n 1, 1) := by decide +kernel
theorem dX7_bringDrawn_10 : decode cX7_bringDrawn 10 = .ok (.aload_n 0, 1) := by decide +kernel
theorem dX7_bringDrawn_11 : decode cX7_bringDrawn 11 = .ok (.getfield 56, 3) := by decide +kernel
theorem dX7_bringDrawn_14 : decode cX7_bringDrawn 14 = .ok (.bipush 6, 2) := by decide +kernel
theorem dX7_bringDrawn_16 : decode cX7_bringDrawn 16 = .ok (.invokevirtual 256, 3) := by decide +kernel
theorem dX7_bringDrawn_19 : decode cX7_bringDrawn 19 = .ok (.iconst 1, 1) := by decide +kernel
theorem dX7_bringDrawn_20 : decode cX7_bringDrawn 20 = .ok (.iadd, 1) := by decide +kernel
theorem dX7_bringDrawn_21 : decode cX7_bringDrawn 21 = .ok (.istore_n 2, 1) := by decide +kernel
theorem dX7_bringDrawn_22 : decode cX7_bringDrawn 22 = .ok (.aload_n 0, 1) := by decide +kernel
theorem dX7_bringDrawn_23 : decode cX7_bringDrawn 23 = .ok (.getfield 56, 3) := by decide +kernel
theorem dX7_bringDrawn_26 : decode cX7_bringDrawn 26 = .ok (.bipush 25, 2) := by decide +kernel
theorem dX7_bringDrawn_28 : decode cX7_bringDrawn 28 = .ok (.invokevirtual 256, 3) := by decide +kernel
theorem dX7_bringDrawn_31 : decode cX7_bringDrawn 31 = .ok (.bipush 48, 2) := by decide +kernel
theorem dX7_bringDrawn_33 : decode cX7_bringDrawn 33 = .ok (.iadd, 1) := by decide +kernel
theorem dX7_bringDrawn_34 : decode cX7_bringDrawn 34 = .ok (.istore_n 3, 1) := by decide +kernel
theorem dX7_bringDrawn_35 : decode cX7_bringDrawn 35 = .ok (.aload_n 0, 1) := by decide +kernel
theorem dX7_bringDrawn_36 : decode cX7_bringDrawn 36 = .ok (.getfield 10, 3) := by decide +kernel
theorem dX7_bringDrawn_39 : decode cX7_bringDrawn 39 = .ok (.iload_n 1, 1) := by decide +kernel
theorem dX7_bringDrawn_40 : decode cX7_bringDrawn 40 = .ok (.iload_n 2, 1) := by decide +kernel
theorem dX7_bringDrawn_41 : decode cX7_bringDrawn 41 = .ok (.iload_n 3, 1) := by decide +kernel
theorem dX7_bringDrawn_42 : decode cX7_bringDrawn 42 = .ok (.invokevirtual 186, 3) := by decide +kernel
theorem dX7_bringDrawn_45 : decode cX7_bringDrawn 45 = .ok (.pop, 1) := by decide +kernel
theorem dX7_bringDrawn_46 : decode cX7_bringDrawn 46 = .ok (.return_, 1) := by decide +kernel
theorem dX8_init_0 : decode cX8_init 0 = .ok (.aload_n 0, 1) := by decide +kernel
theorem dX8_init_1 : decode cX8_init 1 = .ok (.invokespecial 1, 3) := by decide +kernel
theorem dX8_init_4 : decode cX8_init 4 = .ok (.aload_n 0, 1) := by decide +kernel
theorem dX8_init_5 : decode cX8_init 5 = .ok (.sipush 874, 3) := by decide +kernel
theorem dX8_init_8 : decode cX8_init 8 = .ok (.newarray .int, 2) := by decide +kernel
theorem dX8_init_10 : decode cX8_init 10 = .ok (.putfield 7, 3) := by decide +kernel
theorem dX8_init_13 : decode cX8_init 13 = .ok (.aload_n 0, 1) := by decide +kernel
theorem dX8_init_14 : decode cX8_init 14 = .ok (.iconst 2, 1) := by decide +kernel
theorem dX8_init_15 : decode cX8_init 15 = .ok (.newarray .int, 2) := by decide +kernel
theorem dX8_init_17 : decode cX8_init 17 = .ok (.putfield 13, 3) := by decide +kernel
theorem dX8_init_20 : decode cX8_init 20 = .ok (.aload_n 0, 1) := by decide +kernel
theorem dX8_init_21 : decode cX8_init 21 = .ok (.bipush 20, 2) := by decide +kernel
theorem dX8_init_23 : decode cX8_init 23 = .ok (.newarray .int, 2) := by decide +kernel
theorem dX8_init_25 : decode cX8_init 25 = .ok (.putfield 16, 3) := by decide +kernel
theorem dX8_init_28 : decode cX8_init 28 = .ok (.aload_n 0, 1) := by decide +kernel
theorem dX8_init_29 : decode cX8_init 29 = .ok (.bipush 20, 2) := by decide +kernel
theorem dX8_init_31 : decode cX8_init 31 = .ok (.newarray .int, 2) := by decide +kernel
theorem dX8_init_33 : decode cX8_init 33 = .ok (.putfield 19, 3) := by decide +kernel
theorem dX8_init_36 : decode cX8_init 36 = .ok (.aload_n 0, 1) := by decide +kernel
theorem dX8_init_37 : decode cX8_init 37 = .ok (.sipush 11264, 3) := by decide +kernel
theorem dX8_init_40 : decode cX8_init 40 = .ok (.newarray .int, 2) := by decide +kernel
theorem dX8_init_42 : decode cX8_init 42 = .ok (.putfield 22, 3) := by decide +kernel
theorem dX8_init_45 : decode cX8_init 45 = .ok (.aload_n 0, 1) := by decide +kernel
theorem dX8_init_46 : decode cX8_init 46 = .ok (.bipush 10, 2) := by decide +kernel
theorem dX8_init_48 : decode cX8_init 48 = .ok (.newarray .int, 2) := by decide +kernel
theorem dX8_init_50 : decode cX8_init 50 = .ok (.putfield 25, 3) := by decide +kernel
theorem dX8_init_53 : decode cX8_init 53 = .ok (.aload_n 0, 1) := by decide +kernel
theorem dX8_init_54 : decode cX8_init 54 = .ok (.getfield 7, 3) := by decide +kernel
theorem dX8_init_57 : decode cX8_init 57 = .ok (.iconst 1, 1) := by decide +kernel
theorem dX8_init_58 : decode cX8_init 58 = .ok (.iconst 1, 1) := by decide +kernel
theorem dX8_init_59 : decode cX8_init 59 = .ok (.iastore, 1) := by decide +kernel
theorem dX8_init_60 : decode cX8_init 60 = .ok (.aload_n 0, 1) := by decide +kernel
theorem dX8_init_61 : decode cX8_init 61 = .ok (.getfield 7, 3) := by decide +kernel
theorem dX8_init_64 : decode cX8_init 64 = .ok (.iconst 2, 1) := by decide +kernel
theorem dX8_init_65 : decode cX8_init 65 = .ok (.iconst 1, 1) := by decide +kernel
theorem dX8_init_66 : decode cX8_init 66 = .ok (.iastore, 1) := by decide +kernel
theorem dX8_init_67 : decode cX8_init 67 = .ok (.aload_n 0, 1) := by decide +kernel
theorem dX8_init_68 : decode cX8_init 68 = .ok (.getfield 7, 3) := by decide +kernel
theorem dX8_init_71 : decode cX8_init 71 = .ok (.iconst 3, 1) := by decide +kernel
theorem dX8_init_72 : decode cX8_init 72 = .ok (.bipush 10, 2) := by decide +kernel
theorem dX8_init_74 : decode cX8_init 74 = .ok (.iastore, 1) := by decide +kernel
theorem dX8_init_75 : decode cX8_init 75 = .ok (.aload_n 0, 1) := by decide +kernel
theorem dX8_init_76 : decode cX8_init 76 = .ok (.getfield 7, 3) := by decide +kernel
theorem dX8_init_79 : decode cX8_init 79 = .ok (.iconst 4, 1) := by decide +kernel
theorem dX8_init_80 : decode cX8_init 80 = .ok (.bipush 20, 2) := by decide +kernel
theorem dX8_init_82 : decode cX8_init 82 = .ok (.iastore, 1) := by decide +kernel
theorem dX8_init_83 : decode cX8_init 83 = .ok (.aload_n 0, 1) := by decide +kernel
theorem dX8_init_84 : decode cX8_init 84 = .ok (.getfield 7, 3) := by decide +kernel
theorem dX8_init_87 : decode cX8_init 87 = .ok (.iconst 5, 1) := by decide +kernel
theorem dX8_init_88 : decode cX8_init 88 = .ok (.bipush 16, 2) := by decide +kernel
theorem dX8_init_90 : decode cX8_init 90 = .ok (.iastore, 1) := by decide +kernel
theorem dX8_init_91 : decode cX8_init 91 = .ok (.return_, 1) := by decide +kernel
theorem dX8_in_0 : decode cX8_in 0 = .ok (.lload_n 0, 1) := by decide +kernel
theorem dX8_in_1 : decode cX8_in 1 = .ok (.lload_n 2, 1) := by decide +kernel
theorem dX8_in_2 : decode cX8_in 2 = .ok (.lcmp, 1) := by decide +kernel
theorem dX8_in_3 : decode cX8_in 3 = .ok (.ifCond .lt 14, 3) := by decide +kernel
theorem dX8_in_6 : decode cX8_in 6 = .ok (.lload_n 0, 1) := by decide +kernel
theorem dX8_in_7 : decode cX8_in 7 = .ok (.lload 4, 2) := by decide +kernel
theorem dX8_in_9 : decode cX8_in 9 = .ok (.lcmp, 1) := by decide +kernel
theorem dX8_in_10 : decode cX8_in 10 = .ok (.ifCond .gt 7, 3) := by decide +kernel
theorem dX8_in_13 : decode cX8_in 13 = .ok (.iconst 1, 1) := by decide +kernel
theorem dX8_in_14 : decode cX8_in 14 = .ok (.goto 4, 3) := by decide +kernel
theorem dX8_in_17 : decode cX8_in 17 = .ok (.iconst 0, 1) := by decide +kernel
end
section
theorem dX8_in_18 : decode cX8_in 18 = .ok (.ireturn, 1) := by decide +kernel
theorem dX8_copyRow_0 : decode cX8_copyRow 0 = .ok (.iconst 0, 1) := by decide +kernel
theorem dX8_copyRow_1 : decode cX8_copyRow 1 = .ok (.istore_n 3, 1) := by decide +kernel
theorem dX8_copyRow_2 : decode cX8_copyRow 2 = .ok (.iload_n 3, 1) := by decide +kernel
theorem dX8_copyRow_3 : decode cX8_copyRow 3 = .ok (.bipush 46, 2) := by decide +kernel
theorem dX8_copyRow_5 : decode cX8_copyRow 5 = .ok (.if_icmp .ge 25, 3) := by decide +kernel
theorem dX8_copyRow_8 : decode cX8_copyRow 8 = .ok (.aload_n 0, 1) := by decide +kernel
theorem dX8_copyRow_9 : decode cX8_copyRow 9 = .ok (.getfield 7, 3) := by decide +kernel
theorem dX8_copyRow_12 : decode cX8_copyRow 12 = .ok (.iload_n 2, 1) := by decide +kernel
theorem dX8_copyRow_13 : decode cX8_copyRow 13 = .ok (.iload_n 3, 1) := by decide +kernel
theorem dX8_copyRow_14 : decode cX8_copyRow 14 = .ok (.iadd, 1) := by decide +kernel
theorem dX8_copyRow_15 : decode cX8_copyRow 15 = .ok (.aload_n 0, 1) := by decide +kernel
theorem dX8_copyRow_16 : decode cX8_copyRow 16 = .ok (.getfield 7, 3) := by decide +kernel
theorem dX8_copyRow_19 : decode cX8_copyRow 19 = .ok (.iload_n 1, 1) := by decide +kernel
theorem dX8_copyRow_20 : decode cX8_copyRow 20 = .ok (.iload_n 3, 1) := by decide +kernel
theorem dX8_copyRow_21 : decode cX8_copyRow 21 = .ok (.iadd, 1) := by decide +kernel
theorem dX8_copyRow_22 : decode cX8_copyRow 22 = .ok (.iaload, 1) := by decide +kernel
theorem dX8_copyRow_23 : decode cX8_copyRow 23 = .ok (.iastore, 1) := by decide +kernel
theorem dX8_copyRow_24 : decode cX8_copyRow 24 = .ok (.iinc 3 1, 3) := by decide +kernel
theorem dX8_copyRow_27 : decode cX8_copyRow 27 = .ok (.goto (-25), 3) := by decide +kernel
theorem dX8_copyRow_30 : decode cX8_copyRow 30 = .ok (.return_, 1) := by decide +kernel
theorem dX8_remember_0 : decode cX8_remember 0 = .ok (.bipush 16, 2) := by decide +kernel
theorem dX8_remember_2 : decode cX8_remember 2 = .ok (.istore_n 1, 1) := by decide +kernel
theorem dX8_remember_3 : decode cX8_remember 3 = .ok (.iload_n 1, 1) := by decide +kernel
theorem dX8_remember_4 : decode cX8_remember 4 = .ok (.ifCond .le 23, 3) := by decide +kernel
theorem dX8_remember_7 : decode cX8_remember 7 = .ok (.aload_n 0, 1) := by decide +kernel
theorem dX8_remember_8 : decode cX8_remember 8 = .ok (.bipush 46, 2) := by decide +kernel
theorem dX8_remember_10 : decode cX8_remember 10 = .ok (.iload_n 1, 1) := by decide +kernel
theorem dX8_remember_11 : decode cX8_remember 11 = .ok (.iconst 1, 1) := by decide +kernel
theorem dX8_remember_12 : decode cX8_remember 12 = .ok (.isub, 1) := by decide +kernel
theorem dX8_remember_13 : decode cX8_remember 13 = .ok (.imul, 1) := by decide +kernel
theorem dX8_remember_14 : decode cX8_remember 14 = .ok (.bipush 46, 2) := by decide +kernel
theorem dX8_remember_16 : decode cX8_remember 16 = .ok (.iload_n 1, 1) := by decide +kernel
theorem dX8_remember_17 : decode cX8_remember 17 = .ok (.imul, 1) := by decide +kernel
theorem dX8_remember_18 : decode cX8_remember 18 = .ok (.invokevirtual 28, 3) := by decide +kernel
theorem dX8_remember_21 : decode cX8_remember 21 = .ok (.iinc 1 (-1), 3) := by decide +kernel
theorem dX8_remember_24 : decode cX8_remember 24 = .ok (.goto (-21), 3) := by decide +kernel
theorem dX8_remember_27 : decode cX8_remember 27 = .ok (.aload_n 0, 1) := by decide +kernel
theorem dX8_remember_28 : decode cX8_remember 28 = .ok (.aload_n 0, 1) := by decide +kernel
theorem dX8_remember_29 : decode cX8_remember 29 = .ok (.getfield 32, 3) := by decide +kernel
theorem dX8_remember_32 : decode cX8_remember 32 = .ok (.bipush 16, 2) := by decide +kernel
theorem dX8_remember_34 : decode cX8_remember 34 = .ok (.if_icmp .ge 12, 3) := by decide +kernel
theorem dX8_remember_37 : decode cX8_remember 37 = .ok (.aload_n 0, 1) := by decide +kernel
theorem dX8_remember_38 : decode cX8_remember 38 = .ok (.getfield 32, 3) := by decide +kernel
theorem dX8_remember_41 : decode cX8_remember 41 = .ok (.iconst 1, 1) := by decide +kernel
theorem dX8_remember_42 : decode cX8_remember 42 = .ok (.iadd, 1) := by decide +kernel
theorem dX8_remember_43 : decode cX8_remember 43 = .ok (.goto 5, 3) := by decide +kernel
theorem dX8_remember_46 : decode cX8_remember 46 = .ok (.bipush 16, 2) := by decide +kernel
theorem dX8_remember_48 : decode cX8_remember 48 = .ok (.putfield 32, 3) := by decide +kernel
theorem dX8_remember_51 : decode cX8_remember 51 = .ok (.return_, 1) := by decide +kernel
theorem dX8_part0_0 : decode cX8_part0 0 = .ok (.iconst 0, 1) := by decide +kernel
theorem dX8_part0_1 : decode cX8_part0 1 = .ok (.istore_n 1, 1) := by decide +kernel
theorem dX8_part0_2 : decode cX8_part0 2 = .ok (.iload_n 1, 1) := by decide +kernel
theorem dX8_part0_3 : decode cX8_part0 3 = .ok (.bipush 10, 2) := by decide +kernel
theorem dX8_part0_5 : decode cX8_part0 5 = .ok (.if_icmp .ge 19, 3) := by decide +kernel
theorem dX8_part0_8 : decode cX8_part0 8 = .ok (.aload_n 0, 1) := by decide +kernel
theorem dX8_part0_9 : decode cX8_part0 9 = .ok (.getfield 7, 3) := by decide +kernel
theorem dX8_part0_12 : decode cX8_part0 12 = .ok (.bipush 36, 2) := by decide +kernel
theorem dX8_part0_14 : decode cX8_part0 14 = .ok (.iload_n 1, 1) := by decide +kernel
theorem dX8_part0_15 : decode cX8_part0 15 = .ok (.iadd, 1) := by decide +kernel
theorem dX8_part0_16 : decode cX8_part0 16 = .ok (.iconst (-1), 1) := by decide +kernel
theorem dX8_part0_17 : decode cX8_part0 17 = .ok (.iastore, 1) := by decide +kernel
theorem dX8_part0_18 : decode cX8_part0 18 = .ok (.iinc 1 1, 3) := by decide +kernel
theorem dX8_part0_21 : decode cX8_part0 21 = .ok (.goto (-19), 3) := by decide +kernel
theorem dX8_part0_24 : decode cX8_part0 24 = .ok (.return_, 1) := by decide +kernel
theorem dX8_off_0 : decode cX8_off 0 = .ok (.aload_n 0, 1) := by decide +kernel
theorem dX8_off_1 : decode cX8_off 1 = .ok (.getfield 7, 3) := by decide +kernel
theorem dX8_off_4 : decode cX8_off 4 = .ok (.bipush 6, 2) := by decide +kernel
theorem dX8_off_6 : decode cX8_off 6 = .ok (.iload_n 1, 1) := by decide +kernel
theorem dX8_off_7 : decode cX8_off 7 = .ok (.iadd, 1) := by decide +kernel
theorem dX8_off_8 : decode cX8_off 8 = .ok (.iaload, 1) := by decide +kernel
theorem dX8_off_9 : decode cX8_off 9 = .ok (.aload_n 0, 1) := by decide +kernel
theorem dX8_off_10 : decode cX8_off 10 = .ok (.getfield 7, 3) := by decide +kernel
theorem dX8_off_13 : decode cX8_off 13 = .ok (.bipush 16, 2) := by decide +kernel
theorem dX8_off_15 : decode cX8_off 15 = .ok (.iload_n 1, 1) := by decide +kernel
theorem dX8_off_16 : decode cX8_off 16 = .ok (.iadd, 1) := by decide +kernel
theorem dX8_off_17 : decode cX8_off 17 = .ok (.iaload, 1) := by decide +kernel
theorem dX8_off_18 : decode cX8_off 18 = .ok (.iadd, 1) := by decide +kernel
theorem dX8_off_19 : decode cX8_off 19 = .ok (.ireturn, 1) := by decide +kernel
theorem dX8_may_0 : decode cX8_may 0 = .ok (.aload_n 0, 1) := by decide +kernel
theorem dX8_may_1 : decode cX8_may 1 = .ok (.getfield 7, 3) := by decide +kernel
theorem dX8_may_4 : decode cX8_may 4 = .ok (.bipush 6, 2) := by decide +kernel
theorem dX8_may_6 : decode cX8_may 6 = .ok (.iload_n 2, 1) := by decide +kernel
theorem dX8_may_7 : decode cX8_may 7 = .ok (.iadd, 1) := by decide +kernel
theorem dX8_may_8 : decode cX8_may 8 = .ok (.iaload, 1) := by decide +kernel
theorem dX8_may_9 : decode cX8_may 9 = .ok (.i2l, 1) := by decide +kernel
theorem dX8_may_10 : decode cX8_may 10 = .ok (.aload_n 0, 1) := by decide +kernel
theorem dX8_may_11 : decode cX8_may 11 = .ok (.iload_n 1, 1) := by decide +kernel
theorem dX8_may_12 : decode cX8_may 12 = .ok (.invokevirtual 36, 3) := by decide +kernel
theorem dX8_may_15 : decode cX8_may 15 = .ok (.i2l, 1) := by decide +kernel
theorem dX8_may_16 : decode cX8_may 16 = .ok (.aload_n 0, 1) := by decide +kernel
theorem dX8_may_17 : decode cX8_may 17 = .ok (.iload_n 1, 1) := by decide +kernel
theorem dX8_may_18 : decode cX8_may 18 = .ok (.invokevirtual 36, 3) := by decide +kernel
theorem dX8_may_21 : decode cX8_may 21 = .ok (.aload_n 0, 1) := by decide +kernel
theorem dX8_may_22 : decode cX8_may 22 = .ok (.getfield 7, 3) := by decide +kernel
theorem dX8_may_25 : decode cX8_may 25 = .ok (.iconst 5, 1) := by decide +kernel
theorem dX8_may_26 : decode cX8_may 26 = .ok (.iaload, 1) := by decide +kernel
theorem dX8_may_27 : decode cX8_may 27 = .ok (.iadd, 1) := by decide +kernel
theorem dX8_may_28 : decode cX8_may 28 = .ok (.i2l, 1) := by decide +kernel
theorem dX8_may_29 : decode cX8_may 29 = .ok (.invokestatic 40, 3) := by decide +kernel
theorem dX8_may_32 : decode cX8_may 32 = .ok (.ireturn, 1) := by decide +kernel
theorem dX8_costOf_0 : decode cX8_costOf 0 = .ok (.aload_n 0, 1) := by decide +kernel
theorem dX8_costOf_1 : decode cX8_costOf 1 = .ok (.getfield 7, 3) := by decide +kernel
theorem dX8_costOf_4 : decode cX8_costOf 4 = .ok (.bipush 26, 2) := by decide +kernel
theorem dX8_costOf_6 : decode cX8_costOf 6 = .ok (.iload_n 1, 1) := by decide +kernel
theorem dX8_costOf_7 : decode cX8_costOf 7 = .ok (.iadd, 1) := by decide +kernel
theorem dX8_costOf_8 : decode cX8_costOf 8 = .ok (.iaload, 1) := by decide +kernel
theorem dX8_costOf_9 : decode cX8_costOf 9 = .ok (.aload_n 0, 1) := by decide +kernel
theorem dX8_costOf_10 : decode cX8_costOf 10 = .ok (.getfield 7, 3) := by decide +kernel
theorem dX8_costOf_13 : decode cX8_costOf 13 = .ok (.bipush 26, 2) := by decide +kernel
theorem dX8_costOf_15 : decode cX8_costOf 15 = .ok (.iload_n 2, 1) := by decide +kernel
theorem dX8_costOf_16 : decode cX8_costOf 16 = .ok (.iadd, 1) := by decide +kernel
theorem dX8_costOf_17 : decode cX8_costOf 17 = .ok (.iaload, 1) := by decide +kernel
theorem dX8_costOf_18 : decode cX8_costOf 18 = .ok (.isub, 1) := by decide +kernel
theorem dX8_costOf_19 : decode cX8_costOf 19 = .ok (.istore_n 3, 1) := by decide +kernel
theorem dX8_costOf_20 : decode cX8_costOf 20 = .ok (.iload_n 3, 1) := by decide +kernel
theorem dX8_costOf_21 : decode cX8_costOf 21 = .ok (.ifCond .ge 8, 3) := by decide +kernel
theorem dX8_costOf_24 : decode cX8_costOf 24 = .ok (.iload_n 3, 1) := by decide +kernel
theorem dX8_costOf_25 : decode cX8_costOf 25 = .ok (.ineg, 1) := by decide +kernel
theorem dX8_costOf_26 : decode cX8_costOf 26 = .ok (.goto 4, 3) := by decide +kernel
theorem dX8_costOf_29 : decode cX8_costOf 29 = .ok (.iload_n 3, 1) := by decide +kernel
theorem dX8_costOf_30 : decode cX8_costOf 30 = .ok (.istore_n 3, 1) := by decide +kernel
theorem dX8_costOf_31 : decode cX8_costOf 31 = .ok (.aload_n 0, 1) := by decide +kernel
theorem dX8_costOf_32 : decode cX8_costOf 32 = .ok (.getfield 7, 3) := by decide +kernel
theorem dX8_costOf_35 : decode cX8_costOf 35 = .ok (.iconst 1, 1) := by decide +kernel
theorem dX8_costOf_36 : decode cX8_costOf 36 = .ok (.iaload, 1) := by decide +kernel
theorem dX8_costOf_37 : decode cX8_costOf 37 = .ok (.iload_n 3, 1) := by decide +kernel
theorem dX8_costOf_38 : decode cX8_costOf 38 = .ok (.imul, 1) := by decide +kernel
theorem dX8_costOf_39 : decode cX8_costOf 39 = .ok (.aload_n 0, 1) := by decide +kernel
theorem dX8_costOf_40 : decode cX8_costOf 40 = .ok (.getfield 7, 3) := by decide +kernel
theorem dX8_costOf_43 : decode cX8_costOf 43 = .ok (.iconst 2, 1) := by decide +kernel
theorem dX8_costOf_44 : decode cX8_costOf 44 = .ok (.iaload, 1) := by decide +kernel
theorem dX8_costOf_45 : decode cX8_costOf 45 = .ok (.aload_n 0, 1) := by decide +kernel
theorem dX8_costOf_46 : decode cX8_costOf 46 = .ok (.getfield 7, 3) := by decide +kernel
theorem dX8_costOf_49 : decode cX8_costOf 49 = .ok (.bipush 6, 2) := by decide +kernel
theorem dX8_costOf_51 : decode cX8_costOf 51 = .ok (.iload_n 2, 1) := by decide +kernel
theorem dX8_costOf_52 : decode cX8_costOf 52 = .ok (.iadd, 1) := by decide +kernel
theorem dX8_costOf_53 : decode cX8_costOf 53 = .ok (.iaload, 1) := by decide +kernel
theorem dX8_costOf_54 : decode cX8_costOf 54 = .ok (.aload_n 0, 1) := by decide +kernel
theorem dX8_costOf_55 : decode cX8_costOf 55 = .ok (.iload_n 1, 1) := by decide +kernel
theorem dX8_costOf_56 : decode cX8_costOf 56 = .ok (.invokevirtual 36, 3) := by decide +kernel
theorem dX8_costOf_59 : decode cX8_costOf 59 = .ok (.isub, 1) := by decide +kernel
theorem dX8_costOf_60 : decode cX8_costOf 60 = .ok (.imul, 1) := by decide +kernel
theorem dX8_costOf_61 : decode cX8_costOf 61 = .ok (.iadd, 1) := by decide +kernel
theorem dX8_costOf_62 : decode cX8_costOf 62 = .ok (.iload_n 3, 1) := by decide +kernel
theorem dX8_costOf_63 : decode cX8_costOf 63 = .ok (.bipush 12, 2) := by decide +kernel
theorem dX8_costOf_65 : decode cX8_costOf 65 = .ok (.if_icmp .le 12, 3) := by decide +kernel
theorem dX8_costOf_68 : decode cX8_costOf 68 = .ok (.aload_n 0, 1) := by decide +kernel
theorem dX8_costOf_69 : decode cX8_costOf 69 = .ok (.getfield 7, 3) := by decide +kernel
theorem dX8_costOf_72 : decode cX8_costOf 72 = .ok (.iconst 3, 1) := by decide +kernel
theorem dX8_costOf_73 : decode cX8_costOf 73 = .ok (.iaload, 1) := by decide +kernel
theorem dX8_costOf_74 : decode cX8_costOf 74 = .ok (.goto 4, 3) := by decide +kernel
theorem dX8_costOf_77 : decode cX8_costOf 77 = .ok (.iconst 0, 1) := by decide +kernel
theorem dX8_costOf_78 : decode cX8_costOf 78 = .ok (.iadd, 1) := by decide +kernel
theorem dX8_costOf_79 : decode cX8_costOf 79 = .ok (.ireturn, 1) := by decide +kernel
theorem dX8_ones_0 : decode cX8_ones 0 = .ok (.iconst 0, 1) := by decide +kernel
theorem dX8_ones_1 : decode cX8_ones 1 = .ok (.istore_n 1, 1) := by decide +kernel
theorem dX8_ones_2 : decode cX8_ones 2 = .ok (.iconst 0, 1) := by decide +kernel
theorem dX8_ones_3 : decode cX8_ones 3 = .ok (.istore_n 2, 1) := by decide +kernel
theorem dX8_ones_4 : decode cX8_ones 4 = .ok (.iload_n 2, 1) := by decide +kernel
theorem dX8_ones_5 : decode cX8_ones 5 = .ok (.bipush 10, 2) := by decide +kernel
theorem dX8_ones_7 : decode cX8_ones 7 = .ok (.if_icmp .ge 17, 3) := by decide +kernel
theorem dX8_ones_10 : decode cX8_ones 10 = .ok (.iload_n 1, 1) := by decide +kernel
theorem dX8_ones_11 : decode cX8_ones 11 = .ok (.iload_n 0, 1) := by decide +kernel
theorem dX8_ones_12 : decode cX8_ones 12 = .ok (.iload_n 2, 1) := by decide +kernel
theorem dX8_ones_13 : decode cX8_ones 13 = .ok (.ishr, 1) := by decide +kernel
theorem dX8_ones_14 : decode cX8_ones 14 = .ok (.iconst 1, 1) := by decide +kernel
theorem dX8_ones_15 : decode cX8_ones 15 = .ok (.iand, 1) := by decide +kernel
theorem dX8_ones_16 : decode cX8_ones 16 = .ok (.iadd, 1) := by decide +kernel
theorem dX8_ones_17 : decode cX8_ones 17 = .ok (.istore_n 1, 1) := by decide +kernel
theorem dX8_ones_18 : decode cX8_ones 18 = .ok (.iinc 2 1, 3) := by decide +kernel
theorem dX8_ones_21 : decode cX8_ones 21 = .ok (.goto (-17), 3) := by decide +kernel
theorem dX8_ones_24 : decode cX8_ones 24 = .ok (.iload_n 1, 1) := by decide +kernel
theorem dX8_ones_25 : decode cX8_ones 25 = .ok (.ireturn, 1) := by decide +kernel
theorem dX8_bestAt_0 : decode cX8_bestAt 0 = .ok (.aload_n 0, 1) := by decide +kernel
theorem dX8_bestAt_1 : decode cX8_bestAt 1 = .ok (.getfield 22, 3) := by decide +kernel
theorem dX8_bestAt_4 : decode cX8_bestAt 4 = .ok (.sipush 1024, 3) := by decide +kernel
theorem dX8_bestAt_7 : decode cX8_bestAt 7 = .ok (.iload_n 1, 1) := by decide +kernel
theorem dX8_bestAt_8 : decode cX8_bestAt 8 = .ok (.imul, 1) := by decide +kernel
theorem dX8_bestAt_9 : decode cX8_bestAt 9 = .ok (.iload_n 2, 1) := by decide +kernel
theorem dX8_bestAt_10 : decode cX8_bestAt 10 = .ok (.iadd, 1) := by decide +kernel
theorem dX8_bestAt_11 : decode cX8_bestAt 11 = .ok (.iaload, 1) := by decide +kernel
theorem dX8_bestAt_12 : decode cX8_bestAt 12 = .ok (.ireturn, 1) := by decide +kernel
theorem dX8_through_0 : decode cX8_through 0 = .ok (.iload_n 3, 1) := by decide +kernel
theorem dX8_through_1 : decode cX8_through 1 = .ok (.iconst (-1), 1) := by decide +kernel
theorem dX8_through_2 : decode cX8_through 2 = .ok (.if_icmp .ne 12, 3) := by decide +kernel
theorem dX8_through_5 : decode cX8_through 5 = .ok (.aload_n 0, 1) := by decide +kernel
theorem dX8_through_6 : decode cX8_through 6 = .ok (.iload_n 1, 1) := by decide +kernel
theorem dX8_through_7 : decode cX8_through 7 = .ok (.iconst 1, 1) := by decide +kernel
theorem dX8_through_8 : decode cX8_through 8 = .ok (.iadd, 1) := by decide +kernel
theorem dX8_through_9 : decode cX8_through 9 = .ok (.iload_n 2, 1) := by decide +kernel
theorem dX8_through_10 : decode cX8_through 10 = .ok (.invokevirtual 44, 3) := by decide +kernel
theorem dX8_through_13 : decode cX8_through 13 = .ok (.ireturn, 1) := by decide +kernel
theorem dX8_through_14 : decode cX8_through 14 = .ok (.iload_n 2, 1) := by decide +kernel
theorem dX8_through_15 : decode cX8_through 15 = .ok (.iload_n 3, 1) := by decide +kernel
theorem dX8_through_16 : decode cX8_through 16 = .ok (.ishr, 1) := by decide +kernel
theorem dX8_through_17 : decode cX8_through 17 = .ok (.iconst 1, 1) := by decide +kernel
theorem dX8_through_18 : decode cX8_through 18 = .ok (.iand, 1) := by decide +kernel
theorem dX8_through_19 : decode cX8_through 19 = .ok (.ifCond .ne 16, 3) := by decide +kernel
theorem dX8_through_22 : decode cX8_through 22 = .ok (.aload_n 0, 1) := by decide +kernel
theorem dX8_through_23 : decode cX8_through 23 = .ok (.iload_n 1, 1) := by decide +kernel
theorem dX8_through_24 : decode cX8_through 24 = .ok (.iload_n 3, 1) := by decide +kernel
theorem dX8_through_25 : decode cX8_through 25 = .ok (.invokevirtual 48, 3) := by decide +kernel
theorem dX8_through_28 : decode cX8_through 28 = .ok (.ifCond .eq 7, 3) := by decide +kernel
theorem dX8_through_31 : decode cX8_through 31 = .ok (.iconst 1, 1) := by decide +kernel
theorem dX8_through_32 : decode cX8_through 32 = .ok (.goto 4, 3) := by decide +kernel
theorem dX8_through_35 : decode cX8_through 35 = .ok (.iconst 0, 1) := by decide +kernel
theorem dX8_through_36 : decode cX8_through 36 = .ok (.istore 4, 2) := by decide +kernel
theorem dX8_through_38 : decode cX8_through 38 = .ok (.iload 4, 2) := by decide +kernel
theorem dX8_through_40 : decode cX8_through 40 = .ok (.ifCond .eq 25, 3) := by decide +kernel
theorem dX8_through_43 : decode cX8_through 43 = .ok (.aload_n 0, 1) := by decide +kernel
theorem dX8_through_44 : decode cX8_through 44 = .ok (.iload_n 1, 1) := by decide +kernel
theorem dX8_through_45 : decode cX8_through 45 = .ok (.iconst 1, 1) := by decide +kernel
theorem dX8_through_46 : decode cX8_through 46 = .ok (.iadd, 1) := by decide +kernel
theorem dX8_through_47 : decode cX8_through 47 = .ok (.iload_n 2, 1) := by decide +kernel
theorem dX8_through_48 : decode cX8_through 48 = .ok (.iconst 1, 1) := by decide +kernel
theorem dX8_through_49 : decode cX8_through 49 = .ok (.iload_n 3, 1) := by decide +kernel
theorem dX8_through_50 : decode cX8_through 50 = .ok (.ishl, 1) := by decide +kernel
theorem dX8_through_51 : decode cX8_through 51 = .ok (.ior, 1) := by decide +kernel
theorem dX8_through_52 : decode cX8_through 52 = .ok (.invokevirtual 44, 3) := by decide +kernel
theorem dX8_through_55 : decode cX8_through 55 = .ok (.aload_n 0, 1) := by decide +kernel
theorem dX8_through_56 : decode cX8_through 56 = .ok (.iload_n 1, 1) := by decide +kernel
theorem dX8_through_57 : decode cX8_through 57 = .ok (.iload_n 3, 1) := by decide +kernel
theorem dX8_through_58 : decode cX8_through 58 = .ok (.invokevirtual 52, 3) := by decide +kernel
theorem dX8_through_61 : decode cX8_through 61 = .ok (.iadd, 1) := by decide +kernel
theorem dX8_through_62 : decode cX8_through 62 = .ok (.goto 5, 3) := by decide +kernel
theorem dX8_through_65 : decode cX8_through 65 = .ok (.ldc 55, 2) := by decide +kernel
theorem dX8_through_67 : decode cX8_through 67 = .ok (.ireturn, 1) := by decide +kernel
theorem dX8_lay_0 : decode cX8_lay 0 = .ok (.aload_n 0, 1) := by decide +kernel
theorem dX8_lay_1 : decode cX8_lay 1 = .ok (.getfield 7, 3) := by decide +kernel
theorem dX8_lay_4 : decode cX8_lay 4 = .ok (.iconst 0, 1) := by decide +kernel
theorem dX8_lay_5 : decode cX8_lay 5 = .ok (.iaload, 1) := by decide +kernel
theorem dX8_lay_6 : decode cX8_lay 6 = .ok (.istore_n 3, 1) := by decide +kernel
theorem dX8_lay_7 : decode cX8_lay 7 = .ok (.iconst 0, 1) := by decide +kernel
theorem dX8_lay_8 : decode cX8_lay 8 = .ok (.istore 4, 2) := by decide +kernel
theorem dX8_lay_10 : decode cX8_lay 10 = .ok (.iload 4, 2) := by decide +kernel
theorem dX8_lay_12 : decode cX8_lay 12 = .ok (.iconst 1, 1) := by decide +kernel
theorem dX8_lay_13 : decode cX8_lay 13 = .ok (.iload_n 3, 1) := by decide +kernel
theorem dX8_lay_14 : decode cX8_lay 14 = .ok (.ishl, 1) := by decide +kernel
theorem dX8_lay_15 : decode cX8_lay 15 = .ok (.if_icmp .ge 37, 3) := by decide +kernel
theorem dX8_lay_18 : decode cX8_lay 18 = .ok (.aload_n 0, 1) := by decide +kernel
theorem dX8_lay_19 : decode cX8_lay 19 = .ok (.getfield 22, 3) := by decide +kernel
theorem dX8_lay_22 : decode cX8_lay 22 = .ok (.sipush 1024, 3) := by decide +kernel
theorem dX8_lay_25 : decode cX8_lay 25 = .ok (.iload_n 3, 1) := by decide +kernel
theorem dX8_lay_26 : decode cX8_lay 26 = .ok (.imul, 1) := by decide +kernel
theorem dX8_lay_27 : decode cX8_lay 27 = .ok (.iload 4, 2) := by decide +kernel
theorem dX8_lay_29 : decode cX8_lay 29 = .ok (.iadd, 1) := by decide +kernel
theorem dX8_lay_30 : decode cX8_lay 30 = .ok (.iload 4, 2) := by decide +kernel
theorem dX8_lay_32 : decode cX8_lay 32 = .ok (.invokestatic 56, 3) := by decide +kernel
theorem dX8_lay_35 : decode cX8_lay 35 = .ok (.iload_n 1, 1) := by decide +kernel
theorem dX8_lay_36 : decode cX8_lay 36 = .ok (.if_icmp .ne 7, 3) := by decide +kernel
theorem dX8_lay_39 : decode cX8_lay 39 = .ok (.iconst 0, 1) := by decide +kernel
theorem dX8_lay_40 : decode cX8_lay 40 = .ok (.goto 5, 3) := by decide +kernel
theorem dX8_lay_43 : decode cX8_lay 43 = .ok (.ldc 55, 2) := by decide +kernel
theorem dX8_lay_45 : decode cX8_lay 45 = .ok (.iastore, 1) := by decide +kernel
theorem dX8_lay_46 : decode cX8_lay 46 = .ok (.iinc 4 1, 3) := by decide +kernel
theorem dX8_lay_49 : decode cX8_lay 49 = .ok (.goto (-39), 3) := by decide +kernel
theorem dX8_lay_52 : decode cX8_lay 52 = .ok (.iload_n 3, 1) := by decide +kernel
theorem dX8_lay_53 : decode cX8_lay 53 = .ok (.iconst 1, 1) := by decide +kernel
theorem dX8_lay_54 : decode cX8_lay 54 = .ok (.isub, 1) := by decide +kernel
theorem dX8_lay_55 : decode cX8_lay 55 = .ok (.istore 4, 2) := by decide +kernel
theorem dX8_lay_57 : decode cX8_lay 57 = .ok (.iload 4, 2) := by decide +kernel
theorem dX8_lay_59 : decode cX8_lay 59 = .ok (.ifCond .lt 125, 3) := by decide +kernel
theorem dX8_lay_62 : decode cX8_lay 62 = .ok (.iconst 0, 1) := by decide +kernel
theorem dX8_lay_63 : decode cX8_lay 63 = .ok (.istore 5, 2) := by decide +kernel
theorem dX8_lay_65 : decode cX8_lay 65 = .ok (.iload 5, 2) := by decide +kernel
theorem dX8_lay_67 : decode cX8_lay 67 = .ok (.iconst 1, 1) := by decide +kernel
theorem dX8_lay_68 : decode cX8_lay 68 = .ok (.iload_n 3, 1) := by decide +kernel
theorem dX8_lay_69 : decode cX8_lay 69 = .ok (.ishl, 1) := by decide +kernel
theorem dX8_lay_70 : decode cX8_lay 70 = .ok (.if_icmp .ge 108, 3) := by decide +kernel
theorem dX8_lay_73 : decode cX8_lay 73 = .ok (.aload_n 0, 1) := by decide +kernel
theorem dX8_lay_74 : decode cX8_lay 74 = .ok (.iload 4, 2) := by decide +kernel
theorem dX8_lay_76 : decode cX8_lay 76 = .ok (.iload 5, 2) := by decide +kernel
theorem dX8_lay_78 : decode cX8_lay 78 = .ok (.iconst (-1), 1) := by decide +kernel
theorem dX8_lay_79 : decode cX8_lay 79 = .ok (.invokevirtual 59, 3) := by decide +kernel
theorem dX8_lay_82 : decode cX8_lay 82 = .ok (.istore 6, 2) := by decide +kernel
theorem dX8_lay_84 : decode cX8_lay 84 = .ok (.iconst 0, 1) := by decide +kernel
theorem dX8_lay_85 : decode cX8_lay 85 = .ok (.istore 7, 2) := by decide +kernel
theorem dX8_lay_87 : decode cX8_lay 87 = .ok (.iload 7, 2) := by decide +kernel
theorem dX8_lay_89 : decode cX8_lay 89 = .ok (.iload_n 3, 1) := by decide +kernel
theorem dX8_lay_90 : decode cX8_lay 90 = .ok (.if_icmp .ge 54, 3) := by decide +kernel
theorem dX8_lay_93 : decode cX8_lay 93 = .ok (.iload 4, 2) := by decide +kernel
theorem dX8_lay_95 : decode cX8_lay 95 = .ok (.iload_n 2, 1) := by decide +kernel
theorem dX8_lay_96 : decode cX8_lay 96 = .ok (.if_icmp .eq 48, 3) := by decide +kernel
theorem dX8_lay_99 : decode cX8_lay 99 = .ok (.iload 7, 2) := by decide +kernel
theorem dX8_lay_101 : decode cX8_lay 101 = .ok (.iload_n 2, 1) := by decide +kernel
theorem dX8_lay_102 : decode cX8_lay 102 = .ok (.if_icmp .ne 8, 3) := by decide +kernel
theorem dX8_lay_105 : decode cX8_lay 105 = .ok (.ldc 55, 2) := by decide +kernel
theorem dX8_lay_107 : decode cX8_lay 107 = .ok (.goto 13, 3) := by decide +kernel
theorem dX8_lay_110 : decode cX8_lay 110 = .ok (.aload_n 0, 1) := by decide +kernel
theorem dX8_lay_111 : decode cX8_lay 111 = .ok (.iload 4, 2) := by decide +kernel
theorem dX8_lay_113 : decode cX8_lay 113 = .ok (.iload 5, 2) := by decide +kernel
theorem dX8_lay_115 : decode cX8_lay 115 = .ok (.iload 7, 2) := by decide +kernel
theorem dX8_lay_117 : decode cX8_lay 117 = .ok (.invokevirtual 59, 3) := by decide +kernel
theorem dX8_lay_120 : decode cX8_lay 120 = .ok (.istore 8, 2) := by decide +kernel
theorem dX8_lay_122 : decode cX8_lay 122 = .ok (.iload 8, 2) := by decide +kernel
theorem dX8_lay_124 : decode cX8_lay 124 = .ok (.iload 6, 2) := by decide +kernel
theorem dX8_lay_126 : decode cX8_lay 126 = .ok (.if_icmp .ge 8, 3) := by decide +kernel
theorem dX8_lay_129 : decode cX8_lay 129 = .ok (.iload 8, 2) := by decide +kernel
theorem dX8_lay_131 : decode cX8_lay 131 = .ok (.goto 5, 3) := by decide +kernel
theorem dX8_lay_134 : decode cX8_lay 134 = .ok (.iload 6, 2) := by decide +kernel
theorem dX8_lay_136 : decode cX8_lay 136 = .ok (.istore 6, 2) := by decide +kernel
theorem dX8_lay_138 : decode cX8_lay 138 = .ok (.iinc 7 1, 3) := by decide +kernel
theorem dX8_lay_141 : decode cX8_lay 141 = .ok (.goto (-54), 3) := by decide +kernel
theorem dX8_lay_144 : decode cX8_lay 144 = .ok (.aload_n 0, 1) := by decide +kernel
theorem dX8_lay_145 : decode cX8_lay 145 = .ok (.getfield 22, 3) := by decide +kernel
theorem dX8_lay_148 : decode cX8_lay 148 = .ok (.sipush 1024, 3) := by decide +kernel
theorem dX8_lay_151 : decode cX8_lay 151 = .ok (.iload 4, 2) := by decide +kernel
theorem dX8_lay_153 : decode cX8_lay 153 = .ok (.imul, 1) := by decide +kernel
theorem dX8_lay_154 : decode cX8_lay 154 = .ok (.iload 5, 2) := by decide +kernel
theorem dX8_lay_156 : decode cX8_lay 156 = .ok (.iadd, 1) := by decide +kernel
theorem dX8_lay_157 : decode cX8_lay 157 = .ok (.iload 6, 2) := by decide +kernel
theorem dX8_lay_159 : decode cX8_lay 159 = .ok (.ldc 55, 2) := by decide +kernel
theorem dX8_lay_161 : decode cX8_lay 161 = .ok (.if_icmp .ge 8, 3) := by decide +kernel
theorem dX8_lay_164 : decode cX8_lay 164 = .ok (.iload 6, 2) := by decide +kernel
theorem dX8_lay_166 : decode cX8_lay 166 = .ok (.goto 5, 3) := by decide +kernel
theorem dX8_lay_169 : decode cX8_lay 169 = .ok (.ldc 55, 2) := by decide +kernel
theorem dX8_lay_171 : decode cX8_lay 171 = .ok (.iastore, 1) := by decide +kernel
theorem dX8_lay_172 : decode cX8_lay 172 = .ok (.iinc 5 1, 3) := by decide +kernel
theorem dX8_lay_175 : decode cX8_lay 175 = .ok (.goto (-110), 3) := by decide +kernel
theorem dX8_lay_178 : decode cX8_lay 178 = .ok (.iinc 4 (-1), 3) := by decide +kernel
theorem dX8_lay_181 : decode cX8_lay 181 = .ok (.goto (-124), 3) := by decide +kernel
theorem dX8_lay_184 : decode cX8_lay 184 = .ok (.return_, 1) := by decide +kernel
theorem dX8_leastOf_0 : decode cX8_leastOf 0 = .ok (.aload_n 0, 1) := by decide +kernel
theorem dX8_leastOf_1 : decode cX8_leastOf 1 = .ok (.getfield 7, 3) := by decide +kernel
theorem dX8_leastOf_4 : decode cX8_leastOf 4 = .ok (.iconst 0, 1) := by decide +kernel
theorem dX8_leastOf_5 : decode cX8_leastOf 5 = .ok (.iaload, 1) := by decide +kernel
theorem dX8_leastOf_6 : decode cX8_leastOf 6 = .ok (.iload_n 2, 1) := by decide +kernel
theorem dX8_leastOf_7 : decode cX8_leastOf 7 = .ok (.ifCond .ge 7, 3) := by decide +kernel
theorem dX8_leastOf_10 : decode cX8_leastOf 10 = .ok (.iconst 0, 1) := by decide +kernel
theorem dX8_leastOf_11 : decode cX8_leastOf 11 = .ok (.goto 4, 3) := by decide +kernel
theorem dX8_leastOf_14 : decode cX8_leastOf 14 = .ok (.iconst 1, 1) := by decide +kernel
theorem dX8_leastOf_15 : decode cX8_leastOf 15 = .ok (.isub, 1) := by decide +kernel
theorem dX8_leastOf_16 : decode cX8_leastOf 16 = .ok (.istore_n 3, 1) := by decide +kernel
theorem dX8_leastOf_17 : decode cX8_leastOf 17 = .ok (.iload_n 1, 1) := by decide +kernel
theorem dX8_leastOf_18 : decode cX8_leastOf 18 = .ok (.i2l, 1) := by decide +kernel
theorem dX8_leastOf_19 : decode cX8_leastOf 19 = .ok (.iload_n 3, 1) := by decide +kernel
theorem dX8_leastOf_20 : decode cX8_leastOf 20 = .ok (.ifCond .le 7, 3) := by decide +kernel
theorem dX8_leastOf_23 : decode cX8_leastOf 23 = .ok (.lconst 1, 1) := by decide +kernel
theorem dX8_leastOf_24 : decode cX8_leastOf 24 = .ok (.goto 4, 3) := by decide +kernel
theorem dX8_leastOf_27 : decode cX8_leastOf 27 = .ok (.lconst 0, 1) := by decide +kernel
theorem dX8_leastOf_28 : decode cX8_leastOf 28 = .ok (.iload_n 3, 1) := by decide +kernel
theorem dX8_leastOf_29 : decode cX8_leastOf 29 = .ok (.i2l, 1) := by decide +kernel
theorem dX8_leastOf_30 : decode cX8_leastOf 30 = .ok (.invokestatic 40, 3) := by decide +kernel
theorem dX8_leastOf_33 : decode cX8_leastOf 33 = .ok (.ifCond .ne 5, 3) := by decide +kernel
theorem dX8_leastOf_36 : decode cX8_leastOf 36 = .ok (.iconst (-1), 1) := by decide +kernel
theorem dX8_leastOf_37 : decode cX8_leastOf 37 = .ok (.ireturn, 1) := by decide +kernel
theorem dX8_leastOf_38 : decode cX8_leastOf 38 = .ok (.aload_n 0, 1) := by decide +kernel
theorem dX8_leastOf_39 : decode cX8_leastOf 39 = .ok (.iload_n 3, 1) := by decide +kernel
theorem dX8_leastOf_40 : decode cX8_leastOf 40 = .ok (.iload_n 1, 1) := by decide +kernel
theorem dX8_leastOf_41 : decode cX8_leastOf 41 = .ok (.isub, 1) := by decide +kernel
theorem dX8_leastOf_42 : decode cX8_leastOf 42 = .ok (.iload_n 2, 1) := by decide +kernel
theorem dX8_leastOf_43 : decode cX8_leastOf 43 = .ok (.invokevirtual 63, 3) := by decide +kernel
theorem dX8_leastOf_46 : decode cX8_leastOf 46 = .ok (.aload_n 0, 1) := by decide +kernel
theorem dX8_leastOf_47 : decode cX8_leastOf 47 = .ok (.iconst 0, 1) := by decide +kernel
theorem dX8_leastOf_48 : decode cX8_leastOf 48 = .ok (.iconst 0, 1) := by decide +kernel
theorem dX8_leastOf_49 : decode cX8_leastOf 49 = .ok (.invokevirtual 44, 3) := by decide +kernel
theorem dX8_leastOf_52 : decode cX8_leastOf 52 = .ok (.ldc 55, 2) := by decide +kernel
theorem dX8_leastOf_54 : decode cX8_leastOf 54 = .ok (.if_icmp .ge 21, 3) := by decide +kernel
theorem dX8_leastOf_57 : decode cX8_leastOf 57 = .ok (.aload_n 0, 1) := by decide +kernel
theorem dX8_leastOf_58 : decode cX8_leastOf 58 = .ok (.iconst 0, 1) := by decide +kernel
theorem dX8_leastOf_59 : decode cX8_leastOf 59 = .ok (.iconst 0, 1) := by decide +kernel
theorem dX8_leastOf_60 : decode cX8_leastOf 60 = .ok (.invokevirtual 44, 3) := by decide +kernel
theorem dX8_leastOf_63 : decode cX8_leastOf 63 = .ok (.iload_n 1, 1) := by decide +kernel
theorem dX8_leastOf_64 : decode cX8_leastOf 64 = .ok (.aload_n 0, 1) := by decide +kernel
theorem dX8_leastOf_65 : decode cX8_leastOf 65 = .ok (.getfield 7, 3) := by decide +kernel
theorem dX8_leastOf_68 : decode cX8_leastOf 68 = .ok (.iconst 4, 1) := by decide +kernel
theorem dX8_leastOf_69 : decode cX8_leastOf 69 = .ok (.iaload, 1) := by decide +kernel
theorem dX8_leastOf_70 : decode cX8_leastOf 70 = .ok (.imul, 1) := by decide +kernel
theorem dX8_leastOf_71 : decode cX8_leastOf 71 = .ok (.iadd, 1) := by decide +kernel
theorem dX8_leastOf_72 : decode cX8_leastOf 72 = .ok (.goto 4, 3) := by decide +kernel
theorem dX8_leastOf_75 : decode cX8_leastOf 75 = .ok (.iconst (-1), 1) := by decide +kernel
theorem dX8_leastOf_76 : decode cX8_leastOf 76 = .ok (.ireturn, 1) := by decide +kernel
theorem dX8_cheapest_0 : decode cX8_cheapest 0 = .ok (.iconst 0, 1) := by decide +kernel
theorem dX8_cheapest_1 : decode cX8_cheapest 1 = .ok (.istore_n 2, 1) := by decide +kernel
theorem dX8_cheapest_2 : decode cX8_cheapest 2 = .ok (.ldc 55, 2) := by decide +kernel
theorem dX8_cheapest_4 : decode cX8_cheapest 4 = .ok (.istore_n 3, 1) := by decide +kernel
theorem dX8_cheapest_5 : decode cX8_cheapest 5 = .ok (.iconst 0, 1) := by decide +kernel
theorem dX8_cheapest_6 : decode cX8_cheapest 6 = .ok (.istore 4, 2) := by decide +kernel
theorem dX8_cheapest_8 : decode cX8_cheapest 8 = .ok (.iload 4, 2) := by decide +kernel
theorem dX8_cheapest_10 : decode cX8_cheapest 10 = .ok (.aload_n 0, 1) := by decide +kernel
theorem dX8_cheapest_11 : decode cX8_cheapest 11 = .ok (.getfield 7, 3) := by decide +kernel
theorem dX8_cheapest_14 : decode cX8_cheapest 14 = .ok (.iconst 0, 1) := by decide +kernel
theorem dX8_cheapest_15 : decode cX8_cheapest 15 = .ok (.iaload, 1) := by decide +kernel
theorem dX8_cheapest_16 : decode cX8_cheapest 16 = .ok (.if_icmp .gt 60, 3) := by decide +kernel
theorem dX8_cheapest_19 : decode cX8_cheapest 19 = .ok (.aload_n 0, 1) := by decide +kernel
theorem dX8_cheapest_20 : decode cX8_cheapest 20 = .ok (.iload 4, 2) := by decide +kernel
theorem dX8_cheapest_22 : decode cX8_cheapest 22 = .ok (.iload_n 1, 1) := by decide +kernel
theorem dX8_cheapest_23 : decode cX8_cheapest 23 = .ok (.invokevirtual 66, 3) := by decide +kernel
theorem dX8_cheapest_26 : decode cX8_cheapest 26 = .ok (.istore 5, 2) := by decide +kernel
theorem dX8_cheapest_28 : decode cX8_cheapest 28 = .ok (.iload 5, 2) := by decide +kernel
theorem dX8_cheapest_30 : decode cX8_cheapest 30 = .ok (.ifCond .lt 13, 3) := by decide +kernel
theorem dX8_cheapest_33 : decode cX8_cheapest 33 = .ok (.iload 5, 2) := by decide +kernel
theorem dX8_cheapest_35 : decode cX8_cheapest 35 = .ok (.iload_n 3, 1) := by decide +kernel
theorem dX8_cheapest_36 : decode cX8_cheapest 36 = .ok (.if_icmp .ge 7, 3) := by decide +kernel
theorem dX8_cheapest_39 : decode cX8_cheapest 39 = .ok (.iconst 1, 1) := by decide +kernel
theorem dX8_cheapest_40 : decode cX8_cheapest 40 = .ok (.goto 4, 3) := by decide +kernel
theorem dX8_cheapest_43 : decode cX8_cheapest 43 = .ok (.iconst 0, 1) := by decide +kernel
theorem dX8_cheapest_44 : decode cX8_cheapest 44 = .ok (.istore 6, 2) := by decide +kernel
theorem dX8_cheapest_46 : decode cX8_cheapest 46 = .ok (.iload 6, 2) := by decide +kernel
theorem dX8_cheapest_48 : decode cX8_cheapest 48 = .ok (.ifCond .eq 8, 3) := by decide +kernel
theorem dX8_cheapest_51 : decode cX8_cheapest 51 = .ok (.iload 4, 2) := by decide +kernel
theorem dX8_cheapest_53 : decode cX8_cheapest 53 = .ok (.goto 4, 3) := by decide +kernel
theorem dX8_cheapest_56 : decode cX8_cheapest 56 = .ok (.iload_n 2, 1) := by decide +kernel
theorem dX8_cheapest_57 : decode cX8_cheapest 57 = .ok (.istore_n 2, 1) := by decide +kernel
theorem dX8_cheapest_58 : decode cX8_cheapest 58 = .ok (.iload 6, 2) := by decide +kernel
theorem dX8_cheapest_60 : decode cX8_cheapest 60 = .ok (.ifCond .eq 8, 3) := by decide +kernel
theorem dX8_cheapest_63 : decode cX8_cheapest 63 = .ok (.iload 5, 2) := by decide +kernel
theorem dX8_cheapest_65 : decode cX8_cheapest 65 = .ok (.goto 4, 3) := by decide +kernel
theorem dX8_cheapest_68 : decode cX8_cheapest 68 = .ok (.iload_n 3, 1) := by decide +kernel
theorem dX8_cheapest_69 : decode cX8_cheapest 69 = .ok (.istore_n 3, 1) := by decide +kernel
theorem dX8_cheapest_70 : decode cX8_cheapest 70 = .ok (.iinc 4 1, 3) := by decide +kernel
theorem dX8_cheapest_73 : decode cX8_cheapest 73 = .ok (.goto (-65), 3) := by decide +kernel
theorem dX8_cheapest_76 : decode cX8_cheapest 76 = .ok (.iload_n 2, 1) := by decide +kernel
theorem dX8_cheapest_77 : decode cX8_cheapest 77 = .ok (.ireturn, 1) := by decide +kernel
theorem dX8_leastOfAll_0 : decode cX8_leastOfAll 0 = .ok (.aload_n 0, 1) := by decide +kernel
theorem dX8_leastOfAll_1 : decode cX8_leastOfAll 1 = .ok (.aload_n 0, 1) := by decide +kernel
theorem dX8_leastOfAll_2 : decode cX8_leastOfAll 2 = .ok (.iload_n 1, 1) := by decide +kernel
theorem dX8_leastOfAll_3 : decode cX8_leastOfAll 3 = .ok (.invokevirtual 69, 3) := by decide +kernel
theorem dX8_leastOfAll_6 : decode cX8_leastOfAll 6 = .ok (.iload_n 1, 1) := by decide +kernel
theorem dX8_leastOfAll_7 : decode cX8_leastOfAll 7 = .ok (.invokevirtual 66, 3) := by decide +kernel
theorem dX8_leastOfAll_10 : decode cX8_leastOfAll 10 = .ok (.ireturn, 1) := by decide +kernel
theorem dX8_fewest_0 : decode cX8_fewest 0 = .ok (.iconst 0, 1) := by decide +kernel
theorem dX8_fewest_1 : decode cX8_fewest 1 = .ok (.istore_n 1, 1) := by decide +kernel
theorem dX8_fewest_2 : decode cX8_fewest 2 = .ok (.aload_n 0, 1) := by decide +kernel
theorem dX8_fewest_3 : decode cX8_fewest 3 = .ok (.iload_n 1, 1) := by decide +kernel
theorem dX8_fewest_4 : decode cX8_fewest 4 = .ok (.iconst (-1), 1) := by decide +kernel
theorem dX8_fewest_5 : decode cX8_fewest 5 = .ok (.invokevirtual 66, 3) := by decide +kernel
theorem dX8_fewest_8 : decode cX8_fewest 8 = .ok (.ifCond .ge 9, 3) := by decide +kernel
theorem dX8_fewest_11 : decode cX8_fewest 11 = .ok (.iinc 1 1, 3) := by decide +kernel
theorem dX8_fewest_14 : decode cX8_fewest 14 = .ok (.goto (-12), 3) := by decide +kernel
theorem dX8_fewest_17 : decode cX8_fewest 17 = .ok (.iload_n 1, 1) := by decide +kernel
theorem dX8_fewest_18 : decode cX8_fewest 18 = .ok (.ireturn, 1) := by decide +kernel
theorem dX8_layFirst_0 : decode cX8_layFirst 0 = .ok (.aload_n 0, 1) := by decide +kernel
theorem dX8_layFirst_1 : decode cX8_layFirst 1 = .ok (.iload_n 1, 1) := by decide +kernel
theorem dX8_layFirst_2 : decode cX8_layFirst 2 = .ok (.iconst (-1), 1) := by decide +kernel
theorem dX8_layFirst_3 : decode cX8_layFirst 3 = .ok (.invokevirtual 66, 3) := by decide +kernel
theorem dX8_layFirst_6 : decode cX8_layFirst 6 = .ok (.ifCond .ge 5, 3) := by decide +kernel
theorem dX8_layFirst_9 : decode cX8_layFirst 9 = .ok (.iconst 0, 1) := by decide +kernel
theorem dX8_layFirst_10 : decode cX8_layFirst 10 = .ok (.ireturn, 1) := by decide +kernel
theorem dX8_layFirst_11 : decode cX8_layFirst 11 = .ok (.iconst 0, 1) := by decide +kernel
theorem dX8_layFirst_12 : decode cX8_layFirst 12 = .ok (.istore_n 2, 1) := by decide +kernel
theorem dX8_layFirst_13 : decode cX8_layFirst 13 = .ok (.iconst 0, 1) := by decide +kernel
theorem dX8_layFirst_14 : decode cX8_layFirst 14 = .ok (.istore_n 3, 1) := by decide +kernel
theorem dX8_layFirst_15 : decode cX8_layFirst 15 = .ok (.iload_n 3, 1) := by decide +kernel
theorem dX8_layFirst_16 : decode cX8_layFirst 16 = .ok (.aload_n 0, 1) := by decide +kernel
theorem dX8_layFirst_17 : decode cX8_layFirst 17 = .ok (.getfield 7, 3) := by decide +kernel
theorem dX8_layFirst_20 : decode cX8_layFirst 20 = .ok (.iconst 0, 1) := by decide +kernel
theorem dX8_layFirst_21 : decode cX8_layFirst 21 = .ok (.iaload, 1) := by decide +kernel
theorem dX8_layFirst_22 : decode cX8_layFirst 22 = .ok (.if_icmp .ge 59, 3) := by decide +kernel
theorem dX8_layFirst_25 : decode cX8_layFirst 25 = .ok (.iconst (-1), 1) := by decide +kernel
theorem dX8_layFirst_26 : decode cX8_layFirst 26 = .ok (.istore 4, 2) := by decide +kernel
theorem dX8_layFirst_28 : decode cX8_layFirst 28 = .ok (.aload_n 0, 1) := by decide +kernel
theorem dX8_layFirst_29 : decode cX8_layFirst 29 = .ok (.iload_n 3, 1) := by decide +kernel
theorem dX8_layFirst_30 : decode cX8_layFirst 30 = .ok (.iload_n 2, 1) := by decide +kernel
theorem dX8_layFirst_31 : decode cX8_layFirst 31 = .ok (.iload 4, 2) := by decide +kernel
theorem dX8_layFirst_33 : decode cX8_layFirst 33 = .ok (.invokevirtual 59, 3) := by decide +kernel
theorem dX8_layFirst_36 : decode cX8_layFirst 36 = .ok (.aload_n 0, 1) := by decide +kernel
theorem dX8_layFirst_37 : decode cX8_layFirst 37 = .ok (.iload_n 3, 1) := by decide +kernel
theorem dX8_layFirst_38 : decode cX8_layFirst 38 = .ok (.iload_n 2, 1) := by decide +kernel
theorem dX8_layFirst_39 : decode cX8_layFirst 39 = .ok (.invokevirtual 44, 3) := by decide +kernel
theorem dX8_layFirst_42 : decode cX8_layFirst 42 = .ok (.if_icmp .eq 9, 3) := by decide +kernel
theorem dX8_layFirst_45 : decode cX8_layFirst 45 = .ok (.iinc 4 1, 3) := by decide +kernel
theorem dX8_layFirst_48 : decode cX8_layFirst 48 = .ok (.goto (-20), 3) := by decide +kernel
theorem dX8_layFirst_51 : decode cX8_layFirst 51 = .ok (.aload_n 0, 1) := by decide +kernel
theorem dX8_layFirst_52 : decode cX8_layFirst 52 = .ok (.getfield 25, 3) := by decide +kernel
theorem dX8_layFirst_55 : decode cX8_layFirst 55 = .ok (.iload_n 3, 1) := by decide +kernel
theorem dX8_layFirst_56 : decode cX8_layFirst 56 = .ok (.iload 4, 2) := by decide +kernel
theorem dX8_layFirst_58 : decode cX8_layFirst 58 = .ok (.iastore, 1) := by decide +kernel
theorem dX8_layFirst_59 : decode cX8_layFirst 59 = .ok (.iload_n 2, 1) := by decide +kernel
theorem dX8_layFirst_60 : decode cX8_layFirst 60 = .ok (.iload 4, 2) := by decide +kernel
theorem dX8_layFirst_62 : decode cX8_layFirst 62 = .ok (.ifCond .ge 7, 3) := by decide +kernel
theorem dX8_layFirst_65 : decode cX8_layFirst 65 = .ok (.iconst 0, 1) := by decide +kernel
theorem dX8_layFirst_66 : decode cX8_layFirst 66 = .ok (.goto 7, 3) := by decide +kernel
theorem dX8_layFirst_69 : decode cX8_layFirst 69 = .ok (.iconst 1, 1) := by decide +kernel
theorem dX8_layFirst_70 : decode cX8_layFirst 70 = .ok (.iload 4, 2) := by decide +kernel
theorem dX8_layFirst_72 : decode cX8_layFirst 72 = .ok (.ishl, 1) := by decide +kernel
theorem dX8_layFirst_73 : decode cX8_layFirst 73 = .ok (.ior, 1) := by decide +kernel
theorem dX8_layFirst_74 : decode cX8_layFirst 74 = .ok (.istore_n 2, 1) := by decide +kernel
theorem dX8_layFirst_75 : decode cX8_layFirst 75 = .ok (.iinc 3 1, 3) := by decide +kernel
theorem dX8_layFirst_78 : decode cX8_layFirst 78 = .ok (.goto (-63), 3) := by decide +kernel
theorem dX8_layFirst_81 : decode cX8_layFirst 81 = .ok (.iconst 1, 1) := by decide +kernel
theorem dX8_layFirst_82 : decode cX8_layFirst 82 = .ok (.ireturn, 1) := by decide +kernel
theorem dX8_prior_0 : decode cX8_prior 0 = .ok (.iconst (-1), 1) := by decide +kernel
theorem dX8_prior_1 : decode cX8_prior 1 = .ok (.istore_n 2, 1) := by decide +kernel
theorem dX8_prior_2 : decode cX8_prior 2 = .ok (.iconst 0, 1) := by decide +kernel
theorem dX8_prior_3 : decode cX8_prior 3 = .ok (.istore_n 3, 1) := by decide +kernel
theorem dX8_prior_4 : decode cX8_prior 4 = .ok (.iload_n 3, 1) := by decide +kernel
theorem dX8_prior_5 : decode cX8_prior 5 = .ok (.aload_n 0, 1) := by decide +kernel
theorem dX8_prior_6 : decode cX8_prior 6 = .ok (.getfield 7, 3) := by decide +kernel
theorem dX8_prior_9 : decode cX8_prior 9 = .ok (.iconst 0, 1) := by decide +kernel
theorem dX8_prior_10 : decode cX8_prior 10 = .ok (.iaload, 1) := by decide +kernel
theorem dX8_prior_11 : decode cX8_prior 11 = .ok (.if_icmp .ge 28, 3) := by decide +kernel
theorem dX8_prior_14 : decode cX8_prior 14 = .ok (.aload_n 0, 1) := by decide +kernel
theorem dX8_prior_15 : decode cX8_prior 15 = .ok (.getfield 7, 3) := by decide +kernel
theorem dX8_prior_18 : decode cX8_prior 18 = .ok (.bipush 36, 2) := by decide +kernel
theorem dX8_prior_20 : decode cX8_prior 20 = .ok (.iload_n 3, 1) := by decide +kernel
theorem dX8_prior_21 : decode cX8_prior 21 = .ok (.iadd, 1) := by decide +kernel
theorem dX8_prior_22 : decode cX8_prior 22 = .ok (.iaload, 1) := by decide +kernel
theorem dX8_prior_23 : decode cX8_prior 23 = .ok (.iload_n 1, 1) := by decide +kernel
theorem dX8_prior_24 : decode cX8_prior 24 = .ok (.if_icmp .ne 7, 3) := by decide +kernel
theorem dX8_prior_27 : decode cX8_prior 27 = .ok (.iload_n 3, 1) := by decide +kernel
theorem dX8_prior_28 : decode cX8_prior 28 = .ok (.goto 4, 3) := by decide +kernel
theorem dX8_prior_31 : decode cX8_prior 31 = .ok (.iload_n 2, 1) := by decide +kernel
theorem dX8_prior_32 : decode cX8_prior 32 = .ok (.istore_n 2, 1) := by decide +kernel
theorem dX8_prior_33 : decode cX8_prior 33 = .ok (.iinc 3 1, 3) := by decide +kernel
theorem dX8_prior_36 : decode cX8_prior 36 = .ok (.goto (-32), 3) := by decide +kernel
theorem dX8_prior_39 : decode cX8_prior 39 = .ok (.iload_n 2, 1) := by decide +kernel
theorem dX8_prior_40 : decode cX8_prior 40 = .ok (.ireturn, 1) := by decide +kernel
theorem dX8_firstOf_0 : decode cX8_firstOf 0 = .ok (.iconst 0, 1) := by decide +kernel
theorem dX8_firstOf_1 : decode cX8_firstOf 1 = .ok (.istore_n 2, 1) := by decide +kernel
theorem dX8_firstOf_2 : decode cX8_firstOf 2 = .ok (.iconst 0, 1) := by decide +kernel
theorem dX8_firstOf_3 : decode cX8_firstOf 3 = .ok (.istore_n 3, 1) := by decide +kernel
theorem dX8_firstOf_4 : decode cX8_firstOf 4 = .ok (.iload_n 3, 1) := by decide +kernel
theorem dX8_firstOf_5 : decode cX8_firstOf 5 = .ok (.aload_n 0, 1) := by decide +kernel
theorem dX8_firstOf_6 : decode cX8_firstOf 6 = .ok (.getfield 7, 3) := by decide +kernel
theorem dX8_firstOf_9 : decode cX8_firstOf 9 = .ok (.iconst 0, 1) := by decide +kernel
theorem dX8_firstOf_10 : decode cX8_firstOf 10 = .ok (.iaload, 1) := by decide +kernel
theorem dX8_firstOf_11 : decode cX8_firstOf 11 = .ok (.if_icmp .ge 28, 3) := by decide +kernel
theorem dX8_firstOf_14 : decode cX8_firstOf 14 = .ok (.aload_n 0, 1) := by decide +kernel
theorem dX8_firstOf_15 : decode cX8_firstOf 15 = .ok (.iload_n 3, 1) := by decide +kernel
theorem dX8_firstOf_16 : decode cX8_firstOf 16 = .ok (.invokevirtual 72, 3) := by decide +kernel
theorem dX8_firstOf_19 : decode cX8_firstOf 19 = .ok (.iconst (-1), 1) := by decide +kernel
theorem dX8_firstOf_20 : decode cX8_firstOf 20 = .ok (.if_icmp .ne 13, 3) := by decide +kernel
theorem dX8_firstOf_23 : decode cX8_firstOf 23 = .ok (.iload_n 2, 1) := by decide +kernel
theorem dX8_firstOf_24 : decode cX8_firstOf 24 = .ok (.iload_n 1, 1) := by decide +kernel
theorem dX8_firstOf_25 : decode cX8_firstOf 25 = .ok (.if_icmp .ne 5, 3) := by decide +kernel
theorem dX8_firstOf_28 : decode cX8_firstOf 28 = .ok (.iload_n 3, 1) := by decide +kernel
theorem dX8_firstOf_29 : decode cX8_firstOf 29 = .ok (.ireturn, 1) := by decide +kernel
theorem dX8_firstOf_30 : decode cX8_firstOf 30 = .ok (.iinc 2 1, 3) := by decide +kernel
theorem dX8_firstOf_33 : decode cX8_firstOf 33 = .ok (.iinc 3 1, 3) := by decide +kernel
theorem dX8_firstOf_36 : decode cX8_firstOf 36 = .ok (.goto (-32), 3) := by decide +kernel
theorem dX8_firstOf_39 : decode cX8_firstOf 39 = .ok (.iconst (-1), 1) := by decide +kernel
theorem dX8_firstOf_40 : decode cX8_firstOf 40 = .ok (.ireturn, 1) := by decide +kernel
theorem dX8_voices_0 : decode cX8_voices 0 = .ok (.iconst 0, 1) := by decide +kernel
theorem dX8_voices_1 : decode cX8_voices 1 = .ok (.istore_n 1, 1) := by decide +kernel
theorem dX8_voices_2 : decode cX8_voices 2 = .ok (.iconst 0, 1) := by decide +kernel
theorem dX8_voices_3 : decode cX8_voices 3 = .ok (.istore_n 2, 1) := by decide +kernel
theorem dX8_voices_4 : decode cX8_voices 4 = .ok (.iload_n 2, 1) := by decide +kernel
theorem dX8_voices_5 : decode cX8_voices 5 = .ok (.aload_n 0, 1) := by decide +kernel
theorem dX8_voices_6 : decode cX8_voices 6 = .ok (.getfield 7, 3) := by decide +kernel
theorem dX8_voices_9 : decode cX8_voices 9 = .ok (.iconst 0, 1) := by decide +kernel
theorem dX8_voices_10 : decode cX8_voices 10 = .ok (.iaload, 1) := by decide +kernel
theorem dX8_voices_11 : decode cX8_voices 11 = .ok (.if_icmp .ge 26, 3) := by decide +kernel
theorem dX8_voices_14 : decode cX8_voices 14 = .ok (.iload_n 1, 1) := by decide +kernel
theorem dX8_voices_15 : decode cX8_voices 15 = .ok (.aload_n 0, 1) := by decide +kernel
theorem dX8_voices_16 : decode cX8_voices 16 = .ok (.iload_n 2, 1) := by decide +kernel
theorem dX8_voices_17 : decode cX8_voices 17 = .ok (.invokevirtual 72, 3) := by decide +kernel
theorem dX8_voices_20 : decode cX8_voices 20 = .ok (.iconst (-1), 1) := by decide +kernel
theorem dX8_voices_21 : decode cX8_voices 21 = .ok (.if_icmp .ne 7, 3) := by decide +kernel
theorem dX8_voices_24 : decode cX8_voices 24 = .ok (.iconst 1, 1) := by decide +kernel
theorem dX8_voices_25 : decode cX8_voices 25 = .ok (.goto 4, 3) := by decide +kernel
theorem dX8_voices_28 : decode cX8_voices 28 = .ok (.iconst 0, 1) := by decide +kernel
theorem dX8_voices_29 : decode cX8_voices 29 = .ok (.iadd, 1) := by decide +kernel
theorem dX8_voices_30 : decode cX8_voices 30 = .ok (.istore_n 1, 1) := by decide +kernel
theorem dX8_voices_31 : decode cX8_voices 31 = .ok (.iinc 2 1, 3) := by decide +kernel
theorem dX8_voices_34 : decode cX8_voices 34 = .ok (.goto (-30), 3) := by decide +kernel
theorem dX8_voices_37 : decode cX8_voices 37 = .ok (.iload_n 1, 1) := by decide +kernel
theorem dX8_voices_38 : decode cX8_voices 38 = .ok (.ireturn, 1) := by decide +kernel
theorem dX8_costNow_0 : decode cX8_costNow 0 = .ok (.aload_n 0, 1) := by decide +kernel
theorem dX8_costNow_1 : decode cX8_costNow 1 = .ok (.invokevirtual 75, 3) := by decide +kernel
theorem dX8_costNow_4 : decode cX8_costNow 4 = .ok (.aload_n 0, 1) := by decide +kernel
theorem dX8_costNow_5 : decode cX8_costNow 5 = .ok (.getfield 7, 3) := by decide +kernel
theorem dX8_costNow_8 : decode cX8_costNow 8 = .ok (.iconst 4, 1) := by decide +kernel
theorem dX8_costNow_9 : decode cX8_costNow 9 = .ok (.iaload, 1) := by decide +kernel
theorem dX8_costNow_10 : decode cX8_costNow 10 = .ok (.imul, 1) := by decide +kernel
theorem dX8_costNow_11 : decode cX8_costNow 11 = .ok (.istore_n 1, 1) := by decide +kernel
theorem dX8_costNow_12 : decode cX8_costNow 12 = .ok (.iconst 0, 1) := by decide +kernel
theorem dX8_costNow_13 : decode cX8_costNow 13 = .ok (.istore_n 2, 1) := by decide +kernel
theorem dX8_costNow_14 : decode cX8_costNow 14 = .ok (.iload_n 2, 1) := by decide +kernel
theorem dX8_costNow_15 : decode cX8_costNow 15 = .ok (.aload_n 0, 1) := by decide +kernel
theorem dX8_costNow_16 : decode cX8_costNow 16 = .ok (.getfield 7, 3) := by decide +kernel
theorem dX8_costNow_19 : decode cX8_costNow 19 = .ok (.iconst 0, 1) := by decide +kernel
theorem dX8_costNow_20 : decode cX8_costNow 20 = .ok (.iaload, 1) := by decide +kernel
theorem dX8_costNow_21 : decode cX8_costNow 21 = .ok (.if_icmp .ge 42, 3) := by decide +kernel
theorem dX8_costNow_24 : decode cX8_costNow 24 = .ok (.iload_n 1, 1) := by decide +kernel
theorem dX8_costNow_25 : decode cX8_costNow 25 = .ok (.aload_n 0, 1) := by decide +kernel
theorem dX8_costNow_26 : decode cX8_costNow 26 = .ok (.getfield 7, 3) := by decide +kernel
theorem dX8_costNow_29 : decode cX8_costNow 29 = .ok (.bipush 36, 2) := by decide +kernel
theorem dX8_costNow_31 : decode cX8_costNow 31 = .ok (.iload_n 2, 1) := by decide +kernel
theorem dX8_costNow_32 : decode cX8_costNow 32 = .ok (.iadd, 1) := by decide +kernel
theorem dX8_costNow_33 : decode cX8_costNow 33 = .ok (.iaload, 1) := by decide +kernel
theorem dX8_costNow_34 : decode cX8_costNow 34 = .ok (.ifCond .ge 7, 3) := by decide +kernel
theorem dX8_costNow_37 : decode cX8_costNow 37 = .ok (.iconst 0, 1) := by decide +kernel
theorem dX8_costNow_38 : decode cX8_costNow 38 = .ok (.goto 17, 3) := by decide +kernel
theorem dX8_costNow_41 : decode cX8_costNow 41 = .ok (.aload_n 0, 1) := by decide +kernel
theorem dX8_costNow_42 : decode cX8_costNow 42 = .ok (.iload_n 2, 1) := by decide +kernel
theorem dX8_costNow_43 : decode cX8_costNow 43 = .ok (.aload_n 0, 1) := by decide +kernel
theorem dX8_costNow_44 : decode cX8_costNow 44 = .ok (.getfield 7, 3) := by decide +kernel
theorem dX8_costNow_47 : decode cX8_costNow 47 = .ok (.bipush 36, 2) := by decide +kernel
theorem dX8_costNow_49 : decode cX8_costNow 49 = .ok (.iload_n 2, 1) := by decide +kernel
theorem dX8_costNow_50 : decode cX8_costNow 50 = .ok (.iadd, 1) := by decide +kernel
theorem dX8_costNow_51 : decode cX8_costNow 51 = .ok (.iaload, 1) := by decide +kernel
theorem dX8_costNow_52 : decode cX8_costNow 52 = .ok (.invokevirtual 52, 3) := by decide +kernel
theorem dX8_costNow_55 : decode cX8_costNow 55 = .ok (.iadd, 1) := by decide +kernel
theorem dX8_costNow_56 : decode cX8_costNow 56 = .ok (.istore_n 1, 1) := by decide +kernel
theorem dX8_costNow_57 : decode cX8_costNow 57 = .ok (.iinc 2 1, 3) := by decide +kernel
theorem dX8_costNow_60 : decode cX8_costNow 60 = .ok (.goto (-46), 3) := by decide +kernel
theorem dX8_costNow_63 : decode cX8_costNow 63 = .ok (.iload_n 1, 1) := by decide +kernel
theorem dX8_costNow_64 : decode cX8_costNow 64 = .ok (.ireturn, 1) := by decide +kernel
theorem dX8_voiceOf_0 : decode cX8_voiceOf 0 = .ok (.iload_n 1, 1) := by decide +kernel
theorem dX8_voiceOf_1 : decode cX8_voiceOf 1 = .ok (.istore_n 2, 1) := by decide +kernel
theorem dX8_voiceOf_2 : decode cX8_voiceOf 2 = .ok (.aload_n 0, 1) := by decide +kernel
theorem dX8_voiceOf_3 : decode cX8_voiceOf 3 = .ok (.iload_n 2, 1) := by decide +kernel
theorem dX8_voiceOf_4 : decode cX8_voiceOf 4 = .ok (.invokevirtual 72, 3) := by decide +kernel
theorem dX8_voiceOf_7 : decode cX8_voiceOf 7 = .ok (.iconst (-1), 1) := by decide +kernel
theorem dX8_voiceOf_8 : decode cX8_voiceOf 8 = .ok (.if_icmp .eq 12, 3) := by decide +kernel
theorem dX8_voiceOf_11 : decode cX8_voiceOf 11 = .ok (.aload_n 0, 1) := by decide +kernel
theorem dX8_voiceOf_12 : decode cX8_voiceOf 12 = .ok (.iload_n 2, 1) := by decide +kernel
theorem dX8_voiceOf_13 : decode cX8_voiceOf 13 = .ok (.invokevirtual 72, 3) := by decide +kernel
theorem dX8_voiceOf_16 : decode cX8_voiceOf 16 = .ok (.istore_n 2, 1) := by decide +kernel
theorem dX8_voiceOf_17 : decode cX8_voiceOf 17 = .ok (.goto (-15), 3) := by decide +kernel
theorem dX8_voiceOf_20 : decode cX8_voiceOf 20 = .ok (.iconst 0, 1) := by decide +kernel
theorem dX8_voiceOf_21 : decode cX8_voiceOf 21 = .ok (.istore_n 3, 1) := by decide +kernel
theorem dX8_voiceOf_22 : decode cX8_voiceOf 22 = .ok (.iconst 0, 1) := by decide +kernel
theorem dX8_voiceOf_23 : decode cX8_voiceOf 23 = .ok (.istore 4, 2) := by decide +kernel
theorem dX8_voiceOf_25 : decode cX8_voiceOf 25 = .ok (.iload 4, 2) := by decide +kernel
theorem dX8_voiceOf_27 : decode cX8_voiceOf 27 = .ok (.iload_n 2, 1) := by decide +kernel
theorem dX8_voiceOf_28 : decode cX8_voiceOf 28 = .ok (.if_icmp .ge 27, 3) := by decide +kernel
theorem dX8_voiceOf_31 : decode cX8_voiceOf 31 = .ok (.iload_n 3, 1) := by decide +kernel
theorem dX8_voiceOf_32 : decode cX8_voiceOf 32 = .ok (.aload_n 0, 1) := by decide +kernel
theorem dX8_voiceOf_33 : decode cX8_voiceOf 33 = .ok (.iload 4, 2) := by decide +kernel
theorem dX8_voiceOf_35 : decode cX8_voiceOf 35 = .ok (.invokevirtual 72, 3) := by decide +kernel
theorem dX8_voiceOf_38 : decode cX8_voiceOf 38 = .ok (.iconst (-1), 1) := by decide +kernel
theorem dX8_voiceOf_39 : decode cX8_voiceOf 39 = .ok (.if_icmp .ne 7, 3) := by decide +kernel
theorem dX8_voiceOf_42 : decode cX8_voiceOf 42 = .ok (.iconst 1, 1) := by decide +kernel
theorem dX8_voiceOf_43 : decode cX8_voiceOf 43 = .ok (.goto 4, 3) := by decide +kernel
theorem dX8_voiceOf_46 : decode cX8_voiceOf 46 = .ok (.iconst 0, 1) := by decide +kernel
theorem dX8_voiceOf_47 : decode cX8_voiceOf 47 = .ok (.iadd, 1) := by decide +kernel
theorem dX8_voiceOf_48 : decode cX8_voiceOf 48 = .ok (.istore_n 3, 1) := by decide +kernel
theorem dX8_voiceOf_49 : decode cX8_voiceOf 49 = .ok (.iinc 4 1, 3) := by decide +kernel
theorem dX8_voiceOf_52 : decode cX8_voiceOf 52 = .ok (.goto (-27), 3) := by decide +kernel
theorem dX8_voiceOf_55 : decode cX8_voiceOf 55 = .ok (.iload_n 3, 1) := by decide +kernel
theorem dX8_voiceOf_56 : decode cX8_voiceOf 56 = .ok (.ireturn, 1) := by decide +kernel
theorem dX8_cross_0 : decode cX8_cross 0 = .ok (.aload_n 0, 1) := by decide +kernel
theorem dX8_cross_1 : decode cX8_cross 1 = .ok (.getfield 7, 3) := by decide +kernel
theorem dX8_cross_4 : decode cX8_cross 4 = .ok (.bipush 36, 2) := by decide +kernel
theorem dX8_cross_6 : decode cX8_cross 6 = .ok (.iload_n 1, 1) := by decide +kernel
theorem dX8_cross_7 : decode cX8_cross 7 = .ok (.iadd, 1) := by decide +kernel
theorem dX8_cross_8 : decode cX8_cross 8 = .ok (.iaload, 1) := by decide +kernel
theorem dX8_cross_9 : decode cX8_cross 9 = .ok (.istore_n 3, 1) := by decide +kernel
theorem dX8_cross_10 : decode cX8_cross 10 = .ok (.aload_n 0, 1) := by decide +kernel
theorem dX8_cross_11 : decode cX8_cross 11 = .ok (.getfield 7, 3) := by decide +kernel
theorem dX8_cross_14 : decode cX8_cross 14 = .ok (.bipush 36, 2) := by decide +kernel
theorem dX8_cross_16 : decode cX8_cross 16 = .ok (.iload_n 2, 1) := by decide +kernel
theorem dX8_cross_17 : decode cX8_cross 17 = .ok (.iadd, 1) := by decide +kernel
theorem dX8_cross_18 : decode cX8_cross 18 = .ok (.iaload, 1) := by decide +kernel
theorem dX8_cross_19 : decode cX8_cross 19 = .ok (.istore 4, 2) := by decide +kernel
theorem dX8_cross_21 : decode cX8_cross 21 = .ok (.iload_n 1, 1) := by decide +kernel
theorem dX8_cross_22 : decode cX8_cross 22 = .ok (.iload_n 2, 1) := by decide +kernel
theorem dX8_cross_23 : decode cX8_cross 23 = .ok (.if_icmp .eq 55, 3) := by decide +kernel
theorem dX8_cross_26 : decode cX8_cross 26 = .ok (.iload_n 3, 1) := by decide +kernel
theorem dX8_cross_27 : decode cX8_cross 27 = .ok (.ifCond .lt 51, 3) := by decide +kernel
theorem dX8_cross_30 : decode cX8_cross 30 = .ok (.iload 4, 2) := by decide +kernel
theorem dX8_cross_32 : decode cX8_cross 32 = .ok (.ifCond .lt 46, 3) := by decide +kernel
theorem dX8_cross_35 : decode cX8_cross 35 = .ok (.aload_n 0, 1) := by decide +kernel
theorem dX8_cross_36 : decode cX8_cross 36 = .ok (.getfield 7, 3) := by decide +kernel
theorem dX8_cross_39 : decode cX8_cross 39 = .ok (.bipush 6, 2) := by decide +kernel
theorem dX8_cross_41 : decode cX8_cross 41 = .ok (.iload_n 1, 1) := by decide +kernel
theorem dX8_cross_42 : decode cX8_cross 42 = .ok (.iadd, 1) := by decide +kernel
theorem dX8_cross_43 : decode cX8_cross 43 = .ok (.iaload, 1) := by decide +kernel
theorem dX8_cross_44 : decode cX8_cross 44 = .ok (.aload_n 0, 1) := by decide +kernel
theorem dX8_cross_45 : decode cX8_cross 45 = .ok (.getfield 7, 3) := by decide +kernel
theorem dX8_cross_48 : decode cX8_cross 48 = .ok (.bipush 6, 2) := by decide +kernel
theorem dX8_cross_50 : decode cX8_cross 50 = .ok (.iload 4, 2) := by decide +kernel
theorem dX8_cross_52 : decode cX8_cross 52 = .ok (.iadd, 1) := by decide +kernel
theorem dX8_cross_53 : decode cX8_cross 53 = .ok (.iaload, 1) := by decide +kernel
theorem dX8_cross_54 : decode cX8_cross 54 = .ok (.if_icmp .ge 24, 3) := by decide +kernel
theorem dX8_cross_57 : decode cX8_cross 57 = .ok (.aload_n 0, 1) := by decide +kernel
theorem dX8_cross_58 : decode cX8_cross 58 = .ok (.getfield 7, 3) := by decide +kernel
theorem dX8_cross_61 : decode cX8_cross 61 = .ok (.bipush 6, 2) := by decide +kernel
theorem dX8_cross_63 : decode cX8_cross 63 = .ok (.iload_n 2, 1) := by decide +kernel
theorem dX8_cross_64 : decode cX8_cross 64 = .ok (.iadd, 1) := by decide +kernel
theorem dX8_cross_65 : decode cX8_cross 65 = .ok (.iaload, 1) := by decide +kernel
theorem dX8_cross_66 : decode cX8_cross 66 = .ok (.aload_n 0, 1) := by decide +kernel
theorem dX8_cross_67 : decode cX8_cross 67 = .ok (.getfield 7, 3) := by decide +kernel
theorem dX8_cross_70 : decode cX8_cross 70 = .ok (.bipush 6, 2) := by decide +kernel
theorem dX8_cross_72 : decode cX8_cross 72 = .ok (.iload_n 3, 1) := by decide +kernel
theorem dX8_cross_73 : decode cX8_cross 73 = .ok (.iadd, 1) := by decide +kernel
theorem dX8_cross_74 : decode cX8_cross 74 = .ok (.iaload, 1) := by decide +kernel
theorem dX8_cross_75 : decode cX8_cross 75 = .ok (.if_icmp .lt 5, 3) := by decide +kernel
theorem dX8_cross_78 : decode cX8_cross 78 = .ok (.iconst 0, 1) := by decide +kernel
theorem dX8_cross_79 : decode cX8_cross 79 = .ok (.ireturn, 1) := by decide +kernel
theorem dX8_cross_80 : decode cX8_cross 80 = .ok (.aload_n 0, 1) := by decide +kernel
theorem dX8_cross_81 : decode cX8_cross 81 = .ok (.getfield 7, 3) := by decide +kernel
theorem dX8_cross_84 : decode cX8_cross 84 = .ok (.bipush 26, 2) := by decide +kernel
theorem dX8_cross_86 : decode cX8_cross 86 = .ok (.iload_n 1, 1) := by decide +kernel
theorem dX8_cross_87 : decode cX8_cross 87 = .ok (.iadd, 1) := by decide +kernel
theorem dX8_cross_88 : decode cX8_cross 88 = .ok (.iaload, 1) := by decide +kernel
theorem dX8_cross_89 : decode cX8_cross 89 = .ok (.aload_n 0, 1) := by decide +kernel
theorem dX8_cross_90 : decode cX8_cross 90 = .ok (.getfield 7, 3) := by decide +kernel
theorem dX8_cross_93 : decode cX8_cross 93 = .ok (.bipush 26, 2) := by decide +kernel
theorem dX8_cross_95 : decode cX8_cross 95 = .ok (.iload_n 2, 1) := by decide +kernel
theorem dX8_cross_96 : decode cX8_cross 96 = .ok (.iadd, 1) := by decide +kernel
theorem dX8_cross_97 : decode cX8_cross 97 = .ok (.iaload, 1) := by decide +kernel
theorem dX8_cross_98 : decode cX8_cross 98 = .ok (.if_icmp .ge 29, 3) := by decide +kernel
theorem dX8_cross_101 : decode cX8_cross 101 = .ok (.aload_n 0, 1) := by decide +kernel
theorem dX8_cross_102 : decode cX8_cross 102 = .ok (.getfield 7, 3) := by decide +kernel
theorem dX8_cross_105 : decode cX8_cross 105 = .ok (.bipush 26, 2) := by decide +kernel
theorem dX8_cross_107 : decode cX8_cross 107 = .ok (.iload_n 3, 1) := by decide +kernel
theorem dX8_cross_108 : decode cX8_cross 108 = .ok (.iadd, 1) := by decide +kernel
theorem dX8_cross_109 : decode cX8_cross 109 = .ok (.iaload, 1) := by decide +kernel
theorem dX8_cross_110 : decode cX8_cross 110 = .ok (.aload_n 0, 1) := by decide +kernel
theorem dX8_cross_111 : decode cX8_cross 111 = .ok (.getfield 7, 3) := by decide +kernel
theorem dX8_cross_114 : decode cX8_cross 114 = .ok (.bipush 26, 2) := by decide +kernel
theorem dX8_cross_116 : decode cX8_cross 116 = .ok (.iload 4, 2) := by decide +kernel
theorem dX8_cross_118 : decode cX8_cross 118 = .ok (.iadd, 1) := by decide +kernel
theorem dX8_cross_119 : decode cX8_cross 119 = .ok (.iaload, 1) := by decide +kernel
theorem dX8_cross_120 : decode cX8_cross 120 = .ok (.if_icmp .le 7, 3) := by decide +kernel
theorem dX8_cross_123 : decode cX8_cross 123 = .ok (.iconst 1, 1) := by decide +kernel
theorem dX8_cross_124 : decode cX8_cross 124 = .ok (.goto 4, 3) := by decide +kernel
theorem dX8_cross_127 : decode cX8_cross 127 = .ok (.iconst 0, 1) := by decide +kernel
theorem dX8_cross_128 : decode cX8_cross 128 = .ok (.istore 5, 2) := by decide +kernel
theorem dX8_cross_130 : decode cX8_cross 130 = .ok (.iload 5, 2) := by decide +kernel
theorem dX8_cross_132 : decode cX8_cross 132 = .ok (.ifCond .ne 46, 3) := by decide +kernel
theorem dX8_cross_135 : decode cX8_cross 135 = .ok (.aload_n 0, 1) := by decide +kernel
theorem dX8_cross_136 : decode cX8_cross 136 = .ok (.getfield 7, 3) := by decide +kernel
theorem dX8_cross_139 : decode cX8_cross 139 = .ok (.bipush 26, 2) := by decide +kernel
theorem dX8_cross_141 : decode cX8_cross 141 = .ok (.iload_n 1, 1) := by decide +kernel
theorem dX8_cross_142 : decode cX8_cross 142 = .ok (.iadd, 1) := by decide +kernel
theorem dX8_cross_143 : decode cX8_cross 143 = .ok (.iaload, 1) := by decide +kernel
theorem dX8_cross_144 : decode cX8_cross 144 = .ok (.aload_n 0, 1) := by decide +kernel
theorem dX8_cross_145 : decode cX8_cross 145 = .ok (.getfield 7, 3) := by decide +kernel
theorem dX8_cross_148 : decode cX8_cross 148 = .ok (.bipush 26, 2) := by decide +kernel
theorem dX8_cross_150 : decode cX8_cross 150 = .ok (.iload_n 2, 1) := by decide +kernel
theorem dX8_cross_151 : decode cX8_cross 151 = .ok (.iadd, 1) := by decide +kernel
theorem dX8_cross_152 : decode cX8_cross 152 = .ok (.iaload, 1) := by decide +kernel
theorem dX8_cross_153 : decode cX8_cross 153 = .ok (.if_icmp .le 29, 3) := by decide +kernel
theorem dX8_cross_156 : decode cX8_cross 156 = .ok (.aload_n 0, 1) := by decide +kernel
theorem dX8_cross_157 : decode cX8_cross 157 = .ok (.getfield 7, 3) := by decide +kernel
theorem dX8_cross_160 : decode cX8_cross 160 = .ok (.bipush 26, 2) := by decide +kernel
theorem dX8_cross_162 : decode cX8_cross 162 = .ok (.iload_n 3, 1) := by decide +kernel
theorem dX8_cross_163 : decode cX8_cross 163 = .ok (.iadd, 1) := by decide +kernel
theorem dX8_cross_164 : decode cX8_cross 164 = .ok (.iaload, 1) := by decide +kernel
theorem dX8_cross_165 : decode cX8_cross 165 = .ok (.aload_n 0, 1) := by decide +kernel
theorem dX8_cross_166 : decode cX8_cross 166 = .ok (.getfield 7, 3) := by decide +kernel
theorem dX8_cross_169 : decode cX8_cross 169 = .ok (.bipush 26, 2) := by decide +kernel
theorem dX8_cross_171 : decode cX8_cross 171 = .ok (.iload 4, 2) := by decide +kernel
theorem dX8_cross_173 : decode cX8_cross 173 = .ok (.iadd, 1) := by decide +kernel
theorem dX8_cross_174 : decode cX8_cross 174 = .ok (.iaload, 1) := by decide +kernel
theorem dX8_cross_175 : decode cX8_cross 175 = .ok (.if_icmp .ge 7, 3) := by decide +kernel
theorem dX8_cross_178 : decode cX8_cross 178 = .ok (.iconst 1, 1) := by decide +kernel
theorem dX8_cross_179 : decode cX8_cross 179 = .ok (.goto 4, 3) := by decide +kernel
theorem dX8_cross_182 : decode cX8_cross 182 = .ok (.iconst 0, 1) := by decide +kernel
theorem dX8_cross_183 : decode cX8_cross 183 = .ok (.ireturn, 1) := by decide +kernel
theorem dX8_crossings_0 : decode cX8_crossings 0 = .ok (.iconst 0, 1) := by decide +kernel
theorem dX8_crossings_1 : decode cX8_crossings 1 = .ok (.istore_n 1, 1) := by decide +kernel
theorem dX8_crossings_2 : decode cX8_crossings 2 = .ok (.iconst 0, 1) := by decide +kernel
theorem dX8_crossings_3 : decode cX8_crossings 3 = .ok (.istore_n 2, 1) := by decide +kernel
theorem dX8_crossings_4 : decode cX8_crossings 4 = .ok (.iload_n 2, 1) := by decide +kernel
theorem dX8_crossings_5 : decode cX8_crossings 5 = .ok (.aload_n 0, 1) := by decide +kernel
theorem dX8_crossings_6 : decode cX8_crossings 6 = .ok (.getfield 7, 3) := by decide +kernel
theorem dX8_crossings_9 : decode cX8_crossings 9 = .ok (.iconst 0, 1) := by decide +kernel
theorem dX8_crossings_10 : decode cX8_crossings 10 = .ok (.iaload, 1) := by decide +kernel
theorem dX8_crossings_11 : decode cX8_crossings 11 = .ok (.if_icmp .ge 46, 3) := by decide +kernel
theorem dX8_crossings_14 : decode cX8_crossings 14 = .ok (.iload_n 2, 1) := by decide +kernel
theorem dX8_crossings_15 : decode cX8_crossings 15 = .ok (.iconst 1, 1) := by decide +kernel
theorem dX8_crossings_16 : decode cX8_crossings 16 = .ok (.iadd, 1) := by decide +kernel
theorem dX8_crossings_17 : decode cX8_crossings 17 = .ok (.istore_n 3, 1) := by decide +kernel
theorem dX8_crossings_18 : decode cX8_crossings 18 = .ok (.iload_n 3, 1) := by decide +kernel
theorem dX8_crossings_19 : decode cX8_crossings 19 = .ok (.aload_n 0, 1) := by decide +kernel
theorem dX8_crossings_20 : decode cX8_crossings 20 = .ok (.getfield 7, 3) := by decide +kernel
theorem dX8_crossings_23 : decode cX8_crossings 23 = .ok (.iconst 0, 1) := by decide +kernel
theorem dX8_crossings_24 : decode cX8_crossings 24 = .ok (.iaload, 1) := by decide +kernel
theorem dX8_crossings_25 : decode cX8_crossings 25 = .ok (.if_icmp .ge 26, 3) := by decide +kernel
theorem dX8_crossings_28 : decode cX8_crossings 28 = .ok (.iload_n 1, 1) := by decide +kernel
theorem dX8_crossings_29 : decode cX8_crossings 29 = .ok (.aload_n 0, 1) := by decide +kernel
theorem dX8_crossings_30 : decode cX8_crossings 30 = .ok (.iload_n 2, 1) := by decide +kernel
theorem dX8_crossings_31 : decode cX8_crossings 31 = .ok (.iload_n 3, 1) := by decide +kernel
theorem dX8_crossings_32 : decode cX8_crossings 32 = .ok (.invokevirtual 79, 3) := by decide +kernel
theorem dX8_crossings_35 : decode cX8_crossings 35 = .ok (.ifCond .eq 7, 3) := by decide +kernel
theorem dX8_crossings_38 : decode cX8_crossings 38 = .ok (.iconst 1, 1) := by decide +kernel
theorem dX8_crossings_39 : decode cX8_crossings 39 = .ok (.goto 4, 3) := by decide +kernel
theorem dX8_crossings_42 : decode cX8_crossings 42 = .ok (.iconst 0, 1) := by decide +kernel
theorem dX8_crossings_43 : decode cX8_crossings 43 = .ok (.iadd, 1) := by decide +kernel
theorem dX8_crossings_44 : decode cX8_crossings 44 = .ok (.istore_n 1, 1) := by decide +kernel
theorem dX8_crossings_45 : decode cX8_crossings 45 = .ok (.iinc 3 1, 3) := by decide +kernel
theorem dX8_crossings_48 : decode cX8_crossings 48 = .ok (.goto (-30), 3) := by decide +kernel
theorem dX8_crossings_51 : decode cX8_crossings 51 = .ok (.iinc 2 1, 3) := by decide +kernel
theorem dX8_crossings_54 : decode cX8_crossings 54 = .ok (.goto (-50), 3) := by decide +kernel
theorem dX8_crossings_57 : decode cX8_crossings 57 = .ok (.iload_n 1, 1) := by decide +kernel
theorem dX8_crossings_58 : decode cX8_crossings 58 = .ok (.ireturn, 1) := by decide +kernel
theorem dX8_mendOne_0 : decode cX8_mendOne 0 = .ok (.iconst 0, 1) := by decide +kernel
theorem dX8_mendOne_1 : decode cX8_mendOne 1 = .ok (.istore_n 1, 1) := by decide +kernel
theorem dX8_mendOne_2 : decode cX8_mendOne 2 = .ok (.iload_n 1, 1) := by decide +kernel
theorem dX8_mendOne_3 : decode cX8_mendOne 3 = .ok (.aload_n 0, 1) := by decide +kernel
theorem dX8_mendOne_4 : decode cX8_mendOne 4 = .ok (.getfield 7, 3) := by decide +kernel
theorem dX8_mendOne_7 : decode cX8_mendOne 7 = .ok (.iconst 0, 1) := by decide +kernel
theorem dX8_mendOne_8 : decode cX8_mendOne 8 = .ok (.iaload, 1) := by decide +kernel
theorem dX8_mendOne_9 : decode cX8_mendOne 9 = .ok (.if_icmp .ge 112, 3) := by decide +kernel
theorem dX8_mendOne_12 : decode cX8_mendOne 12 = .ok (.iload_n 1, 1) := by decide +kernel
theorem dX8_mendOne_13 : decode cX8_mendOne 13 = .ok (.iconst 1, 1) := by decide +kernel
theorem dX8_mendOne_14 : decode cX8_mendOne 14 = .ok (.iadd, 1) := by decide +kernel
theorem dX8_mendOne_15 : decode cX8_mendOne 15 = .ok (.istore_n 2, 1) := by decide +kernel
theorem dX8_mendOne_16 : decode cX8_mendOne 16 = .ok (.iload_n 2, 1) := by decide +kernel
theorem dX8_mendOne_17 : decode cX8_mendOne 17 = .ok (.aload_n 0, 1) := by decide +kernel
theorem dX8_mendOne_18 : decode cX8_mendOne 18 = .ok (.getfield 7, 3) := by decide +kernel
theorem dX8_mendOne_21 : decode cX8_mendOne 21 = .ok (.iconst 0, 1) := by decide +kernel
theorem dX8_mendOne_22 : decode cX8_mendOne 22 = .ok (.iaload, 1) := by decide +kernel
theorem dX8_mendOne_23 : decode cX8_mendOne 23 = .ok (.if_icmp .ge 92, 3) := by decide +kernel
theorem dX8_mendOne_26 : decode cX8_mendOne 26 = .ok (.aload_n 0, 1) := by decide +kernel
theorem dX8_mendOne_27 : decode cX8_mendOne 27 = .ok (.iload_n 1, 1) := by decide +kernel
theorem dX8_mendOne_28 : decode cX8_mendOne 28 = .ok (.iload_n 2, 1) := by decide +kernel
theorem dX8_mendOne_29 : decode cX8_mendOne 29 = .ok (.invokevirtual 79, 3) := by decide +kernel
theorem dX8_mendOne_32 : decode cX8_mendOne 32 = .ok (.ifCond .eq 77, 3) := by decide +kernel
theorem dX8_mendOne_35 : decode cX8_mendOne 35 = .ok (.aload_n 0, 1) := by decide +kernel
theorem dX8_mendOne_36 : decode cX8_mendOne 36 = .ok (.iload_n 1, 1) := by decide +kernel
theorem dX8_mendOne_37 : decode cX8_mendOne 37 = .ok (.aload_n 0, 1) := by decide +kernel
theorem dX8_mendOne_38 : decode cX8_mendOne 38 = .ok (.getfield 7, 3) := by decide +kernel
theorem dX8_mendOne_41 : decode cX8_mendOne 41 = .ok (.bipush 36, 2) := by decide +kernel
theorem dX8_mendOne_43 : decode cX8_mendOne 43 = .ok (.iload_n 2, 1) := by decide +kernel
theorem dX8_mendOne_44 : decode cX8_mendOne 44 = .ok (.iadd, 1) := by decide +kernel
theorem dX8_mendOne_45 : decode cX8_mendOne 45 = .ok (.iaload, 1) := by decide +kernel
theorem dX8_mendOne_46 : decode cX8_mendOne 46 = .ok (.invokevirtual 48, 3) := by decide +kernel
theorem dX8_mendOne_49 : decode cX8_mendOne 49 = .ok (.ifCond .eq 60, 3) := by decide +kernel
theorem dX8_mendOne_52 : decode cX8_mendOne 52 = .ok (.aload_n 0, 1) := by decide +kernel
theorem dX8_mendOne_53 : decode cX8_mendOne 53 = .ok (.iload_n 2, 1) := by decide +kernel
theorem dX8_mendOne_54 : decode cX8_mendOne 54 = .ok (.aload_n 0, 1) := by decide +kernel
theorem dX8_mendOne_55 : decode cX8_mendOne 55 = .ok (.getfield 7, 3) := by decide +kernel
theorem dX8_mendOne_58 : decode cX8_mendOne 58 = .ok (.bipush 36, 2) := by decide +kernel
theorem dX8_mendOne_60 : decode cX8_mendOne 60 = .ok (.iload_n 1, 1) := by decide +kernel
theorem dX8_mendOne_61 : decode cX8_mendOne 61 = .ok (.iadd, 1) := by decide +kernel
theorem dX8_mendOne_62 : decode cX8_mendOne 62 = .ok (.iaload, 1) := by decide +kernel
theorem dX8_mendOne_63 : decode cX8_mendOne 63 = .ok (.invokevirtual 48, 3) := by decide +kernel
theorem dX8_mendOne_66 : decode cX8_mendOne 66 = .ok (.ifCond .eq 43, 3) := by decide +kernel
theorem dX8_mendOne_69 : decode cX8_mendOne 69 = .ok (.aload_n 0, 1) := by decide +kernel
theorem dX8_mendOne_70 : decode cX8_mendOne 70 = .ok (.getfield 7, 3) := by decide +kernel
theorem dX8_mendOne_73 : decode cX8_mendOne 73 = .ok (.bipush 36, 2) := by decide +kernel
theorem dX8_mendOne_75 : decode cX8_mendOne 75 = .ok (.iload_n 1, 1) := by decide +kernel
theorem dX8_mendOne_76 : decode cX8_mendOne 76 = .ok (.iadd, 1) := by decide +kernel
theorem dX8_mendOne_77 : decode cX8_mendOne 77 = .ok (.iaload, 1) := by decide +kernel
theorem dX8_mendOne_78 : decode cX8_mendOne 78 = .ok (.istore_n 3, 1) := by decide +kernel
theorem dX8_mendOne_79 : decode cX8_mendOne 79 = .ok (.aload_n 0, 1) := by decide +kernel
theorem dX8_mendOne_80 : decode cX8_mendOne 80 = .ok (.getfield 7, 3) := by decide +kernel
theorem dX8_mendOne_83 : decode cX8_mendOne 83 = .ok (.bipush 36, 2) := by decide +kernel
theorem dX8_mendOne_85 : decode cX8_mendOne 85 = .ok (.iload_n 1, 1) := by decide +kernel
theorem dX8_mendOne_86 : decode cX8_mendOne 86 = .ok (.iadd, 1) := by decide +kernel
theorem dX8_mendOne_87 : decode cX8_mendOne 87 = .ok (.aload_n 0, 1) := by decide +kernel
theorem dX8_mendOne_88 : decode cX8_mendOne 88 = .ok (.getfield 7, 3) := by decide +kernel
theorem dX8_mendOne_91 : decode cX8_mendOne 91 = .ok (.bipush 36, 2) := by decide +kernel
theorem dX8_mendOne_93 : decode cX8_mendOne 93 = .ok (.iload_n 2, 1) := by decide +kernel
theorem dX8_mendOne_94 : decode cX8_mendOne 94 = .ok (.iadd, 1) := by decide +kernel
theorem dX8_mendOne_95 : decode cX8_mendOne 95 = .ok (.iaload, 1) := by decide +kernel
theorem dX8_mendOne_96 : decode cX8_mendOne 96 = .ok (.iastore, 1) := by decide +kernel
theorem dX8_mendOne_97 : decode cX8_mendOne 97 = .ok (.aload_n 0, 1) := by decide +kernel
theorem dX8_mendOne_98 : decode cX8_mendOne 98 = .ok (.getfield 7, 3) := by decide +kernel
theorem dX8_mendOne_101 : decode cX8_mendOne 101 = .ok (.bipush 36, 2) := by decide +kernel
theorem dX8_mendOne_103 : decode cX8_mendOne 103 = .ok (.iload_n 2, 1) := by decide +kernel
theorem dX8_mendOne_104 : decode cX8_mendOne 104 = .ok (.iadd, 1) := by decide +kernel
theorem dX8_mendOne_105 : decode cX8_mendOne 105 = .ok (.iload_n 3, 1) := by decide +kernel
theorem dX8_mendOne_106 : decode cX8_mendOne 106 = .ok (.iastore, 1) := by decide +kernel
theorem dX8_mendOne_107 : decode cX8_mendOne 107 = .ok (.iconst 1, 1) := by decide +kernel
theorem dX8_mendOne_108 : decode cX8_mendOne 108 = .ok (.ireturn, 1) := by decide +kernel
theorem dX8_mendOne_109 : decode cX8_mendOne 109 = .ok (.iinc 2 1, 3) := by decide +kernel
theorem dX8_mendOne_112 : decode cX8_mendOne 112 = .ok (.goto (-96), 3) := by decide +kernel
theorem dX8_mendOne_115 : decode cX8_mendOne 115 = .ok (.iinc 1 1, 3) := by decide +kernel
theorem dX8_mendOne_118 : decode cX8_mendOne 118 = .ok (.goto (-116), 3) := by decide +kernel
theorem dX8_mendOne_121 : decode cX8_mendOne 121 = .ok (.iconst 0, 1) := by decide +kernel
theorem dX8_mendOne_122 : decode cX8_mendOne 122 = .ok (.ireturn, 1) := by decide +kernel
theorem dX8_wrong_0 : decode cX8_wrong 0 = .ok (.iconst 0, 1) := by decide +kernel
theorem dX8_wrong_1 : decode cX8_wrong 1 = .ok (.istore_n 1, 1) := by decide +kernel
theorem dX8_wrong_2 : decode cX8_wrong 2 = .ok (.iload_n 1, 1) := by decide +kernel
theorem dX8_wrong_3 : decode cX8_wrong 3 = .ok (.aload_n 0, 1) := by decide +kernel
theorem dX8_wrong_4 : decode cX8_wrong 4 = .ok (.getfield 82, 3) := by decide +kernel
theorem dX8_wrong_7 : decode cX8_wrong 7 = .ok (.if_icmp .ge 31, 3) := by decide +kernel
theorem dX8_wrong_10 : decode cX8_wrong 10 = .ok (.aload_n 0, 1) := by decide +kernel
theorem dX8_wrong_11 : decode cX8_wrong 11 = .ok (.aload_n 0, 1) := by decide +kernel
theorem dX8_wrong_12 : decode cX8_wrong 12 = .ok (.getfield 16, 3) := by decide +kernel
theorem dX8_wrong_15 : decode cX8_wrong 15 = .ok (.iload_n 1, 1) := by decide +kernel
theorem dX8_wrong_16 : decode cX8_wrong 16 = .ok (.iaload, 1) := by decide +kernel
theorem dX8_wrong_17 : decode cX8_wrong 17 = .ok (.iconst (-1), 1) := by decide +kernel
theorem dX8_wrong_18 : decode cX8_wrong 18 = .ok (.invokevirtual 66, 3) := by decide +kernel
theorem dX8_wrong_21 : decode cX8_wrong 21 = .ok (.aload_n 0, 1) := by decide +kernel
theorem dX8_wrong_22 : decode cX8_wrong 22 = .ok (.getfield 19, 3) := by decide +kernel
theorem dX8_wrong_25 : decode cX8_wrong 25 = .ok (.iload_n 1, 1) := by decide +kernel
theorem dX8_wrong_26 : decode cX8_wrong 26 = .ok (.iaload, 1) := by decide +kernel
theorem dX8_wrong_27 : decode cX8_wrong 27 = .ok (.if_icmp .eq 5, 3) := by decide +kernel
theorem dX8_wrong_30 : decode cX8_wrong 30 = .ok (.iload_n 1, 1) := by decide +kernel
theorem dX8_wrong_31 : decode cX8_wrong 31 = .ok (.ireturn, 1) := by decide +kernel
theorem dX8_wrong_32 : decode cX8_wrong 32 = .ok (.iinc 1 1, 3) := by decide +kernel
theorem dX8_wrong_35 : decode cX8_wrong 35 = .ok (.goto (-33), 3) := by decide +kernel
theorem dX8_wrong_38 : decode cX8_wrong 38 = .ok (.iconst (-1), 1) := by decide +kernel
theorem dX8_wrong_39 : decode cX8_wrong 39 = .ok (.ireturn, 1) := by decide +kernel
theorem dX8_toldMore_0 : decode cX8_toldMore 0 = .ok (.iload_n 1, 1) := by decide +kernel
theorem dX8_toldMore_1 : decode cX8_toldMore 1 = .ok (.tableswitch 83 7 15 #[51, 51, 51, 51, 51, 63, 68, 73, 78], 51) := by decide +kernel
theorem dX8_toldMore_52 : decode cX8_toldMore 52 = .ok (.aload_n 0, 1) := by decide +kernel
theorem dX8_toldMore_53 : decode cX8_toldMore 53 = .ok (.getfield 7, 3) := by decide +kernel
theorem dX8_toldMore_56 : decode cX8_toldMore 56 = .ok (.iconst 1, 1) := by decide +kernel
theorem dX8_toldMore_57 : decode cX8_toldMore 57 = .ok (.iload_n 1, 1) := by decide +kernel
theorem dX8_toldMore_58 : decode cX8_toldMore 58 = .ok (.iadd, 1) := by decide +kernel
theorem dX8_toldMore_59 : decode cX8_toldMore 59 = .ok (.bipush 7, 2) := by decide +kernel
theorem dX8_toldMore_61 : decode cX8_toldMore 61 = .ok (.isub, 1) := by decide +kernel
theorem dX8_toldMore_62 : decode cX8_toldMore 62 = .ok (.iaload, 1) := by decide +kernel
theorem dX8_toldMore_63 : decode cX8_toldMore 63 = .ok (.ireturn, 1) := by decide +kernel
theorem dX8_toldMore_64 : decode cX8_toldMore 64 = .ok (.aload_n 0, 1) := by decide +kernel
theorem dX8_toldMore_65 : decode cX8_toldMore 65 = .ok (.getfield 82, 3) := by decide +kernel
theorem dX8_toldMore_68 : decode cX8_toldMore 68 = .ok (.ireturn, 1) := by decide +kernel
theorem dX8_toldMore_69 : decode cX8_toldMore 69 = .ok (.aload_n 0, 1) := by decide +kernel
theorem dX8_toldMore_70 : decode cX8_toldMore 70 = .ok (.invokevirtual 85, 3) := by decide +kernel
theorem dX8_toldMore_73 : decode cX8_toldMore 73 = .ok (.ireturn, 1) := by decide +kernel
theorem dX8_toldMore_74 : decode cX8_toldMore 74 = .ok (.aload_n 0, 1) := by decide +kernel
theorem dX8_toldMore_75 : decode cX8_toldMore 75 = .ok (.getfield 32, 3) := by decide +kernel
theorem dX8_toldMore_78 : decode cX8_toldMore 78 = .ok (.ireturn, 1) := by decide +kernel
theorem dX8_toldMore_79 : decode cX8_toldMore 79 = .ok (.aload_n 0, 1) := by decide +kernel
theorem dX8_toldMore_80 : decode cX8_toldMore 80 = .ok (.getfield 88, 3) := by decide +kernel
theorem dX8_toldMore_83 : decode cX8_toldMore 83 = .ok (.ireturn, 1) := by decide +kernel
theorem dX8_toldMore_84 : decode cX8_toldMore 84 = .ok (.ldc 91, 2) := by decide +kernel
theorem dX8_toldMore_86 : decode cX8_toldMore 86 = .ok (.ireturn, 1) := by decide +kernel
theorem dX8_told_0 : decode cX8_told 0 = .ok (.iload_n 1, 1) := by decide +kernel
theorem dX8_told_1 : decode cX8_told 1 = .ok (.tableswitch 82 0 6 #[43, 50, 55, 60, 65, 71, 77], 43) := by decide +kernel
theorem dX8_told_44 : decode cX8_told 44 = .ok (.aload_n 0, 1) := by decide +kernel
theorem dX8_told_45 : decode cX8_told 45 = .ok (.getfield 7, 3) := by decide +kernel
theorem dX8_told_48 : decode cX8_told 48 = .ok (.iconst 0, 1) := by decide +kernel
theorem dX8_told_49 : decode cX8_told 49 = .ok (.iaload, 1) := by decide +kernel
theorem dX8_told_50 : decode cX8_told 50 = .ok (.ireturn, 1) := by decide +kernel
theorem dX8_told_51 : decode cX8_told 51 = .ok (.aload_n 0, 1) := by decide +kernel
theorem dX8_told_52 : decode cX8_told 52 = .ok (.invokevirtual 75, 3) := by decide +kernel
theorem dX8_told_55 : decode cX8_told 55 = .ok (.ireturn, 1) := by decide +kernel
theorem dX8_told_56 : decode cX8_told 56 = .ok (.aload_n 0, 1) := by decide +kernel
theorem dX8_told_57 : decode cX8_told 57 = .ok (.invokevirtual 92, 3) := by decide +kernel
theorem dX8_told_60 : decode cX8_told 60 = .ok (.ireturn, 1) := by decide +kernel
theorem dX8_told_61 : decode cX8_told 61 = .ok (.aload_n 0, 1) := by decide +kernel
theorem dX8_told_62 : decode cX8_told 62 = .ok (.invokevirtual 95, 3) := by decide +kernel
theorem dX8_told_65 : decode cX8_told 65 = .ok (.ireturn, 1) := by decide +kernel
theorem dX8_told_66 : decode cX8_told 66 = .ok (.aload_n 0, 1) := by decide +kernel
theorem dX8_told_67 : decode cX8_told 67 = .ok (.iconst (-1), 1) := by decide +kernel
theorem dX8_told_68 : decode cX8_told 68 = .ok (.invokevirtual 69, 3) := by decide +kernel
theorem dX8_told_71 : decode cX8_told 71 = .ok (.ireturn, 1) := by decide +kernel
theorem dX8_told_72 : decode cX8_told 72 = .ok (.aload_n 0, 1) := by decide +kernel
theorem dX8_told_73 : decode cX8_told 73 = .ok (.iconst (-1), 1) := by decide +kernel
theorem dX8_told_74 : decode cX8_told 74 = .ok (.invokevirtual 98, 3) := by decide +kernel
theorem dX8_told_77 : decode cX8_told 77 = .ok (.ireturn, 1) := by decide +kernel
theorem dX8_told_78 : decode cX8_told 78 = .ok (.aload_n 0, 1) := by decide +kernel
theorem dX8_told_79 : decode cX8_told 79 = .ok (.invokevirtual 101, 3) := by decide +kernel
theorem dX8_told_82 : decode cX8_told 82 = .ok (.ireturn, 1) := by decide +kernel
theorem dX8_told_83 : decode cX8_told 83 = .ok (.aload_n 0, 1) := by decide +kernel
theorem dX8_told_84 : decode cX8_told 84 = .ok (.iload_n 1, 1) := by decide +kernel
theorem dX8_told_85 : decode cX8_told 85 = .ok (.invokevirtual 104, 3) := by decide +kernel
theorem dX8_told_88 : decode cX8_told 88 = .ok (.ireturn, 1) := by decide +kernel
theorem dX8_isNote_0 : decode cX8_isNote 0 = .ok (.iload_n 1, 1) := by decide +kernel
theorem dX8_isNote_1 : decode cX8_isNote 1 = .ok (.i2l, 1) := by decide +kernel
theorem dX8_isNote_2 : decode cX8_isNote 2 = .ok (.lconst 0, 1) := by decide +kernel
theorem dX8_isNote_3 : decode cX8_isNote 3 = .ok (.aload_n 0, 1) := by decide +kernel
theorem dX8_isNote_4 : decode cX8_isNote 4 = .ok (.getfield 7, 3) := by decide +kernel
theorem dX8_isNote_7 : decode cX8_isNote 7 = .ok (.iconst 0, 1) := by decide +kernel
theorem dX8_isNote_8 : decode cX8_isNote 8 = .ok (.iaload, 1) := by decide +kernel
theorem dX8_isNote_9 : decode cX8_isNote 9 = .ok (.iconst 1, 1) := by decide +kernel
theorem dX8_isNote_10 : decode cX8_isNote 10 = .ok (.isub, 1) := by decide +kernel
theorem dX8_isNote_11 : decode cX8_isNote 11 = .ok (.i2l, 1) := by decide +kernel
theorem dX8_isNote_12 : decode cX8_isNote 12 = .ok (.invokestatic 40, 3) := by decide +kernel
theorem dX8_isNote_15 : decode cX8_isNote 15 = .ok (.ireturn, 1) := by decide +kernel
theorem dX8_followers_0 : decode cX8_followers 0 = .ok (.iconst 0, 1) := by decide +kernel
theorem dX8_followers_1 : decode cX8_followers 1 = .ok (.istore_n 2, 1) := by decide +kernel
theorem dX8_followers_2 : decode cX8_followers 2 = .ok (.iconst 0, 1) := by decide +kernel
theorem dX8_followers_3 : decode cX8_followers 3 = .ok (.istore_n 3, 1) := by decide +kernel
theorem dX8_followers_4 : decode cX8_followers 4 = .ok (.iload_n 3, 1) := by decide +kernel
theorem dX8_followers_5 : decode cX8_followers 5 = .ok (.aload_n 0, 1) := by decide +kernel
theorem dX8_followers_6 : decode cX8_followers 6 = .ok (.getfield 7, 3) := by decide +kernel
theorem dX8_followers_9 : decode cX8_followers 9 = .ok (.iconst 0, 1) := by decide +kernel
theorem dX8_followers_10 : decode cX8_followers 10 = .ok (.iaload, 1) := by decide +kernel
theorem dX8_followers_11 : decode cX8_followers 11 = .ok (.if_icmp .ge 26, 3) := by decide +kernel
theorem dX8_followers_14 : decode cX8_followers 14 = .ok (.iload_n 2, 1) := by decide +kernel
theorem dX8_followers_15 : decode cX8_followers 15 = .ok (.aload_n 0, 1) := by decide +kernel
theorem dX8_followers_16 : decode cX8_followers 16 = .ok (.iload_n 1, 1) := by decide +kernel
theorem dX8_followers_17 : decode cX8_followers 17 = .ok (.iload_n 3, 1) := by decide +kernel
theorem dX8_followers_18 : decode cX8_followers 18 = .ok (.invokevirtual 48, 3) := by decide +kernel
theorem dX8_followers_21 : decode cX8_followers 21 = .ok (.ifCond .eq 7, 3) := by decide +kernel
theorem dX8_followers_24 : decode cX8_followers 24 = .ok (.iconst 1, 1) := by decide +kernel
theorem dX8_followers_25 : decode cX8_followers 25 = .ok (.goto 4, 3) := by decide +kernel
theorem dX8_followers_28 : decode cX8_followers 28 = .ok (.iconst 0, 1) := by decide +kernel
theorem dX8_followers_29 : decode cX8_followers 29 = .ok (.iadd, 1) := by decide +kernel
theorem dX8_followers_30 : decode cX8_followers 30 = .ok (.istore_n 2, 1) := by decide +kernel
theorem dX8_followers_31 : decode cX8_followers 31 = .ok (.iinc 3 1, 3) := by decide +kernel
theorem dX8_followers_34 : decode cX8_followers 34 = .ok (.goto (-30), 3) := by decide +kernel
theorem dX8_followers_37 : decode cX8_followers 37 = .ok (.iload_n 2, 1) := by decide +kernel
theorem dX8_followers_38 : decode cX8_followers 38 = .ok (.ireturn, 1) := by decide +kernel
theorem dX8_at_0 : decode cX8_at 0 = .ok (.aload_n 0, 1) := by decide +kernel
theorem dX8_at_1 : decode cX8_at 1 = .ok (.iload_n 1, 1) := by decide +kernel
theorem dX8_at_2 : decode cX8_at 2 = .ok (.invokevirtual 107, 3) := by decide +kernel
theorem dX8_at_5 : decode cX8_at 5 = .ok (.ifCond .ne 6, 3) := by decide +kernel
theorem dX8_at_8 : decode cX8_at 8 = .ok (.ldc 111, 2) := by decide +kernel
theorem dX8_at_10 : decode cX8_at 10 = .ok (.ireturn, 1) := by decide +kernel
theorem dX8_at_11 : decode cX8_at 11 = .ok (.iload_n 2, 1) := by decide +kernel
theorem dX8_at_12 : decode cX8_at 12 = .ok (.tableswitch 114 0 7 #[48, 58, 64, 74, 84, 90, 96, 108], 48) := by decide +kernel
theorem dX8_at_60 : decode cX8_at 60 = .ok (.aload_n 0, 1) := by decide +kernel
theorem dX8_at_61 : decode cX8_at 61 = .ok (.getfield 7, 3) := by decide +kernel
theorem dX8_at_64 : decode cX8_at 64 = .ok (.bipush 6, 2) := by decide +kernel
theorem dX8_at_66 : decode cX8_at 66 = .ok (.iload_n 1, 1) := by decide +kernel
theorem dX8_at_67 : decode cX8_at 67 = .ok (.iadd, 1) := by decide +kernel
theorem dX8_at_68 : decode cX8_at 68 = .ok (.iaload, 1) := by decide +kernel
theorem dX8_at_69 : decode cX8_at 69 = .ok (.ireturn, 1) := by decide +kernel
theorem dX8_at_70 : decode cX8_at 70 = .ok (.aload_n 0, 1) := by decide +kernel
theorem dX8_at_71 : decode cX8_at 71 = .ok (.iload_n 1, 1) := by decide +kernel
theorem dX8_at_72 : decode cX8_at 72 = .ok (.invokevirtual 36, 3) := by decide +kernel
theorem dX8_at_75 : decode cX8_at 75 = .ok (.ireturn, 1) := by decide +kernel
theorem dX8_at_76 : decode cX8_at 76 = .ok (.aload_n 0, 1) := by decide +kernel
theorem dX8_at_77 : decode cX8_at 77 = .ok (.getfield 7, 3) := by decide +kernel
theorem dX8_at_80 : decode cX8_at 80 = .ok (.bipush 26, 2) := by decide +kernel
theorem dX8_at_82 : decode cX8_at 82 = .ok (.iload_n 1, 1) := by decide +kernel
theorem dX8_at_83 : decode cX8_at 83 = .ok (.iadd, 1) := by decide +kernel
theorem dX8_at_84 : decode cX8_at 84 = .ok (.iaload, 1) := by decide +kernel
theorem dX8_at_85 : decode cX8_at 85 = .ok (.ireturn, 1) := by decide +kernel
theorem dX8_at_86 : decode cX8_at 86 = .ok (.aload_n 0, 1) := by decide +kernel
theorem dX8_at_87 : decode cX8_at 87 = .ok (.getfield 7, 3) := by decide +kernel
theorem dX8_at_90 : decode cX8_at 90 = .ok (.bipush 36, 2) := by decide +kernel
theorem dX8_at_92 : decode cX8_at 92 = .ok (.iload_n 1, 1) := by decide +kernel
theorem dX8_at_93 : decode cX8_at 93 = .ok (.iadd, 1) := by decide +kernel
theorem dX8_at_94 : decode cX8_at 94 = .ok (.iaload, 1) := by decide +kernel
theorem dX8_at_95 : decode cX8_at 95 = .ok (.ireturn, 1) := by decide +kernel
theorem dX8_at_96 : decode cX8_at 96 = .ok (.aload_n 0, 1) := by decide +kernel
theorem dX8_at_97 : decode cX8_at 97 = .ok (.iload_n 1, 1) := by decide +kernel
theorem dX8_at_98 : decode cX8_at 98 = .ok (.invokevirtual 72, 3) := by decide +kernel
theorem dX8_at_101 : decode cX8_at 101 = .ok (.ireturn, 1) := by decide +kernel
theorem dX8_at_102 : decode cX8_at 102 = .ok (.aload_n 0, 1) := by decide +kernel
theorem dX8_at_103 : decode cX8_at 103 = .ok (.iload_n 1, 1) := by decide +kernel
theorem dX8_at_104 : decode cX8_at 104 = .ok (.invokevirtual 112, 3) := by decide +kernel
theorem dX8_at_107 : decode cX8_at 107 = .ok (.ireturn, 1) := by decide +kernel
theorem dX8_at_108 : decode cX8_at 108 = .ok (.aload_n 0, 1) := by decide +kernel
theorem dX8_at_109 : decode cX8_at 109 = .ok (.iconst (-1), 1) := by decide +kernel
theorem dX8_at_110 : decode cX8_at 110 = .ok (.invokevirtual 98, 3) := by decide +kernel
theorem dX8_at_113 : decode cX8_at 113 = .ok (.aload_n 0, 1) := by decide +kernel
theorem dX8_at_114 : decode cX8_at 114 = .ok (.iload_n 1, 1) := by decide +kernel
theorem dX8_at_115 : decode cX8_at 115 = .ok (.invokevirtual 98, 3) := by decide +kernel
theorem dX8_at_118 : decode cX8_at 118 = .ok (.isub, 1) := by decide +kernel
theorem dX8_at_119 : decode cX8_at 119 = .ok (.ireturn, 1) := by decide +kernel
theorem dX8_at_120 : decode cX8_at 120 = .ok (.aload_n 0, 1) := by decide +kernel
theorem dX8_at_121 : decode cX8_at 121 = .ok (.iload_n 1, 1) := by decide +kernel
theorem dX8_at_122 : decode cX8_at 122 = .ok (.invokevirtual 115, 3) := by decide +kernel
theorem dX8_at_125 : decode cX8_at 125 = .ok (.ireturn, 1) := by decide +kernel
theorem dX8_at_126 : decode cX8_at 126 = .ok (.ldc 91, 2) := by decide +kernel
theorem dX8_at_128 : decode cX8_at 128 = .ok (.ireturn, 1) := by decide +kernel
theorem dX8_cost_0 : decode cX8_cost 0 = .ok (.aload_n 0, 1) := by decide +kernel
theorem dX8_cost_1 : decode cX8_cost 1 = .ok (.iload_n 1, 1) := by decide +kernel
theorem dX8_cost_2 : decode cX8_cost 2 = .ok (.invokevirtual 107, 3) := by decide +kernel
theorem dX8_cost_5 : decode cX8_cost 5 = .ok (.ifCond .eq 11, 3) := by decide +kernel
theorem dX8_cost_8 : decode cX8_cost 8 = .ok (.aload_n 0, 1) := by decide +kernel
theorem dX8_cost_9 : decode cX8_cost 9 = .ok (.iload_n 2, 1) := by decide +kernel
theorem dX8_cost_10 : decode cX8_cost 10 = .ok (.invokevirtual 107, 3) := by decide +kernel
theorem dX8_cost_13 : decode cX8_cost 13 = .ok (.ifCond .ne 6, 3) := by decide +kernel
theorem dX8_cost_16 : decode cX8_cost 16 = .ok (.ldc 111, 2) := by decide +kernel
theorem dX8_cost_18 : decode cX8_cost 18 = .ok (.ireturn, 1) := by decide +kernel
theorem dX8_cost_19 : decode cX8_cost 19 = .ok (.aload_n 0, 1) := by decide +kernel
theorem dX8_cost_20 : decode cX8_cost 20 = .ok (.iload_n 1, 1) := by decide +kernel
theorem dX8_cost_21 : decode cX8_cost 21 = .ok (.iload_n 2, 1) := by decide +kernel
theorem dX8_cost_22 : decode cX8_cost 22 = .ok (.invokevirtual 48, 3) := by decide +kernel
theorem dX8_cost_25 : decode cX8_cost 25 = .ok (.ifCond .eq 12, 3) := by decide +kernel
theorem dX8_cost_28 : decode cX8_cost 28 = .ok (.aload_n 0, 1) := by decide +kernel
theorem dX8_cost_29 : decode cX8_cost 29 = .ok (.iload_n 1, 1) := by decide +kernel
theorem dX8_cost_30 : decode cX8_cost 30 = .ok (.iload_n 2, 1) := by decide +kernel
theorem dX8_cost_31 : decode cX8_cost 31 = .ok (.invokevirtual 52, 3) := by decide +kernel
theorem dX8_cost_34 : decode cX8_cost 34 = .ok (.goto 4, 3) := by decide +kernel
theorem dX8_cost_37 : decode cX8_cost 37 = .ok (.iconst (-1), 1) := by decide +kernel
theorem dX8_cost_38 : decode cX8_cost 38 = .ok (.ireturn, 1) := by decide +kernel
theorem dX8_least_0 : decode cX8_least 0 = .ok (.iload_n 1, 1) := by decide +kernel
theorem dX8_least_1 : decode cX8_least 1 = .ok (.i2l, 1) := by decide +kernel
theorem dX8_least_2 : decode cX8_least 2 = .ok (.lconst 0, 1) := by decide +kernel
theorem dX8_least_3 : decode cX8_least 3 = .ok (.ldc2_w 118, 3) := by decide +kernel
theorem dX8_least_6 : decode cX8_least 6 = .ok (.invokestatic 40, 3) := by decide +kernel
theorem dX8_least_9 : decode cX8_least 9 = .ok (.ifCond .eq 12, 3) := by decide +kernel
theorem dX8_least_12 : decode cX8_least 12 = .ok (.aload_n 0, 1) := by decide +kernel
theorem dX8_least_13 : decode cX8_least 13 = .ok (.iload_n 1, 1) := by decide +kernel
theorem dX8_least_14 : decode cX8_least 14 = .ok (.iconst (-1), 1) := by decide +kernel
theorem dX8_least_15 : decode cX8_least 15 = .ok (.invokevirtual 66, 3) := by decide +kernel
theorem dX8_least_18 : decode cX8_least 18 = .ok (.goto 5, 3) := by decide +kernel
theorem dX8_least_21 : decode cX8_least 21 = .ok (.ldc 91, 2) := by decide +kernel
theorem dX8_least_23 : decode cX8_least 23 = .ok (.ireturn, 1) := by decide +kernel
theorem dX8_first_0 : decode cX8_first 0 = .ok (.aload_n 0, 1) := by decide +kernel
theorem dX8_first_1 : decode cX8_first 1 = .ok (.iload_n 2, 1) := by decide +kernel
theorem dX8_first_2 : decode cX8_first 2 = .ok (.invokevirtual 107, 3) := by decide +kernel
theorem dX8_first_5 : decode cX8_first 5 = .ok (.ifCond .ne 6, 3) := by decide +kernel
theorem dX8_first_8 : decode cX8_first 8 = .ok (.ldc 111, 2) := by decide +kernel
theorem dX8_first_10 : decode cX8_first 10 = .ok (.ireturn, 1) := by decide +kernel
theorem dX8_first_11 : decode cX8_first 11 = .ok (.iload_n 1, 1) := by decide +kernel
theorem dX8_first_12 : decode cX8_first 12 = .ok (.i2l, 1) := by decide +kernel
theorem dX8_first_13 : decode cX8_first 13 = .ok (.lconst 0, 1) := by decide +kernel
theorem dX8_first_14 : decode cX8_first 14 = .ok (.ldc2_w 118, 3) := by decide +kernel
theorem dX8_first_17 : decode cX8_first 17 = .ok (.invokestatic 40, 3) := by decide +kernel
theorem dX8_first_20 : decode cX8_first 20 = .ok (.ifCond .ne 6, 3) := by decide +kernel
theorem dX8_first_23 : decode cX8_first 23 = .ok (.ldc 91, 2) := by decide +kernel
theorem dX8_first_25 : decode cX8_first 25 = .ok (.ireturn, 1) := by decide +kernel
theorem dX8_first_26 : decode cX8_first 26 = .ok (.aload_n 0, 1) := by decide +kernel
theorem dX8_first_27 : decode cX8_first 27 = .ok (.iload_n 1, 1) := by decide +kernel
theorem dX8_first_28 : decode cX8_first 28 = .ok (.invokevirtual 120, 3) := by decide +kernel
theorem dX8_first_31 : decode cX8_first 31 = .ok (.ifCond .eq 12, 3) := by decide +kernel
theorem dX8_first_34 : decode cX8_first 34 = .ok (.aload_n 0, 1) := by decide +kernel
theorem dX8_first_35 : decode cX8_first 35 = .ok (.getfield 25, 3) := by decide +kernel
theorem dX8_first_38 : decode cX8_first 38 = .ok (.iload_n 2, 1) := by decide +kernel
theorem dX8_first_39 : decode cX8_first 39 = .ok (.iaload, 1) := by decide +kernel
theorem dX8_first_40 : decode cX8_first 40 = .ok (.goto 5, 3) := by decide +kernel
theorem dX8_first_43 : decode cX8_first 43 = .ok (.ldc 123, 2) := by decide +kernel
theorem dX8_first_45 : decode cX8_first 45 = .ok (.ireturn, 1) := by decide +kernel
theorem dX8_ofVoice_0 : decode cX8_ofVoice 0 = .ok (.iconst 0, 1) := by decide +kernel
theorem dX8_ofVoice_1 : decode cX8_ofVoice 1 = .ok (.istore_n 3, 1) := by decide +kernel
theorem dX8_ofVoice_2 : decode cX8_ofVoice 2 = .ok (.iload_n 1, 1) := by decide +kernel
theorem dX8_ofVoice_3 : decode cX8_ofVoice 3 = .ok (.istore 4, 2) := by decide +kernel
theorem dX8_ofVoice_5 : decode cX8_ofVoice 5 = .ok (.aload_n 0, 1) := by decide +kernel
theorem dX8_ofVoice_6 : decode cX8_ofVoice 6 = .ok (.getfield 7, 3) := by decide +kernel
theorem dX8_ofVoice_9 : decode cX8_ofVoice 9 = .ok (.bipush 26, 2) := by decide +kernel
theorem dX8_ofVoice_11 : decode cX8_ofVoice 11 = .ok (.iload_n 1, 1) := by decide +kernel
theorem dX8_ofVoice_12 : decode cX8_ofVoice 12 = .ok (.iadd, 1) := by decide +kernel
theorem dX8_ofVoice_13 : decode cX8_ofVoice 13 = .ok (.iaload, 1) := by decide +kernel
theorem dX8_ofVoice_14 : decode cX8_ofVoice 14 = .ok (.istore 5, 2) := by decide +kernel
theorem dX8_ofVoice_16 : decode cX8_ofVoice 16 = .ok (.iload 5, 2) := by decide +kernel
theorem dX8_ofVoice_18 : decode cX8_ofVoice 18 = .ok (.istore 6, 2) := by decide +kernel
theorem dX8_ofVoice_20 : decode cX8_ofVoice 20 = .ok (.iconst 0, 1) := by decide +kernel
theorem dX8_ofVoice_21 : decode cX8_ofVoice 21 = .ok (.istore 7, 2) := by decide +kernel
theorem dX8_ofVoice_23 : decode cX8_ofVoice 23 = .ok (.aload_n 0, 1) := by decide +kernel
theorem dX8_ofVoice_24 : decode cX8_ofVoice 24 = .ok (.getfield 7, 3) := by decide +kernel
theorem dX8_ofVoice_27 : decode cX8_ofVoice 27 = .ok (.iconst 4, 1) := by decide +kernel
theorem dX8_ofVoice_28 : decode cX8_ofVoice 28 = .ok (.iaload, 1) := by decide +kernel
theorem dX8_ofVoice_29 : decode cX8_ofVoice 29 = .ok (.istore 8, 2) := by decide +kernel
theorem dX8_ofVoice_31 : decode cX8_ofVoice 31 = .ok (.iload_n 1, 1) := by decide +kernel
theorem dX8_ofVoice_32 : decode cX8_ofVoice 32 = .ok (.istore 9, 2) := by decide +kernel
theorem dX8_ofVoice_34 : decode cX8_ofVoice 34 = .ok (.iload 9, 2) := by decide +kernel
theorem dX8_ofVoice_36 : decode cX8_ofVoice 36 = .ok (.ifCond .lt 154, 3) := by decide +kernel
theorem dX8_ofVoice_39 : decode cX8_ofVoice 39 = .ok (.aload_n 0, 1) := by decide +kernel
theorem dX8_ofVoice_40 : decode cX8_ofVoice 40 = .ok (.getfield 7, 3) := by decide +kernel
theorem dX8_ofVoice_43 : decode cX8_ofVoice 43 = .ok (.bipush 36, 2) := by decide +kernel
theorem dX8_ofVoice_45 : decode cX8_ofVoice 45 = .ok (.iload 9, 2) := by decide +kernel
theorem dX8_ofVoice_47 : decode cX8_ofVoice 47 = .ok (.iadd, 1) := by decide +kernel
theorem dX8_ofVoice_48 : decode cX8_ofVoice 48 = .ok (.iaload, 1) := by decide +kernel
theorem dX8_ofVoice_49 : decode cX8_ofVoice 49 = .ok (.istore 10, 2) := by decide +kernel
theorem dX8_ofVoice_51 : decode cX8_ofVoice 51 = .ok (.iinc 3 1, 3) := by decide +kernel
theorem dX8_ofVoice_54 : decode cX8_ofVoice 54 = .ok (.iload 9, 2) := by decide +kernel
theorem dX8_ofVoice_56 : decode cX8_ofVoice 56 = .ok (.istore 4, 2) := by decide +kernel
theorem dX8_ofVoice_58 : decode cX8_ofVoice 58 = .ok (.aload_n 0, 1) := by decide +kernel
theorem dX8_ofVoice_59 : decode cX8_ofVoice 59 = .ok (.getfield 7, 3) := by decide +kernel
theorem dX8_ofVoice_62 : decode cX8_ofVoice 62 = .ok (.bipush 26, 2) := by decide +kernel
theorem dX8_ofVoice_64 : decode cX8_ofVoice 64 = .ok (.iload 9, 2) := by decide +kernel
theorem dX8_ofVoice_66 : decode cX8_ofVoice 66 = .ok (.iadd, 1) := by decide +kernel
theorem dX8_ofVoice_67 : decode cX8_ofVoice 67 = .ok (.iaload, 1) := by decide +kernel
theorem dX8_ofVoice_68 : decode cX8_ofVoice 68 = .ok (.iload 5, 2) := by decide +kernel
theorem dX8_ofVoice_70 : decode cX8_ofVoice 70 = .ok (.if_icmp .ge 16, 3) := by decide +kernel
theorem dX8_ofVoice_73 : decode cX8_ofVoice 73 = .ok (.aload_n 0, 1) := by decide +kernel
theorem dX8_ofVoice_74 : decode cX8_ofVoice 74 = .ok (.getfield 7, 3) := by decide +kernel
theorem dX8_ofVoice_77 : decode cX8_ofVoice 77 = .ok (.bipush 26, 2) := by decide +kernel
theorem dX8_ofVoice_79 : decode cX8_ofVoice 79 = .ok (.iload 9, 2) := by decide +kernel
theorem dX8_ofVoice_81 : decode cX8_ofVoice 81 = .ok (.iadd, 1) := by decide +kernel
theorem dX8_ofVoice_82 : decode cX8_ofVoice 82 = .ok (.iaload, 1) := by decide +kernel
theorem dX8_ofVoice_83 : decode cX8_ofVoice 83 = .ok (.goto 5, 3) := by decide +kernel
theorem dX8_ofVoice_86 : decode cX8_ofVoice 86 = .ok (.iload 5, 2) := by decide +kernel
theorem dX8_ofVoice_88 : decode cX8_ofVoice 88 = .ok (.istore 5, 2) := by decide +kernel
theorem dX8_ofVoice_90 : decode cX8_ofVoice 90 = .ok (.aload_n 0, 1) := by decide +kernel
theorem dX8_ofVoice_91 : decode cX8_ofVoice 91 = .ok (.getfield 7, 3) := by decide +kernel
theorem dX8_ofVoice_94 : decode cX8_ofVoice 94 = .ok (.bipush 26, 2) := by decide +kernel
theorem dX8_ofVoice_96 : decode cX8_ofVoice 96 = .ok (.iload 9, 2) := by decide +kernel
theorem dX8_ofVoice_98 : decode cX8_ofVoice 98 = .ok (.iadd, 1) := by decide +kernel
theorem dX8_ofVoice_99 : decode cX8_ofVoice 99 = .ok (.iaload, 1) := by decide +kernel
theorem dX8_ofVoice_100 : decode cX8_ofVoice 100 = .ok (.iload 6, 2) := by decide +kernel
theorem dX8_ofVoice_102 : decode cX8_ofVoice 102 = .ok (.if_icmp .le 16, 3) := by decide +kernel
theorem dX8_ofVoice_105 : decode cX8_ofVoice 105 = .ok (.aload_n 0, 1) := by decide +kernel
theorem dX8_ofVoice_106 : decode cX8_ofVoice 106 = .ok (.getfield 7, 3) := by decide +kernel
theorem dX8_ofVoice_109 : decode cX8_ofVoice 109 = .ok (.bipush 26, 2) := by decide +kernel
theorem dX8_ofVoice_111 : decode cX8_ofVoice 111 = .ok (.iload 9, 2) := by decide +kernel
theorem dX8_ofVoice_113 : decode cX8_ofVoice 113 = .ok (.iadd, 1) := by decide +kernel
theorem dX8_ofVoice_114 : decode cX8_ofVoice 114 = .ok (.iaload, 1) := by decide +kernel
theorem dX8_ofVoice_115 : decode cX8_ofVoice 115 = .ok (.goto 5, 3) := by decide +kernel
theorem dX8_ofVoice_118 : decode cX8_ofVoice 118 = .ok (.iload 6, 2) := by decide +kernel
theorem dX8_ofVoice_120 : decode cX8_ofVoice 120 = .ok (.istore 6, 2) := by decide +kernel
theorem dX8_ofVoice_122 : decode cX8_ofVoice 122 = .ok (.iload 7, 2) := by decide +kernel
theorem dX8_ofVoice_124 : decode cX8_ofVoice 124 = .ok (.iload 10, 2) := by decide +kernel
theorem dX8_ofVoice_126 : decode cX8_ofVoice 126 = .ok (.ifCond .ge 7, 3) := by decide +kernel
theorem dX8_ofVoice_129 : decode cX8_ofVoice 129 = .ok (.iconst 0, 1) := by decide +kernel
theorem dX8_ofVoice_130 : decode cX8_ofVoice 130 = .ok (.goto 20, 3) := by decide +kernel
theorem dX8_ofVoice_133 : decode cX8_ofVoice 133 = .ok (.aload_n 0, 1) := by decide +kernel
theorem dX8_ofVoice_134 : decode cX8_ofVoice 134 = .ok (.getfield 7, 3) := by decide +kernel
theorem dX8_ofVoice_137 : decode cX8_ofVoice 137 = .ok (.bipush 6, 2) := by decide +kernel
theorem dX8_ofVoice_139 : decode cX8_ofVoice 139 = .ok (.iload 10, 2) := by decide +kernel
theorem dX8_ofVoice_141 : decode cX8_ofVoice 141 = .ok (.iadd, 1) := by decide +kernel
theorem dX8_ofVoice_142 : decode cX8_ofVoice 142 = .ok (.iaload, 1) := by decide +kernel
theorem dX8_ofVoice_143 : decode cX8_ofVoice 143 = .ok (.aload_n 0, 1) := by decide +kernel
theorem dX8_ofVoice_144 : decode cX8_ofVoice 144 = .ok (.iload 9, 2) := by decide +kernel
theorem dX8_ofVoice_146 : decode cX8_ofVoice 146 = .ok (.invokevirtual 36, 3) := by decide +kernel
theorem dX8_ofVoice_149 : decode cX8_ofVoice 149 = .ok (.isub, 1) := by decide +kernel
theorem dX8_ofVoice_150 : decode cX8_ofVoice 150 = .ok (.iadd, 1) := by decide +kernel
theorem dX8_ofVoice_151 : decode cX8_ofVoice 151 = .ok (.istore 7, 2) := by decide +kernel
theorem dX8_ofVoice_153 : decode cX8_ofVoice 153 = .ok (.iload 8, 2) := by decide +kernel
theorem dX8_ofVoice_155 : decode cX8_ofVoice 155 = .ok (.iload 10, 2) := by decide +kernel
theorem dX8_ofVoice_157 : decode cX8_ofVoice 157 = .ok (.ifCond .ge 7, 3) := by decide +kernel
theorem dX8_ofVoice_160 : decode cX8_ofVoice 160 = .ok (.iconst 0, 1) := by decide +kernel
theorem dX8_ofVoice_161 : decode cX8_ofVoice 161 = .ok (.goto 11, 3) := by decide +kernel
theorem dX8_ofVoice_164 : decode cX8_ofVoice 164 = .ok (.aload_n 0, 1) := by decide +kernel
theorem dX8_ofVoice_165 : decode cX8_ofVoice 165 = .ok (.iload 9, 2) := by decide +kernel
theorem dX8_ofVoice_167 : decode cX8_ofVoice 167 = .ok (.iload 10, 2) := by decide +kernel
theorem dX8_ofVoice_169 : decode cX8_ofVoice 169 = .ok (.invokevirtual 52, 3) := by decide +kernel
theorem dX8_ofVoice_172 : decode cX8_ofVoice 172 = .ok (.iadd, 1) := by decide +kernel
theorem dX8_ofVoice_173 : decode cX8_ofVoice 173 = .ok (.istore 8, 2) := by decide +kernel
theorem dX8_ofVoice_175 : decode cX8_ofVoice 175 = .ok (.aload_n 0, 1) := by decide +kernel
theorem dX8_ofVoice_176 : decode cX8_ofVoice 176 = .ok (.getfield 7, 3) := by decide +kernel
theorem dX8_ofVoice_179 : decode cX8_ofVoice 179 = .ok (.bipush 36, 2) := by decide +kernel
theorem dX8_ofVoice_181 : decode cX8_ofVoice 181 = .ok (.iload 9, 2) := by decide +kernel
theorem dX8_ofVoice_183 : decode cX8_ofVoice 183 = .ok (.iadd, 1) := by decide +kernel
theorem dX8_ofVoice_184 : decode cX8_ofVoice 184 = .ok (.iaload, 1) := by decide +kernel
theorem dX8_ofVoice_185 : decode cX8_ofVoice 185 = .ok (.istore 9, 2) := by decide +kernel
theorem dX8_ofVoice_187 : decode cX8_ofVoice 187 = .ok (.goto (-153), 3) := by decide +kernel
theorem dX8_ofVoice_190 : decode cX8_ofVoice 190 = .ok (.iload_n 2, 1) := by decide +kernel
theorem dX8_ofVoice_191 : decode cX8_ofVoice 191 = .ok (.tableswitch 53 0 5 #[37, 39, 41, 44, 47, 50], 37) := by decide +kernel
theorem dX8_ofVoice_228 : decode cX8_ofVoice 228 = .ok (.iload_n 3, 1) := by decide +kernel
theorem dX8_ofVoice_229 : decode cX8_ofVoice 229 = .ok (.ireturn, 1) := by decide +kernel
theorem dX8_ofVoice_230 : decode cX8_ofVoice 230 = .ok (.iload_n 1, 1) := by decide +kernel
theorem dX8_ofVoice_231 : decode cX8_ofVoice 231 = .ok (.ireturn, 1) := by decide +kernel
theorem dX8_ofVoice_232 : decode cX8_ofVoice 232 = .ok (.iload 4, 2) := by decide +kernel
theorem dX8_ofVoice_234 : decode cX8_ofVoice 234 = .ok (.ireturn, 1) := by decide +kernel
theorem dX8_ofVoice_235 : decode cX8_ofVoice 235 = .ok (.iload 5, 2) := by decide +kernel
theorem dX8_ofVoice_237 : decode cX8_ofVoice 237 = .ok (.ireturn, 1) := by decide +kernel
theorem dX8_ofVoice_238 : decode cX8_ofVoice 238 = .ok (.iload 6, 2) := by decide +kernel
theorem dX8_ofVoice_240 : decode cX8_ofVoice 240 = .ok (.ireturn, 1) := by decide +kernel
theorem dX8_ofVoice_241 : decode cX8_ofVoice 241 = .ok (.iload 7, 2) := by decide +kernel
theorem dX8_ofVoice_243 : decode cX8_ofVoice 243 = .ok (.ireturn, 1) := by decide +kernel
theorem dX8_ofVoice_244 : decode cX8_ofVoice 244 = .ok (.iload 8, 2) := by decide +kernel
theorem dX8_ofVoice_246 : decode cX8_ofVoice 246 = .ok (.ireturn, 1) := by decide +kernel
theorem dX8_voice_0 : decode cX8_voice 0 = .ok (.iload_n 1, 1) := by decide +kernel
theorem dX8_voice_1 : decode cX8_voice 1 = .ok (.i2l, 1) := by decide +kernel
theorem dX8_voice_2 : decode cX8_voice 2 = .ok (.lconst 0, 1) := by decide +kernel
theorem dX8_voice_3 : decode cX8_voice 3 = .ok (.aload_n 0, 1) := by decide +kernel
theorem dX8_voice_4 : decode cX8_voice 4 = .ok (.invokevirtual 75, 3) := by decide +kernel
theorem dX8_voice_7 : decode cX8_voice 7 = .ok (.iconst 1, 1) := by decide +kernel
theorem dX8_voice_8 : decode cX8_voice 8 = .ok (.isub, 1) := by decide +kernel
theorem dX8_voice_9 : decode cX8_voice 9 = .ok (.i2l, 1) := by decide +kernel
theorem dX8_voice_10 : decode cX8_voice 10 = .ok (.invokestatic 40, 3) := by decide +kernel
theorem dX8_voice_13 : decode cX8_voice 13 = .ok (.ifCond .ne 6, 3) := by decide +kernel
theorem dX8_voice_16 : decode cX8_voice 16 = .ok (.ldc 111, 2) := by decide +kernel
theorem dX8_voice_18 : decode cX8_voice 18 = .ok (.ireturn, 1) := by decide +kernel
theorem dX8_voice_19 : decode cX8_voice 19 = .ok (.iload_n 2, 1) := by decide +kernel
theorem dX8_voice_20 : decode cX8_voice 20 = .ok (.i2l, 1) := by decide +kernel
theorem dX8_voice_21 : decode cX8_voice 21 = .ok (.lconst 0, 1) := by decide +kernel
theorem dX8_voice_22 : decode cX8_voice 22 = .ok (.ldc2_w 124, 3) := by decide +kernel
theorem dX8_voice_25 : decode cX8_voice 25 = .ok (.invokestatic 40, 3) := by decide +kernel
theorem dX8_voice_28 : decode cX8_voice 28 = .ok (.ifCond .eq 16, 3) := by decide +kernel
theorem dX8_voice_31 : decode cX8_voice 31 = .ok (.aload_n 0, 1) := by decide +kernel
theorem dX8_voice_32 : decode cX8_voice 32 = .ok (.aload_n 0, 1) := by decide +kernel
theorem dX8_voice_33 : decode cX8_voice 33 = .ok (.iload_n 1, 1) := by decide +kernel
theorem dX8_voice_34 : decode cX8_voice 34 = .ok (.invokevirtual 126, 3) := by decide +kernel
theorem dX8_voice_37 : decode cX8_voice 37 = .ok (.iload_n 2, 1) := by decide +kernel
theorem dX8_voice_38 : decode cX8_voice 38 = .ok (.invokevirtual 129, 3) := by decide +kernel
theorem dX8_voice_41 : decode cX8_voice 41 = .ok (.goto 5, 3) := by decide +kernel
theorem dX8_voice_44 : decode cX8_voice 44 = .ok (.ldc 91, 2) := by decide +kernel
theorem dX8_voice_46 : decode cX8_voice 46 = .ok (.ireturn, 1) := by decide +kernel
theorem dX8_member_0 : decode cX8_member 0 = .ok (.iload_n 1, 1) := by decide +kernel
theorem dX8_member_1 : decode cX8_member 1 = .ok (.i2l, 1) := by decide +kernel
theorem dX8_member_2 : decode cX8_member 2 = .ok (.lconst 0, 1) := by decide +kernel
theorem dX8_member_3 : decode cX8_member 3 = .ok (.aload_n 0, 1) := by decide +kernel
theorem dX8_member_4 : decode cX8_member 4 = .ok (.invokevirtual 75, 3) := by decide +kernel
theorem dX8_member_7 : decode cX8_member 7 = .ok (.iconst 1, 1) := by decide +kernel
theorem dX8_member_8 : decode cX8_member 8 = .ok (.isub, 1) := by decide +kernel
theorem dX8_member_9 : decode cX8_member 9 = .ok (.i2l, 1) := by decide +kernel
theorem dX8_member_10 : decode cX8_member 10 = .ok (.invokestatic 40, 3) := by decide +kernel
theorem dX8_member_13 : decode cX8_member 13 = .ok (.ifCond .ne 6, 3) := by decide +kernel
theorem dX8_member_16 : decode cX8_member 16 = .ok (.ldc 111, 2) := by decide +kernel
theorem dX8_member_18 : decode cX8_member 18 = .ok (.ireturn, 1) := by decide +kernel
theorem dX8_member_19 : decode cX8_member 19 = .ok (.iload_n 2, 1) := by decide +kernel
theorem dX8_member_20 : decode cX8_member 20 = .ok (.ifCond .ge 6, 3) := by decide +kernel
theorem dX8_member_23 : decode cX8_member 23 = .ok (.ldc 91, 2) := by decide +kernel
theorem dX8_member_25 : decode cX8_member 25 = .ok (.ireturn, 1) := by decide +kernel
theorem dX8_member_26 : decode cX8_member 26 = .ok (.aload_n 0, 1) := by decide +kernel
theorem dX8_member_27 : decode cX8_member 27 = .ok (.iload_n 1, 1) := by decide +kernel
theorem dX8_member_28 : decode cX8_member 28 = .ok (.invokevirtual 126, 3) := by decide +kernel
theorem dX8_member_31 : decode cX8_member 31 = .ok (.istore_n 3, 1) := by decide +kernel
theorem dX8_member_32 : decode cX8_member 32 = .ok (.iconst 0, 1) := by decide +kernel
theorem dX8_member_33 : decode cX8_member 33 = .ok (.istore 4, 2) := by decide +kernel
theorem dX8_member_35 : decode cX8_member 35 = .ok (.iload 4, 2) := by decide +kernel
theorem dX8_member_37 : decode cX8_member 37 = .ok (.iload_n 2, 1) := by decide +kernel
theorem dX8_member_38 : decode cX8_member 38 = .ok (.if_icmp .ge 23, 3) := by decide +kernel
theorem dX8_member_41 : decode cX8_member 41 = .ok (.iload_n 3, 1) := by decide +kernel
theorem dX8_member_42 : decode cX8_member 42 = .ok (.ifCond .lt 19, 3) := by decide +kernel
theorem dX8_member_45 : decode cX8_member 45 = .ok (.aload_n 0, 1) := by decide +kernel
theorem dX8_member_46 : decode cX8_member 46 = .ok (.getfield 7, 3) := by decide +kernel
theorem dX8_member_49 : decode cX8_member 49 = .ok (.bipush 36, 2) := by decide +kernel
theorem dX8_member_51 : decode cX8_member 51 = .ok (.iload_n 3, 1) := by decide +kernel
theorem dX8_member_52 : decode cX8_member 52 = .ok (.iadd, 1) := by decide +kernel
theorem dX8_member_53 : decode cX8_member 53 = .ok (.iaload, 1) := by decide +kernel
theorem dX8_member_54 : decode cX8_member 54 = .ok (.istore_n 3, 1) := by decide +kernel
theorem dX8_member_55 : decode cX8_member 55 = .ok (.iinc 4 1, 3) := by decide +kernel
theorem dX8_member_58 : decode cX8_member 58 = .ok (.goto (-23), 3) := by decide +kernel
theorem dX8_member_61 : decode cX8_member 61 = .ok (.iload_n 3, 1) := by decide +kernel
theorem dX8_member_62 : decode cX8_member 62 = .ok (.ireturn, 1) := by decide +kernel
theorem dX8_isNoteOf_0 : decode cX8_isNoteOf 0 = .ok (.iload_n 1, 1) := by decide +kernel
theorem dX8_isNoteOf_1 : decode cX8_isNoteOf 1 = .ok (.i2l, 1) := by decide +kernel
theorem dX8_isNoteOf_2 : decode cX8_isNoteOf 2 = .ok (.lconst 0, 1) := by decide +kernel
theorem dX8_isNoteOf_3 : decode cX8_isNoteOf 3 = .ok (.ldc2_w 132, 3) := by decide +kernel
theorem dX8_isNoteOf_6 : decode cX8_isNoteOf 6 = .ok (.invokestatic 40, 3) := by decide +kernel
theorem dX8_isNoteOf_9 : decode cX8_isNoteOf 9 = .ok (.ifCond .eq 31, 3) := by decide +kernel
theorem dX8_isNoteOf_12 : decode cX8_isNoteOf 12 = .ok (.iload_n 2, 1) := by decide +kernel
theorem dX8_isNoteOf_13 : decode cX8_isNoteOf 13 = .ok (.i2l, 1) := by decide +kernel
theorem dX8_isNoteOf_14 : decode cX8_isNoteOf 14 = .ok (.lconst 1, 1) := by decide +kernel
theorem dX8_isNoteOf_15 : decode cX8_isNoteOf 15 = .ok (.ldc2_w 134, 3) := by decide +kernel
theorem dX8_isNoteOf_18 : decode cX8_isNoteOf 18 = .ok (.invokestatic 40, 3) := by decide +kernel
theorem dX8_isNoteOf_21 : decode cX8_isNoteOf 21 = .ok (.ifCond .eq 19, 3) := by decide +kernel
theorem dX8_isNoteOf_24 : decode cX8_isNoteOf 24 = .ok (.iload_n 3, 1) := by decide +kernel
theorem dX8_isNoteOf_25 : decode cX8_isNoteOf 25 = .ok (.i2l, 1) := by decide +kernel
theorem dX8_isNoteOf_26 : decode cX8_isNoteOf 26 = .ok (.lconst 0, 1) := by decide +kernel
theorem dX8_isNoteOf_27 : decode cX8_isNoteOf 27 = .ok (.ldc2_w 136, 3) := by decide +kernel
theorem dX8_isNoteOf_30 : decode cX8_isNoteOf 30 = .ok (.invokestatic 40, 3) := by decide +kernel
theorem dX8_isNoteOf_33 : decode cX8_isNoteOf 33 = .ok (.ifCond .eq 7, 3) := by decide +kernel
theorem dX8_isNoteOf_36 : decode cX8_isNoteOf 36 = .ok (.iconst 1, 1) := by decide +kernel
theorem dX8_isNoteOf_37 : decode cX8_isNoteOf 37 = .ok (.goto 4, 3) := by decide +kernel
theorem dX8_isNoteOf_40 : decode cX8_isNoteOf 40 = .ok (.iconst 0, 1) := by decide +kernel
theorem dX8_isNoteOf_41 : decode cX8_isNoteOf 41 = .ok (.ireturn, 1) := by decide +kernel
theorem dX8_stays_0 : decode cX8_stays 0 = .ok (.aload_n 0, 1) := by decide +kernel
theorem dX8_stays_1 : decode cX8_stays 1 = .ok (.getfield 7, 3) := by decide +kernel
theorem dX8_stays_4 : decode cX8_stays 4 = .ok (.bipush 6, 2) := by decide +kernel
theorem dX8_stays_6 : decode cX8_stays 6 = .ok (.iload_n 1, 1) := by decide +kernel
theorem dX8_stays_7 : decode cX8_stays 7 = .ok (.iadd, 1) := by decide +kernel
theorem dX8_stays_8 : decode cX8_stays 8 = .ok (.iaload, 1) := by decide +kernel
theorem dX8_stays_9 : decode cX8_stays 9 = .ok (.iload_n 2, 1) := by decide +kernel
theorem dX8_stays_10 : decode cX8_stays 10 = .ok (.if_icmp .eq 22, 3) := by decide +kernel
theorem dX8_stays_13 : decode cX8_stays 13 = .ok (.aload_n 0, 1) := by decide +kernel
theorem dX8_stays_14 : decode cX8_stays 14 = .ok (.getfield 7, 3) := by decide +kernel
theorem dX8_stays_17 : decode cX8_stays 17 = .ok (.bipush 6, 2) := by decide +kernel
theorem dX8_stays_19 : decode cX8_stays 19 = .ok (.iload_n 1, 1) := by decide +kernel
theorem dX8_stays_20 : decode cX8_stays 20 = .ok (.iadd, 1) := by decide +kernel
theorem dX8_stays_21 : decode cX8_stays 21 = .ok (.iaload, 1) := by decide +kernel
theorem dX8_stays_22 : decode cX8_stays 22 = .ok (.iload_n 2, 1) := by decide +kernel
theorem dX8_stays_23 : decode cX8_stays 23 = .ok (.if_icmp .ge 7, 3) := by decide +kernel
theorem dX8_stays_26 : decode cX8_stays 26 = .ok (.iconst 1, 1) := by decide +kernel
theorem dX8_stays_27 : decode cX8_stays 27 = .ok (.goto 4, 3) := by decide +kernel
theorem dX8_stays_30 : decode cX8_stays 30 = .ok (.iconst 0, 1) := by decide +kernel
theorem dX8_stays_31 : decode cX8_stays 31 = .ok (.ireturn, 1) := by decide +kernel
theorem dX8_stays_32 : decode cX8_stays 32 = .ok (.aload_n 0, 1) := by decide +kernel
theorem dX8_stays_33 : decode cX8_stays 33 = .ok (.getfield 7, 3) := by decide +kernel
theorem dX8_stays_36 : decode cX8_stays 36 = .ok (.bipush 26, 2) := by decide +kernel
theorem dX8_stays_38 : decode cX8_stays 38 = .ok (.iload_n 1, 1) := by decide +kernel
theorem dX8_stays_39 : decode cX8_stays 39 = .ok (.iadd, 1) := by decide +kernel
theorem dX8_stays_40 : decode cX8_stays 40 = .ok (.iaload, 1) := by decide +kernel
theorem dX8_stays_41 : decode cX8_stays 41 = .ok (.iload 4, 2) := by decide +kernel
theorem dX8_stays_43 : decode cX8_stays 43 = .ok (.if_icmp .eq 25, 3) := by decide +kernel
end
section
theorem dX8_stays_46 : decode cX8_stays 46 = .ok (.aload_n 0, 1) := by decide +kernel
theorem dX8_stays_47 : decode cX8_stays 47 = .ok (.getfield 7, 3) := by decide +kernel
theorem dX8_stays_50 : decode cX8_stays 50 = .ok (.bipush 26, 2) := by decide +kernel
theorem dX8_stays_52 : decode cX8_stays 52 = .ok (.iload_n 1, 1) := by decide +kernel
theorem dX8_stays_53 : decode cX8_stays 53 = .ok (.iadd, 1) := by decide +kernel
theorem dX8_stays_54 : decode cX8_stays 54 = .ok (.iaload, 1) := by decide +kernel
theorem dX8_stays_55 : decode cX8_stays 55 = .ok (.iload 4, 2) := by decide +kernel
theorem dX8_stays_57 : decode cX8_stays 57 = .ok (.if_icmp .ge 7, 3) := by decide +kernel
theorem dX8_stays_60 : decode cX8_stays 60 = .ok (.iconst 1, 1) := by decide +kernel
theorem dX8_stays_61 : decode cX8_stays 61 = .ok (.goto 25, 3) := by decide +kernel
theorem dX8_stays_64 : decode cX8_stays 64 = .ok (.iconst 0, 1) := by decide +kernel
theorem dX8_stays_65 : decode cX8_stays 65 = .ok (.goto 21, 3) := by decide +kernel
theorem dX8_stays_68 : decode cX8_stays 68 = .ok (.aload_n 0, 1) := by decide +kernel
theorem dX8_stays_69 : decode cX8_stays 69 = .ok (.getfield 7, 3) := by decide +kernel
theorem dX8_stays_72 : decode cX8_stays 72 = .ok (.bipush 16, 2) := by decide +kernel
theorem dX8_stays_74 : decode cX8_stays 74 = .ok (.iload_n 1, 1) := by decide +kernel
theorem dX8_stays_75 : decode cX8_stays 75 = .ok (.iadd, 1) := by decide +kernel
theorem dX8_stays_76 : decode cX8_stays 76 = .ok (.iaload, 1) := by decide +kernel
theorem dX8_stays_77 : decode cX8_stays 77 = .ok (.iload_n 3, 1) := by decide +kernel
theorem dX8_stays_78 : decode cX8_stays 78 = .ok (.if_icmp .gt 7, 3) := by decide +kernel
theorem dX8_stays_81 : decode cX8_stays 81 = .ok (.iconst 1, 1) := by decide +kernel
theorem dX8_stays_82 : decode cX8_stays 82 = .ok (.goto 4, 3) := by decide +kernel
theorem dX8_stays_85 : decode cX8_stays 85 = .ok (.iconst 0, 1) := by decide +kernel
theorem dX8_stays_86 : decode cX8_stays 86 = .ok (.ireturn, 1) := by decide +kernel
theorem dX8_add_0 : decode cX8_add 0 = .ok (.aload_n 0, 1) := by decide +kernel
theorem dX8_add_1 : decode cX8_add 1 = .ok (.getfield 7, 3) := by decide +kernel
theorem dX8_add_4 : decode cX8_add 4 = .ok (.iconst 0, 1) := by decide +kernel
theorem dX8_add_5 : decode cX8_add 5 = .ok (.iaload, 1) := by decide +kernel
theorem dX8_add_6 : decode cX8_add 6 = .ok (.istore 4, 2) := by decide +kernel
theorem dX8_add_8 : decode cX8_add 8 = .ok (.iload 4, 2) := by decide +kernel
theorem dX8_add_10 : decode cX8_add 10 = .ok (.ifCond .le 89, 3) := by decide +kernel
theorem dX8_add_13 : decode cX8_add 13 = .ok (.aload_n 0, 1) := by decide +kernel
theorem dX8_add_14 : decode cX8_add 14 = .ok (.iload 4, 2) := by decide +kernel
theorem dX8_add_16 : decode cX8_add 16 = .ok (.iconst 1, 1) := by decide +kernel
theorem dX8_add_17 : decode cX8_add 17 = .ok (.isub, 1) := by decide +kernel
theorem dX8_add_18 : decode cX8_add 18 = .ok (.iload_n 1, 1) := by decide +kernel
theorem dX8_add_19 : decode cX8_add 19 = .ok (.iload_n 2, 1) := by decide +kernel
theorem dX8_add_20 : decode cX8_add 20 = .ok (.iload_n 3, 1) := by decide +kernel
theorem dX8_add_21 : decode cX8_add 21 = .ok (.invokevirtual 138, 3) := by decide +kernel
theorem dX8_add_24 : decode cX8_add 24 = .ok (.ifCond .ne 75, 3) := by decide +kernel
theorem dX8_add_27 : decode cX8_add 27 = .ok (.aload_n 0, 1) := by decide +kernel
theorem dX8_add_28 : decode cX8_add 28 = .ok (.getfield 7, 3) := by decide +kernel
theorem dX8_add_31 : decode cX8_add 31 = .ok (.bipush 6, 2) := by decide +kernel
theorem dX8_add_33 : decode cX8_add 33 = .ok (.iload 4, 2) := by decide +kernel
theorem dX8_add_35 : decode cX8_add 35 = .ok (.iadd, 1) := by decide +kernel
theorem dX8_add_36 : decode cX8_add 36 = .ok (.aload_n 0, 1) := by decide +kernel
theorem dX8_add_37 : decode cX8_add 37 = .ok (.getfield 7, 3) := by decide +kernel
theorem dX8_add_40 : decode cX8_add 40 = .ok (.bipush 6, 2) := by decide +kernel
theorem dX8_add_42 : decode cX8_add 42 = .ok (.iload 4, 2) := by decide +kernel
theorem dX8_add_44 : decode cX8_add 44 = .ok (.iadd, 1) := by decide +kernel
theorem dX8_add_45 : decode cX8_add 45 = .ok (.iconst 1, 1) := by decide +kernel
theorem dX8_add_46 : decode cX8_add 46 = .ok (.isub, 1) := by decide +kernel
theorem dX8_add_47 : decode cX8_add 47 = .ok (.iaload, 1) := by decide +kernel
theorem dX8_add_48 : decode cX8_add 48 = .ok (.iastore, 1) := by decide +kernel
theorem dX8_add_49 : decode cX8_add 49 = .ok (.aload_n 0, 1) := by decide +kernel
theorem dX8_add_50 : decode cX8_add 50 = .ok (.getfield 7, 3) := by decide +kernel
theorem dX8_add_53 : decode cX8_add 53 = .ok (.bipush 16, 2) := by decide +kernel
theorem dX8_add_55 : decode cX8_add 55 = .ok (.iload 4, 2) := by decide +kernel
theorem dX8_add_57 : decode cX8_add 57 = .ok (.iadd, 1) := by decide +kernel
theorem dX8_add_58 : decode cX8_add 58 = .ok (.aload_n 0, 1) := by decide +kernel
theorem dX8_add_59 : decode cX8_add 59 = .ok (.getfield 7, 3) := by decide +kernel
theorem dX8_add_62 : decode cX8_add 62 = .ok (.bipush 16, 2) := by decide +kernel
theorem dX8_add_64 : decode cX8_add 64 = .ok (.iload 4, 2) := by decide +kernel
theorem dX8_add_66 : decode cX8_add 66 = .ok (.iadd, 1) := by decide +kernel
theorem dX8_add_67 : decode cX8_add 67 = .ok (.iconst 1, 1) := by decide +kernel
theorem dX8_add_68 : decode cX8_add 68 = .ok (.isub, 1) := by decide +kernel
theorem dX8_add_69 : decode cX8_add 69 = .ok (.iaload, 1) := by decide +kernel
theorem dX8_add_70 : decode cX8_add 70 = .ok (.iastore, 1) := by decide +kernel
theorem dX8_add_71 : decode cX8_add 71 = .ok (.aload_n 0, 1) := by decide +kernel
theorem dX8_add_72 : decode cX8_add 72 = .ok (.getfield 7, 3) := by decide +kernel
theorem dX8_add_75 : decode cX8_add 75 = .ok (.bipush 26, 2) := by decide +kernel
theorem dX8_add_77 : decode cX8_add 77 = .ok (.iload 4, 2) := by decide +kernel
theorem dX8_add_79 : decode cX8_add 79 = .ok (.iadd, 1) := by decide +kernel
theorem dX8_add_80 : decode cX8_add 80 = .ok (.aload_n 0, 1) := by decide +kernel
theorem dX8_add_81 : decode cX8_add 81 = .ok (.getfield 7, 3) := by decide +kernel
theorem dX8_add_84 : decode cX8_add 84 = .ok (.bipush 26, 2) := by decide +kernel
theorem dX8_add_86 : decode cX8_add 86 = .ok (.iload 4, 2) := by decide +kernel
theorem dX8_add_88 : decode cX8_add 88 = .ok (.iadd, 1) := by decide +kernel
theorem dX8_add_89 : decode cX8_add 89 = .ok (.iconst 1, 1) := by decide +kernel
theorem dX8_add_90 : decode cX8_add 90 = .ok (.isub, 1) := by decide +kernel
theorem dX8_add_91 : decode cX8_add 91 = .ok (.iaload, 1) := by decide +kernel
theorem dX8_add_92 : decode cX8_add 92 = .ok (.iastore, 1) := by decide +kernel
theorem dX8_add_93 : decode cX8_add 93 = .ok (.iinc 4 (-1), 3) := by decide +kernel
theorem dX8_add_96 : decode cX8_add 96 = .ok (.goto (-88), 3) := by decide +kernel
theorem dX8_add_99 : decode cX8_add 99 = .ok (.aload_n 0, 1) := by decide +kernel
theorem dX8_add_100 : decode cX8_add 100 = .ok (.getfield 7, 3) := by decide +kernel
theorem dX8_add_103 : decode cX8_add 103 = .ok (.bipush 6, 2) := by decide +kernel
theorem dX8_add_105 : decode cX8_add 105 = .ok (.iload 4, 2) := by decide +kernel
theorem dX8_add_107 : decode cX8_add 107 = .ok (.iadd, 1) := by decide +kernel
theorem dX8_add_108 : decode cX8_add 108 = .ok (.iload_n 1, 1) := by decide +kernel
theorem dX8_add_109 : decode cX8_add 109 = .ok (.iastore, 1) := by decide +kernel
theorem dX8_add_110 : decode cX8_add 110 = .ok (.aload_n 0, 1) := by decide +kernel
theorem dX8_add_111 : decode cX8_add 111 = .ok (.getfield 7, 3) := by decide +kernel
theorem dX8_add_114 : decode cX8_add 114 = .ok (.bipush 16, 2) := by decide +kernel
theorem dX8_add_116 : decode cX8_add 116 = .ok (.iload 4, 2) := by decide +kernel
theorem dX8_add_118 : decode cX8_add 118 = .ok (.iadd, 1) := by decide +kernel
theorem dX8_add_119 : decode cX8_add 119 = .ok (.iload_n 2, 1) := by decide +kernel
theorem dX8_add_120 : decode cX8_add 120 = .ok (.iastore, 1) := by decide +kernel
theorem dX8_add_121 : decode cX8_add 121 = .ok (.aload_n 0, 1) := by decide +kernel
theorem dX8_add_122 : decode cX8_add 122 = .ok (.getfield 7, 3) := by decide +kernel
theorem dX8_add_125 : decode cX8_add 125 = .ok (.bipush 26, 2) := by decide +kernel
theorem dX8_add_127 : decode cX8_add 127 = .ok (.iload 4, 2) := by decide +kernel
theorem dX8_add_129 : decode cX8_add 129 = .ok (.iadd, 1) := by decide +kernel
theorem dX8_add_130 : decode cX8_add 130 = .ok (.iload_n 3, 1) := by decide +kernel
theorem dX8_add_131 : decode cX8_add 131 = .ok (.iastore, 1) := by decide +kernel
theorem dX8_add_132 : decode cX8_add 132 = .ok (.aload_n 0, 1) := by decide +kernel
theorem dX8_add_133 : decode cX8_add 133 = .ok (.getfield 7, 3) := by decide +kernel
theorem dX8_add_136 : decode cX8_add 136 = .ok (.iconst 0, 1) := by decide +kernel
theorem dX8_add_137 : decode cX8_add 137 = .ok (.dup2, 1) := by decide +kernel
theorem dX8_add_138 : decode cX8_add 138 = .ok (.iaload, 1) := by decide +kernel
theorem dX8_add_139 : decode cX8_add 139 = .ok (.iconst 1, 1) := by decide +kernel
theorem dX8_add_140 : decode cX8_add 140 = .ok (.iadd, 1) := by decide +kernel
theorem dX8_add_141 : decode cX8_add 141 = .ok (.iastore, 1) := by decide +kernel
theorem dX8_add_142 : decode cX8_add 142 = .ok (.aload_n 0, 1) := by decide +kernel
theorem dX8_add_143 : decode cX8_add 143 = .ok (.invokevirtual 142, 3) := by decide +kernel
theorem dX8_add_146 : decode cX8_add 146 = .ok (.iload 4, 2) := by decide +kernel
theorem dX8_add_148 : decode cX8_add 148 = .ok (.ireturn, 1) := by decide +kernel
theorem dX8_remove_0 : decode cX8_remove 0 = .ok (.iload_n 1, 1) := by decide +kernel
theorem dX8_remove_1 : decode cX8_remove 1 = .ok (.istore_n 2, 1) := by decide +kernel
theorem dX8_remove_2 : decode cX8_remove 2 = .ok (.iload_n 2, 1) := by decide +kernel
theorem dX8_remove_3 : decode cX8_remove 3 = .ok (.aload_n 0, 1) := by decide +kernel
theorem dX8_remove_4 : decode cX8_remove 4 = .ok (.getfield 7, 3) := by decide +kernel
theorem dX8_remove_7 : decode cX8_remove 7 = .ok (.iconst 0, 1) := by decide +kernel
theorem dX8_remove_8 : decode cX8_remove 8 = .ok (.iaload, 1) := by decide +kernel
theorem dX8_remove_9 : decode cX8_remove 9 = .ok (.iconst 1, 1) := by decide +kernel
theorem dX8_remove_10 : decode cX8_remove 10 = .ok (.isub, 1) := by decide +kernel
theorem dX8_remove_11 : decode cX8_remove 11 = .ok (.if_icmp .ge 69, 3) := by decide +kernel
theorem dX8_remove_14 : decode cX8_remove 14 = .ok (.aload_n 0, 1) := by decide +kernel
theorem dX8_remove_15 : decode cX8_remove 15 = .ok (.getfield 7, 3) := by decide +kernel
theorem dX8_remove_18 : decode cX8_remove 18 = .ok (.bipush 6, 2) := by decide +kernel
theorem dX8_remove_20 : decode cX8_remove 20 = .ok (.iload_n 2, 1) := by decide +kernel
theorem dX8_remove_21 : decode cX8_remove 21 = .ok (.iadd, 1) := by decide +kernel
theorem dX8_remove_22 : decode cX8_remove 22 = .ok (.aload_n 0, 1) := by decide +kernel
theorem dX8_remove_23 : decode cX8_remove 23 = .ok (.getfield 7, 3) := by decide +kernel
theorem dX8_remove_26 : decode cX8_remove 26 = .ok (.bipush 6, 2) := by decide +kernel
theorem dX8_remove_28 : decode cX8_remove 28 = .ok (.iload_n 2, 1) := by decide +kernel
theorem dX8_remove_29 : decode cX8_remove 29 = .ok (.iadd, 1) := by decide +kernel
theorem dX8_remove_30 : decode cX8_remove 30 = .ok (.iconst 1, 1) := by decide +kernel
theorem dX8_remove_31 : decode cX8_remove 31 = .ok (.iadd, 1) := by decide +kernel
theorem dX8_remove_32 : decode cX8_remove 32 = .ok (.iaload, 1) := by decide +kernel
theorem dX8_remove_33 : decode cX8_remove 33 = .ok (.iastore, 1) := by decide +kernel
theorem dX8_remove_34 : decode cX8_remove 34 = .ok (.aload_n 0, 1) := by decide +kernel
theorem dX8_remove_35 : decode cX8_remove 35 = .ok (.getfield 7, 3) := by decide +kernel
theorem dX8_remove_38 : decode cX8_remove 38 = .ok (.bipush 16, 2) := by decide +kernel
theorem dX8_remove_40 : decode cX8_remove 40 = .ok (.iload_n 2, 1) := by decide +kernel
theorem dX8_remove_41 : decode cX8_remove 41 = .ok (.iadd, 1) := by decide +kernel
theorem dX8_remove_42 : decode cX8_remove 42 = .ok (.aload_n 0, 1) := by decide +kernel
theorem dX8_remove_43 : decode cX8_remove 43 = .ok (.getfield 7, 3) := by decide +kernel
theorem dX8_remove_46 : decode cX8_remove 46 = .ok (.bipush 16, 2) := by decide +kernel
theorem dX8_remove_48 : decode cX8_remove 48 = .ok (.iload_n 2, 1) := by decide +kernel
theorem dX8_remove_49 : decode cX8_remove 49 = .ok (.iadd, 1) := by decide +kernel
theorem dX8_remove_50 : decode cX8_remove 50 = .ok (.iconst 1, 1) := by decide +kernel
theorem dX8_remove_51 : decode cX8_remove 51 = .ok (.iadd, 1) := by decide +kernel
theorem dX8_remove_52 : decode cX8_remove 52 = .ok (.iaload, 1) := by decide +kernel
theorem dX8_remove_53 : decode cX8_remove 53 = .ok (.iastore, 1) := by decide +kernel
theorem dX8_remove_54 : decode cX8_remove 54 = .ok (.aload_n 0, 1) := by decide +kernel
theorem dX8_remove_55 : decode cX8_remove 55 = .ok (.getfield 7, 3) := by decide +kernel
theorem dX8_remove_58 : decode cX8_remove 58 = .ok (.bipush 26, 2) := by decide +kernel
theorem dX8_remove_60 : decode cX8_remove 60 = .ok (.iload_n 2, 1) := by decide +kernel
theorem dX8_remove_61 : decode cX8_remove 61 = .ok (.iadd, 1) := by decide +kernel
theorem dX8_remove_62 : decode cX8_remove 62 = .ok (.aload_n 0, 1) := by decide +kernel
theorem dX8_remove_63 : decode cX8_remove 63 = .ok (.getfield 7, 3) := by decide +kernel
theorem dX8_remove_66 : decode cX8_remove 66 = .ok (.bipush 26, 2) := by decide +kernel
theorem dX8_remove_68 : decode cX8_remove 68 = .ok (.iload_n 2, 1) := by decide +kernel
theorem dX8_remove_69 : decode cX8_remove 69 = .ok (.iadd, 1) := by decide +kernel
theorem dX8_remove_70 : decode cX8_remove 70 = .ok (.iconst 1, 1) := by decide +kernel
theorem dX8_remove_71 : decode cX8_remove 71 = .ok (.iadd, 1) := by decide +kernel
theorem dX8_remove_72 : decode cX8_remove 72 = .ok (.iaload, 1) := by decide +kernel
theorem dX8_remove_73 : decode cX8_remove 73 = .ok (.iastore, 1) := by decide +kernel
theorem dX8_remove_74 : decode cX8_remove 74 = .ok (.iinc 2 1, 3) := by decide +kernel
theorem dX8_remove_77 : decode cX8_remove 77 = .ok (.goto (-75), 3) := by decide +kernel
theorem dX8_remove_80 : decode cX8_remove 80 = .ok (.aload_n 0, 1) := by decide +kernel
theorem dX8_remove_81 : decode cX8_remove 81 = .ok (.getfield 7, 3) := by decide +kernel
theorem dX8_remove_84 : decode cX8_remove 84 = .ok (.iconst 0, 1) := by decide +kernel
theorem dX8_remove_85 : decode cX8_remove 85 = .ok (.dup2, 1) := by decide +kernel
theorem dX8_remove_86 : decode cX8_remove 86 = .ok (.iaload, 1) := by decide +kernel
theorem dX8_remove_87 : decode cX8_remove 87 = .ok (.iconst 1, 1) := by decide +kernel
theorem dX8_remove_88 : decode cX8_remove 88 = .ok (.isub, 1) := by decide +kernel
theorem dX8_remove_89 : decode cX8_remove 89 = .ok (.iastore, 1) := by decide +kernel
theorem dX8_remove_90 : decode cX8_remove 90 = .ok (.aload_n 0, 1) := by decide +kernel
theorem dX8_remove_91 : decode cX8_remove 91 = .ok (.invokevirtual 142, 3) := by decide +kernel
theorem dX8_remove_94 : decode cX8_remove 94 = .ok (.return_, 1) := by decide +kernel
theorem dX8_note_0 : decode cX8_note 0 = .ok (.aload_n 0, 1) := by decide +kernel
theorem dX8_note_1 : decode cX8_note 1 = .ok (.iload_n 1, 1) := by decide +kernel
theorem dX8_note_2 : decode cX8_note 2 = .ok (.iload_n 2, 1) := by decide +kernel
theorem dX8_note_3 : decode cX8_note 3 = .ok (.iload_n 3, 1) := by decide +kernel
theorem dX8_note_4 : decode cX8_note 4 = .ok (.invokevirtual 145, 3) := by decide +kernel
theorem dX8_note_7 : decode cX8_note 7 = .ok (.ifCond .ne 6, 3) := by decide +kernel
theorem dX8_note_10 : decode cX8_note 10 = .ok (.ldc 91, 2) := by decide +kernel
theorem dX8_note_12 : decode cX8_note 12 = .ok (.ireturn, 1) := by decide +kernel
theorem dX8_note_13 : decode cX8_note 13 = .ok (.aload_n 0, 1) := by decide +kernel
theorem dX8_note_14 : decode cX8_note 14 = .ok (.getfield 7, 3) := by decide +kernel
theorem dX8_note_17 : decode cX8_note 17 = .ok (.iconst 0, 1) := by decide +kernel
theorem dX8_note_18 : decode cX8_note 18 = .ok (.iaload, 1) := by decide +kernel
theorem dX8_note_19 : decode cX8_note 19 = .ok (.bipush 10, 2) := by decide +kernel
theorem dX8_note_21 : decode cX8_note 21 = .ok (.if_icmp .ne 6, 3) := by decide +kernel
theorem dX8_note_24 : decode cX8_note 24 = .ok (.ldc 149, 2) := by decide +kernel
theorem dX8_note_26 : decode cX8_note 26 = .ok (.ireturn, 1) := by decide +kernel
theorem dX8_note_27 : decode cX8_note 27 = .ok (.aload_n 0, 1) := by decide +kernel
theorem dX8_note_28 : decode cX8_note 28 = .ok (.invokevirtual 150, 3) := by decide +kernel
theorem dX8_note_31 : decode cX8_note 31 = .ok (.aload_n 0, 1) := by decide +kernel
theorem dX8_note_32 : decode cX8_note 32 = .ok (.iload_n 1, 1) := by decide +kernel
theorem dX8_note_33 : decode cX8_note 33 = .ok (.iload_n 2, 1) := by decide +kernel
theorem dX8_note_34 : decode cX8_note 34 = .ok (.iload_n 3, 1) := by decide +kernel
theorem dX8_note_35 : decode cX8_note 35 = .ok (.invokevirtual 153, 3) := by decide +kernel
theorem dX8_note_38 : decode cX8_note 38 = .ok (.ireturn, 1) := by decide +kernel
theorem dX8_take_0 : decode cX8_take 0 = .ok (.aload_n 0, 1) := by decide +kernel
theorem dX8_take_1 : decode cX8_take 1 = .ok (.iload_n 1, 1) := by decide +kernel
theorem dX8_take_2 : decode cX8_take 2 = .ok (.invokevirtual 107, 3) := by decide +kernel
theorem dX8_take_5 : decode cX8_take 5 = .ok (.ifCond .ne 6, 3) := by decide +kernel
theorem dX8_take_8 : decode cX8_take 8 = .ok (.ldc 111, 2) := by decide +kernel
theorem dX8_take_10 : decode cX8_take 10 = .ok (.ireturn, 1) := by decide +kernel
theorem dX8_take_11 : decode cX8_take 11 = .ok (.aload_n 0, 1) := by decide +kernel
theorem dX8_take_12 : decode cX8_take 12 = .ok (.invokevirtual 150, 3) := by decide +kernel
theorem dX8_take_15 : decode cX8_take 15 = .ok (.aload_n 0, 1) := by decide +kernel
theorem dX8_take_16 : decode cX8_take 16 = .ok (.iload_n 1, 1) := by decide +kernel
theorem dX8_take_17 : decode cX8_take 17 = .ok (.invokevirtual 156, 3) := by decide +kernel
theorem dX8_take_20 : decode cX8_take 20 = .ok (.aload_n 0, 1) := by decide +kernel
theorem dX8_take_21 : decode cX8_take 21 = .ok (.getfield 7, 3) := by decide +kernel
theorem dX8_take_24 : decode cX8_take 24 = .ok (.iconst 0, 1) := by decide +kernel
theorem dX8_take_25 : decode cX8_take 25 = .ok (.iaload, 1) := by decide +kernel
theorem dX8_take_26 : decode cX8_take 26 = .ok (.ireturn, 1) := by decide +kernel
theorem dX8_move_0 : decode cX8_move 0 = .ok (.aload_n 0, 1) := by decide +kernel
theorem dX8_move_1 : decode cX8_move 1 = .ok (.iload_n 1, 1) := by decide +kernel
theorem dX8_move_2 : decode cX8_move 2 = .ok (.invokevirtual 107, 3) := by decide +kernel
theorem dX8_move_5 : decode cX8_move 5 = .ok (.ifCond .ne 6, 3) := by decide +kernel
theorem dX8_move_8 : decode cX8_move 8 = .ok (.ldc 111, 2) := by decide +kernel
theorem dX8_move_10 : decode cX8_move 10 = .ok (.ireturn, 1) := by decide +kernel
theorem dX8_move_11 : decode cX8_move 11 = .ok (.aload_n 0, 1) := by decide +kernel
theorem dX8_move_12 : decode cX8_move 12 = .ok (.iload_n 2, 1) := by decide +kernel
theorem dX8_move_13 : decode cX8_move 13 = .ok (.iload_n 3, 1) := by decide +kernel
theorem dX8_move_14 : decode cX8_move 14 = .ok (.iload 4, 2) := by decide +kernel
theorem dX8_move_16 : decode cX8_move 16 = .ok (.invokevirtual 145, 3) := by decide +kernel
theorem dX8_move_19 : decode cX8_move 19 = .ok (.ifCond .ne 6, 3) := by decide +kernel
theorem dX8_move_22 : decode cX8_move 22 = .ok (.ldc 91, 2) := by decide +kernel
theorem dX8_move_24 : decode cX8_move 24 = .ok (.ireturn, 1) := by decide +kernel
theorem dX8_move_25 : decode cX8_move 25 = .ok (.aload_n 0, 1) := by decide +kernel
theorem dX8_move_26 : decode cX8_move 26 = .ok (.invokevirtual 150, 3) := by decide +kernel
theorem dX8_move_29 : decode cX8_move 29 = .ok (.aload_n 0, 1) := by decide +kernel
theorem dX8_move_30 : decode cX8_move 30 = .ok (.iload_n 1, 1) := by decide +kernel
theorem dX8_move_31 : decode cX8_move 31 = .ok (.invokevirtual 156, 3) := by decide +kernel
theorem dX8_move_34 : decode cX8_move 34 = .ok (.aload_n 0, 1) := by decide +kernel
theorem dX8_move_35 : decode cX8_move 35 = .ok (.iload_n 2, 1) := by decide +kernel
theorem dX8_move_36 : decode cX8_move 36 = .ok (.iload_n 3, 1) := by decide +kernel
theorem dX8_move_37 : decode cX8_move 37 = .ok (.iload 4, 2) := by decide +kernel
theorem dX8_move_39 : decode cX8_move 39 = .ok (.invokevirtual 153, 3) := by decide +kernel
theorem dX8_move_42 : decode cX8_move 42 = .ok (.ireturn, 1) := by decide +kernel
theorem dX8_share_0 : decode cX8_share 0 = .ok (.aload_n 0, 1) := by decide +kernel
theorem dX8_share_1 : decode cX8_share 1 = .ok (.iload_n 1, 1) := by decide +kernel
theorem dX8_share_2 : decode cX8_share 2 = .ok (.invokevirtual 107, 3) := by decide +kernel
theorem dX8_share_5 : decode cX8_share 5 = .ok (.ifCond .ne 6, 3) := by decide +kernel
theorem dX8_share_8 : decode cX8_share 8 = .ok (.ldc 111, 2) := by decide +kernel
theorem dX8_share_10 : decode cX8_share 10 = .ok (.ireturn, 1) := by decide +kernel
theorem dX8_share_11 : decode cX8_share 11 = .ok (.aload_n 0, 1) := by decide +kernel
theorem dX8_share_12 : decode cX8_share 12 = .ok (.getfield 7, 3) := by decide +kernel
theorem dX8_share_15 : decode cX8_share 15 = .ok (.iconst 0, 1) := by decide +kernel
theorem dX8_share_16 : decode cX8_share 16 = .ok (.iaload, 1) := by decide +kernel
theorem dX8_share_17 : decode cX8_share 17 = .ok (.bipush 10, 2) := by decide +kernel
theorem dX8_share_19 : decode cX8_share 19 = .ok (.if_icmp .ne 6, 3) := by decide +kernel
theorem dX8_share_22 : decode cX8_share 22 = .ok (.ldc 149, 2) := by decide +kernel
theorem dX8_share_24 : decode cX8_share 24 = .ok (.ireturn, 1) := by decide +kernel
theorem dX8_share_25 : decode cX8_share 25 = .ok (.aload_n 0, 1) := by decide +kernel
theorem dX8_share_26 : decode cX8_share 26 = .ok (.invokevirtual 150, 3) := by decide +kernel
theorem dX8_share_29 : decode cX8_share 29 = .ok (.aload_n 0, 1) := by decide +kernel
theorem dX8_share_30 : decode cX8_share 30 = .ok (.aload_n 0, 1) := by decide +kernel
theorem dX8_share_31 : decode cX8_share 31 = .ok (.getfield 7, 3) := by decide +kernel
theorem dX8_share_34 : decode cX8_share 34 = .ok (.bipush 6, 2) := by decide +kernel
theorem dX8_share_36 : decode cX8_share 36 = .ok (.iload_n 1, 1) := by decide +kernel
theorem dX8_share_37 : decode cX8_share 37 = .ok (.iadd, 1) := by decide +kernel
theorem dX8_share_38 : decode cX8_share 38 = .ok (.iaload, 1) := by decide +kernel
theorem dX8_share_39 : decode cX8_share 39 = .ok (.aload_n 0, 1) := by decide +kernel
theorem dX8_share_40 : decode cX8_share 40 = .ok (.getfield 7, 3) := by decide +kernel
theorem dX8_share_43 : decode cX8_share 43 = .ok (.bipush 16, 2) := by decide +kernel
theorem dX8_share_45 : decode cX8_share 45 = .ok (.iload_n 1, 1) := by decide +kernel
theorem dX8_share_46 : decode cX8_share 46 = .ok (.iadd, 1) := by decide +kernel
theorem dX8_share_47 : decode cX8_share 47 = .ok (.iaload, 1) := by decide +kernel
theorem dX8_share_48 : decode cX8_share 48 = .ok (.aload_n 0, 1) := by decide +kernel
theorem dX8_share_49 : decode cX8_share 49 = .ok (.getfield 7, 3) := by decide +kernel
theorem dX8_share_52 : decode cX8_share 52 = .ok (.bipush 26, 2) := by decide +kernel
theorem dX8_share_54 : decode cX8_share 54 = .ok (.iload_n 1, 1) := by decide +kernel
theorem dX8_share_55 : decode cX8_share 55 = .ok (.iadd, 1) := by decide +kernel
theorem dX8_share_56 : decode cX8_share 56 = .ok (.iaload, 1) := by decide +kernel
theorem dX8_share_57 : decode cX8_share 57 = .ok (.invokevirtual 153, 3) := by decide +kernel
theorem dX8_share_60 : decode cX8_share 60 = .ok (.ireturn, 1) := by decide +kernel
theorem dX8_term_0 : decode cX8_term 0 = .ok (.iload_n 1, 1) := by decide +kernel
theorem dX8_term_1 : decode cX8_term 1 = .ok (.iconst 2, 1) := by decide +kernel
theorem dX8_term_2 : decode cX8_term 2 = .ok (.if_icmp .ge 8, 3) := by decide +kernel
theorem dX8_term_5 : decode cX8_term 5 = .ok (.bipush 9, 2) := by decide +kernel
theorem dX8_term_7 : decode cX8_term 7 = .ok (.goto 16, 3) := by decide +kernel
theorem dX8_term_10 : decode cX8_term 10 = .ok (.iload_n 1, 1) := by decide +kernel
theorem dX8_term_11 : decode cX8_term 11 = .ok (.iconst 3, 1) := by decide +kernel
theorem dX8_term_12 : decode cX8_term 12 = .ok (.if_icmp .ne 9, 3) := by decide +kernel
theorem dX8_term_15 : decode cX8_term 15 = .ok (.sipush 999, 3) := by decide +kernel
theorem dX8_term_18 : decode cX8_term 18 = .ok (.goto 5, 3) := by decide +kernel
theorem dX8_term_21 : decode cX8_term 21 = .ok (.bipush 99, 2) := by decide +kernel
theorem dX8_term_23 : decode cX8_term 23 = .ok (.istore_n 3, 1) := by decide +kernel
theorem dX8_term_24 : decode cX8_term 24 = .ok (.iload_n 1, 1) := by decide +kernel
theorem dX8_term_25 : decode cX8_term 25 = .ok (.i2l, 1) := by decide +kernel
theorem dX8_term_26 : decode cX8_term 26 = .ok (.lconst 0, 1) := by decide +kernel
theorem dX8_term_27 : decode cX8_term 27 = .ok (.ldc2_w 160, 3) := by decide +kernel
theorem dX8_term_30 : decode cX8_term 30 = .ok (.invokestatic 40, 3) := by decide +kernel
theorem dX8_term_33 : decode cX8_term 33 = .ok (.ifCond .eq 14, 3) := by decide +kernel
theorem dX8_term_36 : decode cX8_term 36 = .ok (.iload_n 2, 1) := by decide +kernel
theorem dX8_term_37 : decode cX8_term 37 = .ok (.i2l, 1) := by decide +kernel
theorem dX8_term_38 : decode cX8_term 38 = .ok (.lconst 0, 1) := by decide +kernel
theorem dX8_term_39 : decode cX8_term 39 = .ok (.iload_n 3, 1) := by decide +kernel
theorem dX8_term_40 : decode cX8_term 40 = .ok (.i2l, 1) := by decide +kernel
theorem dX8_term_41 : decode cX8_term 41 = .ok (.invokestatic 40, 3) := by decide +kernel
theorem dX8_term_44 : decode cX8_term 44 = .ok (.ifCond .ne 6, 3) := by decide +kernel
theorem dX8_term_47 : decode cX8_term 47 = .ok (.ldc 91, 2) := by decide +kernel
theorem dX8_term_49 : decode cX8_term 49 = .ok (.ireturn, 1) := by decide +kernel
theorem dX8_term_50 : decode cX8_term 50 = .ok (.aload_n 0, 1) := by decide +kernel
theorem dX8_term_51 : decode cX8_term 51 = .ok (.invokevirtual 150, 3) := by decide +kernel
theorem dX8_term_54 : decode cX8_term 54 = .ok (.aload_n 0, 1) := by decide +kernel
theorem dX8_term_55 : decode cX8_term 55 = .ok (.getfield 7, 3) := by decide +kernel
theorem dX8_term_58 : decode cX8_term 58 = .ok (.iconst 1, 1) := by decide +kernel
theorem dX8_term_59 : decode cX8_term 59 = .ok (.iload_n 1, 1) := by decide +kernel
theorem dX8_term_60 : decode cX8_term 60 = .ok (.iadd, 1) := by decide +kernel
theorem dX8_term_61 : decode cX8_term 61 = .ok (.iaload, 1) := by decide +kernel
theorem dX8_term_62 : decode cX8_term 62 = .ok (.istore 4, 2) := by decide +kernel
theorem dX8_term_64 : decode cX8_term 64 = .ok (.aload_n 0, 1) := by decide +kernel
theorem dX8_term_65 : decode cX8_term 65 = .ok (.getfield 7, 3) := by decide +kernel
theorem dX8_term_68 : decode cX8_term 68 = .ok (.iconst 1, 1) := by decide +kernel
theorem dX8_term_69 : decode cX8_term 69 = .ok (.iload_n 1, 1) := by decide +kernel
theorem dX8_term_70 : decode cX8_term 70 = .ok (.iadd, 1) := by decide +kernel
theorem dX8_term_71 : decode cX8_term 71 = .ok (.iload_n 2, 1) := by decide +kernel
theorem dX8_term_72 : decode cX8_term 72 = .ok (.iastore, 1) := by decide +kernel
theorem dX8_term_73 : decode cX8_term 73 = .ok (.aload_n 0, 1) := by decide +kernel
theorem dX8_term_74 : decode cX8_term 74 = .ok (.invokevirtual 142, 3) := by decide +kernel
theorem dX8_term_77 : decode cX8_term 77 = .ok (.iload 4, 2) := by decide +kernel
theorem dX8_term_79 : decode cX8_term 79 = .ok (.ireturn, 1) := by decide +kernel
theorem dX8_follow_0 : decode cX8_follow 0 = .ok (.aload_n 0, 1) := by decide +kernel
theorem dX8_follow_1 : decode cX8_follow 1 = .ok (.iload_n 1, 1) := by decide +kernel
theorem dX8_follow_2 : decode cX8_follow 2 = .ok (.invokevirtual 107, 3) := by decide +kernel
theorem dX8_follow_5 : decode cX8_follow 5 = .ok (.ifCond .eq 11, 3) := by decide +kernel
theorem dX8_follow_8 : decode cX8_follow 8 = .ok (.aload_n 0, 1) := by decide +kernel
theorem dX8_follow_9 : decode cX8_follow 9 = .ok (.iload_n 2, 1) := by decide +kernel
theorem dX8_follow_10 : decode cX8_follow 10 = .ok (.invokevirtual 107, 3) := by decide +kernel
theorem dX8_follow_13 : decode cX8_follow 13 = .ok (.ifCond .ne 6, 3) := by decide +kernel
theorem dX8_follow_16 : decode cX8_follow 16 = .ok (.ldc 111, 2) := by decide +kernel
theorem dX8_follow_18 : decode cX8_follow 18 = .ok (.ireturn, 1) := by decide +kernel
theorem dX8_follow_19 : decode cX8_follow 19 = .ok (.aload_n 0, 1) := by decide +kernel
theorem dX8_follow_20 : decode cX8_follow 20 = .ok (.iload_n 1, 1) := by decide +kernel
theorem dX8_follow_21 : decode cX8_follow 21 = .ok (.iload_n 2, 1) := by decide +kernel
theorem dX8_follow_22 : decode cX8_follow 22 = .ok (.invokevirtual 48, 3) := by decide +kernel
theorem dX8_follow_25 : decode cX8_follow 25 = .ok (.ifCond .ne 6, 3) := by decide +kernel
theorem dX8_follow_28 : decode cX8_follow 28 = .ok (.ldc 123, 2) := by decide +kernel
theorem dX8_follow_30 : decode cX8_follow 30 = .ok (.ireturn, 1) := by decide +kernel
theorem dX8_follow_31 : decode cX8_follow 31 = .ok (.aload_n 0, 1) := by decide +kernel
theorem dX8_follow_32 : decode cX8_follow 32 = .ok (.invokevirtual 150, 3) := by decide +kernel
theorem dX8_follow_35 : decode cX8_follow 35 = .ok (.aload_n 0, 1) := by decide +kernel
theorem dX8_follow_36 : decode cX8_follow 36 = .ok (.iload_n 2, 1) := by decide +kernel
theorem dX8_follow_37 : decode cX8_follow 37 = .ok (.invokevirtual 72, 3) := by decide +kernel
theorem dX8_follow_40 : decode cX8_follow 40 = .ok (.ifCond .lt 17, 3) := by decide +kernel
theorem dX8_follow_43 : decode cX8_follow 43 = .ok (.aload_n 0, 1) := by decide +kernel
theorem dX8_follow_44 : decode cX8_follow 44 = .ok (.getfield 7, 3) := by decide +kernel
theorem dX8_follow_47 : decode cX8_follow 47 = .ok (.bipush 36, 2) := by decide +kernel
theorem dX8_follow_49 : decode cX8_follow 49 = .ok (.aload_n 0, 1) := by decide +kernel
theorem dX8_follow_50 : decode cX8_follow 50 = .ok (.iload_n 2, 1) := by decide +kernel
theorem dX8_follow_51 : decode cX8_follow 51 = .ok (.invokevirtual 72, 3) := by decide +kernel
theorem dX8_follow_54 : decode cX8_follow 54 = .ok (.iadd, 1) := by decide +kernel
theorem dX8_follow_55 : decode cX8_follow 55 = .ok (.iconst (-1), 1) := by decide +kernel
theorem dX8_follow_56 : decode cX8_follow 56 = .ok (.iastore, 1) := by decide +kernel
theorem dX8_follow_57 : decode cX8_follow 57 = .ok (.aload_n 0, 1) := by decide +kernel
theorem dX8_follow_58 : decode cX8_follow 58 = .ok (.getfield 7, 3) := by decide +kernel
theorem dX8_follow_61 : decode cX8_follow 61 = .ok (.bipush 36, 2) := by decide +kernel
theorem dX8_follow_63 : decode cX8_follow 63 = .ok (.iload_n 1, 1) := by decide +kernel
theorem dX8_follow_64 : decode cX8_follow 64 = .ok (.iadd, 1) := by decide +kernel
theorem dX8_follow_65 : decode cX8_follow 65 = .ok (.iload_n 2, 1) := by decide +kernel
theorem dX8_follow_66 : decode cX8_follow 66 = .ok (.iastore, 1) := by decide +kernel
theorem dX8_follow_67 : decode cX8_follow 67 = .ok (.aload_n 0, 1) := by decide +kernel
theorem dX8_follow_68 : decode cX8_follow 68 = .ok (.iload_n 1, 1) := by decide +kernel
theorem dX8_follow_69 : decode cX8_follow 69 = .ok (.iload_n 2, 1) := by decide +kernel
theorem dX8_follow_70 : decode cX8_follow 70 = .ok (.invokevirtual 52, 3) := by decide +kernel
theorem dX8_follow_73 : decode cX8_follow 73 = .ok (.ireturn, 1) := by decide +kernel
theorem dX8_cut_0 : decode cX8_cut 0 = .ok (.aload_n 0, 1) := by decide +kernel
theorem dX8_cut_1 : decode cX8_cut 1 = .ok (.iload_n 1, 1) := by decide +kernel
theorem dX8_cut_2 : decode cX8_cut 2 = .ok (.invokevirtual 107, 3) := by decide +kernel
theorem dX8_cut_5 : decode cX8_cut 5 = .ok (.ifCond .ne 6, 3) := by decide +kernel
theorem dX8_cut_8 : decode cX8_cut 8 = .ok (.ldc 111, 2) := by decide +kernel
theorem dX8_cut_10 : decode cX8_cut 10 = .ok (.ireturn, 1) := by decide +kernel
theorem dX8_cut_11 : decode cX8_cut 11 = .ok (.aload_n 0, 1) := by decide +kernel
theorem dX8_cut_12 : decode cX8_cut 12 = .ok (.invokevirtual 150, 3) := by decide +kernel
theorem dX8_cut_15 : decode cX8_cut 15 = .ok (.aload_n 0, 1) := by decide +kernel
theorem dX8_cut_16 : decode cX8_cut 16 = .ok (.getfield 7, 3) := by decide +kernel
theorem dX8_cut_19 : decode cX8_cut 19 = .ok (.bipush 36, 2) := by decide +kernel
theorem dX8_cut_21 : decode cX8_cut 21 = .ok (.iload_n 1, 1) := by decide +kernel
theorem dX8_cut_22 : decode cX8_cut 22 = .ok (.iadd, 1) := by decide +kernel
theorem dX8_cut_23 : decode cX8_cut 23 = .ok (.iaload, 1) := by decide +kernel
theorem dX8_cut_24 : decode cX8_cut 24 = .ok (.istore_n 2, 1) := by decide +kernel
theorem dX8_cut_25 : decode cX8_cut 25 = .ok (.aload_n 0, 1) := by decide +kernel
theorem dX8_cut_26 : decode cX8_cut 26 = .ok (.getfield 7, 3) := by decide +kernel
theorem dX8_cut_29 : decode cX8_cut 29 = .ok (.bipush 36, 2) := by decide +kernel
theorem dX8_cut_31 : decode cX8_cut 31 = .ok (.iload_n 1, 1) := by decide +kernel
theorem dX8_cut_32 : decode cX8_cut 32 = .ok (.iadd, 1) := by decide +kernel
theorem dX8_cut_33 : decode cX8_cut 33 = .ok (.iconst (-1), 1) := by decide +kernel
theorem dX8_cut_34 : decode cX8_cut 34 = .ok (.iastore, 1) := by decide +kernel
theorem dX8_cut_35 : decode cX8_cut 35 = .ok (.iload_n 2, 1) := by decide +kernel
theorem dX8_cut_36 : decode cX8_cut 36 = .ok (.ireturn, 1) := by decide +kernel
theorem dX8_part_0 : decode cX8_part 0 = .ok (.iload_n 1, 1) := by decide +kernel
theorem dX8_part_1 : decode cX8_part 1 = .ok (.i2l, 1) := by decide +kernel
theorem dX8_part_2 : decode cX8_part 2 = .ok (.ldc2_w 162, 3) := by decide +kernel
theorem dX8_part_5 : decode cX8_part 5 = .ok (.ldc2_w 118, 3) := by decide +kernel
theorem dX8_part_8 : decode cX8_part 8 = .ok (.invokestatic 40, 3) := by decide +kernel
theorem dX8_part_11 : decode cX8_part 11 = .ok (.ifCond .ne 6, 3) := by decide +kernel
theorem dX8_part_14 : decode cX8_part 14 = .ok (.ldc 91, 2) := by decide +kernel
theorem dX8_part_16 : decode cX8_part 16 = .ok (.ireturn, 1) := by decide +kernel
theorem dX8_part_17 : decode cX8_part 17 = .ok (.aload_n 0, 1) := by decide +kernel
theorem dX8_part_18 : decode cX8_part 18 = .ok (.iload_n 1, 1) := by decide +kernel
theorem dX8_part_19 : decode cX8_part 19 = .ok (.ifCond .ge 11, 3) := by decide +kernel
theorem dX8_part_22 : decode cX8_part 22 = .ok (.aload_n 0, 1) := by decide +kernel
theorem dX8_part_23 : decode cX8_part 23 = .ok (.iconst (-1), 1) := by decide +kernel
theorem dX8_part_24 : decode cX8_part 24 = .ok (.invokevirtual 69, 3) := by decide +kernel
theorem dX8_part_27 : decode cX8_part 27 = .ok (.goto 4, 3) := by decide +kernel
theorem dX8_part_30 : decode cX8_part 30 = .ok (.iload_n 1, 1) := by decide +kernel
theorem dX8_part_31 : decode cX8_part 31 = .ok (.invokevirtual 120, 3) := by decide +kernel
theorem dX8_part_34 : decode cX8_part 34 = .ok (.ifCond .ne 6, 3) := by decide +kernel
theorem dX8_part_37 : decode cX8_part 37 = .ok (.ldc 123, 2) := by decide +kernel
theorem dX8_part_39 : decode cX8_part 39 = .ok (.ireturn, 1) := by decide +kernel
theorem dX8_part_40 : decode cX8_part 40 = .ok (.aload_n 0, 1) := by decide +kernel
theorem dX8_part_41 : decode cX8_part 41 = .ok (.invokevirtual 150, 3) := by decide +kernel
theorem dX8_part_44 : decode cX8_part 44 = .ok (.iconst 0, 1) := by decide +kernel
theorem dX8_part_45 : decode cX8_part 45 = .ok (.istore_n 2, 1) := by decide +kernel
theorem dX8_part_46 : decode cX8_part 46 = .ok (.iload_n 2, 1) := by decide +kernel
theorem dX8_part_47 : decode cX8_part 47 = .ok (.aload_n 0, 1) := by decide +kernel
theorem dX8_part_48 : decode cX8_part 48 = .ok (.getfield 7, 3) := by decide +kernel
theorem dX8_part_51 : decode cX8_part 51 = .ok (.iconst 0, 1) := by decide +kernel
theorem dX8_part_52 : decode cX8_part 52 = .ok (.iaload, 1) := by decide +kernel
theorem dX8_part_53 : decode cX8_part 53 = .ok (.if_icmp .ge 24, 3) := by decide +kernel
theorem dX8_part_56 : decode cX8_part 56 = .ok (.aload_n 0, 1) := by decide +kernel
theorem dX8_part_57 : decode cX8_part 57 = .ok (.getfield 7, 3) := by decide +kernel
theorem dX8_part_60 : decode cX8_part 60 = .ok (.bipush 36, 2) := by decide +kernel
theorem dX8_part_62 : decode cX8_part 62 = .ok (.iload_n 2, 1) := by decide +kernel
theorem dX8_part_63 : decode cX8_part 63 = .ok (.iadd, 1) := by decide +kernel
theorem dX8_part_64 : decode cX8_part 64 = .ok (.aload_n 0, 1) := by decide +kernel
theorem dX8_part_65 : decode cX8_part 65 = .ok (.getfield 25, 3) := by decide +kernel
theorem dX8_part_68 : decode cX8_part 68 = .ok (.iload_n 2, 1) := by decide +kernel
theorem dX8_part_69 : decode cX8_part 69 = .ok (.iaload, 1) := by decide +kernel
theorem dX8_part_70 : decode cX8_part 70 = .ok (.iastore, 1) := by decide +kernel
theorem dX8_part_71 : decode cX8_part 71 = .ok (.iinc 2 1, 3) := by decide +kernel
theorem dX8_part_74 : decode cX8_part 74 = .ok (.goto (-28), 3) := by decide +kernel
theorem dX8_part_77 : decode cX8_part 77 = .ok (.aload_n 0, 1) := by decide +kernel
theorem dX8_part_78 : decode cX8_part 78 = .ok (.invokevirtual 92, 3) := by decide +kernel
theorem dX8_part_81 : decode cX8_part 81 = .ok (.ireturn, 1) := by decide +kernel
theorem dX8_mend_0 : decode cX8_mend 0 = .ok (.aload_n 0, 1) := by decide +kernel
theorem dX8_mend_1 : decode cX8_mend 1 = .ok (.invokevirtual 150, 3) := by decide +kernel
theorem dX8_mend_4 : decode cX8_mend 4 = .ok (.iconst 0, 1) := by decide +kernel
theorem dX8_mend_5 : decode cX8_mend 5 = .ok (.istore_n 1, 1) := by decide +kernel
theorem dX8_mend_6 : decode cX8_mend 6 = .ok (.iload_n 1, 1) := by decide +kernel
theorem dX8_mend_7 : decode cX8_mend 7 = .ok (.bipush 50, 2) := by decide +kernel
theorem dX8_mend_9 : decode cX8_mend 9 = .ok (.if_icmp .ge 16, 3) := by decide +kernel
theorem dX8_mend_12 : decode cX8_mend 12 = .ok (.aload_n 0, 1) := by decide +kernel
theorem dX8_mend_13 : decode cX8_mend 13 = .ok (.invokevirtual 164, 3) := by decide +kernel
theorem dX8_mend_16 : decode cX8_mend 16 = .ok (.ifCond .eq 9, 3) := by decide +kernel
theorem dX8_mend_19 : decode cX8_mend 19 = .ok (.iinc 1 1, 3) := by decide +kernel
theorem dX8_mend_22 : decode cX8_mend 22 = .ok (.goto (-16), 3) := by decide +kernel
theorem dX8_mend_25 : decode cX8_mend 25 = .ok (.iload_n 1, 1) := by decide +kernel
theorem dX8_mend_26 : decode cX8_mend 26 = .ok (.ireturn, 1) := by decide +kernel
theorem dX8_clear_0 : decode cX8_clear 0 = .ok (.aload_n 0, 1) := by decide +kernel
theorem dX8_clear_1 : decode cX8_clear 1 = .ok (.invokevirtual 150, 3) := by decide +kernel
theorem dX8_clear_4 : decode cX8_clear 4 = .ok (.aload_n 0, 1) := by decide +kernel
theorem dX8_clear_5 : decode cX8_clear 5 = .ok (.getfield 7, 3) := by decide +kernel
theorem dX8_clear_8 : decode cX8_clear 8 = .ok (.iconst 0, 1) := by decide +kernel
theorem dX8_clear_9 : decode cX8_clear 9 = .ok (.iaload, 1) := by decide +kernel
theorem dX8_clear_10 : decode cX8_clear 10 = .ok (.istore_n 1, 1) := by decide +kernel
theorem dX8_clear_11 : decode cX8_clear 11 = .ok (.aload_n 0, 1) := by decide +kernel
theorem dX8_clear_12 : decode cX8_clear 12 = .ok (.getfield 7, 3) := by decide +kernel
theorem dX8_clear_15 : decode cX8_clear 15 = .ok (.iconst 0, 1) := by decide +kernel
theorem dX8_clear_16 : decode cX8_clear 16 = .ok (.iconst 0, 1) := by decide +kernel
theorem dX8_clear_17 : decode cX8_clear 17 = .ok (.iastore, 1) := by decide +kernel
theorem dX8_clear_18 : decode cX8_clear 18 = .ok (.aload_n 0, 1) := by decide +kernel
theorem dX8_clear_19 : decode cX8_clear 19 = .ok (.invokevirtual 142, 3) := by decide +kernel
theorem dX8_clear_22 : decode cX8_clear 22 = .ok (.iload_n 1, 1) := by decide +kernel
theorem dX8_clear_23 : decode cX8_clear 23 = .ok (.ireturn, 1) := by decide +kernel
theorem dX8_draw_0 : decode cX8_draw 0 = .ok (.aload_n 0, 1) := by decide +kernel
theorem dX8_draw_1 : decode cX8_draw 1 = .ok (.aload_n 0, 1) := by decide +kernel
theorem dX8_draw_2 : decode cX8_draw 2 = .ok (.getfield 88, 3) := by decide +kernel
theorem dX8_draw_5 : decode cX8_draw 5 = .ok (.i2l, 1) := by decide +kernel
theorem dX8_draw_6 : decode cX8_draw 6 = .ok (.ldc2_w 168, 3) := by decide +kernel
theorem dX8_draw_9 : decode cX8_draw 9 = .ok (.lmul, 1) := by decide +kernel
theorem dX8_draw_10 : decode cX8_draw 10 = .ok (.ldc2_w 170, 3) := by decide +kernel
theorem dX8_draw_13 : decode cX8_draw 13 = .ok (.ladd, 1) := by decide +kernel
theorem dX8_draw_14 : decode cX8_draw 14 = .ok (.ldc2_w 172, 3) := by decide +kernel
theorem dX8_draw_17 : decode cX8_draw 17 = .ok (.lrem, 1) := by decide +kernel
theorem dX8_draw_18 : decode cX8_draw 18 = .ok (.l2i, 1) := by decide +kernel
theorem dX8_draw_19 : decode cX8_draw 19 = .ok (.putfield 88, 3) := by decide +kernel
theorem dX8_draw_22 : decode cX8_draw 22 = .ok (.aload_n 0, 1) := by decide +kernel
theorem dX8_draw_23 : decode cX8_draw 23 = .ok (.getfield 88, 3) := by decide +kernel
theorem dX8_draw_26 : decode cX8_draw 26 = .ok (.ldc 174, 2) := by decide +kernel
theorem dX8_draw_28 : decode cX8_draw 28 = .ok (.idiv, 1) := by decide +kernel
theorem dX8_draw_29 : decode cX8_draw 29 = .ok (.iload_n 1, 1) := by decide +kernel
theorem dX8_draw_30 : decode cX8_draw 30 = .ok (.irem, 1) := by decide +kernel
theorem dX8_draw_31 : decode cX8_draw 31 = .ok (.ireturn, 1) := by decide +kernel
theorem dX8_drift_0 : decode cX8_drift 0 = .ok (.iload_n 1, 1) := by decide +kernel
theorem dX8_drift_1 : decode cX8_drift 1 = .ok (.i2l, 1) := by decide +kernel
theorem dX8_drift_2 : decode cX8_drift 2 = .ok (.lconst 1, 1) := by decide +kernel
theorem dX8_drift_3 : decode cX8_drift 3 = .ok (.ldc2_w 118, 3) := by decide +kernel
theorem dX8_drift_6 : decode cX8_drift 6 = .ok (.invokestatic 40, 3) := by decide +kernel
theorem dX8_drift_9 : decode cX8_drift 9 = .ok (.ifCond .ne 6, 3) := by decide +kernel
theorem dX8_drift_12 : decode cX8_drift 12 = .ok (.ldc 91, 2) := by decide +kernel
theorem dX8_drift_14 : decode cX8_drift 14 = .ok (.ireturn, 1) := by decide +kernel
theorem dX8_drift_15 : decode cX8_drift 15 = .ok (.iconst 0, 1) := by decide +kernel
theorem dX8_drift_16 : decode cX8_drift 16 = .ok (.istore_n 2, 1) := by decide +kernel
theorem dX8_drift_17 : decode cX8_drift 17 = .ok (.iload_n 2, 1) := by decide +kernel
theorem dX8_drift_18 : decode cX8_drift 18 = .ok (.iload_n 1, 1) := by decide +kernel
theorem dX8_drift_19 : decode cX8_drift 19 = .ok (.if_icmp .ge 61, 3) := by decide +kernel
theorem dX8_drift_22 : decode cX8_drift 22 = .ok (.aload_n 0, 1) := by decide +kernel
theorem dX8_drift_23 : decode cX8_drift 23 = .ok (.getfield 7, 3) := by decide +kernel
theorem dX8_drift_26 : decode cX8_drift 26 = .ok (.iconst 0, 1) := by decide +kernel
theorem dX8_drift_27 : decode cX8_drift 27 = .ok (.iaload, 1) := by decide +kernel
theorem dX8_drift_28 : decode cX8_drift 28 = .ok (.bipush 10, 2) := by decide +kernel
theorem dX8_drift_30 : decode cX8_drift 30 = .ok (.if_icmp .ge 50, 3) := by decide +kernel
theorem dX8_drift_33 : decode cX8_drift 33 = .ok (.aload_n 0, 1) := by decide +kernel
theorem dX8_drift_34 : decode cX8_drift 34 = .ok (.invokevirtual 150, 3) := by decide +kernel
theorem dX8_drift_37 : decode cX8_drift 37 = .ok (.aload_n 0, 1) := by decide +kernel
theorem dX8_drift_38 : decode cX8_drift 38 = .ok (.bipush 24, 2) := by decide +kernel
theorem dX8_drift_40 : decode cX8_drift 40 = .ok (.invokevirtual 175, 3) := by decide +kernel
theorem dX8_drift_43 : decode cX8_drift 43 = .ok (.istore_n 3, 1) := by decide +kernel
theorem dX8_drift_44 : decode cX8_drift 44 = .ok (.aload_n 0, 1) := by decide +kernel
theorem dX8_drift_45 : decode cX8_drift 45 = .ok (.bipush 6, 2) := by decide +kernel
theorem dX8_drift_47 : decode cX8_drift 47 = .ok (.invokevirtual 175, 3) := by decide +kernel
theorem dX8_drift_50 : decode cX8_drift 50 = .ok (.iconst 1, 1) := by decide +kernel
theorem dX8_drift_51 : decode cX8_drift 51 = .ok (.iadd, 1) := by decide +kernel
theorem dX8_drift_52 : decode cX8_drift 52 = .ok (.istore 4, 2) := by decide +kernel
theorem dX8_drift_54 : decode cX8_drift 54 = .ok (.aload_n 0, 1) := by decide +kernel
theorem dX8_drift_55 : decode cX8_drift 55 = .ok (.aload_n 0, 1) := by decide +kernel
theorem dX8_drift_56 : decode cX8_drift 56 = .ok (.iload_n 3, 1) := by decide +kernel
theorem dX8_drift_57 : decode cX8_drift 57 = .ok (.iload 4, 2) := by decide +kernel
theorem dX8_drift_59 : decode cX8_drift 59 = .ok (.aload_n 0, 1) := by decide +kernel
theorem dX8_drift_60 : decode cX8_drift 60 = .ok (.bipush 25, 2) := by decide +kernel
theorem dX8_drift_62 : decode cX8_drift 62 = .ok (.invokevirtual 175, 3) := by decide +kernel
theorem dX8_drift_65 : decode cX8_drift 65 = .ok (.bipush 48, 2) := by decide +kernel
theorem dX8_drift_67 : decode cX8_drift 67 = .ok (.iadd, 1) := by decide +kernel
theorem dX8_drift_68 : decode cX8_drift 68 = .ok (.invokevirtual 153, 3) := by decide +kernel
theorem dX8_drift_71 : decode cX8_drift 71 = .ok (.putfield 178, 3) := by decide +kernel
theorem dX8_drift_74 : decode cX8_drift 74 = .ok (.iinc 2 1, 3) := by decide +kernel
theorem dX8_drift_77 : decode cX8_drift 77 = .ok (.goto (-60), 3) := by decide +kernel
theorem dX8_drift_80 : decode cX8_drift 80 = .ok (.aload_n 0, 1) := by decide +kernel
theorem dX8_drift_81 : decode cX8_drift 81 = .ok (.getfield 7, 3) := by decide +kernel
theorem dX8_drift_84 : decode cX8_drift 84 = .ok (.iconst 0, 1) := by decide +kernel
theorem dX8_drift_85 : decode cX8_drift 85 = .ok (.iaload, 1) := by decide +kernel
theorem dX8_drift_86 : decode cX8_drift 86 = .ok (.ireturn, 1) := by decide +kernel
theorem dX8_undo_0 : decode cX8_undo 0 = .ok (.iload_n 1, 1) := by decide +kernel
theorem dX8_undo_1 : decode cX8_undo 1 = .ok (.i2l, 1) := by decide +kernel
theorem dX8_undo_2 : decode cX8_undo 2 = .ok (.lconst 1, 1) := by decide +kernel
theorem dX8_undo_3 : decode cX8_undo 3 = .ok (.ldc2_w 181, 3) := by decide +kernel
theorem dX8_undo_6 : decode cX8_undo 6 = .ok (.invokestatic 40, 3) := by decide +kernel
theorem dX8_undo_9 : decode cX8_undo 9 = .ok (.ifCond .ne 6, 3) := by decide +kernel
theorem dX8_undo_12 : decode cX8_undo 12 = .ok (.ldc 91, 2) := by decide +kernel
theorem dX8_undo_14 : decode cX8_undo 14 = .ok (.ireturn, 1) := by decide +kernel
theorem dX8_undo_15 : decode cX8_undo 15 = .ok (.iload_n 1, 1) := by decide +kernel
theorem dX8_undo_16 : decode cX8_undo 16 = .ok (.aload_n 0, 1) := by decide +kernel
theorem dX8_undo_17 : decode cX8_undo 17 = .ok (.getfield 32, 3) := by decide +kernel
theorem dX8_undo_20 : decode cX8_undo 20 = .ok (.if_icmp .le 6, 3) := by decide +kernel
theorem dX8_undo_23 : decode cX8_undo 23 = .ok (.ldc 123, 2) := by decide +kernel
theorem dX8_undo_25 : decode cX8_undo 25 = .ok (.ireturn, 1) := by decide +kernel
theorem dX8_undo_26 : decode cX8_undo 26 = .ok (.iconst 0, 1) := by decide +kernel
theorem dX8_undo_27 : decode cX8_undo 27 = .ok (.istore_n 2, 1) := by decide +kernel
theorem dX8_undo_28 : decode cX8_undo 28 = .ok (.iload_n 2, 1) := by decide +kernel
theorem dX8_undo_29 : decode cX8_undo 29 = .ok (.iload_n 1, 1) := by decide +kernel
theorem dX8_undo_30 : decode cX8_undo 30 = .ok (.iadd, 1) := by decide +kernel
theorem dX8_undo_31 : decode cX8_undo 31 = .ok (.bipush 16, 2) := by decide +kernel
theorem dX8_undo_33 : decode cX8_undo 33 = .ok (.if_icmp .gt 23, 3) := by decide +kernel
theorem dX8_undo_36 : decode cX8_undo 36 = .ok (.aload_n 0, 1) := by decide +kernel
theorem dX8_undo_37 : decode cX8_undo 37 = .ok (.bipush 46, 2) := by decide +kernel
theorem dX8_undo_39 : decode cX8_undo 39 = .ok (.iload_n 2, 1) := by decide +kernel
theorem dX8_undo_40 : decode cX8_undo 40 = .ok (.iload_n 1, 1) := by decide +kernel
theorem dX8_undo_41 : decode cX8_undo 41 = .ok (.iadd, 1) := by decide +kernel
theorem dX8_undo_42 : decode cX8_undo 42 = .ok (.imul, 1) := by decide +kernel
theorem dX8_undo_43 : decode cX8_undo 43 = .ok (.bipush 46, 2) := by decide +kernel
theorem dX8_undo_45 : decode cX8_undo 45 = .ok (.iload_n 2, 1) := by decide +kernel
theorem dX8_undo_46 : decode cX8_undo 46 = .ok (.imul, 1) := by decide +kernel
theorem dX8_undo_47 : decode cX8_undo 47 = .ok (.invokevirtual 28, 3) := by decide +kernel
theorem dX8_undo_50 : decode cX8_undo 50 = .ok (.iinc 2 1, 3) := by decide +kernel
theorem dX8_undo_53 : decode cX8_undo 53 = .ok (.goto (-25), 3) := by decide +kernel
theorem dX8_undo_56 : decode cX8_undo 56 = .ok (.aload_n 0, 1) := by decide +kernel
theorem dX8_undo_57 : decode cX8_undo 57 = .ok (.dup, 1) := by decide +kernel
theorem dX8_undo_58 : decode cX8_undo 58 = .ok (.getfield 32, 3) := by decide +kernel
theorem dX8_undo_61 : decode cX8_undo 61 = .ok (.iload_n 1, 1) := by decide +kernel
theorem dX8_undo_62 : decode cX8_undo 62 = .ok (.isub, 1) := by decide +kernel
theorem dX8_undo_63 : decode cX8_undo 63 = .ok (.putfield 32, 3) := by decide +kernel
theorem dX8_undo_66 : decode cX8_undo 66 = .ok (.aload_n 0, 1) := by decide +kernel
theorem dX8_undo_67 : decode cX8_undo 67 = .ok (.getfield 7, 3) := by decide +kernel
theorem dX8_undo_70 : decode cX8_undo 70 = .ok (.iconst 0, 1) := by decide +kernel
theorem dX8_undo_71 : decode cX8_undo 71 = .ok (.iaload, 1) := by decide +kernel
theorem dX8_undo_72 : decode cX8_undo 72 = .ok (.ireturn, 1) := by decide +kernel
theorem dX8_write_0 : decode cX8_write 0 = .ok (.iload_n 1, 1) := by decide +kernel
theorem dX8_write_1 : decode cX8_write 1 = .ok (.i2l, 1) := by decide +kernel
theorem dX8_write_2 : decode cX8_write 2 = .ok (.lconst 0, 1) := by decide +kernel
theorem dX8_write_3 : decode cX8_write 3 = .ok (.ldc2_w 118, 3) := by decide +kernel
theorem dX8_write_6 : decode cX8_write 6 = .ok (.invokestatic 40, 3) := by decide +kernel
theorem dX8_write_9 : decode cX8_write 9 = .ok (.ifCond .ne 6, 3) := by decide +kernel
theorem dX8_write_12 : decode cX8_write 12 = .ok (.ldc 91, 2) := by decide +kernel
theorem dX8_write_14 : decode cX8_write 14 = .ok (.ireturn, 1) := by decide +kernel
theorem dX8_write_15 : decode cX8_write 15 = .ok (.aload_n 0, 1) := by decide +kernel
theorem dX8_write_16 : decode cX8_write 16 = .ok (.getfield 82, 3) := by decide +kernel
theorem dX8_write_19 : decode cX8_write 19 = .ok (.bipush 20, 2) := by decide +kernel
theorem dX8_write_21 : decode cX8_write 21 = .ok (.if_icmp .ne 6, 3) := by decide +kernel
theorem dX8_write_24 : decode cX8_write 24 = .ok (.ldc 149, 2) := by decide +kernel
theorem dX8_write_26 : decode cX8_write 26 = .ok (.ireturn, 1) := by decide +kernel
theorem dX8_write_27 : decode cX8_write 27 = .ok (.aload_n 0, 1) := by decide +kernel
theorem dX8_write_28 : decode cX8_write 28 = .ok (.getfield 16, 3) := by decide +kernel
theorem dX8_write_31 : decode cX8_write 31 = .ok (.aload_n 0, 1) := by decide +kernel
theorem dX8_write_32 : decode cX8_write 32 = .ok (.getfield 82, 3) := by decide +kernel
theorem dX8_write_35 : decode cX8_write 35 = .ok (.iload_n 1, 1) := by decide +kernel
theorem dX8_write_36 : decode cX8_write 36 = .ok (.iastore, 1) := by decide +kernel
theorem dX8_write_37 : decode cX8_write 37 = .ok (.aload_n 0, 1) := by decide +kernel
theorem dX8_write_38 : decode cX8_write 38 = .ok (.getfield 19, 3) := by decide +kernel
theorem dX8_write_41 : decode cX8_write 41 = .ok (.aload_n 0, 1) := by decide +kernel
theorem dX8_write_42 : decode cX8_write 42 = .ok (.getfield 82, 3) := by decide +kernel
theorem dX8_write_45 : decode cX8_write 45 = .ok (.iload_n 2, 1) := by decide +kernel
theorem dX8_write_46 : decode cX8_write 46 = .ok (.iastore, 1) := by decide +kernel
theorem dX8_write_47 : decode cX8_write 47 = .ok (.aload_n 0, 1) := by decide +kernel
theorem dX8_write_48 : decode cX8_write 48 = .ok (.dup, 1) := by decide +kernel
theorem dX8_write_49 : decode cX8_write 49 = .ok (.getfield 82, 3) := by decide +kernel
theorem dX8_write_52 : decode cX8_write 52 = .ok (.iconst 1, 1) := by decide +kernel
theorem dX8_write_53 : decode cX8_write 53 = .ok (.iadd, 1) := by decide +kernel
theorem dX8_write_54 : decode cX8_write 54 = .ok (.putfield 82, 3) := by decide +kernel
theorem dX8_write_57 : decode cX8_write 57 = .ok (.aload_n 0, 1) := by decide +kernel
theorem dX8_write_58 : decode cX8_write 58 = .ok (.getfield 82, 3) := by decide +kernel
theorem dX8_write_61 : decode cX8_write 61 = .ok (.ireturn, 1) := by decide +kernel
theorem dX8_tear_0 : decode cX8_tear 0 = .ok (.aload_n 0, 1) := by decide +kernel
theorem dX8_tear_1 : decode cX8_tear 1 = .ok (.getfield 82, 3) := by decide +kernel
theorem dX8_tear_4 : decode cX8_tear 4 = .ok (.istore_n 1, 1) := by decide +kernel
theorem dX8_tear_5 : decode cX8_tear 5 = .ok (.aload_n 0, 1) := by decide +kernel
theorem dX8_tear_6 : decode cX8_tear 6 = .ok (.iconst 0, 1) := by decide +kernel
theorem dX8_tear_7 : decode cX8_tear 7 = .ok (.putfield 82, 3) := by decide +kernel
theorem dX8_tear_10 : decode cX8_tear 10 = .ok (.iload_n 1, 1) := by decide +kernel
theorem dX8_tear_11 : decode cX8_tear 11 = .ok (.ireturn, 1) := by decide +kernel
theorem dX8_seed_0 : decode cX8_seed 0 = .ok (.iload_n 1, 1) := by decide +kernel
theorem dX8_seed_1 : decode cX8_seed 1 = .ok (.ifCond .ge 6, 3) := by decide +kernel
theorem dX8_seed_4 : decode cX8_seed 4 = .ok (.ldc 91, 2) := by decide +kernel
theorem dX8_seed_6 : decode cX8_seed 6 = .ok (.ireturn, 1) := by decide +kernel
theorem dX8_seed_7 : decode cX8_seed 7 = .ok (.aload_n 0, 1) := by decide +kernel
theorem dX8_seed_8 : decode cX8_seed 8 = .ok (.getfield 88, 3) := by decide +kernel
theorem dX8_seed_11 : decode cX8_seed 11 = .ok (.istore_n 2, 1) := by decide +kernel
theorem dX8_seed_12 : decode cX8_seed 12 = .ok (.aload_n 0, 1) := by decide +kernel
theorem dX8_seed_13 : decode cX8_seed 13 = .ok (.iload_n 1, 1) := by decide +kernel
theorem dX8_seed_14 : decode cX8_seed 14 = .ok (.putfield 88, 3) := by decide +kernel
theorem dX8_seed_17 : decode cX8_seed 17 = .ok (.iload_n 2, 1) := by decide +kernel
theorem dX8_seed_18 : decode cX8_seed 18 = .ok (.ireturn, 1) := by decide +kernel
theorem dX8_keep_0 : decode cX8_keep 0 = .ok (.iload_n 1, 1) := by decide +kernel
theorem dX8_keep_1 : decode cX8_keep 1 = .ok (.i2l, 1) := by decide +kernel
theorem dX8_keep_2 : decode cX8_keep 2 = .ok (.lconst 0, 1) := by decide +kernel
theorem dX8_keep_3 : decode cX8_keep 3 = .ok (.lconst 1, 1) := by decide +kernel
theorem dX8_keep_4 : decode cX8_keep 4 = .ok (.invokestatic 40, 3) := by decide +kernel
theorem dX8_keep_7 : decode cX8_keep 7 = .ok (.ifCond .ne 6, 3) := by decide +kernel
theorem dX8_keep_10 : decode cX8_keep 10 = .ok (.ldc 111, 2) := by decide +kernel
theorem dX8_keep_12 : decode cX8_keep 12 = .ok (.ireturn, 1) := by decide +kernel
theorem dX8_keep_13 : decode cX8_keep 13 = .ok (.aload_n 0, 1) := by decide +kernel
theorem dX8_keep_14 : decode cX8_keep 14 = .ok (.iconst 0, 1) := by decide +kernel
theorem dX8_keep_15 : decode cX8_keep 15 = .ok (.sipush 782, 3) := by decide +kernel
theorem dX8_keep_18 : decode cX8_keep 18 = .ok (.bipush 46, 2) := by decide +kernel
theorem dX8_keep_20 : decode cX8_keep 20 = .ok (.iload_n 1, 1) := by decide +kernel
theorem dX8_keep_21 : decode cX8_keep 21 = .ok (.imul, 1) := by decide +kernel
theorem dX8_keep_22 : decode cX8_keep 22 = .ok (.iadd, 1) := by decide +kernel
theorem dX8_keep_23 : decode cX8_keep 23 = .ok (.invokevirtual 28, 3) := by decide +kernel
theorem dX8_keep_26 : decode cX8_keep 26 = .ok (.aload_n 0, 1) := by decide +kernel
theorem dX8_keep_27 : decode cX8_keep 27 = .ok (.getfield 13, 3) := by decide +kernel
theorem dX8_keep_30 : decode cX8_keep 30 = .ok (.iload_n 1, 1) := by decide +kernel
theorem dX8_keep_31 : decode cX8_keep 31 = .ok (.aload_n 0, 1) := by decide +kernel
theorem dX8_keep_32 : decode cX8_keep 32 = .ok (.getfield 88, 3) := by decide +kernel
theorem dX8_keep_35 : decode cX8_keep 35 = .ok (.iastore, 1) := by decide +kernel
theorem dX8_keep_36 : decode cX8_keep 36 = .ok (.aload_n 0, 1) := by decide +kernel
theorem dX8_keep_37 : decode cX8_keep 37 = .ok (.dup, 1) := by decide +kernel
theorem dX8_keep_38 : decode cX8_keep 38 = .ok (.getfield 183, 3) := by decide +kernel
theorem dX8_keep_41 : decode cX8_keep 41 = .ok (.iconst 1, 1) := by decide +kernel
theorem dX8_keep_42 : decode cX8_keep 42 = .ok (.iload_n 1, 1) := by decide +kernel
theorem dX8_keep_43 : decode cX8_keep 43 = .ok (.ishl, 1) := by decide +kernel
theorem dX8_keep_44 : decode cX8_keep 44 = .ok (.ior, 1) := by decide +kernel
theorem dX8_keep_45 : decode cX8_keep 45 = .ok (.putfield 183, 3) := by decide +kernel
theorem dX8_keep_48 : decode cX8_keep 48 = .ok (.aload_n 0, 1) := by decide +kernel
theorem dX8_keep_49 : decode cX8_keep 49 = .ok (.iconst 0, 1) := by decide +kernel
theorem dX8_keep_50 : decode cX8_keep 50 = .ok (.putfield 32, 3) := by decide +kernel
theorem dX8_keep_53 : decode cX8_keep 53 = .ok (.iconst 1, 1) := by decide +kernel
theorem dX8_keep_54 : decode cX8_keep 54 = .ok (.ireturn, 1) := by decide +kernel
theorem dX8_goBack_0 : decode cX8_goBack 0 = .ok (.iload_n 1, 1) := by decide +kernel
theorem dX8_goBack_1 : decode cX8_goBack 1 = .ok (.i2l, 1) := by decide +kernel
theorem dX8_goBack_2 : decode cX8_goBack 2 = .ok (.lconst 0, 1) := by decide +kernel
theorem dX8_goBack_3 : decode cX8_goBack 3 = .ok (.lconst 1, 1) := by decide +kernel
theorem dX8_goBack_4 : decode cX8_goBack 4 = .ok (.invokestatic 40, 3) := by decide +kernel
theorem dX8_goBack_7 : decode cX8_goBack 7 = .ok (.ifCond .ne 6, 3) := by decide +kernel
theorem dX8_goBack_10 : decode cX8_goBack 10 = .ok (.ldc 111, 2) := by decide +kernel
theorem dX8_goBack_12 : decode cX8_goBack 12 = .ok (.ireturn, 1) := by decide +kernel
theorem dX8_goBack_13 : decode cX8_goBack 13 = .ok (.aload_n 0, 1) := by decide +kernel
theorem dX8_goBack_14 : decode cX8_goBack 14 = .ok (.getfield 183, 3) := by decide +kernel
theorem dX8_goBack_17 : decode cX8_goBack 17 = .ok (.iload_n 1, 1) := by decide +kernel
theorem dX8_goBack_18 : decode cX8_goBack 18 = .ok (.ishr, 1) := by decide +kernel
theorem dX8_goBack_19 : decode cX8_goBack 19 = .ok (.iconst 1, 1) := by decide +kernel
theorem dX8_goBack_20 : decode cX8_goBack 20 = .ok (.iand, 1) := by decide +kernel
theorem dX8_goBack_21 : decode cX8_goBack 21 = .ok (.ifCond .ne 6, 3) := by decide +kernel
theorem dX8_goBack_24 : decode cX8_goBack 24 = .ok (.ldc 123, 2) := by decide +kernel
theorem dX8_goBack_26 : decode cX8_goBack 26 = .ok (.ireturn, 1) := by decide +kernel
theorem dX8_goBack_27 : decode cX8_goBack 27 = .ok (.aload_n 0, 1) := by decide +kernel
theorem dX8_goBack_28 : decode cX8_goBack 28 = .ok (.sipush 782, 3) := by decide +kernel
theorem dX8_goBack_31 : decode cX8_goBack 31 = .ok (.bipush 46, 2) := by decide +kernel
theorem dX8_goBack_33 : decode cX8_goBack 33 = .ok (.iload_n 1, 1) := by decide +kernel
theorem dX8_goBack_34 : decode cX8_goBack 34 = .ok (.imul, 1) := by decide +kernel
theorem dX8_goBack_35 : decode cX8_goBack 35 = .ok (.iadd, 1) := by decide +kernel
theorem dX8_goBack_36 : decode cX8_goBack 36 = .ok (.iconst 0, 1) := by decide +kernel
theorem dX8_goBack_37 : decode cX8_goBack 37 = .ok (.invokevirtual 28, 3) := by decide +kernel
theorem dX8_goBack_40 : decode cX8_goBack 40 = .ok (.aload_n 0, 1) := by decide +kernel
theorem dX8_goBack_41 : decode cX8_goBack 41 = .ok (.aload_n 0, 1) := by decide +kernel
theorem dX8_goBack_42 : decode cX8_goBack 42 = .ok (.getfield 13, 3) := by decide +kernel
theorem dX8_goBack_45 : decode cX8_goBack 45 = .ok (.iload_n 1, 1) := by decide +kernel
theorem dX8_goBack_46 : decode cX8_goBack 46 = .ok (.iaload, 1) := by decide +kernel
theorem dX8_goBack_47 : decode cX8_goBack 47 = .ok (.putfield 88, 3) := by decide +kernel
theorem dX8_goBack_50 : decode cX8_goBack 50 = .ok (.aload_n 0, 1) := by decide +kernel
theorem dX8_goBack_51 : decode cX8_goBack 51 = .ok (.iconst 0, 1) := by decide +kernel
theorem dX8_goBack_52 : decode cX8_goBack 52 = .ok (.putfield 32, 3) := by decide +kernel
theorem dX8_goBack_55 : decode cX8_goBack 55 = .ok (.iconst 1, 1) := by decide +kernel
theorem dX8_goBack_56 : decode cX8_goBack 56 = .ok (.ireturn, 1) := by decide +kernel
theorem dJ6_bitCount_0f7a4_0 : decode cJ6_bitCount_0f7a4 0 = .ok (.iload_n 0, 1) := by decide +kernel
theorem dJ6_bitCount_0f7a4_1 : decode cJ6_bitCount_0f7a4 1 = .ok (.iload_n 0, 1) := by decide +kernel
theorem dJ6_bitCount_0f7a4_2 : decode cJ6_bitCount_0f7a4 2 = .ok (.iconst 1, 1) := by decide +kernel
theorem dJ6_bitCount_0f7a4_3 : decode cJ6_bitCount_0f7a4 3 = .ok (.iushr, 1) := by decide +kernel
theorem dJ6_bitCount_0f7a4_4 : decode cJ6_bitCount_0f7a4 4 = .ok (.ldc_w 265, 3) := by decide +kernel
theorem dJ6_bitCount_0f7a4_7 : decode cJ6_bitCount_0f7a4 7 = .ok (.iand, 1) := by decide +kernel
theorem dJ6_bitCount_0f7a4_8 : decode cJ6_bitCount_0f7a4 8 = .ok (.isub, 1) := by decide +kernel
theorem dJ6_bitCount_0f7a4_9 : decode cJ6_bitCount_0f7a4 9 = .ok (.istore_n 0, 1) := by decide +kernel
theorem dJ6_bitCount_0f7a4_10 : decode cJ6_bitCount_0f7a4 10 = .ok (.iload_n 0, 1) := by decide +kernel
theorem dJ6_bitCount_0f7a4_11 : decode cJ6_bitCount_0f7a4 11 = .ok (.ldc_w 266, 3) := by decide +kernel
theorem dJ6_bitCount_0f7a4_14 : decode cJ6_bitCount_0f7a4 14 = .ok (.iand, 1) := by decide +kernel
theorem dJ6_bitCount_0f7a4_15 : decode cJ6_bitCount_0f7a4 15 = .ok (.iload_n 0, 1) := by decide +kernel
theorem dJ6_bitCount_0f7a4_16 : decode cJ6_bitCount_0f7a4 16 = .ok (.iconst 2, 1) := by decide +kernel
theorem dJ6_bitCount_0f7a4_17 : decode cJ6_bitCount_0f7a4 17 = .ok (.iushr, 1) := by decide +kernel
theorem dJ6_bitCount_0f7a4_18 : decode cJ6_bitCount_0f7a4 18 = .ok (.ldc_w 266, 3) := by decide +kernel
theorem dJ6_bitCount_0f7a4_21 : decode cJ6_bitCount_0f7a4 21 = .ok (.iand, 1) := by decide +kernel
theorem dJ6_bitCount_0f7a4_22 : decode cJ6_bitCount_0f7a4 22 = .ok (.iadd, 1) := by decide +kernel
theorem dJ6_bitCount_0f7a4_23 : decode cJ6_bitCount_0f7a4 23 = .ok (.istore_n 0, 1) := by decide +kernel
theorem dJ6_bitCount_0f7a4_24 : decode cJ6_bitCount_0f7a4 24 = .ok (.iload_n 0, 1) := by decide +kernel
theorem dJ6_bitCount_0f7a4_25 : decode cJ6_bitCount_0f7a4 25 = .ok (.iload_n 0, 1) := by decide +kernel
theorem dJ6_bitCount_0f7a4_26 : decode cJ6_bitCount_0f7a4 26 = .ok (.iconst 4, 1) := by decide +kernel
theorem dJ6_bitCount_0f7a4_27 : decode cJ6_bitCount_0f7a4 27 = .ok (.iushr, 1) := by decide +kernel
theorem dJ6_bitCount_0f7a4_28 : decode cJ6_bitCount_0f7a4 28 = .ok (.iadd, 1) := by decide +kernel
theorem dJ6_bitCount_0f7a4_29 : decode cJ6_bitCount_0f7a4 29 = .ok (.ldc_w 267, 3) := by decide +kernel
theorem dJ6_bitCount_0f7a4_32 : decode cJ6_bitCount_0f7a4 32 = .ok (.iand, 1) := by decide +kernel
theorem dJ6_bitCount_0f7a4_33 : decode cJ6_bitCount_0f7a4 33 = .ok (.istore_n 0, 1) := by decide +kernel
theorem dJ6_bitCount_0f7a4_34 : decode cJ6_bitCount_0f7a4 34 = .ok (.iload_n 0, 1) := by decide +kernel
theorem dJ6_bitCount_0f7a4_35 : decode cJ6_bitCount_0f7a4 35 = .ok (.iload_n 0, 1) := by decide +kernel
theorem dJ6_bitCount_0f7a4_36 : decode cJ6_bitCount_0f7a4 36 = .ok (.bipush 8, 2) := by decide +kernel
theorem dJ6_bitCount_0f7a4_38 : decode cJ6_bitCount_0f7a4 38 = .ok (.iushr, 1) := by decide +kernel
theorem dJ6_bitCount_0f7a4_39 : decode cJ6_bitCount_0f7a4 39 = .ok (.iadd, 1) := by decide +kernel
theorem dJ6_bitCount_0f7a4_40 : decode cJ6_bitCount_0f7a4 40 = .ok (.istore_n 0, 1) := by decide +kernel
theorem dJ6_bitCount_0f7a4_41 : decode cJ6_bitCount_0f7a4 41 = .ok (.iload_n 0, 1) := by decide +kernel
theorem dJ6_bitCount_0f7a4_42 : decode cJ6_bitCount_0f7a4 42 = .ok (.iload_n 0, 1) := by decide +kernel
theorem dJ6_bitCount_0f7a4_43 : decode cJ6_bitCount_0f7a4 43 = .ok (.bipush 16, 2) := by decide +kernel
theorem dJ6_bitCount_0f7a4_45 : decode cJ6_bitCount_0f7a4 45 = .ok (.iushr, 1) := by decide +kernel
theorem dJ6_bitCount_0f7a4_46 : decode cJ6_bitCount_0f7a4 46 = .ok (.iadd, 1) := by decide +kernel
theorem dJ6_bitCount_0f7a4_47 : decode cJ6_bitCount_0f7a4 47 = .ok (.istore_n 0, 1) := by decide +kernel
theorem dJ6_bitCount_0f7a4_48 : decode cJ6_bitCount_0f7a4 48 = .ok (.iload_n 0, 1) := by decide +kernel
theorem dJ6_bitCount_0f7a4_49 : decode cJ6_bitCount_0f7a4 49 = .ok (.bipush 63, 2) := by decide +kernel
theorem dJ6_bitCount_0f7a4_51 : decode cJ6_bitCount_0f7a4 51 = .ok (.iand, 1) := by decide +kernel
theorem dJ6_bitCount_0f7a4_52 : decode cJ6_bitCount_0f7a4 52 = .ok (.ireturn, 1) := by decide +kernel
theorem dJ9_abs_0f7a4_0 : decode cJ9_abs_0f7a4 0 = .ok (.iload_n 0, 1) := by decide +kernel
theorem dJ9_abs_0f7a4_1 : decode cJ9_abs_0f7a4 1 = .ok (.ifCond .ge 8, 3) := by decide +kernel
theorem dJ9_abs_0f7a4_4 : decode cJ9_abs_0f7a4 4 = .ok (.iload_n 0, 1) := by decide +kernel
theorem dJ9_abs_0f7a4_5 : decode cJ9_abs_0f7a4 5 = .ok (.ineg, 1) := by decide +kernel
theorem dJ9_abs_0f7a4_6 : decode cJ9_abs_0f7a4 6 = .ok (.goto 4, 3) := by decide +kernel
theorem dJ9_abs_0f7a4_9 : decode cJ9_abs_0f7a4 9 = .ok (.iload_n 0, 1) := by decide +kernel
theorem dJ9_abs_0f7a4_10 : decode cJ9_abs_0f7a4 10 = .ok (.ireturn, 1) := by decide +kernel
theorem dJ9_max_7cf53_0 : decode cJ9_max_7cf53 0 = .ok (.iload_n 0, 1) := by decide +kernel
theorem dJ9_max_7cf53_1 : decode cJ9_max_7cf53 1 = .ok (.iload_n 1, 1) := by decide +kernel
theorem dJ9_max_7cf53_2 : decode cJ9_max_7cf53 2 = .ok (.if_icmp .lt 7, 3) := by decide +kernel
theorem dJ9_max_7cf53_5 : decode cJ9_max_7cf53 5 = .ok (.iload_n 0, 1) := by decide +kernel
theorem dJ9_max_7cf53_6 : decode cJ9_max_7cf53 6 = .ok (.goto 4, 3) := by decide +kernel
theorem dJ9_max_7cf53_9 : decode cJ9_max_7cf53 9 = .ok (.iload_n 1, 1) := by decide +kernel
theorem dJ9_max_7cf53_10 : decode cJ9_max_7cf53 10 = .ok (.ireturn, 1) := by decide +kernel
theorem dJ9_min_7cf53_0 : decode cJ9_min_7cf53 0 = .ok (.iload_n 0, 1) := by decide +kernel
theorem dJ9_min_7cf53_1 : decode cJ9_min_7cf53 1 = .ok (.iload_n 1, 1) := by decide +kernel
theorem dJ9_min_7cf53_2 : decode cJ9_min_7cf53 2 = .ok (.if_icmp .gt 7, 3) := by decide +kernel
theorem dJ9_min_7cf53_5 : decode cJ9_min_7cf53 5 = .ok (.iload_n 0, 1) := by decide +kernel
theorem dJ9_min_7cf53_6 : decode cJ9_min_7cf53 6 = .ok (.goto 4, 3) := by decide +kernel
theorem dJ9_min_7cf53_9 : decode cJ9_min_7cf53 9 = .ok (.iload_n 1, 1) := by decide +kernel
theorem dJ9_min_7cf53_10 : decode cJ9_min_7cf53 10 = .ok (.ireturn, 1) := by decide +kernel
theorem dJ7_fill_53178_0 : decode cJ7_fill_53178 0 = .ok (.iconst 0, 1) := by decide +kernel
theorem dJ7_fill_53178_1 : decode cJ7_fill_53178 1 = .ok (.istore_n 2, 1) := by decide +kernel
theorem dJ7_fill_53178_2 : decode cJ7_fill_53178 2 = .ok (.aload_n 0, 1) := by decide +kernel
theorem dJ7_fill_53178_3 : decode cJ7_fill_53178 3 = .ok (.arraylength, 1) := by decide +kernel
theorem dJ7_fill_53178_4 : decode cJ7_fill_53178 4 = .ok (.istore_n 3, 1) := by decide +kernel
theorem dJ7_fill_53178_5 : decode cJ7_fill_53178 5 = .ok (.iload_n 2, 1) := by decide +kernel
theorem dJ7_fill_53178_6 : decode cJ7_fill_53178 6 = .ok (.iload_n 3, 1) := by decide +kernel
theorem dJ7_fill_53178_7 : decode cJ7_fill_53178 7 = .ok (.if_icmp .ge 13, 3) := by decide +kernel
theorem dJ7_fill_53178_10 : decode cJ7_fill_53178 10 = .ok (.aload_n 0, 1) := by decide +kernel
theorem dJ7_fill_53178_11 : decode cJ7_fill_53178 11 = .ok (.iload_n 2, 1) := by decide +kernel
theorem dJ7_fill_53178_12 : decode cJ7_fill_53178 12 = .ok (.iload_n 1, 1) := by decide +kernel
theorem dJ7_fill_53178_13 : decode cJ7_fill_53178 13 = .ok (.iastore, 1) := by decide +kernel
theorem dJ7_fill_53178_14 : decode cJ7_fill_53178 14 = .ok (.iinc 2 1, 3) := by decide +kernel
theorem dJ7_fill_53178_17 : decode cJ7_fill_53178 17 = .ok (.goto (-12), 3) := by decide +kernel
theorem dJ7_fill_53178_20 : decode cJ7_fill_53178 20 = .ok (.return_, 1) := by decide +kernel
theorem dL_law_0 : decode cL_law 0 = .ok (.new 7, 3) := by decide +kernel
theorem dL_law_3 : decode cL_law 3 = .ok (.dup, 1) := by decide +kernel
theorem dL_law_4 : decode cL_law 4 = .ok (.invokespecial 9, 3) := by decide +kernel
theorem dL_law_7 : decode cL_law 7 = .ok (.astore_n 1, 1) := by decide +kernel
theorem dL_law_8 : decode cL_law 8 = .ok (.new 10, 3) := by decide +kernel
theorem dL_law_11 : decode cL_law 11 = .ok (.dup, 1) := by decide +kernel
theorem dL_law_12 : decode cL_law 12 = .ok (.invokespecial 12, 3) := by decide +kernel
theorem dL_law_15 : decode cL_law 15 = .ok (.astore_n 2, 1) := by decide +kernel
theorem dL_law_16 : decode cL_law 16 = .ok (.iconst 0, 1) := by decide +kernel
theorem dL_law_17 : decode cL_law 17 = .ok (.istore_n 3, 1) := by decide +kernel
theorem dL_law_18 : decode cL_law 18 = .ok (.iload_n 3, 1) := by decide +kernel
theorem dL_law_19 : decode cL_law 19 = .ok (.aload_n 0, 1) := by decide +kernel
theorem dL_law_20 : decode cL_law 20 = .ok (.arraylength, 1) := by decide +kernel
theorem dL_law_21 : decode cL_law 21 = .ok (.iconst 5, 1) := by decide +kernel
theorem dL_law_22 : decode cL_law 22 = .ok (.isub, 1) := by decide +kernel
theorem dL_law_23 : decode cL_law 23 = .ok (.if_icmp .gt 779, 3) := by decide +kernel
theorem dL_law_26 : decode cL_law 26 = .ok (.aload_n 0, 1) := by decide +kernel
theorem dL_law_27 : decode cL_law 27 = .ok (.iload_n 3, 1) := by decide +kernel
theorem dL_law_28 : decode cL_law 28 = .ok (.iaload, 1) := by decide +kernel
theorem dL_law_29 : decode cL_law 29 = .ok (.bipush 31, 2) := by decide +kernel
theorem dL_law_31 : decode cL_law 31 = .ok (.iand, 1) := by decide +kernel
theorem dL_law_32 : decode cL_law 32 = .ok (.tableswitch 764 0 23 #[112, 135, 168, 201, 224, 257, 290, 323, 366, 389, 442, 465, 498, 531, 554, 577, 590, 603, 626, 649, 682, 695, 718, 741], 112) := by decide +kernel
theorem dL_law_144 : decode cL_law 144 = .ok (.aload_n 1, 1) := by decide +kernel
theorem dL_law_145 : decode cL_law 145 = .ok (.aload_n 0, 1) := by decide +kernel
theorem dL_law_146 : decode cL_law 146 = .ok (.iload_n 3, 1) := by decide +kernel
theorem dL_law_147 : decode cL_law 147 = .ok (.iconst 1, 1) := by decide +kernel
theorem dL_law_148 : decode cL_law 148 = .ok (.iadd, 1) := by decide +kernel
theorem dL_law_149 : decode cL_law 149 = .ok (.iaload, 1) := by decide +kernel
theorem dL_law_150 : decode cL_law 150 = .ok (.invokevirtual 13, 3) := by decide +kernel
theorem dL_law_153 : decode cL_law 153 = .ok (.aload_n 2, 1) := by decide +kernel
theorem dL_law_154 : decode cL_law 154 = .ok (.aload_n 0, 1) := by decide +kernel
theorem dL_law_155 : decode cL_law 155 = .ok (.iload_n 3, 1) := by decide +kernel
theorem dL_law_156 : decode cL_law 156 = .ok (.iconst 1, 1) := by decide +kernel
theorem dL_law_157 : decode cL_law 157 = .ok (.iadd, 1) := by decide +kernel
theorem dL_law_158 : decode cL_law 158 = .ok (.iaload, 1) := by decide +kernel
theorem dL_law_159 : decode cL_law 159 = .ok (.invokevirtual 17, 3) := by decide +kernel
theorem dL_law_162 : decode cL_law 162 = .ok (.if_icmp .eq 634, 3) := by decide +kernel
theorem dL_law_165 : decode cL_law 165 = .ok (.iconst 0, 1) := by decide +kernel
theorem dL_law_166 : decode cL_law 166 = .ok (.ireturn, 1) := by decide +kernel
theorem dL_law_167 : decode cL_law 167 = .ok (.aload_n 1, 1) := by decide +kernel
theorem dL_law_168 : decode cL_law 168 = .ok (.aload_n 0, 1) := by decide +kernel
theorem dL_law_169 : decode cL_law 169 = .ok (.iload_n 3, 1) := by decide +kernel
theorem dL_law_170 : decode cL_law 170 = .ok (.iconst 1, 1) := by decide +kernel
theorem dL_law_171 : decode cL_law 171 = .ok (.iadd, 1) := by decide +kernel
theorem dL_law_172 : decode cL_law 172 = .ok (.iaload, 1) := by decide +kernel
theorem dL_law_173 : decode cL_law 173 = .ok (.aload_n 0, 1) := by decide +kernel
theorem dL_law_174 : decode cL_law 174 = .ok (.iload_n 3, 1) := by decide +kernel
theorem dL_law_175 : decode cL_law 175 = .ok (.iconst 2, 1) := by decide +kernel
theorem dL_law_176 : decode cL_law 176 = .ok (.iadd, 1) := by decide +kernel
theorem dL_law_177 : decode cL_law 177 = .ok (.iaload, 1) := by decide +kernel
theorem dL_law_178 : decode cL_law 178 = .ok (.invokevirtual 18, 3) := by decide +kernel
theorem dL_law_181 : decode cL_law 181 = .ok (.aload_n 2, 1) := by decide +kernel
theorem dL_law_182 : decode cL_law 182 = .ok (.aload_n 0, 1) := by decide +kernel
theorem dL_law_183 : decode cL_law 183 = .ok (.iload_n 3, 1) := by decide +kernel
theorem dL_law_184 : decode cL_law 184 = .ok (.iconst 1, 1) := by decide +kernel
theorem dL_law_185 : decode cL_law 185 = .ok (.iadd, 1) := by decide +kernel
theorem dL_law_186 : decode cL_law 186 = .ok (.iaload, 1) := by decide +kernel
theorem dL_law_187 : decode cL_law 187 = .ok (.aload_n 0, 1) := by decide +kernel
theorem dL_law_188 : decode cL_law 188 = .ok (.iload_n 3, 1) := by decide +kernel
theorem dL_law_189 : decode cL_law 189 = .ok (.iconst 2, 1) := by decide +kernel
theorem dL_law_190 : decode cL_law 190 = .ok (.iadd, 1) := by decide +kernel
theorem dL_law_191 : decode cL_law 191 = .ok (.iaload, 1) := by decide +kernel
theorem dL_law_192 : decode cL_law 192 = .ok (.invokevirtual 22, 3) := by decide +kernel
theorem dL_law_195 : decode cL_law 195 = .ok (.if_icmp .eq 601, 3) := by decide +kernel
theorem dL_law_198 : decode cL_law 198 = .ok (.iconst 0, 1) := by decide +kernel
theorem dL_law_199 : decode cL_law 199 = .ok (.ireturn, 1) := by decide +kernel
theorem dL_law_200 : decode cL_law 200 = .ok (.aload_n 1, 1) := by decide +kernel
theorem dL_law_201 : decode cL_law 201 = .ok (.aload_n 0, 1) := by decide +kernel
theorem dL_law_202 : decode cL_law 202 = .ok (.iload_n 3, 1) := by decide +kernel
theorem dL_law_203 : decode cL_law 203 = .ok (.iconst 1, 1) := by decide +kernel
theorem dL_law_204 : decode cL_law 204 = .ok (.iadd, 1) := by decide +kernel
theorem dL_law_205 : decode cL_law 205 = .ok (.iaload, 1) := by decide +kernel
theorem dL_law_206 : decode cL_law 206 = .ok (.aload_n 0, 1) := by decide +kernel
theorem dL_law_207 : decode cL_law 207 = .ok (.iload_n 3, 1) := by decide +kernel
theorem dL_law_208 : decode cL_law 208 = .ok (.iconst 2, 1) := by decide +kernel
theorem dL_law_209 : decode cL_law 209 = .ok (.iadd, 1) := by decide +kernel
theorem dL_law_210 : decode cL_law 210 = .ok (.iaload, 1) := by decide +kernel
theorem dL_law_211 : decode cL_law 211 = .ok (.invokevirtual 23, 3) := by decide +kernel
theorem dL_law_214 : decode cL_law 214 = .ok (.aload_n 2, 1) := by decide +kernel
theorem dL_law_215 : decode cL_law 215 = .ok (.aload_n 0, 1) := by decide +kernel
theorem dL_law_216 : decode cL_law 216 = .ok (.iload_n 3, 1) := by decide +kernel
theorem dL_law_217 : decode cL_law 217 = .ok (.iconst 1, 1) := by decide +kernel
theorem dL_law_218 : decode cL_law 218 = .ok (.iadd, 1) := by decide +kernel
theorem dL_law_219 : decode cL_law 219 = .ok (.iaload, 1) := by decide +kernel
theorem dL_law_220 : decode cL_law 220 = .ok (.aload_n 0, 1) := by decide +kernel
theorem dL_law_221 : decode cL_law 221 = .ok (.iload_n 3, 1) := by decide +kernel
theorem dL_law_222 : decode cL_law 222 = .ok (.iconst 2, 1) := by decide +kernel
theorem dL_law_223 : decode cL_law 223 = .ok (.iadd, 1) := by decide +kernel
theorem dL_law_224 : decode cL_law 224 = .ok (.iaload, 1) := by decide +kernel
theorem dL_law_225 : decode cL_law 225 = .ok (.invokevirtual 26, 3) := by decide +kernel
theorem dL_law_228 : decode cL_law 228 = .ok (.if_icmp .eq 568, 3) := by decide +kernel
theorem dL_law_231 : decode cL_law 231 = .ok (.iconst 0, 1) := by decide +kernel
theorem dL_law_232 : decode cL_law 232 = .ok (.ireturn, 1) := by decide +kernel
theorem dL_law_233 : decode cL_law 233 = .ok (.aload_n 1, 1) := by decide +kernel
theorem dL_law_234 : decode cL_law 234 = .ok (.aload_n 0, 1) := by decide +kernel
theorem dL_law_235 : decode cL_law 235 = .ok (.iload_n 3, 1) := by decide +kernel
theorem dL_law_236 : decode cL_law 236 = .ok (.iconst 1, 1) := by decide +kernel
theorem dL_law_237 : decode cL_law 237 = .ok (.iadd, 1) := by decide +kernel
theorem dL_law_238 : decode cL_law 238 = .ok (.iaload, 1) := by decide +kernel
theorem dL_law_239 : decode cL_law 239 = .ok (.invokevirtual 27, 3) := by decide +kernel
theorem dL_law_242 : decode cL_law 242 = .ok (.aload_n 2, 1) := by decide +kernel
theorem dL_law_243 : decode cL_law 243 = .ok (.aload_n 0, 1) := by decide +kernel
theorem dL_law_244 : decode cL_law 244 = .ok (.iload_n 3, 1) := by decide +kernel
theorem dL_law_245 : decode cL_law 245 = .ok (.iconst 1, 1) := by decide +kernel
theorem dL_law_246 : decode cL_law 246 = .ok (.iadd, 1) := by decide +kernel
theorem dL_law_247 : decode cL_law 247 = .ok (.iaload, 1) := by decide +kernel
theorem dL_law_248 : decode cL_law 248 = .ok (.invokevirtual 30, 3) := by decide +kernel
theorem dL_law_251 : decode cL_law 251 = .ok (.if_icmp .eq 545, 3) := by decide +kernel
theorem dL_law_254 : decode cL_law 254 = .ok (.iconst 0, 1) := by decide +kernel
theorem dL_law_255 : decode cL_law 255 = .ok (.ireturn, 1) := by decide +kernel
theorem dL_law_256 : decode cL_law 256 = .ok (.aload_n 1, 1) := by decide +kernel
theorem dL_law_257 : decode cL_law 257 = .ok (.aload_n 0, 1) := by decide +kernel
theorem dL_law_258 : decode cL_law 258 = .ok (.iload_n 3, 1) := by decide +kernel
theorem dL_law_259 : decode cL_law 259 = .ok (.iconst 1, 1) := by decide +kernel
theorem dL_law_260 : decode cL_law 260 = .ok (.iadd, 1) := by decide +kernel
theorem dL_law_261 : decode cL_law 261 = .ok (.iaload, 1) := by decide +kernel
theorem dL_law_262 : decode cL_law 262 = .ok (.aload_n 0, 1) := by decide +kernel
theorem dL_law_263 : decode cL_law 263 = .ok (.iload_n 3, 1) := by decide +kernel
theorem dL_law_264 : decode cL_law 264 = .ok (.iconst 2, 1) := by decide +kernel
theorem dL_law_265 : decode cL_law 265 = .ok (.iadd, 1) := by decide +kernel
theorem dL_law_266 : decode cL_law 266 = .ok (.iaload, 1) := by decide +kernel
theorem dL_law_267 : decode cL_law 267 = .ok (.invokevirtual 31, 3) := by decide +kernel
theorem dL_law_270 : decode cL_law 270 = .ok (.aload_n 2, 1) := by decide +kernel
theorem dL_law_271 : decode cL_law 271 = .ok (.aload_n 0, 1) := by decide +kernel
theorem dL_law_272 : decode cL_law 272 = .ok (.iload_n 3, 1) := by decide +kernel
theorem dL_law_273 : decode cL_law 273 = .ok (.iconst 1, 1) := by decide +kernel
theorem dL_law_274 : decode cL_law 274 = .ok (.iadd, 1) := by decide +kernel
theorem dL_law_275 : decode cL_law 275 = .ok (.iaload, 1) := by decide +kernel
theorem dL_law_276 : decode cL_law 276 = .ok (.aload_n 0, 1) := by decide +kernel
theorem dL_law_277 : decode cL_law 277 = .ok (.iload_n 3, 1) := by decide +kernel
theorem dL_law_278 : decode cL_law 278 = .ok (.iconst 2, 1) := by decide +kernel
theorem dL_law_279 : decode cL_law 279 = .ok (.iadd, 1) := by decide +kernel
theorem dL_law_280 : decode cL_law 280 = .ok (.iaload, 1) := by decide +kernel
theorem dL_law_281 : decode cL_law 281 = .ok (.invokevirtual 34, 3) := by decide +kernel
theorem dL_law_284 : decode cL_law 284 = .ok (.if_icmp .eq 512, 3) := by decide +kernel
theorem dL_law_287 : decode cL_law 287 = .ok (.iconst 0, 1) := by decide +kernel
theorem dL_law_288 : decode cL_law 288 = .ok (.ireturn, 1) := by decide +kernel
theorem dL_law_289 : decode cL_law 289 = .ok (.aload_n 1, 1) := by decide +kernel
theorem dL_law_290 : decode cL_law 290 = .ok (.aload_n 0, 1) := by decide +kernel
theorem dL_law_291 : decode cL_law 291 = .ok (.iload_n 3, 1) := by decide +kernel
theorem dL_law_292 : decode cL_law 292 = .ok (.iconst 1, 1) := by decide +kernel
theorem dL_law_293 : decode cL_law 293 = .ok (.iadd, 1) := by decide +kernel
theorem dL_law_294 : decode cL_law 294 = .ok (.iaload, 1) := by decide +kernel
theorem dL_law_295 : decode cL_law 295 = .ok (.aload_n 0, 1) := by decide +kernel
theorem dL_law_296 : decode cL_law 296 = .ok (.iload_n 3, 1) := by decide +kernel
theorem dL_law_297 : decode cL_law 297 = .ok (.iconst 2, 1) := by decide +kernel
theorem dL_law_298 : decode cL_law 298 = .ok (.iadd, 1) := by decide +kernel
theorem dL_law_299 : decode cL_law 299 = .ok (.iaload, 1) := by decide +kernel
theorem dL_law_300 : decode cL_law 300 = .ok (.invokevirtual 35, 3) := by decide +kernel
theorem dL_law_303 : decode cL_law 303 = .ok (.aload_n 2, 1) := by decide +kernel
theorem dL_law_304 : decode cL_law 304 = .ok (.aload_n 0, 1) := by decide +kernel
theorem dL_law_305 : decode cL_law 305 = .ok (.iload_n 3, 1) := by decide +kernel
theorem dL_law_306 : decode cL_law 306 = .ok (.iconst 1, 1) := by decide +kernel
theorem dL_law_307 : decode cL_law 307 = .ok (.iadd, 1) := by decide +kernel
theorem dL_law_308 : decode cL_law 308 = .ok (.iaload, 1) := by decide +kernel
theorem dL_law_309 : decode cL_law 309 = .ok (.aload_n 0, 1) := by decide +kernel
theorem dL_law_310 : decode cL_law 310 = .ok (.iload_n 3, 1) := by decide +kernel
theorem dL_law_311 : decode cL_law 311 = .ok (.iconst 2, 1) := by decide +kernel
theorem dL_law_312 : decode cL_law 312 = .ok (.iadd, 1) := by decide +kernel
theorem dL_law_313 : decode cL_law 313 = .ok (.iaload, 1) := by decide +kernel
theorem dL_law_314 : decode cL_law 314 = .ok (.invokevirtual 38, 3) := by decide +kernel
theorem dL_law_317 : decode cL_law 317 = .ok (.if_icmp .eq 479, 3) := by decide +kernel
theorem dL_law_320 : decode cL_law 320 = .ok (.iconst 0, 1) := by decide +kernel
theorem dL_law_321 : decode cL_law 321 = .ok (.ireturn, 1) := by decide +kernel
theorem dL_law_322 : decode cL_law 322 = .ok (.aload_n 1, 1) := by decide +kernel
theorem dL_law_323 : decode cL_law 323 = .ok (.aload_n 0, 1) := by decide +kernel
theorem dL_law_324 : decode cL_law 324 = .ok (.iload_n 3, 1) := by decide +kernel
theorem dL_law_325 : decode cL_law 325 = .ok (.iconst 1, 1) := by decide +kernel
theorem dL_law_326 : decode cL_law 326 = .ok (.iadd, 1) := by decide +kernel
theorem dL_law_327 : decode cL_law 327 = .ok (.iaload, 1) := by decide +kernel
theorem dL_law_328 : decode cL_law 328 = .ok (.aload_n 0, 1) := by decide +kernel
theorem dL_law_329 : decode cL_law 329 = .ok (.iload_n 3, 1) := by decide +kernel
theorem dL_law_330 : decode cL_law 330 = .ok (.iconst 2, 1) := by decide +kernel
theorem dL_law_331 : decode cL_law 331 = .ok (.iadd, 1) := by decide +kernel
theorem dL_law_332 : decode cL_law 332 = .ok (.iaload, 1) := by decide +kernel
theorem dL_law_333 : decode cL_law 333 = .ok (.invokevirtual 39, 3) := by decide +kernel
theorem dL_law_336 : decode cL_law 336 = .ok (.aload_n 2, 1) := by decide +kernel
theorem dL_law_337 : decode cL_law 337 = .ok (.aload_n 0, 1) := by decide +kernel
theorem dL_law_338 : decode cL_law 338 = .ok (.iload_n 3, 1) := by decide +kernel
theorem dL_law_339 : decode cL_law 339 = .ok (.iconst 1, 1) := by decide +kernel
theorem dL_law_340 : decode cL_law 340 = .ok (.iadd, 1) := by decide +kernel
theorem dL_law_341 : decode cL_law 341 = .ok (.iaload, 1) := by decide +kernel
theorem dL_law_342 : decode cL_law 342 = .ok (.aload_n 0, 1) := by decide +kernel
theorem dL_law_343 : decode cL_law 343 = .ok (.iload_n 3, 1) := by decide +kernel
theorem dL_law_344 : decode cL_law 344 = .ok (.iconst 2, 1) := by decide +kernel
theorem dL_law_345 : decode cL_law 345 = .ok (.iadd, 1) := by decide +kernel
theorem dL_law_346 : decode cL_law 346 = .ok (.iaload, 1) := by decide +kernel
theorem dL_law_347 : decode cL_law 347 = .ok (.invokevirtual 42, 3) := by decide +kernel
theorem dL_law_350 : decode cL_law 350 = .ok (.if_icmp .eq 446, 3) := by decide +kernel
theorem dL_law_353 : decode cL_law 353 = .ok (.iconst 0, 1) := by decide +kernel
theorem dL_law_354 : decode cL_law 354 = .ok (.ireturn, 1) := by decide +kernel
theorem dL_law_355 : decode cL_law 355 = .ok (.aload_n 1, 1) := by decide +kernel
theorem dL_law_356 : decode cL_law 356 = .ok (.aload_n 0, 1) := by decide +kernel
theorem dL_law_357 : decode cL_law 357 = .ok (.iload_n 3, 1) := by decide +kernel
theorem dL_law_358 : decode cL_law 358 = .ok (.iconst 1, 1) := by decide +kernel
theorem dL_law_359 : decode cL_law 359 = .ok (.iadd, 1) := by decide +kernel
theorem dL_law_360 : decode cL_law 360 = .ok (.iaload, 1) := by decide +kernel
theorem dL_law_361 : decode cL_law 361 = .ok (.aload_n 0, 1) := by decide +kernel
theorem dL_law_362 : decode cL_law 362 = .ok (.iload_n 3, 1) := by decide +kernel
theorem dL_law_363 : decode cL_law 363 = .ok (.iconst 2, 1) := by decide +kernel
theorem dL_law_364 : decode cL_law 364 = .ok (.iadd, 1) := by decide +kernel
theorem dL_law_365 : decode cL_law 365 = .ok (.iaload, 1) := by decide +kernel
theorem dL_law_366 : decode cL_law 366 = .ok (.aload_n 0, 1) := by decide +kernel
theorem dL_law_367 : decode cL_law 367 = .ok (.iload_n 3, 1) := by decide +kernel
theorem dL_law_368 : decode cL_law 368 = .ok (.iconst 3, 1) := by decide +kernel
theorem dL_law_369 : decode cL_law 369 = .ok (.iadd, 1) := by decide +kernel
theorem dL_law_370 : decode cL_law 370 = .ok (.iaload, 1) := by decide +kernel
theorem dL_law_371 : decode cL_law 371 = .ok (.invokevirtual 43, 3) := by decide +kernel
theorem dL_law_374 : decode cL_law 374 = .ok (.aload_n 2, 1) := by decide +kernel
theorem dL_law_375 : decode cL_law 375 = .ok (.aload_n 0, 1) := by decide +kernel
theorem dL_law_376 : decode cL_law 376 = .ok (.iload_n 3, 1) := by decide +kernel
theorem dL_law_377 : decode cL_law 377 = .ok (.iconst 1, 1) := by decide +kernel
theorem dL_law_378 : decode cL_law 378 = .ok (.iadd, 1) := by decide +kernel
theorem dL_law_379 : decode cL_law 379 = .ok (.iaload, 1) := by decide +kernel
theorem dL_law_380 : decode cL_law 380 = .ok (.aload_n 0, 1) := by decide +kernel
theorem dL_law_381 : decode cL_law 381 = .ok (.iload_n 3, 1) := by decide +kernel
theorem dL_law_382 : decode cL_law 382 = .ok (.iconst 2, 1) := by decide +kernel
theorem dL_law_383 : decode cL_law 383 = .ok (.iadd, 1) := by decide +kernel
theorem dL_law_384 : decode cL_law 384 = .ok (.iaload, 1) := by decide +kernel
theorem dL_law_385 : decode cL_law 385 = .ok (.aload_n 0, 1) := by decide +kernel
theorem dL_law_386 : decode cL_law 386 = .ok (.iload_n 3, 1) := by decide +kernel
theorem dL_law_387 : decode cL_law 387 = .ok (.iconst 3, 1) := by decide +kernel
theorem dL_law_388 : decode cL_law 388 = .ok (.iadd, 1) := by decide +kernel
theorem dL_law_389 : decode cL_law 389 = .ok (.iaload, 1) := by decide +kernel
theorem dL_law_390 : decode cL_law 390 = .ok (.invokevirtual 47, 3) := by decide +kernel
theorem dL_law_393 : decode cL_law 393 = .ok (.if_icmp .eq 403, 3) := by decide +kernel
theorem dL_law_396 : decode cL_law 396 = .ok (.iconst 0, 1) := by decide +kernel
theorem dL_law_397 : decode cL_law 397 = .ok (.ireturn, 1) := by decide +kernel
theorem dL_law_398 : decode cL_law 398 = .ok (.aload_n 1, 1) := by decide +kernel
theorem dL_law_399 : decode cL_law 399 = .ok (.aload_n 0, 1) := by decide +kernel
theorem dL_law_400 : decode cL_law 400 = .ok (.iload_n 3, 1) := by decide +kernel
theorem dL_law_401 : decode cL_law 401 = .ok (.iconst 1, 1) := by decide +kernel
theorem dL_law_402 : decode cL_law 402 = .ok (.iadd, 1) := by decide +kernel
theorem dL_law_403 : decode cL_law 403 = .ok (.iaload, 1) := by decide +kernel
theorem dL_law_404 : decode cL_law 404 = .ok (.invokevirtual 48, 3) := by decide +kernel
theorem dL_law_407 : decode cL_law 407 = .ok (.aload_n 2, 1) := by decide +kernel
theorem dL_law_408 : decode cL_law 408 = .ok (.aload_n 0, 1) := by decide +kernel
theorem dL_law_409 : decode cL_law 409 = .ok (.iload_n 3, 1) := by decide +kernel
theorem dL_law_410 : decode cL_law 410 = .ok (.iconst 1, 1) := by decide +kernel
theorem dL_law_411 : decode cL_law 411 = .ok (.iadd, 1) := by decide +kernel
theorem dL_law_412 : decode cL_law 412 = .ok (.iaload, 1) := by decide +kernel
theorem dL_law_413 : decode cL_law 413 = .ok (.invokevirtual 51, 3) := by decide +kernel
theorem dL_law_416 : decode cL_law 416 = .ok (.if_icmp .eq 380, 3) := by decide +kernel
theorem dL_law_419 : decode cL_law 419 = .ok (.iconst 0, 1) := by decide +kernel
theorem dL_law_420 : decode cL_law 420 = .ok (.ireturn, 1) := by decide +kernel
theorem dL_law_421 : decode cL_law 421 = .ok (.aload_n 1, 1) := by decide +kernel
theorem dL_law_422 : decode cL_law 422 = .ok (.aload_n 0, 1) := by decide +kernel
theorem dL_law_423 : decode cL_law 423 = .ok (.iload_n 3, 1) := by decide +kernel
theorem dL_law_424 : decode cL_law 424 = .ok (.iconst 1, 1) := by decide +kernel
theorem dL_law_425 : decode cL_law 425 = .ok (.iadd, 1) := by decide +kernel
theorem dL_law_426 : decode cL_law 426 = .ok (.iaload, 1) := by decide +kernel
theorem dL_law_427 : decode cL_law 427 = .ok (.aload_n 0, 1) := by decide +kernel
theorem dL_law_428 : decode cL_law 428 = .ok (.iload_n 3, 1) := by decide +kernel
theorem dL_law_429 : decode cL_law 429 = .ok (.iconst 2, 1) := by decide +kernel
theorem dL_law_430 : decode cL_law 430 = .ok (.iadd, 1) := by decide +kernel
theorem dL_law_431 : decode cL_law 431 = .ok (.iaload, 1) := by decide +kernel
theorem dL_law_432 : decode cL_law 432 = .ok (.aload_n 0, 1) := by decide +kernel
theorem dL_law_433 : decode cL_law 433 = .ok (.iload_n 3, 1) := by decide +kernel
theorem dL_law_434 : decode cL_law 434 = .ok (.iconst 3, 1) := by decide +kernel
theorem dL_law_435 : decode cL_law 435 = .ok (.iadd, 1) := by decide +kernel
theorem dL_law_436 : decode cL_law 436 = .ok (.iaload, 1) := by decide +kernel
theorem dL_law_437 : decode cL_law 437 = .ok (.aload_n 0, 1) := by decide +kernel
theorem dL_law_438 : decode cL_law 438 = .ok (.iload_n 3, 1) := by decide +kernel
theorem dL_law_439 : decode cL_law 439 = .ok (.iconst 4, 1) := by decide +kernel
theorem dL_law_440 : decode cL_law 440 = .ok (.iadd, 1) := by decide +kernel
theorem dL_law_441 : decode cL_law 441 = .ok (.iaload, 1) := by decide +kernel
theorem dL_law_442 : decode cL_law 442 = .ok (.invokevirtual 52, 3) := by decide +kernel
theorem dL_law_445 : decode cL_law 445 = .ok (.aload_n 2, 1) := by decide +kernel
theorem dL_law_446 : decode cL_law 446 = .ok (.aload_n 0, 1) := by decide +kernel
theorem dL_law_447 : decode cL_law 447 = .ok (.iload_n 3, 1) := by decide +kernel
theorem dL_law_448 : decode cL_law 448 = .ok (.iconst 1, 1) := by decide +kernel
theorem dL_law_449 : decode cL_law 449 = .ok (.iadd, 1) := by decide +kernel
theorem dL_law_450 : decode cL_law 450 = .ok (.iaload, 1) := by decide +kernel
theorem dL_law_451 : decode cL_law 451 = .ok (.aload_n 0, 1) := by decide +kernel
theorem dL_law_452 : decode cL_law 452 = .ok (.iload_n 3, 1) := by decide +kernel
theorem dL_law_453 : decode cL_law 453 = .ok (.iconst 2, 1) := by decide +kernel
theorem dL_law_454 : decode cL_law 454 = .ok (.iadd, 1) := by decide +kernel
theorem dL_law_455 : decode cL_law 455 = .ok (.iaload, 1) := by decide +kernel
theorem dL_law_456 : decode cL_law 456 = .ok (.aload_n 0, 1) := by decide +kernel
theorem dL_law_457 : decode cL_law 457 = .ok (.iload_n 3, 1) := by decide +kernel
theorem dL_law_458 : decode cL_law 458 = .ok (.iconst 3, 1) := by decide +kernel
theorem dL_law_459 : decode cL_law 459 = .ok (.iadd, 1) := by decide +kernel
theorem dL_law_460 : decode cL_law 460 = .ok (.iaload, 1) := by decide +kernel
theorem dL_law_461 : decode cL_law 461 = .ok (.aload_n 0, 1) := by decide +kernel
theorem dL_law_462 : decode cL_law 462 = .ok (.iload_n 3, 1) := by decide +kernel
theorem dL_law_463 : decode cL_law 463 = .ok (.iconst 4, 1) := by decide +kernel
theorem dL_law_464 : decode cL_law 464 = .ok (.iadd, 1) := by decide +kernel
theorem dL_law_465 : decode cL_law 465 = .ok (.iaload, 1) := by decide +kernel
theorem dL_law_466 : decode cL_law 466 = .ok (.invokevirtual 56, 3) := by decide +kernel
theorem dL_law_469 : decode cL_law 469 = .ok (.if_icmp .eq 327, 3) := by decide +kernel
theorem dL_law_472 : decode cL_law 472 = .ok (.iconst 0, 1) := by decide +kernel
theorem dL_law_473 : decode cL_law 473 = .ok (.ireturn, 1) := by decide +kernel
theorem dL_law_474 : decode cL_law 474 = .ok (.aload_n 1, 1) := by decide +kernel
theorem dL_law_475 : decode cL_law 475 = .ok (.aload_n 0, 1) := by decide +kernel
theorem dL_law_476 : decode cL_law 476 = .ok (.iload_n 3, 1) := by decide +kernel
theorem dL_law_477 : decode cL_law 477 = .ok (.iconst 1, 1) := by decide +kernel
theorem dL_law_478 : decode cL_law 478 = .ok (.iadd, 1) := by decide +kernel
theorem dL_law_479 : decode cL_law 479 = .ok (.iaload, 1) := by decide +kernel
theorem dL_law_480 : decode cL_law 480 = .ok (.invokevirtual 57, 3) := by decide +kernel
theorem dL_law_483 : decode cL_law 483 = .ok (.aload_n 2, 1) := by decide +kernel
theorem dL_law_484 : decode cL_law 484 = .ok (.aload_n 0, 1) := by decide +kernel
theorem dL_law_485 : decode cL_law 485 = .ok (.iload_n 3, 1) := by decide +kernel
theorem dL_law_486 : decode cL_law 486 = .ok (.iconst 1, 1) := by decide +kernel
theorem dL_law_487 : decode cL_law 487 = .ok (.iadd, 1) := by decide +kernel
theorem dL_law_488 : decode cL_law 488 = .ok (.iaload, 1) := by decide +kernel
theorem dL_law_489 : decode cL_law 489 = .ok (.invokevirtual 60, 3) := by decide +kernel
theorem dL_law_492 : decode cL_law 492 = .ok (.if_icmp .eq 304, 3) := by decide +kernel
theorem dL_law_495 : decode cL_law 495 = .ok (.iconst 0, 1) := by decide +kernel
theorem dL_law_496 : decode cL_law 496 = .ok (.ireturn, 1) := by decide +kernel
theorem dL_law_497 : decode cL_law 497 = .ok (.aload_n 1, 1) := by decide +kernel
theorem dL_law_498 : decode cL_law 498 = .ok (.aload_n 0, 1) := by decide +kernel
theorem dL_law_499 : decode cL_law 499 = .ok (.iload_n 3, 1) := by decide +kernel
theorem dL_law_500 : decode cL_law 500 = .ok (.iconst 1, 1) := by decide +kernel
theorem dL_law_501 : decode cL_law 501 = .ok (.iadd, 1) := by decide +kernel
theorem dL_law_502 : decode cL_law 502 = .ok (.iaload, 1) := by decide +kernel
theorem dL_law_503 : decode cL_law 503 = .ok (.aload_n 0, 1) := by decide +kernel
theorem dL_law_504 : decode cL_law 504 = .ok (.iload_n 3, 1) := by decide +kernel
theorem dL_law_505 : decode cL_law 505 = .ok (.iconst 2, 1) := by decide +kernel
theorem dL_law_506 : decode cL_law 506 = .ok (.iadd, 1) := by decide +kernel
theorem dL_law_507 : decode cL_law 507 = .ok (.iaload, 1) := by decide +kernel
theorem dL_law_508 : decode cL_law 508 = .ok (.invokevirtual 61, 3) := by decide +kernel
theorem dL_law_511 : decode cL_law 511 = .ok (.aload_n 2, 1) := by decide +kernel
theorem dL_law_512 : decode cL_law 512 = .ok (.aload_n 0, 1) := by decide +kernel
theorem dL_law_513 : decode cL_law 513 = .ok (.iload_n 3, 1) := by decide +kernel
theorem dL_law_514 : decode cL_law 514 = .ok (.iconst 1, 1) := by decide +kernel
theorem dL_law_515 : decode cL_law 515 = .ok (.iadd, 1) := by decide +kernel
theorem dL_law_516 : decode cL_law 516 = .ok (.iaload, 1) := by decide +kernel
theorem dL_law_517 : decode cL_law 517 = .ok (.aload_n 0, 1) := by decide +kernel
theorem dL_law_518 : decode cL_law 518 = .ok (.iload_n 3, 1) := by decide +kernel
theorem dL_law_519 : decode cL_law 519 = .ok (.iconst 2, 1) := by decide +kernel
theorem dL_law_520 : decode cL_law 520 = .ok (.iadd, 1) := by decide +kernel
theorem dL_law_521 : decode cL_law 521 = .ok (.iaload, 1) := by decide +kernel
theorem dL_law_522 : decode cL_law 522 = .ok (.invokevirtual 64, 3) := by decide +kernel
theorem dL_law_525 : decode cL_law 525 = .ok (.if_icmp .eq 271, 3) := by decide +kernel
theorem dL_law_528 : decode cL_law 528 = .ok (.iconst 0, 1) := by decide +kernel
theorem dL_law_529 : decode cL_law 529 = .ok (.ireturn, 1) := by decide +kernel
theorem dL_law_530 : decode cL_law 530 = .ok (.aload_n 1, 1) := by decide +kernel
theorem dL_law_531 : decode cL_law 531 = .ok (.aload_n 0, 1) := by decide +kernel
theorem dL_law_532 : decode cL_law 532 = .ok (.iload_n 3, 1) := by decide +kernel
theorem dL_law_533 : decode cL_law 533 = .ok (.iconst 1, 1) := by decide +kernel
theorem dL_law_534 : decode cL_law 534 = .ok (.iadd, 1) := by decide +kernel
theorem dL_law_535 : decode cL_law 535 = .ok (.iaload, 1) := by decide +kernel
theorem dL_law_536 : decode cL_law 536 = .ok (.aload_n 0, 1) := by decide +kernel
theorem dL_law_537 : decode cL_law 537 = .ok (.iload_n 3, 1) := by decide +kernel
theorem dL_law_538 : decode cL_law 538 = .ok (.iconst 2, 1) := by decide +kernel
theorem dL_law_539 : decode cL_law 539 = .ok (.iadd, 1) := by decide +kernel
theorem dL_law_540 : decode cL_law 540 = .ok (.iaload, 1) := by decide +kernel
theorem dL_law_541 : decode cL_law 541 = .ok (.invokevirtual 65, 3) := by decide +kernel
theorem dL_law_544 : decode cL_law 544 = .ok (.aload_n 2, 1) := by decide +kernel
theorem dL_law_545 : decode cL_law 545 = .ok (.aload_n 0, 1) := by decide +kernel
theorem dL_law_546 : decode cL_law 546 = .ok (.iload_n 3, 1) := by decide +kernel
theorem dL_law_547 : decode cL_law 547 = .ok (.iconst 1, 1) := by decide +kernel
theorem dL_law_548 : decode cL_law 548 = .ok (.iadd, 1) := by decide +kernel
theorem dL_law_549 : decode cL_law 549 = .ok (.iaload, 1) := by decide +kernel
theorem dL_law_550 : decode cL_law 550 = .ok (.aload_n 0, 1) := by decide +kernel
theorem dL_law_551 : decode cL_law 551 = .ok (.iload_n 3, 1) := by decide +kernel
theorem dL_law_552 : decode cL_law 552 = .ok (.iconst 2, 1) := by decide +kernel
theorem dL_law_553 : decode cL_law 553 = .ok (.iadd, 1) := by decide +kernel
theorem dL_law_554 : decode cL_law 554 = .ok (.iaload, 1) := by decide +kernel
theorem dL_law_555 : decode cL_law 555 = .ok (.invokevirtual 68, 3) := by decide +kernel
theorem dL_law_558 : decode cL_law 558 = .ok (.if_icmp .eq 238, 3) := by decide +kernel
theorem dL_law_561 : decode cL_law 561 = .ok (.iconst 0, 1) := by decide +kernel
theorem dL_law_562 : decode cL_law 562 = .ok (.ireturn, 1) := by decide +kernel
theorem dL_law_563 : decode cL_law 563 = .ok (.aload_n 1, 1) := by decide +kernel
theorem dL_law_564 : decode cL_law 564 = .ok (.aload_n 0, 1) := by decide +kernel
theorem dL_law_565 : decode cL_law 565 = .ok (.iload_n 3, 1) := by decide +kernel
theorem dL_law_566 : decode cL_law 566 = .ok (.iconst 1, 1) := by decide +kernel
theorem dL_law_567 : decode cL_law 567 = .ok (.iadd, 1) := by decide +kernel
theorem dL_law_568 : decode cL_law 568 = .ok (.iaload, 1) := by decide +kernel
theorem dL_law_569 : decode cL_law 569 = .ok (.invokevirtual 69, 3) := by decide +kernel
theorem dL_law_572 : decode cL_law 572 = .ok (.aload_n 2, 1) := by decide +kernel
theorem dL_law_573 : decode cL_law 573 = .ok (.aload_n 0, 1) := by decide +kernel
theorem dL_law_574 : decode cL_law 574 = .ok (.iload_n 3, 1) := by decide +kernel
theorem dL_law_575 : decode cL_law 575 = .ok (.iconst 1, 1) := by decide +kernel
theorem dL_law_576 : decode cL_law 576 = .ok (.iadd, 1) := by decide +kernel
theorem dL_law_577 : decode cL_law 577 = .ok (.iaload, 1) := by decide +kernel
theorem dL_law_578 : decode cL_law 578 = .ok (.invokevirtual 72, 3) := by decide +kernel
theorem dL_law_581 : decode cL_law 581 = .ok (.if_icmp .eq 215, 3) := by decide +kernel
theorem dL_law_584 : decode cL_law 584 = .ok (.iconst 0, 1) := by decide +kernel
theorem dL_law_585 : decode cL_law 585 = .ok (.ireturn, 1) := by decide +kernel
theorem dL_law_586 : decode cL_law 586 = .ok (.aload_n 1, 1) := by decide +kernel
theorem dL_law_587 : decode cL_law 587 = .ok (.aload_n 0, 1) := by decide +kernel
theorem dL_law_588 : decode cL_law 588 = .ok (.iload_n 3, 1) := by decide +kernel
theorem dL_law_589 : decode cL_law 589 = .ok (.iconst 1, 1) := by decide +kernel
theorem dL_law_590 : decode cL_law 590 = .ok (.iadd, 1) := by decide +kernel
theorem dL_law_591 : decode cL_law 591 = .ok (.iaload, 1) := by decide +kernel
theorem dL_law_592 : decode cL_law 592 = .ok (.invokevirtual 73, 3) := by decide +kernel
theorem dL_law_595 : decode cL_law 595 = .ok (.aload_n 2, 1) := by decide +kernel
theorem dL_law_596 : decode cL_law 596 = .ok (.aload_n 0, 1) := by decide +kernel
theorem dL_law_597 : decode cL_law 597 = .ok (.iload_n 3, 1) := by decide +kernel
theorem dL_law_598 : decode cL_law 598 = .ok (.iconst 1, 1) := by decide +kernel
theorem dL_law_599 : decode cL_law 599 = .ok (.iadd, 1) := by decide +kernel
theorem dL_law_600 : decode cL_law 600 = .ok (.iaload, 1) := by decide +kernel
theorem dL_law_601 : decode cL_law 601 = .ok (.invokevirtual 76, 3) := by decide +kernel
theorem dL_law_604 : decode cL_law 604 = .ok (.if_icmp .eq 192, 3) := by decide +kernel
theorem dL_law_607 : decode cL_law 607 = .ok (.iconst 0, 1) := by decide +kernel
theorem dL_law_608 : decode cL_law 608 = .ok (.ireturn, 1) := by decide +kernel
theorem dL_law_609 : decode cL_law 609 = .ok (.aload_n 1, 1) := by decide +kernel
theorem dL_law_610 : decode cL_law 610 = .ok (.invokevirtual 77, 3) := by decide +kernel
theorem dL_law_613 : decode cL_law 613 = .ok (.aload_n 2, 1) := by decide +kernel
theorem dL_law_614 : decode cL_law 614 = .ok (.invokevirtual 81, 3) := by decide +kernel
theorem dL_law_617 : decode cL_law 617 = .ok (.if_icmp .eq 179, 3) := by decide +kernel
theorem dL_law_620 : decode cL_law 620 = .ok (.iconst 0, 1) := by decide +kernel
theorem dL_law_621 : decode cL_law 621 = .ok (.ireturn, 1) := by decide +kernel
theorem dL_law_622 : decode cL_law 622 = .ok (.aload_n 1, 1) := by decide +kernel
theorem dL_law_623 : decode cL_law 623 = .ok (.invokevirtual 82, 3) := by decide +kernel
theorem dL_law_626 : decode cL_law 626 = .ok (.aload_n 2, 1) := by decide +kernel
theorem dL_law_627 : decode cL_law 627 = .ok (.invokevirtual 85, 3) := by decide +kernel
theorem dL_law_630 : decode cL_law 630 = .ok (.if_icmp .eq 166, 3) := by decide +kernel
theorem dL_law_633 : decode cL_law 633 = .ok (.iconst 0, 1) := by decide +kernel
theorem dL_law_634 : decode cL_law 634 = .ok (.ireturn, 1) := by decide +kernel
theorem dL_law_635 : decode cL_law 635 = .ok (.aload_n 1, 1) := by decide +kernel
theorem dL_law_636 : decode cL_law 636 = .ok (.aload_n 0, 1) := by decide +kernel
theorem dL_law_637 : decode cL_law 637 = .ok (.iload_n 3, 1) := by decide +kernel
theorem dL_law_638 : decode cL_law 638 = .ok (.iconst 1, 1) := by decide +kernel
theorem dL_law_639 : decode cL_law 639 = .ok (.iadd, 1) := by decide +kernel
theorem dL_law_640 : decode cL_law 640 = .ok (.iaload, 1) := by decide +kernel
theorem dL_law_641 : decode cL_law 641 = .ok (.invokevirtual 86, 3) := by decide +kernel
theorem dL_law_644 : decode cL_law 644 = .ok (.aload_n 2, 1) := by decide +kernel
theorem dL_law_645 : decode cL_law 645 = .ok (.aload_n 0, 1) := by decide +kernel
theorem dL_law_646 : decode cL_law 646 = .ok (.iload_n 3, 1) := by decide +kernel
theorem dL_law_647 : decode cL_law 647 = .ok (.iconst 1, 1) := by decide +kernel
theorem dL_law_648 : decode cL_law 648 = .ok (.iadd, 1) := by decide +kernel
theorem dL_law_649 : decode cL_law 649 = .ok (.iaload, 1) := by decide +kernel
theorem dL_law_650 : decode cL_law 650 = .ok (.invokevirtual 89, 3) := by decide +kernel
theorem dL_law_653 : decode cL_law 653 = .ok (.if_icmp .eq 143, 3) := by decide +kernel
theorem dL_law_656 : decode cL_law 656 = .ok (.iconst 0, 1) := by decide +kernel
theorem dL_law_657 : decode cL_law 657 = .ok (.ireturn, 1) := by decide +kernel
theorem dL_law_658 : decode cL_law 658 = .ok (.aload_n 1, 1) := by decide +kernel
theorem dL_law_659 : decode cL_law 659 = .ok (.aload_n 0, 1) := by decide +kernel
theorem dL_law_660 : decode cL_law 660 = .ok (.iload_n 3, 1) := by decide +kernel
theorem dL_law_661 : decode cL_law 661 = .ok (.iconst 1, 1) := by decide +kernel
theorem dL_law_662 : decode cL_law 662 = .ok (.iadd, 1) := by decide +kernel
theorem dL_law_663 : decode cL_law 663 = .ok (.iaload, 1) := by decide +kernel
theorem dL_law_664 : decode cL_law 664 = .ok (.invokevirtual 90, 3) := by decide +kernel
theorem dL_law_667 : decode cL_law 667 = .ok (.aload_n 2, 1) := by decide +kernel
theorem dL_law_668 : decode cL_law 668 = .ok (.aload_n 0, 1) := by decide +kernel
theorem dL_law_669 : decode cL_law 669 = .ok (.iload_n 3, 1) := by decide +kernel
theorem dL_law_670 : decode cL_law 670 = .ok (.iconst 1, 1) := by decide +kernel
theorem dL_law_671 : decode cL_law 671 = .ok (.iadd, 1) := by decide +kernel
theorem dL_law_672 : decode cL_law 672 = .ok (.iaload, 1) := by decide +kernel
theorem dL_law_673 : decode cL_law 673 = .ok (.invokevirtual 93, 3) := by decide +kernel
theorem dL_law_676 : decode cL_law 676 = .ok (.if_icmp .eq 120, 3) := by decide +kernel
theorem dL_law_679 : decode cL_law 679 = .ok (.iconst 0, 1) := by decide +kernel
theorem dL_law_680 : decode cL_law 680 = .ok (.ireturn, 1) := by decide +kernel
theorem dL_law_681 : decode cL_law 681 = .ok (.aload_n 1, 1) := by decide +kernel
theorem dL_law_682 : decode cL_law 682 = .ok (.aload_n 0, 1) := by decide +kernel
theorem dL_law_683 : decode cL_law 683 = .ok (.iload_n 3, 1) := by decide +kernel
theorem dL_law_684 : decode cL_law 684 = .ok (.iconst 1, 1) := by decide +kernel
theorem dL_law_685 : decode cL_law 685 = .ok (.iadd, 1) := by decide +kernel
theorem dL_law_686 : decode cL_law 686 = .ok (.iaload, 1) := by decide +kernel
theorem dL_law_687 : decode cL_law 687 = .ok (.aload_n 0, 1) := by decide +kernel
theorem dL_law_688 : decode cL_law 688 = .ok (.iload_n 3, 1) := by decide +kernel
theorem dL_law_689 : decode cL_law 689 = .ok (.iconst 2, 1) := by decide +kernel
theorem dL_law_690 : decode cL_law 690 = .ok (.iadd, 1) := by decide +kernel
theorem dL_law_691 : decode cL_law 691 = .ok (.iaload, 1) := by decide +kernel
theorem dL_law_692 : decode cL_law 692 = .ok (.invokevirtual 94, 3) := by decide +kernel
theorem dL_law_695 : decode cL_law 695 = .ok (.aload_n 2, 1) := by decide +kernel
theorem dL_law_696 : decode cL_law 696 = .ok (.aload_n 0, 1) := by decide +kernel
theorem dL_law_697 : decode cL_law 697 = .ok (.iload_n 3, 1) := by decide +kernel
theorem dL_law_698 : decode cL_law 698 = .ok (.iconst 1, 1) := by decide +kernel
theorem dL_law_699 : decode cL_law 699 = .ok (.iadd, 1) := by decide +kernel
theorem dL_law_700 : decode cL_law 700 = .ok (.iaload, 1) := by decide +kernel
theorem dL_law_701 : decode cL_law 701 = .ok (.aload_n 0, 1) := by decide +kernel
theorem dL_law_702 : decode cL_law 702 = .ok (.iload_n 3, 1) := by decide +kernel
theorem dL_law_703 : decode cL_law 703 = .ok (.iconst 2, 1) := by decide +kernel
theorem dL_law_704 : decode cL_law 704 = .ok (.iadd, 1) := by decide +kernel
theorem dL_law_705 : decode cL_law 705 = .ok (.iaload, 1) := by decide +kernel
theorem dL_law_706 : decode cL_law 706 = .ok (.invokevirtual 97, 3) := by decide +kernel
theorem dL_law_709 : decode cL_law 709 = .ok (.if_icmp .eq 87, 3) := by decide +kernel
theorem dL_law_712 : decode cL_law 712 = .ok (.iconst 0, 1) := by decide +kernel
theorem dL_law_713 : decode cL_law 713 = .ok (.ireturn, 1) := by decide +kernel
theorem dL_law_714 : decode cL_law 714 = .ok (.aload_n 1, 1) := by decide +kernel
theorem dL_law_715 : decode cL_law 715 = .ok (.invokevirtual 98, 3) := by decide +kernel
theorem dL_law_718 : decode cL_law 718 = .ok (.aload_n 2, 1) := by decide +kernel
theorem dL_law_719 : decode cL_law 719 = .ok (.invokevirtual 101, 3) := by decide +kernel
theorem dL_law_722 : decode cL_law 722 = .ok (.if_icmp .eq 74, 3) := by decide +kernel
theorem dL_law_725 : decode cL_law 725 = .ok (.iconst 0, 1) := by decide +kernel
theorem dL_law_726 : decode cL_law 726 = .ok (.ireturn, 1) := by decide +kernel
theorem dL_law_727 : decode cL_law 727 = .ok (.aload_n 1, 1) := by decide +kernel
theorem dL_law_728 : decode cL_law 728 = .ok (.aload_n 0, 1) := by decide +kernel
theorem dL_law_729 : decode cL_law 729 = .ok (.iload_n 3, 1) := by decide +kernel
theorem dL_law_730 : decode cL_law 730 = .ok (.iconst 1, 1) := by decide +kernel
theorem dL_law_731 : decode cL_law 731 = .ok (.iadd, 1) := by decide +kernel
theorem dL_law_732 : decode cL_law 732 = .ok (.iaload, 1) := by decide +kernel
theorem dL_law_733 : decode cL_law 733 = .ok (.invokevirtual 102, 3) := by decide +kernel
theorem dL_law_736 : decode cL_law 736 = .ok (.aload_n 2, 1) := by decide +kernel
theorem dL_law_737 : decode cL_law 737 = .ok (.aload_n 0, 1) := by decide +kernel
theorem dL_law_738 : decode cL_law 738 = .ok (.iload_n 3, 1) := by decide +kernel
theorem dL_law_739 : decode cL_law 739 = .ok (.iconst 1, 1) := by decide +kernel
theorem dL_law_740 : decode cL_law 740 = .ok (.iadd, 1) := by decide +kernel
theorem dL_law_741 : decode cL_law 741 = .ok (.iaload, 1) := by decide +kernel
theorem dL_law_742 : decode cL_law 742 = .ok (.invokevirtual 105, 3) := by decide +kernel
theorem dL_law_745 : decode cL_law 745 = .ok (.if_icmp .eq 51, 3) := by decide +kernel
theorem dL_law_748 : decode cL_law 748 = .ok (.iconst 0, 1) := by decide +kernel
theorem dL_law_749 : decode cL_law 749 = .ok (.ireturn, 1) := by decide +kernel
theorem dL_law_750 : decode cL_law 750 = .ok (.aload_n 1, 1) := by decide +kernel
theorem dL_law_751 : decode cL_law 751 = .ok (.aload_n 0, 1) := by decide +kernel
theorem dL_law_752 : decode cL_law 752 = .ok (.iload_n 3, 1) := by decide +kernel
theorem dL_law_753 : decode cL_law 753 = .ok (.iconst 1, 1) := by decide +kernel
theorem dL_law_754 : decode cL_law 754 = .ok (.iadd, 1) := by decide +kernel
theorem dL_law_755 : decode cL_law 755 = .ok (.iaload, 1) := by decide +kernel
theorem dL_law_756 : decode cL_law 756 = .ok (.invokevirtual 106, 3) := by decide +kernel
theorem dL_law_759 : decode cL_law 759 = .ok (.aload_n 2, 1) := by decide +kernel
theorem dL_law_760 : decode cL_law 760 = .ok (.aload_n 0, 1) := by decide +kernel
theorem dL_law_761 : decode cL_law 761 = .ok (.iload_n 3, 1) := by decide +kernel
theorem dL_law_762 : decode cL_law 762 = .ok (.iconst 1, 1) := by decide +kernel
theorem dL_law_763 : decode cL_law 763 = .ok (.iadd, 1) := by decide +kernel
theorem dL_law_764 : decode cL_law 764 = .ok (.iaload, 1) := by decide +kernel
theorem dL_law_765 : decode cL_law 765 = .ok (.invokevirtual 109, 3) := by decide +kernel
theorem dL_law_768 : decode cL_law 768 = .ok (.if_icmp .eq 28, 3) := by decide +kernel
theorem dL_law_771 : decode cL_law 771 = .ok (.iconst 0, 1) := by decide +kernel
theorem dL_law_772 : decode cL_law 772 = .ok (.ireturn, 1) := by decide +kernel
theorem dL_law_773 : decode cL_law 773 = .ok (.aload_n 1, 1) := by decide +kernel
theorem dL_law_774 : decode cL_law 774 = .ok (.aload_n 0, 1) := by decide +kernel
theorem dL_law_775 : decode cL_law 775 = .ok (.iload_n 3, 1) := by decide +kernel
theorem dL_law_776 : decode cL_law 776 = .ok (.iconst 1, 1) := by decide +kernel
theorem dL_law_777 : decode cL_law 777 = .ok (.iadd, 1) := by decide +kernel
theorem dL_law_778 : decode cL_law 778 = .ok (.iaload, 1) := by decide +kernel
theorem dL_law_779 : decode cL_law 779 = .ok (.invokevirtual 110, 3) := by decide +kernel
theorem dL_law_782 : decode cL_law 782 = .ok (.aload_n 2, 1) := by decide +kernel
theorem dL_law_783 : decode cL_law 783 = .ok (.aload_n 0, 1) := by decide +kernel
theorem dL_law_784 : decode cL_law 784 = .ok (.iload_n 3, 1) := by decide +kernel
theorem dL_law_785 : decode cL_law 785 = .ok (.iconst 1, 1) := by decide +kernel
theorem dL_law_786 : decode cL_law 786 = .ok (.iadd, 1) := by decide +kernel
theorem dL_law_787 : decode cL_law 787 = .ok (.iaload, 1) := by decide +kernel
theorem dL_law_788 : decode cL_law 788 = .ok (.invokevirtual 113, 3) := by decide +kernel
theorem dL_law_791 : decode cL_law 791 = .ok (.if_icmp .eq 5, 3) := by decide +kernel
theorem dL_law_794 : decode cL_law 794 = .ok (.iconst 0, 1) := by decide +kernel
theorem dL_law_795 : decode cL_law 795 = .ok (.ireturn, 1) := by decide +kernel
theorem dL_law_796 : decode cL_law 796 = .ok (.iinc 3 5, 3) := by decide +kernel
theorem dL_law_799 : decode cL_law 799 = .ok (.goto (-781), 3) := by decide +kernel
theorem dL_law_802 : decode cL_law 802 = .ok (.iconst 1, 1) := by decide +kernel
theorem dL_law_803 : decode cL_law 803 = .ok (.ireturn, 1) := by decide +kernel
end
section
/-! the words: all good words of the tables, the same list for every method -/
def lwG : List Cond := lw_tbl.filter goodWord
theorem lwG_tab {w : Cond} (i : Nat) (h : tables_1[i]? = some w) (hg : goodWord w = true) : w ∈ lwG := List.mem_filter.mpr ⟨List.mem_append_right _ (List.mem_of_getElem? h), hg⟩
theorem lwG_sel {q : MethodName × Nat} (i : Nat) (h : lw_privs[i]? = some q) : Cond.selects q.1.cls q.1 q.1 ∈ lwG := List.mem_filter.mpr ⟨List.mem_append_left _ (List.mem_map.mpr ⟨q, List.mem_of_getElem? h, rfl⟩), rfl⟩
theorem lwG_good {T : List Cond} (hT : ∀ w ∈ lwG, w ∈ T) : GoodIn T lwG := fun w h => ⟨hT w h, good_of_word (List.mem_filter.mp h).2⟩
theorem lwG_self : GoodIn lwG lwG := lwG_good (fun _ h => h)
/-! the state: ints by number, arrays by number; the world of 28 cells -/
abbrev pv_S : Type := (Nat → Int32) × (Nat → Nat → Int32)
def pv_pi (σ : pv_S) (k : Nat) (v : Int32) : pv_S := (va_up σ.1 k v, σ.2)
def pv_pa (σ : pv_S) (k : Nat) (f : Nat → Int32) : pv_S := (σ.1, va_up σ.2 k f)
def pv_W (cI cZ : ClassId) (ad : Nat → Nat) (σ : pv_S) : va_W := [
  (ad 0, .inr (7, [.ref (ad 1), .ref (ad 2), .ref (ad 3), .ref (ad 4), .ref (ad 5), .ref (ad 6), .ref (ad 7)])),
  (ad 1, .inr (6, [.ref (ad 9), .int (σ.1 0)])),
  (ad 2, .inr (4, [.ref (ad 1), .ref (ad 10), .ref (ad 11), .int (σ.1 1)])),
  (ad 3, .inr (5, [.ref (ad 1), .ref (ad 12), .ref (ad 13), .ref (ad 14), .ref (ad 15), .int (σ.1 2), .int (σ.1 3), .int (σ.1 4), .int (σ.1 5)])),
  (ad 4, .inr (2, [.ref (ad 16), .int (σ.1 6), .int (σ.1 7)])),
  (ad 5, .inr (3, [.ref (ad 17), .ref (ad 18), .ref (ad 19)])),
  (ad 6, .inr (0, [.ref (ad 20), .ref (ad 21), .int (σ.1 8)])),
  (ad 7, .inr (1, [.int (σ.1 9)])),
  (ad 8, .inr (8, [.ref (ad 22), .int (σ.1 10), .int (σ.1 11), .int (σ.1 12), .ref (ad 23), .ref (ad 24), .ref (ad 25), .int (σ.1 13), .ref (ad 26), .ref (ad 27), .int (σ.1 14)])),
  (ad 9, .inl (cI, 46, .inl (σ.2 0))),
  (ad 10, .inl (cI, 10, .inl (σ.2 1))),
  (ad 11, .inl (cI, 10, .inl (σ.2 2))),
  (ad 12, .inl (cI, 100, .inl (σ.2 3))),
  (ad 13, .inl (cI, 1024, .inl (σ.2 4))),
  (ad 14, .inl (cI, 11, .inl (σ.2 5))),
  (ad 15, .inl (cI, 10, .inl (σ.2 6))),
  (ad 16, .inl (cI, 736, .inl (σ.2 7))),
  (ad 17, .inl (cI, 92, .inl (σ.2 8))),
  (ad 18, .inl (cI, 2, .inl (σ.2 9))),
  (ad 19, .inl (cZ, 2, .inl (σ.2 10))),
  (ad 20, .inl (cI, 20, .inl (σ.2 11))),
  (ad 21, .inl (cI, 20, .inl (σ.2 12))),
  (ad 22, .inl (cI, 874, .inl (σ.2 13))),
  (ad 23, .inl (cI, 2, .inl (σ.2 14))),
  (ad 24, .inl (cI, 20, .inl (σ.2 15))),
  (ad 25, .inl (cI, 20, .inl (σ.2 16))),
  (ad 26, .inl (cI, 11264, .inl (σ.2 17))),
  (ad 27, .inl (cI, 10, .inl (σ.2 18)))]
def pv_J (ad : Nat → Nat) : Prop := ∀ i j : Nat, i < 28 → j < 28 → ad i = ad j → i = j
def pv_A (ad : Nat → Nat) : Nat → Prop := fun q => ∃ k, k < 28 ∧ q = ad k
theorem pv_W_key (cI cZ : ClassId) (ad : Nat → Nat) (σ : pv_S) (k : Nat) (q : Nat × va_E) (h : (pv_W cI cZ ad σ)[k]? = some q) : k < 28 ∧ q.1 = ad k := by
  have hk : k < 28 := (List.getElem?_eq_some_iff.mp h).1
  refine ⟨hk, ?_⟩
  have e : ((pv_W cI cZ ad σ).map Prod.fst)[k]? = some q.1 := by rw [List.getElem?_map, h]; rfl
  have e2 : (pv_W cI cZ ad σ).map Prod.fst = (List.range 28).map ad := rfl
  rw [e2, List.getElem?_map, List.getElem?_range hk] at e
  exact (Option.some.inj e).symm
theorem pv_W_D {A : Nat → Prop} {ad : Nat → Nat} (hJ : pv_J ad) (hA : ∀ k, k < 28 → A (ad k)) (cI cZ : ClassId) (σ : pv_S) : va_D A (pv_W cI cZ ad σ) := by
  refine ⟨fun i j p q hi hj h => ?_, fun k q hk => ?_⟩
  · obtain ⟨a1, a2⟩ := pv_W_key _ _ _ _ _ _ hi
    obtain ⟨b1, b2⟩ := pv_W_key _ _ _ _ _ _ hj
    exact hJ i j a1 b1 (by rw [← a2, ← b2]; exact h)
  · obtain ⟨a1, a2⟩ := pv_W_key _ _ _ _ _ _ hk
    rw [a2]; exact hA k a1
/-! what the statics hold, and the one nest link -/
def pv_gt (k : Nat) : Int32 := match k with
  | 0 => 9
  | 1 => 9
  | 2 => 99
  | 3 => 999
  | _ => 99
def pv_N (A : Nat → Prop) (U : State) (H : Heap) : Prop := va_Nw (.methodLinkNest RX5 98 yX7_isVoiceCount RX7) U ∧ ∃ gt : Nat, va_Z RX6 "GREATEST_TERMS" "[I" (.ref gt) A U H ∧ va_T .int gt 5 (fun j => .int (pv_gt j)) A U H
theorem pv_N.narrow {A B : Nat → Prop} {U : State} {H : Heap} (h : pv_N A U H) (hAB : ∀ q, B q → A q) : pv_N B U H := by
  obtain ⟨h1, gt, h2, h3⟩ := h
  exact ⟨h1, gt, h2.narrow hAB, h3.narrow hAB⟩
theorem pv_N.kept {A : Nat → Prop} {U : State} {H H1 : Heap} (h : pv_N A U H) (hq : ∀ a : Nat, a < H.size → ¬ A a → H1[a]? = H[a]?) : pv_N A U H1 := by
  obtain ⟨h1, gt, h2, h3⟩ := h
  exact ⟨h1, gt, h2.kept hq, h3.kept hq⟩
theorem pv_N.warm {A : Nat → Prop} {s U : State} {H : Heap} (hW : s.WarmedH U.vm) (h : pv_N A s H) : pv_N A U H := by
  obtain ⟨h1, gt, h2, h3⟩ := h
  exact ⟨va_Nw.warmM hW h1, gt, h2.moved hW.alike, h3.moved hW.alike⟩
abbrev pv_T (cI cZ : ClassId) : List (ClassId × FieldType) := [(cI, .int), (cZ, .boolean)]
/-- a method's start: the world, the tables, the statics -/
def pv_P (D : va_G) (cI cZ : ClassId) (ad : Nat → Nat) (σ : pv_S) (U : State) : Prop := va_P D vwCl (pv_W cI cZ ad σ) U.heap ∧ va_K D vwCl (pv_T cI cZ) U ∧ pv_N (pv_A ad) U U.heap
theorem pv_P_calling {D : va_G} {cI cZ : ClassId} {ad : Nat → Nat} {σ : pv_S} {U : State} (g : JFrame) (mk : MethodId) (a : Array Value) (h : pv_P D cI cZ ad σ U) : pv_P D cI cZ ad σ (U.calling g mk a) := by
  obtain ⟨h1, h2, h3, gt, h4, h5⟩ := h
  exact ⟨h1, va_K.moved (u := U) (U := U.calling g mk a) (Vm.Alike.refl U.vm) h2, va_Nw.same rfl (u := U) (U := U.calling g mk a) rfl h3, gt, h4.moved (u := U) (U := U.calling g mk a) (Vm.Alike.refl U.vm), h5.moved (u := U) (U := U.calling g mk a) (Vm.Alike.refl U.vm)⟩
theorem pv_blind {D : va_G} {cI cZ : ClassId} {ad : Nat → Nat} {σ : pv_S} {av : List Value} : FrameBlind (va_Pc av (pv_P D cI cZ ad σ)) := fun a U g mk q => ⟨q.1, pv_P_calling g mk a q.2⟩
def pv_QI (D : va_G) (cI cZ : ClassId) (ad : Nat → Nat) (R : Int32 × pv_S) : Array Value → State → Outcome → State → Prop := va_Qi (fun r (u : pv_S) => (r, u) = R) (fun u t => va_P D vwCl (pv_W cI cZ ad u) t.heap) (pv_A ad)
def pv_QV (D : va_G) (cI cZ : ClassId) (ad : Nat → Nat) (R : pv_S) : Array Value → State → Outcome → State → Prop := va_Qv (fun (u : pv_S) => u = R) (fun u t => va_P D vwCl (pv_W cI cZ ad u) t.heap) (pv_A ad)
def pv_QR (D : va_G) (cI cZ : ClassId) (ad : Nat → Nat) (a : Nat) (R : pv_S) : Array Value → State → Outcome → State → Prop := va_Qr (fun (u : pv_S) => u = R) (fun u x t => x = a ∧ va_P D vwCl (pv_W cI cZ ad u) t.heap) (pv_A ad)
/-- what a walk stands on -/
def pv_C (p : Program) (s : State) (m : MethodId) (args : Array Value) (meth : Method) (c : Code) (cc : ByteArray) (nL : Nat) (own : String) (D : va_G) (cI cZ : ClassId) (ad : Nat → Nat) (A : Nat → Prop) : Prop :=
  p.tables.exec = Jvm.exec ∧ c.code = cc ∧ c.maxLocals = nL ∧ s.vm.findClass own = some m.cls ∧ (∀ w ∈ lwG, w.before args s = true) ∧ va_K D vwCl (pv_T cI cZ) s ∧ pv_J ad ∧ (∀ k, k < 28 → A (ad k)) ∧ meth.locks = false ∧ pv_N A s s.heap
section PVW
variable {p : Program} {l : Launch} {e : Env} {R : Room} {s : State} {m : MethodId} {args : Array Value} {below : List Frame} {meth : Method} {c : Code} {cells slots : Nat} {Q : State → Prop}
variable {cc : ByteArray} {nL : Nat} {own : String} {D : va_G} {cI cZ : ClassId} {ad : Nat → Nat} {A : Nat → Prop} {pc : Nat} {lv lv' : List (Nat × Value)} {st : List Value} {σ : pv_S}
/-- the machine at pc with locals lv, stack st and state σ comes to Q -/
def Wx (p : Program) (l : Launch) (e : Env) (R : Room) (s : State) (m : MethodId) (args : Array Value) (below : List Frame) (meth : Method) (c : Code) (cells slots : Nat) (Q : State → Prop) (nL : Nat) (D : va_G) (cI cZ : ClassId) (ad : Nat → Nat) (A : Nat → Prop) (pc : Nat) (lv : List (Nat × Value)) (st : List Value) (σ : pv_S) : Prop :=
  ∀ (H : Heap) (locs : List Loc) (ls : Array Slot), va_P D vwCl (pv_W cI cZ ad σ) H → va_S A s.heap H locs → lv_has ls nL lv → W p l e R s m args below meth c H locs cells slots Q (F0 m pc ls st)
theorem x_sub (ks : List Nat) (hl : lv_pick lv ks = lv') (k : Wx p l e R s m args below meth c cells slots Q nL D cI cZ ad A pc lv' st σ) : Wx p l e R s m args below meth c cells slots Q nL D cI cZ ad A pc lv st σ := fun H locs ls hP hS h => k H locs ls hP hS (lv_sub h ks hl)
theorem x_iconst (C : pv_C p s m args meth c cc nL own D cI cZ ad A) {n : Int} {v : Int32} (hdg : decode cc pc = .ok (.iconst n, 1)) (hv : Int32.ofInt n = v) (k : Wx p l e R s m args below meth c cells slots Q nL D cI cZ ad A (pc + 1) lv (.int v :: st) σ) : Wx p l e R s m args below meth c cells slots Q nL D cI cZ ad A pc lv st σ := fun H locs ls hP hS h => lv_iconst C.1 C.2.1 hdg hv (k H locs ls hP hS h)
theorem x_bipush (C : pv_C p s m args meth c cc nL own D cI cZ ad A) {n : Int} {v : Int32} (hdg : decode cc pc = .ok (.bipush n, 2)) (hv : (Int8.ofInt n).toInt32 = v) (k : Wx p l e R s m args below meth c cells slots Q nL D cI cZ ad A (pc + 2) lv (.int v :: st) σ) : Wx p l e R s m args below meth c cells slots Q nL D cI cZ ad A pc lv st σ := fun H locs ls hP hS h => lv_bipush C.1 C.2.1 hdg hv (k H locs ls hP hS h)
theorem x_sipush (C : pv_C p s m args meth c cc nL own D cI cZ ad A) {n : Int} {v : Int32} (hdg : decode cc pc = .ok (.sipush n, 3)) (hv : (Int16.ofInt n).toInt32 = v) (k : Wx p l e R s m args below meth c cells slots Q nL D cI cZ ad A (pc + 3) lv (.int v :: st) σ) : Wx p l e R s m args below meth c cells slots Q nL D cI cZ ad A pc lv st σ := fun H locs ls hP hS h => lv_sipush C.1 C.2.1 hdg hv (k H locs ls hP hS h)
theorem x_ldc (C : pv_C p s m args meth c cc nL own D cI cZ ad A) {index : Nat} {v : Int32} (hc : Cond.constant own index v ∈ lwG) (hdg : decode cc pc = .ok (.ldc index, 2)) (k : Wx p l e R s m args below meth c cells slots Q nL D cI cZ ad A (pc + 2) lv (.int v :: st) σ) : Wx p l e R s m args below meth c cells slots Q nL D cI cZ ad A pc lv st σ := fun H locs ls hP hS h => lv_ldc C.1 C.2.1 C.2.2.2.1 (C.2.2.2.2.1 _ hc) hdg (k H locs ls hP hS h)
theorem x_ldcw (C : pv_C p s m args meth c cc nL own D cI cZ ad A) {index : Nat} {v : Int32} (hc : Cond.constant own index v ∈ lwG) (hdg : decode cc pc = .ok (.ldc_w index, 3)) (k : Wx p l e R s m args below meth c cells slots Q nL D cI cZ ad A (pc + 3) lv (.int v :: st) σ) : Wx p l e R s m args below meth c cells slots Q nL D cI cZ ad A pc lv st σ := fun H locs ls hP hS h => lv_ldcw C.1 C.2.1 C.2.2.2.1 (C.2.2.2.2.1 _ hc) hdg (k H locs ls hP hS h)
theorem x_ldc2 (C : pv_C p s m args meth c cc nL own D cI cZ ad A) {index : Nat} {v : Int64} (hc : Cond.constantLong own index v ∈ lwG) (hdg : decode cc pc = .ok (.ldc2_w index, 3)) (k : Wx p l e R s m args below meth c cells slots Q nL D cI cZ ad A (pc + 3) lv (.long v :: st) σ) : Wx p l e R s m args below meth c cells slots Q nL D cI cZ ad A pc lv st σ := fun H locs ls hP hS h => lv_ldc2 C.1 C.2.1 C.2.2.2.1 (C.2.2.2.2.1 _ hc) hdg (k H locs ls hP hS h)
theorem x_lconst (C : pv_C p s m args meth c cc nL own D cI cZ ad A) {n : Fin 2} {v : Int64} (hdg : decode cc pc = .ok (.lconst n, 1)) (hv : Int64.ofNat (n : Nat) = v) (k : Wx p l e R s m args below meth c cells slots Q nL D cI cZ ad A (pc + 1) lv (.long v :: st) σ) : Wx p l e R s m args below meth c cells slots Q nL D cI cZ ad A pc lv st σ := fun H locs ls hP hS h => lv_lconst C.1 C.2.1 hdg hv (k H locs ls hP hS h)
theorem x_iload_n (C : pv_C p s m args meth c cc nL own D cI cZ ad A) {j : Fin 4} {i : Nat} {x : Int32} (hdg : decode cc pc = .ok (.iload_n j, 1)) (hi : (j : Nat) = i) (q : Nat) (hq : lv[q]? = some (i, .int x)) (k : Wx p l e R s m args below meth c cells slots Q nL D cI cZ ad A (pc + 1) lv (.int x :: st) σ) : Wx p l e R s m args below meth c cells slots Q nL D cI cZ ad A pc lv st σ := fun H locs ls hP hS h => lv_iload_n C.1 C.2.1 hdg hi (lv_at h q hq) (k H locs ls hP hS h)
theorem x_iload (C : pv_C p s m args meth c cc nL own D cI cZ ad A) {i : Nat} {x : Int32} (hdg : decode cc pc = .ok (.iload i, 2)) (q : Nat) (hq : lv[q]? = some (i, .int x)) (k : Wx p l e R s m args below meth c cells slots Q nL D cI cZ ad A (pc + 2) lv (.int x :: st) σ) : Wx p l e R s m args below meth c cells slots Q nL D cI cZ ad A pc lv st σ := fun H locs ls hP hS h => lv_iload C.1 C.2.1 hdg (lv_at h q hq) (k H locs ls hP hS h)
theorem x_lload_n (C : pv_C p s m args meth c cc nL own D cI cZ ad A) {j : Fin 4} {i : Nat} {x : Int64} (hdg : decode cc pc = .ok (.lload_n j, 1)) (hi : (j : Nat) = i) (q : Nat) (hq : lv[q]? = some (i, .long x)) (k : Wx p l e R s m args below meth c cells slots Q nL D cI cZ ad A (pc + 1) lv (.long x :: st) σ) : Wx p l e R s m args below meth c cells slots Q nL D cI cZ ad A pc lv st σ := fun H locs ls hP hS h => lv_lload_n C.1 C.2.1 hdg hi (lv_at h q hq) (k H locs ls hP hS h)
theorem x_lload (C : pv_C p s m args meth c cc nL own D cI cZ ad A) {i : Nat} {x : Int64} (hdg : decode cc pc = .ok (.lload i, 2)) (q : Nat) (hq : lv[q]? = some (i, .long x)) (k : Wx p l e R s m args below meth c cells slots Q nL D cI cZ ad A (pc + 2) lv (.long x :: st) σ) : Wx p l e R s m args below meth c cells slots Q nL D cI cZ ad A pc lv st σ := fun H locs ls hP hS h => lv_lload C.1 C.2.1 hdg (lv_at h q hq) (k H locs ls hP hS h)
theorem x_aload_n (C : pv_C p s m args meth c cc nL own D cI cZ ad A) {j : Fin 4} {i : Nat} {x : Nat} (hdg : decode cc pc = .ok (.aload_n j, 1)) (hi : (j : Nat) = i) (q : Nat) (hq : lv[q]? = some (i, .ref x)) (k : Wx p l e R s m args below meth c cells slots Q nL D cI cZ ad A (pc + 1) lv (.ref x :: st) σ) : Wx p l e R s m args below meth c cells slots Q nL D cI cZ ad A pc lv st σ := fun H locs ls hP hS h => lv_aload_n C.1 C.2.1 hdg hi (lv_at h q hq) (k H locs ls hP hS h)
theorem x_istore_n (C : pv_C p s m args meth c cc nL own D cI cZ ad A) {j : Fin 4} {i : Nat} {x : Int32} (hdg : decode cc pc = .ok (.istore_n j, 1)) (hi : (j : Nat) = i) (hn : i < nL) (hl : (i, Value.int x) :: lv.filter (fun q => !(q.1 == i) && !(q.1 + 1 == i && q.2.category == 2)) = lv') (k : Wx p l e R s m args below meth c cells slots Q nL D cI cZ ad A (pc + 1) lv' st σ) : Wx p l e R s m args below meth c cells slots Q nL D cI cZ ad A pc lv (.int x :: st) σ := fun H locs ls hP hS h => lv_istore_n C.1 C.2.1 hdg hi h hn hl (fun ls h => k H locs ls hP hS h)
theorem x_istore (C : pv_C p s m args meth c cc nL own D cI cZ ad A) {i : Nat} {x : Int32} (hdg : decode cc pc = .ok (.istore i, 2)) (hn : i < nL) (hl : (i, Value.int x) :: lv.filter (fun q => !(q.1 == i) && !(q.1 + 1 == i && q.2.category == 2)) = lv') (k : Wx p l e R s m args below meth c cells slots Q nL D cI cZ ad A (pc + 2) lv' st σ) : Wx p l e R s m args below meth c cells slots Q nL D cI cZ ad A pc lv (.int x :: st) σ := fun H locs ls hP hS h => lv_istore C.1 C.2.1 hdg h hn hl (fun ls h => k H locs ls hP hS h)
theorem x_astore_n (C : pv_C p s m args meth c cc nL own D cI cZ ad A) {j : Fin 4} {i : Nat} {x : Nat} (hdg : decode cc pc = .ok (.astore_n j, 1)) (hi : (j : Nat) = i) (hn : i < nL) (hl : (i, Value.ref x) :: lv.filter (fun q => !(q.1 == i) && !(q.1 + 1 == i && q.2.category == 2)) = lv') (k : Wx p l e R s m args below meth c cells slots Q nL D cI cZ ad A (pc + 1) lv' st σ) : Wx p l e R s m args below meth c cells slots Q nL D cI cZ ad A pc lv (.ref x :: st) σ := fun H locs ls hP hS h => lv_astore_n C.1 C.2.1 hdg hi h hn hl (fun ls h => k H locs ls hP hS h)
theorem x_iinc (C : pv_C p s m args meth c cc nL own D cI cZ ad A) {i : Nat} {n : Int} {x v : Int32} (q : Nat) (hdg : decode cc pc = .ok (.iinc i n, 3)) (hq : lv[q]? = some (i, .int x)) (hv : x + Int32.ofInt n = v) (hn : i < nL) (hl : (i, Value.int v) :: lv.filter (fun q => !(q.1 == i) && !(q.1 + 1 == i && q.2.category == 2)) = lv') (k : Wx p l e R s m args below meth c cells slots Q nL D cI cZ ad A (pc + 3) lv' st σ) : Wx p l e R s m args below meth c cells slots Q nL D cI cZ ad A pc lv st σ := fun H locs ls hP hS h => lv_iinc C.1 C.2.1 hdg h hq hv hn hl (fun ls h => k H locs ls hP hS h)
theorem x_iadd (C : pv_C p s m args meth c cc nL own D cI cZ ad A) {x y : Int32} (hdg : decode cc pc = .ok (.iadd, 1)) (k : Wx p l e R s m args below meth c cells slots Q nL D cI cZ ad A (pc + 1) lv (.int (x + y) :: st) σ) : Wx p l e R s m args below meth c cells slots Q nL D cI cZ ad A pc lv (.int y :: .int x :: st) σ := fun H locs ls hP hS h => lv_iadd C.1 C.2.1 hdg (k H locs ls hP hS h)
theorem x_isub (C : pv_C p s m args meth c cc nL own D cI cZ ad A) {x y : Int32} (hdg : decode cc pc = .ok (.isub, 1)) (k : Wx p l e R s m args below meth c cells slots Q nL D cI cZ ad A (pc + 1) lv (.int (x - y) :: st) σ) : Wx p l e R s m args below meth c cells slots Q nL D cI cZ ad A pc lv (.int y :: .int x :: st) σ := fun H locs ls hP hS h => lv_isub C.1 C.2.1 hdg (k H locs ls hP hS h)
theorem x_imul (C : pv_C p s m args meth c cc nL own D cI cZ ad A) {x y : Int32} (hdg : decode cc pc = .ok (.imul, 1)) (k : Wx p l e R s m args below meth c cells slots Q nL D cI cZ ad A (pc + 1) lv (.int (x * y) :: st) σ) : Wx p l e R s m args below meth c cells slots Q nL D cI cZ ad A pc lv (.int y :: .int x :: st) σ := fun H locs ls hP hS h => lv_imul C.1 C.2.1 hdg (k H locs ls hP hS h)
theorem x_iand (C : pv_C p s m args meth c cc nL own D cI cZ ad A) {x y : Int32} (hdg : decode cc pc = .ok (.iand, 1)) (k : Wx p l e R s m args below meth c cells slots Q nL D cI cZ ad A (pc + 1) lv (.int (x &&& y) :: st) σ) : Wx p l e R s m args below meth c cells slots Q nL D cI cZ ad A pc lv (.int y :: .int x :: st) σ := fun H locs ls hP hS h => lv_iand C.1 C.2.1 hdg (k H locs ls hP hS h)
theorem x_ior (C : pv_C p s m args meth c cc nL own D cI cZ ad A) {x y : Int32} (hdg : decode cc pc = .ok (.ior, 1)) (k : Wx p l e R s m args below meth c cells slots Q nL D cI cZ ad A (pc + 1) lv (.int (x ||| y) :: st) σ) : Wx p l e R s m args below meth c cells slots Q nL D cI cZ ad A pc lv (.int y :: .int x :: st) σ := fun H locs ls hP hS h => lv_ior C.1 C.2.1 hdg (k H locs ls hP hS h)
theorem x_ixor (C : pv_C p s m args meth c cc nL own D cI cZ ad A) {x y : Int32} (hdg : decode cc pc = .ok (.ixor, 1)) (k : Wx p l e R s m args below meth c cells slots Q nL D cI cZ ad A (pc + 1) lv (.int (x ^^^ y) :: st) σ) : Wx p l e R s m args below meth c cells slots Q nL D cI cZ ad A pc lv (.int y :: .int x :: st) σ := fun H locs ls hP hS h => lv_ixor C.1 C.2.1 hdg (k H locs ls hP hS h)
theorem x_idiv (C : pv_C p s m args meth c cc nL own D cI cZ ad A) {x y : Int32} (hdg : decode cc pc = .ok (.idiv, 1)) (hne : ¬ y = 0) (k : Wx p l e R s m args below meth c cells slots Q nL D cI cZ ad A (pc + 1) lv (.int (x / y) :: st) σ) : Wx p l e R s m args below meth c cells slots Q nL D cI cZ ad A pc lv (.int y :: .int x :: st) σ := fun H locs ls hP hS h => lv_idiv C.1 C.2.1 hdg hne (k H locs ls hP hS h)
theorem x_irem (C : pv_C p s m args meth c cc nL own D cI cZ ad A) {x y : Int32} (hdg : decode cc pc = .ok (.irem, 1)) (hne : ¬ y = 0) (k : Wx p l e R s m args below meth c cells slots Q nL D cI cZ ad A (pc + 1) lv (.int (x - x / y * y) :: st) σ) : Wx p l e R s m args below meth c cells slots Q nL D cI cZ ad A pc lv (.int y :: .int x :: st) σ := fun H locs ls hP hS h => lv_irem C.1 C.2.1 hdg hne (k H locs ls hP hS h)
theorem x_ishl (C : pv_C p s m args meth c cc nL own D cI cZ ad A) {x y : Int32} (hdg : decode cc pc = .ok (.ishl, 1)) (k : Wx p l e R s m args below meth c cells slots Q nL D cI cZ ad A (pc + 1) lv (.int (x <<< (y &&& 31)) :: st) σ) : Wx p l e R s m args below meth c cells slots Q nL D cI cZ ad A pc lv (.int y :: .int x :: st) σ := fun H locs ls hP hS h => lv_ishl C.1 C.2.1 hdg (k H locs ls hP hS h)
theorem x_ishr (C : pv_C p s m args meth c cc nL own D cI cZ ad A) {x y : Int32} (hdg : decode cc pc = .ok (.ishr, 1)) (k : Wx p l e R s m args below meth c cells slots Q nL D cI cZ ad A (pc + 1) lv (.int (x >>> (y &&& 31)) :: st) σ) : Wx p l e R s m args below meth c cells slots Q nL D cI cZ ad A pc lv (.int y :: .int x :: st) σ := fun H locs ls hP hS h => lv_ishr C.1 C.2.1 hdg (k H locs ls hP hS h)
theorem x_ladd (C : pv_C p s m args meth c cc nL own D cI cZ ad A) {x y : Int64} (hdg : decode cc pc = .ok (.ladd, 1)) (k : Wx p l e R s m args below meth c cells slots Q nL D cI cZ ad A (pc + 1) lv (.long (x + y) :: st) σ) : Wx p l e R s m args below meth c cells slots Q nL D cI cZ ad A pc lv (.long y :: .long x :: st) σ := fun H locs ls hP hS h => lv_ladd C.1 C.2.1 hdg (k H locs ls hP hS h)
theorem x_lmul (C : pv_C p s m args meth c cc nL own D cI cZ ad A) {x y : Int64} (hdg : decode cc pc = .ok (.lmul, 1)) (k : Wx p l e R s m args below meth c cells slots Q nL D cI cZ ad A (pc + 1) lv (.long (x * y) :: st) σ) : Wx p l e R s m args below meth c cells slots Q nL D cI cZ ad A pc lv (.long y :: .long x :: st) σ := fun H locs ls hP hS h => lv_lmul C.1 C.2.1 hdg (k H locs ls hP hS h)
theorem x_lrem (C : pv_C p s m args meth c cc nL own D cI cZ ad A) {x y : Int64} (hdg : decode cc pc = .ok (.lrem, 1)) (hne : ¬ y = 0) (k : Wx p l e R s m args below meth c cells slots Q nL D cI cZ ad A (pc + 1) lv (.long (x - x / y * y) :: st) σ) : Wx p l e R s m args below meth c cells slots Q nL D cI cZ ad A pc lv (.long y :: .long x :: st) σ := fun H locs ls hP hS h => lv_lrem C.1 C.2.1 hdg hne (k H locs ls hP hS h)
theorem x_ineg (C : pv_C p s m args meth c cc nL own D cI cZ ad A) {x : Int32} (hdg : decode cc pc = .ok (.ineg, 1)) (k : Wx p l e R s m args below meth c cells slots Q nL D cI cZ ad A (pc + 1) lv (.int (-x) :: st) σ) : Wx p l e R s m args below meth c cells slots Q nL D cI cZ ad A pc lv (.int x :: st) σ := fun H locs ls hP hS h => lv_ineg C.1 C.2.1 hdg (k H locs ls hP hS h)
theorem x_i2l (C : pv_C p s m args meth c cc nL own D cI cZ ad A) {x : Int32} (hdg : decode cc pc = .ok (.i2l, 1)) (k : Wx p l e R s m args below meth c cells slots Q nL D cI cZ ad A (pc + 1) lv (.long (x.toInt64) :: st) σ) : Wx p l e R s m args below meth c cells slots Q nL D cI cZ ad A pc lv (.int x :: st) σ := fun H locs ls hP hS h => lv_i2l C.1 C.2.1 hdg rfl (k H locs ls hP hS h)
theorem x_l2i (C : pv_C p s m args meth c cc nL own D cI cZ ad A) {x : Int64} (hdg : decode cc pc = .ok (.l2i, 1)) (k : Wx p l e R s m args below meth c cells slots Q nL D cI cZ ad A (pc + 1) lv (.int (x.toInt32) :: st) σ) : Wx p l e R s m args below meth c cells slots Q nL D cI cZ ad A pc lv (.long x :: st) σ := fun H locs ls hP hS h => lv_l2i C.1 C.2.1 hdg rfl (k H locs ls hP hS h)
theorem x_iushr (C : pv_C p s m args meth c cc nL own D cI cZ ad A) {x y : Int32} (hdg : decode cc pc = .ok (.iushr, 1)) (k : Wx p l e R s m args below meth c cells slots Q nL D cI cZ ad A (pc + 1) lv (.int ((x.toUInt32 >>> (y.toUInt32 &&& Int32.toUInt32 31)).toInt32) :: st) σ) : Wx p l e R s m args below meth c cells slots Q nL D cI cZ ad A pc lv (.int y :: .int x :: st) σ := fun H locs ls hP hS h => lv_iushr C.1 C.2.1 hdg rfl (k H locs ls hP hS h)
theorem x_lcmp (C : pv_C p s m args meth c cc nL own D cI cZ ad A) {x y : Int64} (hdg : decode cc pc = .ok (.lcmp, 1)) (k : Wx p l e R s m args below meth c cells slots Q nL D cI cZ ad A (pc + 1) lv (.int (lg_cmp x y) :: st) σ) : Wx p l e R s m args below meth c cells slots Q nL D cI cZ ad A pc lv (.long y :: .long x :: st) σ := fun H locs ls hP hS h => W.lcmp C.1 C.2.1 hdg (k H locs ls hP hS h)
theorem x_dup (C : pv_C p s m args meth c cc nL own D cI cZ ad A) {va : Value} (hdg : decode cc pc = .ok (.dup, 1)) (hva : va.category = 1) (k : Wx p l e R s m args below meth c cells slots Q nL D cI cZ ad A (pc + 1) lv (va :: va :: st) σ) : Wx p l e R s m args below meth c cells slots Q nL D cI cZ ad A pc lv (va :: st) σ := fun H locs ls hP hS h => lv_dup C.1 C.2.1 hdg hva (k H locs ls hP hS h)
theorem x_pop (C : pv_C p s m args meth c cc nL own D cI cZ ad A) {va : Value} (hdg : decode cc pc = .ok (.pop, 1)) (hva : va.category = 1) (k : Wx p l e R s m args below meth c cells slots Q nL D cI cZ ad A (pc + 1) lv st σ) : Wx p l e R s m args below meth c cells slots Q nL D cI cZ ad A pc lv (va :: st) σ := fun H locs ls hP hS h => lv_pop C.1 C.2.1 hdg hva (k H locs ls hP hS h)
theorem x_dup2 (C : pv_C p s m args meth c cc nL own D cI cZ ad A) {va vb : Value} (hdg : decode cc pc = .ok (.dup2, 1)) (hva : va.category = 1) (hvb : vb.category = 1) (k : Wx p l e R s m args below meth c cells slots Q nL D cI cZ ad A (pc + 1) lv (va :: vb :: va :: vb :: st) σ) : Wx p l e R s m args below meth c cells slots Q nL D cI cZ ad A pc lv (va :: vb :: st) σ := fun H locs ls hP hS h => lv_dup2_11 C.1 C.2.1 hdg hva hvb (k H locs ls hP hS h)
theorem x_if_eq (C : pv_C p s m args meth c cc nL own D cI cZ ad A) {x : Int32} {off : Int} (tgt : Nat) (hdg : decode cc pc = .ok (.ifCond .eq off, 3)) (ht : (pc : Int) + off = (tgt : Int)) (kt : x = 0 → Wx p l e R s m args below meth c cells slots Q nL D cI cZ ad A tgt lv st σ) (kf : ¬ x = 0 → Wx p l e R s m args below meth c cells slots Q nL D cI cZ ad A (pc + 3) lv st σ) : Wx p l e R s m args below meth c cells slots Q nL D cI cZ ad A pc lv (.int x :: st) σ := fun H locs ls hP hS h => lv_if_eq C.1 C.2.1 hdg ht (fun q => kt q H locs ls hP hS h) (fun q => kf q H locs ls hP hS h)
theorem x_if_ne (C : pv_C p s m args meth c cc nL own D cI cZ ad A) {x : Int32} {off : Int} (tgt : Nat) (hdg : decode cc pc = .ok (.ifCond .ne off, 3)) (ht : (pc : Int) + off = (tgt : Int)) (kt : ¬ x = 0 → Wx p l e R s m args below meth c cells slots Q nL D cI cZ ad A tgt lv st σ) (kf : x = 0 → Wx p l e R s m args below meth c cells slots Q nL D cI cZ ad A (pc + 3) lv st σ) : Wx p l e R s m args below meth c cells slots Q nL D cI cZ ad A pc lv (.int x :: st) σ := fun H locs ls hP hS h => lv_if_ne C.1 C.2.1 hdg ht (fun q => kt q H locs ls hP hS h) (fun q => kf q H locs ls hP hS h)
theorem x_if_lt (C : pv_C p s m args meth c cc nL own D cI cZ ad A) {x : Int32} {off : Int} (tgt : Nat) (hdg : decode cc pc = .ok (.ifCond .lt off, 3)) (ht : (pc : Int) + off = (tgt : Int)) (kt : x < 0 → Wx p l e R s m args below meth c cells slots Q nL D cI cZ ad A tgt lv st σ) (kf : ¬ x < 0 → Wx p l e R s m args below meth c cells slots Q nL D cI cZ ad A (pc + 3) lv st σ) : Wx p l e R s m args below meth c cells slots Q nL D cI cZ ad A pc lv (.int x :: st) σ := fun H locs ls hP hS h => lv_if_lt C.1 C.2.1 hdg ht (fun q => kt q H locs ls hP hS h) (fun q => kf q H locs ls hP hS h)
theorem x_if_ge (C : pv_C p s m args meth c cc nL own D cI cZ ad A) {x : Int32} {off : Int} (tgt : Nat) (hdg : decode cc pc = .ok (.ifCond .ge off, 3)) (ht : (pc : Int) + off = (tgt : Int)) (kt : 0 ≤ x → Wx p l e R s m args below meth c cells slots Q nL D cI cZ ad A tgt lv st σ) (kf : ¬ 0 ≤ x → Wx p l e R s m args below meth c cells slots Q nL D cI cZ ad A (pc + 3) lv st σ) : Wx p l e R s m args below meth c cells slots Q nL D cI cZ ad A pc lv (.int x :: st) σ := fun H locs ls hP hS h => lv_if_ge C.1 C.2.1 hdg ht (fun q => kt q H locs ls hP hS h) (fun q => kf q H locs ls hP hS h)
theorem x_if_gt (C : pv_C p s m args meth c cc nL own D cI cZ ad A) {x : Int32} {off : Int} (tgt : Nat) (hdg : decode cc pc = .ok (.ifCond .gt off, 3)) (ht : (pc : Int) + off = (tgt : Int)) (kt : 0 < x → Wx p l e R s m args below meth c cells slots Q nL D cI cZ ad A tgt lv st σ) (kf : ¬ 0 < x → Wx p l e R s m args below meth c cells slots Q nL D cI cZ ad A (pc + 3) lv st σ) : Wx p l e R s m args below meth c cells slots Q nL D cI cZ ad A pc lv (.int x :: st) σ := fun H locs ls hP hS h => lv_if_gt C.1 C.2.1 hdg ht (fun q => kt q H locs ls hP hS h) (fun q => kf q H locs ls hP hS h)
theorem x_if_le (C : pv_C p s m args meth c cc nL own D cI cZ ad A) {x : Int32} {off : Int} (tgt : Nat) (hdg : decode cc pc = .ok (.ifCond .le off, 3)) (ht : (pc : Int) + off = (tgt : Int)) (kt : x ≤ 0 → Wx p l e R s m args below meth c cells slots Q nL D cI cZ ad A tgt lv st σ) (kf : ¬ x ≤ 0 → Wx p l e R s m args below meth c cells slots Q nL D cI cZ ad A (pc + 3) lv st σ) : Wx p l e R s m args below meth c cells slots Q nL D cI cZ ad A pc lv (.int x :: st) σ := fun H locs ls hP hS h => lv_if_le C.1 C.2.1 hdg ht (fun q => kt q H locs ls hP hS h) (fun q => kf q H locs ls hP hS h)
theorem x_icmp_eq (C : pv_C p s m args meth c cc nL own D cI cZ ad A) {x y : Int32} {off : Int} (tgt : Nat) (hdg : decode cc pc = .ok (.if_icmp .eq off, 3)) (ht : (pc : Int) + off = (tgt : Int)) (kt : x = y → Wx p l e R s m args below meth c cells slots Q nL D cI cZ ad A tgt lv st σ) (kf : ¬ x = y → Wx p l e R s m args below meth c cells slots Q nL D cI cZ ad A (pc + 3) lv st σ) : Wx p l e R s m args below meth c cells slots Q nL D cI cZ ad A pc lv (.int y :: .int x :: st) σ := fun H locs ls hP hS h => lv_icmp_eq C.1 C.2.1 hdg ht (fun q => kt q H locs ls hP hS h) (fun q => kf q H locs ls hP hS h)
theorem x_icmp_ne (C : pv_C p s m args meth c cc nL own D cI cZ ad A) {x y : Int32} {off : Int} (tgt : Nat) (hdg : decode cc pc = .ok (.if_icmp .ne off, 3)) (ht : (pc : Int) + off = (tgt : Int)) (kt : ¬ x = y → Wx p l e R s m args below meth c cells slots Q nL D cI cZ ad A tgt lv st σ) (kf : x = y → Wx p l e R s m args below meth c cells slots Q nL D cI cZ ad A (pc + 3) lv st σ) : Wx p l e R s m args below meth c cells slots Q nL D cI cZ ad A pc lv (.int y :: .int x :: st) σ := fun H locs ls hP hS h => lv_icmp_ne C.1 C.2.1 hdg ht (fun q => kt q H locs ls hP hS h) (fun q => kf q H locs ls hP hS h)
theorem x_icmp_lt (C : pv_C p s m args meth c cc nL own D cI cZ ad A) {x y : Int32} {off : Int} (tgt : Nat) (hdg : decode cc pc = .ok (.if_icmp .lt off, 3)) (ht : (pc : Int) + off = (tgt : Int)) (kt : x < y → Wx p l e R s m args below meth c cells slots Q nL D cI cZ ad A tgt lv st σ) (kf : ¬ x < y → Wx p l e R s m args below meth c cells slots Q nL D cI cZ ad A (pc + 3) lv st σ) : Wx p l e R s m args below meth c cells slots Q nL D cI cZ ad A pc lv (.int y :: .int x :: st) σ := fun H locs ls hP hS h => lv_icmp_lt C.1 C.2.1 hdg ht (fun q => kt q H locs ls hP hS h) (fun q => kf q H locs ls hP hS h)
theorem x_icmp_ge (C : pv_C p s m args meth c cc nL own D cI cZ ad A) {x y : Int32} {off : Int} (tgt : Nat) (hdg : decode cc pc = .ok (.if_icmp .ge off, 3)) (ht : (pc : Int) + off = (tgt : Int)) (kt : y ≤ x → Wx p l e R s m args below meth c cells slots Q nL D cI cZ ad A tgt lv st σ) (kf : ¬ y ≤ x → Wx p l e R s m args below meth c cells slots Q nL D cI cZ ad A (pc + 3) lv st σ) : Wx p l e R s m args below meth c cells slots Q nL D cI cZ ad A pc lv (.int y :: .int x :: st) σ := fun H locs ls hP hS h => lv_icmp_ge C.1 C.2.1 hdg ht (fun q => kt q H locs ls hP hS h) (fun q => kf q H locs ls hP hS h)
theorem x_icmp_gt (C : pv_C p s m args meth c cc nL own D cI cZ ad A) {x y : Int32} {off : Int} (tgt : Nat) (hdg : decode cc pc = .ok (.if_icmp .gt off, 3)) (ht : (pc : Int) + off = (tgt : Int)) (kt : y < x → Wx p l e R s m args below meth c cells slots Q nL D cI cZ ad A tgt lv st σ) (kf : ¬ y < x → Wx p l e R s m args below meth c cells slots Q nL D cI cZ ad A (pc + 3) lv st σ) : Wx p l e R s m args below meth c cells slots Q nL D cI cZ ad A pc lv (.int y :: .int x :: st) σ := fun H locs ls hP hS h => lv_icmp_gt C.1 C.2.1 hdg ht (fun q => kt q H locs ls hP hS h) (fun q => kf q H locs ls hP hS h)
theorem x_icmp_le (C : pv_C p s m args meth c cc nL own D cI cZ ad A) {x y : Int32} {off : Int} (tgt : Nat) (hdg : decode cc pc = .ok (.if_icmp .le off, 3)) (ht : (pc : Int) + off = (tgt : Int)) (kt : x ≤ y → Wx p l e R s m args below meth c cells slots Q nL D cI cZ ad A tgt lv st σ) (kf : ¬ x ≤ y → Wx p l e R s m args below meth c cells slots Q nL D cI cZ ad A (pc + 3) lv st σ) : Wx p l e R s m args below meth c cells slots Q nL D cI cZ ad A pc lv (.int y :: .int x :: st) σ := fun H locs ls hP hS h => lv_icmp_le C.1 C.2.1 hdg ht (fun q => kt q H locs ls hP hS h) (fun q => kf q H locs ls hP hS h)
theorem x_goto (C : pv_C p s m args meth c cc nL own D cI cZ ad A) {off : Int} (tgt : Nat) (hdg : decode cc pc = .ok (.goto off, 3)) (ht : (pc : Int) + off = (tgt : Int)) (k : Wx p l e R s m args below meth c cells slots Q nL D cI cZ ad A tgt lv st σ) : Wx p l e R s m args below meth c cells slots Q nL D cI cZ ad A pc lv st σ := fun H locs ls hP hS h => lv_goto C.1 C.2.1 hdg ht (k H locs ls hP hS h)
theorem x_ifnull (C : pv_C p s m args meth c cc nL own D cI cZ ad A) {x : Nat} {off : Int} (hdg : decode cc pc = .ok (.ifnull off, 3)) (k : Wx p l e R s m args below meth c cells slots Q nL D cI cZ ad A (pc + 3) lv st σ) : Wx p l e R s m args below meth c cells slots Q nL D cI cZ ad A pc lv (.ref x :: st) σ := fun H locs ls hP hS h => lv_ifnull C.1 C.2.1 hdg (k H locs ls hP hS h)
theorem x_tableIn (C : pv_C p s m args meth c cc nL own D cI cZ ad A) {dflt lo hi : Int} {offs : Array Int} {len : Nat} {x : Int32} {off : Int} (tgt : Nat) (hdg : decode cc pc = .ok (.tableswitch dflt lo hi offs, len)) (h1 : ¬ x.toInt < lo) (h2 : ¬ hi < x.toInt) (ho : offs[(x.toInt - lo).toNat]? = some off) (ht : (pc : Int) + off = (tgt : Int)) (k : Wx p l e R s m args below meth c cells slots Q nL D cI cZ ad A tgt lv st σ) : Wx p l e R s m args below meth c cells slots Q nL D cI cZ ad A pc lv (.int x :: st) σ := fun H locs ls hP hS h => lv_tableIn C.1 C.2.1 hdg h1 h2 ho ht (k H locs ls hP hS h)
theorem x_tableOut (C : pv_C p s m args meth c cc nL own D cI cZ ad A) {dflt lo hi : Int} {offs : Array Int} {len : Nat} {x : Int32} (tgt : Nat) (hdg : decode cc pc = .ok (.tableswitch dflt lo hi offs, len)) (h1 : x.toInt < lo ∨ hi < x.toInt) (ht : (pc : Int) + dflt = (tgt : Int)) (k : Wx p l e R s m args below meth c cells slots Q nL D cI cZ ad A tgt lv st σ) : Wx p l e R s m args below meth c cells slots Q nL D cI cZ ad A pc lv (.int x :: st) σ := fun H locs ls hP hS h => lv_tableOut C.1 C.2.1 hdg h1 ht (k H locs ls hP hS h)
theorem x_mmin (C : pv_C p s m args meth c cc nL own D cI cZ ad A) {index : Nat} {x y : Int32} (hlink : Cond.methodLink own index Lib.Math.min.name ∈ lwG) (hstat : Cond.static Lib.Math.min.name ∈ lwG) (hini : Cond.initialized "java/lang/Math" ∈ lwG) (hcode : Cond.code Lib.Math.min.name Lib.Math.min.code 2 (some .int) ∈ lwG) (hR : 1 ≤ R.frames ∧ (st.map fun v => v.category).sum + 13 ≤ R.locals) (hcs : cells ≤ R.cells ∧ slots ≤ R.slots) (hdg : decode cc pc = .ok (.invokestatic index, 3)) (k : Wx p l e R s m args below meth c cells slots Q nL D cI cZ ad A (pc + 3) lv (.int (if y < x then y else x) :: st) σ) : Wx p l e R s m args below meth c cells slots Q nL D cI cZ ad A pc lv (.int y :: .int x :: st) σ := fun H locs ls hP hS h => va_mmin C.1 C.2.1 (C.2.2.1.trans h.1.symm) C.2.2.2.1 (C.2.2.2.2.1 _ hlink) (C.2.2.2.2.1 _ hstat) (C.2.2.2.2.1 _ hini) (C.2.2.2.2.1 _ hcode) hR.1 hR.2 hcs.1 hcs.2 hdg (k H locs ls hP hS h)
theorem x_mmax (C : pv_C p s m args meth c cc nL own D cI cZ ad A) {index : Nat} {x y : Int32} (hlink : Cond.methodLink own index Lib.Math.max.name ∈ lwG) (hstat : Cond.static Lib.Math.max.name ∈ lwG) (hini : Cond.initialized "java/lang/Math" ∈ lwG) (hcode : Cond.code Lib.Math.max.name Lib.Math.max.code 2 (some .int) ∈ lwG) (hR : 1 ≤ R.frames ∧ (st.map fun v => v.category).sum + 13 ≤ R.locals) (hcs : cells ≤ R.cells ∧ slots ≤ R.slots) (hdg : decode cc pc = .ok (.invokestatic index, 3)) (k : Wx p l e R s m args below meth c cells slots Q nL D cI cZ ad A (pc + 3) lv (.int (if x < y then y else x) :: st) σ) : Wx p l e R s m args below meth c cells slots Q nL D cI cZ ad A pc lv (.int y :: .int x :: st) σ := fun H locs ls hP hS h => va_mmax C.1 C.2.1 (C.2.2.1.trans h.1.symm) C.2.2.2.1 (C.2.2.2.2.1 _ hlink) (C.2.2.2.2.1 _ hstat) (C.2.2.2.2.1 _ hini) (C.2.2.2.2.1 _ hcode) hR.1 hR.2 hcs.1 hcs.2 hdg (k H locs ls hP hS h)
theorem x_mabs (C : pv_C p s m args meth c cc nL own D cI cZ ad A) {index : Nat} {x : Int32} (hlink : Cond.methodLink own index Lib.Math.abs.name ∈ lwG) (hstat : Cond.static Lib.Math.abs.name ∈ lwG) (hini : Cond.initialized "java/lang/Math" ∈ lwG) (hcode : Cond.code Lib.Math.abs.name Lib.Math.abs.code 1 (some .int) ∈ lwG) (hR : 1 ≤ R.frames ∧ (st.map fun v => v.category).sum + 13 ≤ R.locals) (hcs : cells ≤ R.cells ∧ slots ≤ R.slots) (hdg : decode cc pc = .ok (.invokestatic index, 3)) (k : Wx p l e R s m args below meth c cells slots Q nL D cI cZ ad A (pc + 3) lv (.int (if 0 ≤ x then x else 0 - x) :: st) σ) : Wx p l e R s m args below meth c cells slots Q nL D cI cZ ad A pc lv (.int x :: st) σ := fun H locs ls hP hS h => va_mabs C.1 C.2.1 (C.2.2.1.trans h.1.symm) C.2.2.2.1 (C.2.2.2.2.1 _ hlink) (C.2.2.2.2.1 _ hstat) (C.2.2.2.2.1 _ hini) (C.2.2.2.2.1 _ hcode) hR.1 hR.2 hcs.1 hcs.2 hdg (k H locs ls hP hS h)
end PVW
end
section
section PVX
variable {p : Program} {l : Launch} {e : Env} {R : Room} {s : State} {m : MethodId} {args : Array Value} {below : List Frame} {meth : Method} {c : Code} {cells slots : Nat} {Q : State → Prop}
variable {cc : ByteArray} {nL : Nat} {own : String} {D : va_G} {cI cZ : ClassId} {ad : Nat → Nat} {A : Nat → Prop} {pc : Nat} {lv lv' : List (Nat × Value)} {st : List Value} {σ : pv_S}
theorem x_get (C : pv_C p s m args meth c cc nL own D cI cZ ad A) (q0 ci k : Nat) {Cn : String} {T : u_T} {N idx : Nat} {fs : List Value} {v : Value} (he : (pv_W cI cZ ad σ)[q0]? = some (ad q0, .inr (ci, fs))) (hc : vwCl[ci]? = some (Cn, T, N)) (hin : ∀ w ∈ u_ws Cn T N, w ∈ lwG) (hk : k < N) (hlink : Cond.fieldLink own idx (T k).1 (T k).2.1 (T k).2.2.1 ∈ lwG) (hv : fs[k]? = some v) (hdg : decode cc pc = .ok (.getfield idx, 3)) (kk : Wx p l e R s m args below meth c cells slots Q nL D cI cZ ad A (pc + 3) lv (v :: st) σ) : Wx p l e R s m args below meth c cells slots Q nL D cI cZ ad A pc lv (.ref (ad q0) :: st) σ := fun H locs ls hP hS h =>
  va_get C.1 C.2.1 C.2.2.2.2.1 hin C.2.2.2.1 C.2.2.2.2.2.1 hP q0 he hc k hk (C.2.2.2.2.1 _ hlink) (fun _ h9 => h9) hv hdg (kk H locs ls hP hS h)
theorem x_put (C : pv_C p s m args meth c cc nL own D cI cZ ad A) (q0 ci k : Nat) {Cn : String} {T : u_T} {N idx : Nat} {fs : List Value} {v : Int32} {σ' : pv_S} (he : (pv_W cI cZ ad σ)[q0]? = some (ad q0, .inr (ci, fs))) (hc : vwCl[ci]? = some (Cn, T, N)) (hin : ∀ w ∈ u_ws Cn T N, w ∈ lwG) (hk : k < N) (hlink : Cond.fieldLink own idx (T k).1 (T k).2.1 (T k).2.2.1 ∈ lwG) (ty0 : Nat → FieldType) (hty : ∀ k, k < N → parseFieldDescriptor (T k).2.2.1 = some (ty0 k)) (hnm : ∀ a, a < N → ∀ b, b < N → a ≠ b → (T a).2.1 ≠ (T b).2.1) (hfin : (T k).2.2.2 = false) (hd : parseFieldDescriptor (T k).2.2.1 = some .int) (hl : k < fs.length) (hσ : (pv_W cI cZ ad σ).set q0 (ad q0, .inr (ci, fs.set k (.int v))) = pv_W cI cZ ad σ') (hdg : decode cc pc = .ok (.putfield idx, 3)) (kk : Wx p l e R s m args below meth c cells slots Q nL D cI cZ ad A (pc + 3) lv st σ') : Wx p l e R s m args below meth c cells slots Q nL D cI cZ ad A pc lv (.int v :: .ref (ad q0) :: st) σ := fun H locs ls hP hS h =>
  va_put C.1 C.2.1 C.2.2.2.2.1 hin ty0 hty hnm C.2.2.2.1 C.2.2.2.2.2.1 hP (pv_W_D C.2.2.2.2.2.2.1 C.2.2.2.2.2.2.2.1 cI cZ σ) hS q0 he hc k hk (C.2.2.2.2.1 _ hlink) (fun _ h9 => h9) hfin hd rfl rfl hl hdg (fun H locs hP _ hS => kk H locs ls (hσ ▸ hP) hS h)
theorem x_iald (C : pv_C p s m args meth c cc nL own D cI cZ ad A) (q0 : Nat) {n : Nat} {f : Nat → Int32} (he : (pv_W cI cZ ad σ)[q0]? = some (ad q0, .inl (cI, n, .inl f))) {i : Int32} (hin : vp_in i n) (hdg : decode cc pc = .ok (.iaload, 1)) (kk : Wx p l e R s m args below meth c cells slots Q nL D cI cZ ad A (pc + 1) lv (.int (f i.toNatClampNeg) :: st) σ) : Wx p l e R s m args below meth c cells slots Q nL D cI cZ ad A pc lv (.int i :: .ref (ad q0) :: st) σ := fun H locs ls hP hS h =>
  va_iald C.1 C.2.1 C.2.2.2.2.2.1 hP q0 0 he rfl hin hdg (kk H locs ls hP hS h)
theorem x_iast (C : pv_C p s m args meth c cc nL own D cI cZ ad A) (q0 : Nat) {n : Nat} {f : Nat → Int32} {σ' : pv_S} (he : (pv_W cI cZ ad σ)[q0]? = some (ad q0, .inl (cI, n, .inl f))) {i x : Int32} (hin : vp_in i n) (hσ : (pv_W cI cZ ad σ).set q0 (ad q0, .inl (cI, n, .inl (upd f i.toNatClampNeg x))) = pv_W cI cZ ad σ') (hdg : decode cc pc = .ok (.iastore, 1)) (kk : Wx p l e R s m args below meth c cells slots Q nL D cI cZ ad A (pc + 1) lv st σ') : Wx p l e R s m args below meth c cells slots Q nL D cI cZ ad A pc lv (.int x :: .int i :: .ref (ad q0) :: st) σ := fun H locs ls hP hS h =>
  va_iast C.1 C.2.1 C.2.2.2.2.2.1 hP (pv_W_D C.2.2.2.2.2.2.1 C.2.2.2.2.2.2.2.1 cI cZ σ) hS q0 0 he rfl hin hdg (fun H locs hP _ hS => kk H locs ls (hσ ▸ hP) hS h)
theorem x_zald (C : pv_C p s m args meth c cc nL own D cI cZ ad A) (q0 : Nat) {n : Nat} {f : Nat → Int32} (he : (pv_W cI cZ ad σ)[q0]? = some (ad q0, .inl (cZ, n, .inl f))) {i : Int32} (hin : vp_in i n) (hdg : decode cc pc = .ok (.baload, 1)) (kk : Wx p l e R s m args below meth c cells slots Q nL D cI cZ ad A (pc + 1) lv (.int (f i.toNatClampNeg) :: st) σ) : Wx p l e R s m args below meth c cells slots Q nL D cI cZ ad A pc lv (.int i :: .ref (ad q0) :: st) σ := fun H locs ls hP hS h =>
  va_zald C.1 C.2.1 C.2.2.2.2.2.1 hP q0 1 he rfl hin hdg (kk H locs ls hP hS h)
theorem x_zast (C : pv_C p s m args meth c cc nL own D cI cZ ad A) (q0 : Nat) {n : Nat} {f : Nat → Int32} {σ' : pv_S} (he : (pv_W cI cZ ad σ)[q0]? = some (ad q0, .inl (cZ, n, .inl f))) {i x : Int32} (hin : vp_in i n) (hσ : (pv_W cI cZ ad σ).set q0 (ad q0, .inl (cZ, n, .inl (upd f i.toNatClampNeg (vp_nar .boolean x)))) = pv_W cI cZ ad σ') (hdg : decode cc pc = .ok (.bastore, 1)) (kk : Wx p l e R s m args below meth c cells slots Q nL D cI cZ ad A (pc + 1) lv st σ') : Wx p l e R s m args below meth c cells slots Q nL D cI cZ ad A pc lv (.int x :: .int i :: .ref (ad q0) :: st) σ := fun H locs ls hP hS h =>
  va_zast C.1 C.2.1 C.2.2.2.2.2.1 hP (pv_W_D C.2.2.2.2.2.2.1 C.2.2.2.2.2.2.2.1 cI cZ σ) hS q0 1 he rfl hin hdg (fun H locs hP _ hS => kk H locs ls (hσ ▸ hP) hS h)
theorem x_alen (C : pv_C p s m args meth c cc nL own D cI cZ ad A) (q0 : Nat) {n : Nat} {f : Nat → Int32} {v : Int32} (he : (pv_W cI cZ ad σ)[q0]? = some (ad q0, .inl (cI, n, .inl f))) (hv : Int32.ofNat n = v) (hdg : decode cc pc = .ok (.arraylength, 1)) (kk : Wx p l e R s m args below meth c cells slots Q nL D cI cZ ad A (pc + 1) lv (.int v :: st) σ) : Wx p l e R s m args below meth c cells slots Q nL D cI cZ ad A pc lv (.ref (ad q0) :: st) σ := fun H locs ls hP hS h =>
  va_alen C.1 C.2.1 C.2.2.2.2.2.1 hP q0 0 he rfl hv hdg (kk H locs ls hP hS h)
theorem x_copy (C : pv_C p s m args meth c cc nL own D cI cZ ad A) (q0 q1 : Nat) {index n0 n1 : Nat} {f g : Nat → Int32} {σ' : pv_S} {sp dp n : Int32} (he0 : (pv_W cI cZ ad σ)[q0]? = some (ad q0, .inl (cI, n0, .inl f))) (he1 : (pv_W cI cZ ad σ)[q1]? = some (ad q1, .inl (cI, n1, .inl g))) (hlink : Cond.methodLink own index arraycopyName ∈ lwG) (hnat : Cond.native arraycopyName ∈ lwG) (hstat : Cond.static arraycopyName ∈ lwG) (hini : Cond.initialized "java/lang/System" ∈ lwG) (hg : ¬ sp < 0 ∧ ¬ dp < 0 ∧ ¬ n < 0 ∧ sp.toNatClampNeg + n.toNatClampNeg ≤ n0 ∧ dp.toNatClampNeg + n.toNatClampNeg ≤ n1) (hR : 1 ≤ R.frames ∧ (st.map fun v => v.category).sum + (nativeFrameWords "java/lang/System" "arraycopy" 5 + 11) ≤ R.locals) (hσ : (pv_W cI cZ ad σ).set q1 (ad q1, .inl (cI, n1, .inl (va_cpy f g sp.toNatClampNeg dp.toNatClampNeg n.toNatClampNeg))) = pv_W cI cZ ad σ') (hdg : decode cc pc = .ok (.invokestatic index, 3)) (kk : Wx p l e R s m args below meth c cells slots Q nL D cI cZ ad A (pc + 3) lv st σ') : Wx p l e R s m args below meth c cells slots Q nL D cI cZ ad A pc lv (.int n :: .int dp :: .ref (ad q1) :: .int sp :: .ref (ad q0) :: st) σ := fun H locs ls hP hS h =>
  va_copyi C.1 C.2.1 (C.2.2.1.trans h.1.symm) C.2.2.2.1 (C.2.2.2.2.1 _ hlink) (C.2.2.2.2.1 _ hnat) (C.2.2.2.2.1 _ hstat) (C.2.2.2.2.1 _ hini) C.2.2.2.2.2.1 hP (pv_W_D C.2.2.2.2.2.2.1 C.2.2.2.2.2.2.2.1 cI cZ σ) hS q0 q1 0 0 he0 he1 rfl rfl rfl hg.1 hg.2.1 hg.2.2.1 hg.2.2.2.1 hg.2.2.2.2 (fun _ _ => rfl) hR.1 hR.2 hdg (fun H locs hP _ hS => kk H locs ls (hσ ▸ hP) hS h)
theorem x_gterm (C : pv_C p s m args meth c cc nL own D cI cZ ad A) {index : Nat} (hlink : Cond.fieldLink own index RX6 "GREATEST_TERMS" "[I" ∈ lwG) (hdg : decode cc pc = .ok (.getstatic index, 3)) (kk : ∀ gt : Nat, va_T .int gt 5 (fun j => .int (pv_gt j)) A s s.heap → Wx p l e R s m args below meth c cells slots Q nL D cI cZ ad A (pc + 3) lv (.ref gt :: st) σ) : Wx p l e R s m args below meth c cells slots Q nL D cI cZ ad A pc lv st σ := fun H locs ls hP hS h => by
  obtain ⟨-, gt, hZ, hT⟩ := C.2.2.2.2.2.2.2.2.2
  exact va_gets C.1 C.2.1 hZ hS C.2.2.2.1 (C.2.2.2.2.1 _ hlink) (fun _ h9 => h9) hdg (kk gt hT H locs ls hP hS h)
theorem x_gti (C : pv_C p s m args meth c cc nL own D cI cZ ad A) {gt : Nat} (hT : va_T .int gt 5 (fun j => .int (pv_gt j)) A s s.heap) {i : Int32} (hin : vp_in i 5) (hdg : decode cc pc = .ok (.iaload, 1)) (kk : Wx p l e R s m args below meth c cells slots Q nL D cI cZ ad A (pc + 1) lv (.int (pv_gt i.toNatClampNeg) :: st) σ) : Wx p l e R s m args below meth c cells slots Q nL D cI cZ ad A pc lv (.int i :: .ref gt :: st) σ := fun H locs ls hP hS h =>
  va_ti C.1 C.2.1 hT hS hin rfl hdg (kk H locs ls hP hS h)
/-- what the tables say of a method: of an instance, static -/
def pv_Y (y : MethodName) (bytes : ByteArray) (maxL : Nat) (rt : Option FieldType) (Cn : String) (n : Nat) : Prop := y.cls = Cn ∧ Cond.instanceMethod y ∈ lwG ∧ Cond.selects Cn y y ∈ lwG ∧ Cond.initialized Cn ∈ lwG ∧ Cond.code y bytes maxL rt ∈ lwG ∧ y.cls ≠ "java/lang/invoke/MethodHandle" ∧ y.cls ≠ "java/lang/invoke/VarHandle" ∧ (parseMethodDescriptor y.desc).map (fun d => d.parameters.length) = some n
def pv_Z (y : MethodName) (bytes : ByteArray) (maxL : Nat) (rt : Option FieldType) (n : Nat) : Prop := Cond.static y ∈ lwG ∧ Cond.initialized y.cls ∈ lwG ∧ Cond.code y bytes maxL rt ∈ lwG ∧ y.cls ≠ "java/lang/invoke/MethodHandle" ∧ y.cls ≠ "java/lang/invoke/VarHandle" ∧ (parseMethodDescriptor y.desc).map (fun d => d.parameters.length) = some n
theorem pv_code_in {y : MethodName} {bytes : ByteArray} {maxL : Nat} {rt : Option FieldType} (h : Cond.code y bytes maxL rt ∈ lwG) : GoodIn lwG (Cond.code y bytes maxL rt :: lwG) := fun w hw => (List.mem_cons.mp hw).elim (fun e => by rw [e]; exact lwG_self _ h) (fun h => lwG_self w h)
/-- a callee's start, at a call -/
theorem pv_pre (C : pv_C p s m args meth c cc nL own D cI cZ ad A) {H : Heap} {locs : List Loc} {av : List Value} (hP : va_P D vwCl (pv_W cI cZ ad σ) H) (hS : va_S A s.heap H locs) : ∀ U : State, U.heap = H → s.WarmedH U.vm → va_Pc av (pv_P D cI cZ ad σ) av.toArray U := fun U hU hW => by
  have hA : ∀ q, pv_A ad q → A q := fun q ⟨k, h1, h2⟩ => by rw [h2]; exact C.2.2.2.2.2.2.2.1 k h1
  have hN := ((C.2.2.2.2.2.2.2.2.2.kept (H1 := H) (fun a h1 h2 => hS.2.1 a h1 h2)).narrow hA).warm hW
  refine ⟨rfl, by rw [hU]; exact hP, va_K.moved hW.alike C.2.2.2.2.2.1, by rw [hU]; exact hN⟩
theorem x_vi (C : pv_C p s m args meth c cc nL own D cI cZ ad A) {y : MethodName} {bytes : ByteArray} {maxL idx n : Nat} {rt : Option FieldType} {rm : Room} {As st0 : List Value} {R0 : Int32 × pv_S} {Cn : String} (Y : pv_Y y bytes maxL rt Cn n) (q0 ci : Nat) {qc : vw_C} {fs : List Value} (hc : vwCl[ci]? = some qc) (hcn : qc.1 = Cn) (he : (pv_W cI cZ ad σ)[q0]? = some (ad q0, .inr (ci, fs))) (hM : Met l y (Cond.code y bytes maxL rt :: lwG) rm (va_Pc (.ref (ad q0) :: As) (pv_P D cI cZ ad σ)) (pv_QI D cI cZ ad R0) 0 0 (pv_A ad)) (w1 : Cond.methodLink own idx y ∈ lwG) (hrc : rm.cells = 0 ∧ rm.slots = 0) (hR : rm.frames + 1 ≤ R.frames ∧ 8 + (maxL + 11) + rm.locals ≤ R.locals) (hcs : cells ≤ R.cells ∧ slots ≤ R.slots) (hn : As.length = n) (hst : st0 = As.reverse ++ .ref (ad q0) :: st) (hW : (st.map fun v => v.category).sum ≤ 8) (hdg : decode cc pc = .ok (.invokevirtual idx, 3)) (kk : Wx p l e R s m args below meth c cells slots Q nL D cI cZ ad A (pc + 3) lv (.int R0.1 :: st) R0.2) : Wx p l e R s m args below meth c cells slots Q nL D cI cZ ad A pc lv st0 σ := fun H locs ls hP hS h => by
  have hts := C.2.2.2.2.1
  have hA : ∀ q, pv_A ad q → A q := fun q ⟨k, h1, h2⟩ => by rw [h2]; exact C.2.2.2.2.2.2.2.1 k h1
  obtain ⟨y1, y2, y3, y4, y5, y6, y7, y8⟩ := Y
  subst y1
  have hcw : CallW R s args own y.cls idx y bytes maxL rt (Cond.code y bytes maxL rt :: lwG) rm 0 0 n := ⟨callB_of n hts (pv_code_in y5) rfl hrc.1 hrc.2 (hts _ y4) (hts _ w1) ⟨y6, y7, y8⟩ hR, hts _ y2, hts _ y3⟩
  have hrv := va_recv C.2.2.2.2.2.1 hP hc he
  rw [hcn] at hrv
  refine va_calli (va_runV (As := As) (rest := st) ⟨C.1, C.2.1, C.2.2.1, C.2.2.2.1, hts⟩ hM hcw ⟨pv_blind, hrv, pv_pre C hP hS⟩ rfl hn h.1 hst (lv_room hW) hdg ⟨hcs.1, hcs.2⟩) hS (fun q _ h => hA q h) hA (fun r u t H1 locs1 ht hvm hw hB hz1 hk1 hS => ?_)
  subst hw; rw [ht] at hB; exact kk H1 locs1 ls hB hS h
theorem x_vv (C : pv_C p s m args meth c cc nL own D cI cZ ad A) {y : MethodName} {bytes : ByteArray} {maxL idx n : Nat} {rt : Option FieldType} {rm : Room} {As st0 : List Value} {R0 : pv_S} {Cn : String} (Y : pv_Y y bytes maxL rt Cn n) (q0 ci : Nat) {qc : vw_C} {fs : List Value} (hc : vwCl[ci]? = some qc) (hcn : qc.1 = Cn) (he : (pv_W cI cZ ad σ)[q0]? = some (ad q0, .inr (ci, fs))) (hM : Met l y (Cond.code y bytes maxL rt :: lwG) rm (va_Pc (.ref (ad q0) :: As) (pv_P D cI cZ ad σ)) (pv_QV D cI cZ ad R0) 0 0 (pv_A ad)) (w1 : Cond.methodLink own idx y ∈ lwG) (hrc : rm.cells = 0 ∧ rm.slots = 0) (hR : rm.frames + 1 ≤ R.frames ∧ 8 + (maxL + 11) + rm.locals ≤ R.locals) (hcs : cells ≤ R.cells ∧ slots ≤ R.slots) (hn : As.length = n) (hst : st0 = As.reverse ++ .ref (ad q0) :: st) (hW : (st.map fun v => v.category).sum ≤ 8) (hdg : decode cc pc = .ok (.invokevirtual idx, 3)) (kk : Wx p l e R s m args below meth c cells slots Q nL D cI cZ ad A (pc + 3) lv st R0) : Wx p l e R s m args below meth c cells slots Q nL D cI cZ ad A pc lv st0 σ := fun H locs ls hP hS h => by
  have hts := C.2.2.2.2.1
  have hA : ∀ q, pv_A ad q → A q := fun q ⟨k, h1, h2⟩ => by rw [h2]; exact C.2.2.2.2.2.2.2.1 k h1
  obtain ⟨y1, y2, y3, y4, y5, y6, y7, y8⟩ := Y
  subst y1
  have hcw : CallW R s args own y.cls idx y bytes maxL rt (Cond.code y bytes maxL rt :: lwG) rm 0 0 n := ⟨callB_of n hts (pv_code_in y5) rfl hrc.1 hrc.2 (hts _ y4) (hts _ w1) ⟨y6, y7, y8⟩ hR, hts _ y2, hts _ y3⟩
  have hrv := va_recv C.2.2.2.2.2.1 hP hc he
  rw [hcn] at hrv
  refine va_callv (va_runV (As := As) (rest := st) ⟨C.1, C.2.1, C.2.2.1, C.2.2.2.1, hts⟩ hM hcw ⟨pv_blind, hrv, pv_pre C hP hS⟩ rfl hn h.1 hst (lv_room hW) hdg ⟨hcs.1, hcs.2⟩) hS (fun q _ h => hA q h) hA (fun u t H1 locs1 ht hvm hw hB hz1 hk1 hS => ?_)
  subst hw; rw [ht] at hB; exact kk H1 locs1 ls hB hS h
theorem x_vr (C : pv_C p s m args meth c cc nL own D cI cZ ad A) {y : MethodName} {bytes : ByteArray} {maxL idx n : Nat} {rt : Option FieldType} {rm : Room} {As st0 : List Value} {ra : Nat} {R0 : pv_S} {Cn : String} (Y : pv_Y y bytes maxL rt Cn n) (q0 ci : Nat) {qc : vw_C} {fs : List Value} (hc : vwCl[ci]? = some qc) (hcn : qc.1 = Cn) (he : (pv_W cI cZ ad σ)[q0]? = some (ad q0, .inr (ci, fs))) (hM : Met l y (Cond.code y bytes maxL rt :: lwG) rm (va_Pc (.ref (ad q0) :: As) (pv_P D cI cZ ad σ)) (pv_QR D cI cZ ad ra R0) 0 0 (pv_A ad)) (w1 : Cond.methodLink own idx y ∈ lwG) (hrc : rm.cells = 0 ∧ rm.slots = 0) (hR : rm.frames + 1 ≤ R.frames ∧ 8 + (maxL + 11) + rm.locals ≤ R.locals) (hcs : cells ≤ R.cells ∧ slots ≤ R.slots) (hn : As.length = n) (hst : st0 = As.reverse ++ .ref (ad q0) :: st) (hW : (st.map fun v => v.category).sum ≤ 8) (hdg : decode cc pc = .ok (.invokevirtual idx, 3)) (kk : Wx p l e R s m args below meth c cells slots Q nL D cI cZ ad A (pc + 3) lv (.ref ra :: st) R0) : Wx p l e R s m args below meth c cells slots Q nL D cI cZ ad A pc lv st0 σ := fun H locs ls hP hS h => by
  have hts := C.2.2.2.2.1
  have hA : ∀ q, pv_A ad q → A q := fun q ⟨k, h1, h2⟩ => by rw [h2]; exact C.2.2.2.2.2.2.2.1 k h1
  obtain ⟨y1, y2, y3, y4, y5, y6, y7, y8⟩ := Y
  subst y1
  have hcw : CallW R s args own y.cls idx y bytes maxL rt (Cond.code y bytes maxL rt :: lwG) rm 0 0 n := ⟨callB_of n hts (pv_code_in y5) rfl hrc.1 hrc.2 (hts _ y4) (hts _ w1) ⟨y6, y7, y8⟩ hR, hts _ y2, hts _ y3⟩
  have hrv := va_recv C.2.2.2.2.2.1 hP hc he
  rw [hcn] at hrv
  refine va_callr (va_runV (As := As) (rest := st) ⟨C.1, C.2.1, C.2.2.1, C.2.2.2.1, hts⟩ hM hcw ⟨pv_blind, hrv, pv_pre C hP hS⟩ rfl hn h.1 hst (lv_room hW) hdg ⟨hcs.1, hcs.2⟩) hS (fun q _ h => hA q h) hA (fun u x t H1 locs1 ht hvm hw hB hz1 hk1 hS => ?_)
  subst hw; obtain ⟨e9, hB⟩ := hB; subst e9; rw [ht] at hB; exact kk H1 locs1 ls hB hS h
theorem x_si (C : pv_C p s m args meth c cc nL own D cI cZ ad A) {y : MethodName} {bytes : ByteArray} {maxL idx n : Nat} {rt : Option FieldType} {rm : Room} {As st0 : List Value} {R0 : Int32 × pv_S} (Y : pv_Z y bytes maxL rt n) (hM : Met l y (Cond.code y bytes maxL rt :: lwG) rm (va_Pc As (pv_P D cI cZ ad σ)) (pv_QI D cI cZ ad R0) 0 0 (pv_A ad)) (w1 : Cond.methodLink own idx y ∈ lwG) (hrc : rm.cells = 0 ∧ rm.slots = 0) (hR : rm.frames + 1 ≤ R.frames ∧ 8 + (maxL + 11) + rm.locals ≤ R.locals) (hcs : cells ≤ R.cells ∧ slots ≤ R.slots) (hn : As.length = n) (hst : st0 = As.reverse ++ st) (hW : (st.map fun v => v.category).sum ≤ 8) (hdg : decode cc pc = .ok (.invokestatic idx, 3)) (kk : Wx p l e R s m args below meth c cells slots Q nL D cI cZ ad A (pc + 3) lv (.int R0.1 :: st) R0.2) : Wx p l e R s m args below meth c cells slots Q nL D cI cZ ad A pc lv st0 σ := fun H locs ls hP hS h => by
  have hts := C.2.2.2.2.1
  have hA : ∀ q, pv_A ad q → A q := fun q ⟨k, h1, h2⟩ => by rw [h2]; exact C.2.2.2.2.2.2.2.1 k h1
  obtain ⟨y2, y4, y5, y6, y7, y8⟩ := Y
  refine va_calli (va_runS (As := As) (rest := st) ⟨C.1, C.2.1, C.2.2.1, C.2.2.2.1, hts⟩ hM ⟨callB_of n hts (pv_code_in y5) rfl hrc.1 hrc.2 (hts _ y4) (hts _ w1) ⟨y6, y7, y8⟩ hR, hts _ y2⟩ ⟨pv_blind, pv_pre C hP hS⟩ rfl hn h.1 hst (lv_room hW) hdg ⟨hcs.1, hcs.2⟩) hS (fun q _ h => hA q h) hA (fun r u t H1 locs1 ht hvm hw hB hz1 hk1 hS => ?_)
  subst hw; rw [ht] at hB; exact kk H1 locs1 ls hB hS h
theorem x_sv (C : pv_C p s m args meth c cc nL own D cI cZ ad A) {y : MethodName} {bytes : ByteArray} {maxL idx n : Nat} {rt : Option FieldType} {rm : Room} {As st0 : List Value} {R0 : pv_S} (Y : pv_Z y bytes maxL rt n) (hM : Met l y (Cond.code y bytes maxL rt :: lwG) rm (va_Pc As (pv_P D cI cZ ad σ)) (pv_QV D cI cZ ad R0) 0 0 (pv_A ad)) (w1 : Cond.methodLink own idx y ∈ lwG) (hrc : rm.cells = 0 ∧ rm.slots = 0) (hR : rm.frames + 1 ≤ R.frames ∧ 8 + (maxL + 11) + rm.locals ≤ R.locals) (hcs : cells ≤ R.cells ∧ slots ≤ R.slots) (hn : As.length = n) (hst : st0 = As.reverse ++ st) (hW : (st.map fun v => v.category).sum ≤ 8) (hdg : decode cc pc = .ok (.invokestatic idx, 3)) (kk : Wx p l e R s m args below meth c cells slots Q nL D cI cZ ad A (pc + 3) lv st R0) : Wx p l e R s m args below meth c cells slots Q nL D cI cZ ad A pc lv st0 σ := fun H locs ls hP hS h => by
  have hts := C.2.2.2.2.1
  have hA : ∀ q, pv_A ad q → A q := fun q ⟨k, h1, h2⟩ => by rw [h2]; exact C.2.2.2.2.2.2.2.1 k h1
  obtain ⟨y2, y4, y5, y6, y7, y8⟩ := Y
  refine va_callv (va_runS (As := As) (rest := st) ⟨C.1, C.2.1, C.2.2.1, C.2.2.2.1, hts⟩ hM ⟨callB_of n hts (pv_code_in y5) rfl hrc.1 hrc.2 (hts _ y4) (hts _ w1) ⟨y6, y7, y8⟩ hR, hts _ y2⟩ ⟨pv_blind, pv_pre C hP hS⟩ rfl hn h.1 hst (lv_room hW) hdg ⟨hcs.1, hcs.2⟩) hS (fun q _ h => hA q h) hA (fun u t H1 locs1 ht hvm hw hB hz1 hk1 hS => ?_)
  subst hw; rw [ht] at hB; exact kk H1 locs1 ls hB hS h
theorem x_sni (C : pv_C p s m args meth c cc nL own D cI cZ ad A) {host : String} {y : MethodName} {bytes : ByteArray} {maxL idx n : Nat} {rt : Option FieldType} {rm : Room} {As st0 : List Value} {R0 : Int32 × pv_S} (Y : pv_Z y bytes maxL rt n) (hM : Met l y (Cond.code y bytes maxL rt :: lwG) rm (va_Pc As (pv_P D cI cZ ad σ)) (pv_QI D cI cZ ad R0) 0 0 (pv_A ad)) (w1 : va_Nw (.methodLinkNest own idx y host) s) (hrc : rm.cells = 0 ∧ rm.slots = 0) (hR : rm.frames + 1 ≤ R.frames ∧ 8 + (maxL + 11) + rm.locals ≤ R.locals) (hcs : cells ≤ R.cells ∧ slots ≤ R.slots) (hn : As.length = n) (hst : st0 = As.reverse ++ st) (hW : (st.map fun v => v.category).sum ≤ 8) (hdg : decode cc pc = .ok (.invokestatic idx, 3)) (kk : Wx p l e R s m args below meth c cells slots Q nL D cI cZ ad A (pc + 3) lv (.int R0.1 :: st) R0.2) : Wx p l e R s m args below meth c cells slots Q nL D cI cZ ad A pc lv st0 σ := fun H locs ls hP hS h => by
  have hts := C.2.2.2.2.1
  have hA : ∀ q, pv_A ad q → A q := fun q ⟨k, h1, h2⟩ => by rw [h2]; exact C.2.2.2.2.2.2.2.1 k h1
  obtain ⟨y2, y4, y5, y6, y7, y8⟩ := Y
  refine va_calli (va_runSN (As := As) (rest := st) ⟨C.1, C.2.1, C.2.2.1, C.2.2.2.1, hts⟩ hM ⟨va_cnB n hts (pv_code_in y5) rfl hrc.1 hrc.2 w1 (hts _ y4) ⟨y6, y7, y8⟩ hR, hts _ y2, trivial⟩ ⟨pv_blind, pv_pre C hP hS⟩ rfl hn h.1 hst (lv_room hW) hdg ⟨hcs.1, hcs.2⟩) hS (fun q _ h => hA q h) hA (fun r u t H1 locs1 ht hvm hw hB hz1 hk1 hS => ?_)
  subst hw; rw [ht] at hB; exact kk H1 locs1 ls hB hS h
theorem x_iret (C : pv_C p s m args meth c cc nL own D cI cZ ad (pv_A ad)) {v : Int32} {R0 : Int32 × pv_S} (hr : meth.sig.returnType = some .int) (hdg : decode cc pc = .ok (.ireturn, 1)) (h0 : (v, σ) = R0) : Wx p l e R s m args below meth c cells slots (MQ below (pv_QI D cI cZ ad R0) args s cells slots (pv_A ad)) nL D cI cZ ad (pv_A ad) pc lv [.int v] σ := fun H locs ls hP hS _ => W.iret C.1 C.2.1 hr (fun t ht hW => ⟨⟨v, σ, rfl, h0, by show va_P D vwCl (pv_W cI cZ ad σ) t.heap; rw [ht]; exact hP⟩, hS.F ht⟩) hS.2.2 hdg C.2.2.2.2.2.2.2.2.1
theorem x_zret (C : pv_C p s m args meth c cc nL own D cI cZ ad (pv_A ad)) {v : Int32} {R0 : Int32 × pv_S} (hr : meth.sig.returnType = some .boolean) (hn : narrow .boolean (.int v) = .int v) (hdg : decode cc pc = .ok (.ireturn, 1)) (h0 : (v, σ) = R0) : Wx p l e R s m args below meth c cells slots (MQ below (pv_QI D cI cZ ad R0) args s cells slots (pv_A ad)) nL D cI cZ ad (pv_A ad) pc lv [.int v] σ := fun H locs ls hP hS _ => W.zret C.1 C.2.1 hr hn (fun t ht hW => ⟨⟨v, σ, rfl, h0, by show va_P D vwCl (pv_W cI cZ ad σ) t.heap; rw [ht]; exact hP⟩, hS.F ht⟩) hS.2.2 hdg C.2.2.2.2.2.2.2.2.1
theorem x_vret (C : pv_C p s m args meth c cc nL own D cI cZ ad (pv_A ad)) {R0 : pv_S} (hr : meth.sig.returnType = none) (hdg : decode cc pc = .ok (.return_, 1)) (h0 : σ = R0) : Wx p l e R s m args below meth c cells slots (MQ below (pv_QV D cI cZ ad R0) args s cells slots (pv_A ad)) nL D cI cZ ad (pv_A ad) pc lv [] σ := fun H locs ls hP hS _ => W.vret C.1 C.2.1 hr (fun t ht hW => ⟨⟨σ, rfl, h0, by show va_P D vwCl (pv_W cI cZ ad σ) t.heap; rw [ht]; exact hP⟩, hS.F ht⟩) hS.2.2 hdg C.2.2.2.2.2.2.2.2.1
theorem x_aret (C : pv_C p s m args meth c cc nL own D cI cZ ad (pv_A ad)) {a : Nat} {R0 : pv_S} {Cn : String} (hr : meth.sig.returnType = some (.object Cn)) (hdg : decode cc pc = .ok (.areturn, 1)) (h0 : σ = R0) : Wx p l e R s m args below meth c cells slots (MQ below (pv_QR D cI cZ ad a R0) args s cells slots (pv_A ad)) nL D cI cZ ad (pv_A ad) pc lv [.ref a] σ := fun H locs ls hP hS _ => W.aret C.1 C.2.1 hr (Or.inl ⟨Cn, rfl⟩) (Or.inr ⟨a, rfl⟩) (fun t ht hW => ⟨⟨σ, a, rfl, h0, rfl, by show va_P D vwCl (pv_W cI cZ ad σ) t.heap; rw [ht]; exact hP⟩, hS.F ht⟩) hS.2.2 hdg C.2.2.2.2.2.2.2.2.1
end PVX
/-- a contract out of a walk from the method's first instruction -/
theorem x_met {l : Launch} {y : MethodName} {bytes : ByteArray} {maxL : Nat} {rt : Option FieldType} {rm : Room} {own : String} {D : va_G} {cI cZ : ClassId} {ad : Nat → Nat} {σ : pv_S} {av : List Value} {Qc : Array Value → State → Outcome → State → Prop} (hy : plainName y.cls = true) (hown : y.cls = own) (hJ : pv_J ad) (hlen : (lg_sl av).length ≤ maxL)
    (body : ∀ (p : Program) (e : Env) (s : State) (m : MethodId) (args : Array Value) (below : List Frame) (meth : Method) (c : Code), pv_C p s m args meth c bytes maxL own D cI cZ ad (pv_A ad) → meth.sig.returnType = rt → Wx p l e rm s m args below meth c 0 0 (MQ below Qc args s 0 0 (pv_A ad)) maxL D cI cZ ad (pv_A ad) 0 (lv_args 0 av) [] σ) :
    Met l y (Cond.code y bytes maxL rt :: lwG) rm (va_Pc av (pv_P D cI cZ ad σ)) Qc 0 0 (pv_A ad) := by
  refine Met.ofW (cc := bytes) (maxL := maxL) (ret := rt) hy rfl ?_
  intro p e s m args below meth c s₁ B hml hv
  obtain ⟨rfl, hP, hK, hN⟩ := hv
  have hts := atoms_spec (ws := Cond.code y bytes maxL rt :: lwG) B.pre
  have ho : s.vm.findClass own = some m.cls := by rw [← hown]; exact findClass_of_methodNamed B.named
  have hl := lv_entry av (n := maxL) hlen
  rw [lg_entry_eq]
  exact body p e s m av.toArray below meth c ⟨B.exec, B.bytes, hml, ho, fun w h => hts w (List.mem_cons_of_mem _ h), hK, hJ, fun k h => ⟨k, h, rfl⟩, B.notSynchronized, hN⟩ B.returns s.heap [] _ hP va_S.rf hl
/-! the functions: an index within, or nothing -/
def gd {α : Type} (i : Int32) (n : Nat) (x : Option α) : Option α := if i < 0 ∨ n ≤ i.toNatClampNeg then none else x
theorem gd_some {α : Type} {i : Int32} {n : Nat} {x : Option α} {r : α} (h : gd i n x = some r) : vp_in i n ∧ x = some r := by
  unfold gd at h
  by_cases hc : i < 0 ∨ n ≤ i.toNatClampNeg
  · rw [if_pos hc] at h; cases h
  · rw [if_neg hc] at h; exact ⟨hc, h⟩
/-- a boolean, or nothing -/
def gz {α : Type} (v : Int32) (x : Option α) : Option α := if v = 0 ∨ v = 1 then x else none
theorem gz_some {α : Type} {v : Int32} {x : Option α} {r : α} (h : gz v x = some r) : narrow .boolean (.int v) = .int v ∧ x = some r := by
  unfold gz at h
  by_cases hc : v = 0 ∨ v = 1
  · rw [if_pos hc] at h
    refine ⟨?_, h⟩
    rcases hc with rfl | rfl <;> rfl
  · rw [if_neg hc] at h; cases h
/-- a divisor that isn't 0, or nothing -/
def gn {α : Type} (v : Int32) (x : Option α) : Option α := if v = 0 then none else x
theorem gn_some {α : Type} {v : Int32} {x : Option α} {r : α} (h : gn v x = some r) : ¬ v = 0 ∧ x = some r := by
  unfold gn at h
  by_cases hc : v = 0
  · rw [if_pos hc] at h; cases h
  · rw [if_neg hc] at h; exact ⟨hc, h⟩
/-- a copy within both rows, or nothing -/
def gc {α : Type} (sp dp n : Int32) (n0 n1 : Nat) (x : Option α) : Option α := if ¬ sp < 0 ∧ ¬ dp < 0 ∧ ¬ n < 0 ∧ sp.toNatClampNeg + n.toNatClampNeg ≤ n0 ∧ dp.toNatClampNeg + n.toNatClampNeg ≤ n1 then x else none
theorem gc_some {α : Type} {sp dp n : Int32} {n0 n1 : Nat} {x : Option α} {r : α} (h : gc sp dp n n0 n1 x = some r) : (¬ sp < 0 ∧ ¬ dp < 0 ∧ ¬ n < 0 ∧ sp.toNatClampNeg + n.toNatClampNeg ≤ n0 ∧ dp.toNatClampNeg + n.toNatClampNeg ≤ n1) ∧ x = some r := by
  unfold gc at h
  by_cases hc : ¬ sp < 0 ∧ ¬ dp < 0 ∧ ¬ n < 0 ∧ sp.toNatClampNeg + n.toNatClampNeg ≤ n0 ∧ dp.toNatClampNeg + n.toNatClampNeg ≤ n1
  · rw [if_pos hc] at h; exact ⟨hc, h⟩
  · rw [if_neg hc] at h; cases h
theorem gb_some {α β : Type} {x : Option α} {f : α → Option β} {r : β} (h : Option.bind x f = some r) : ∃ a, x = some a ∧ f a = some r := by
  cases x with
  | none => cases h
  | some a => exact ⟨a, rfl, h⟩
end
section
theorem lwG_a {w : Cond} (i : Nat) (h : tables_1_1[i]? = some w) (hg : goodWord w = true) : w ∈ lwG := List.mem_filter.mpr ⟨List.mem_append_right _ (List.mem_append_left _ (List.mem_of_getElem? h)), hg⟩
theorem lwG_b {w : Cond} (i : Nat) (h : tables_1_2[i]? = some w) (hg : goodWord w = true) : w ∈ lwG := List.mem_filter.mpr ⟨List.mem_append_right _ (List.mem_append_right _ (List.mem_append_left _ (List.mem_of_getElem? h))), hg⟩
theorem lwG_c {w : Cond} (i : Nat) (h : tables_1_3[i]? = some w) (hg : goodWord w = true) : w ∈ lwG := List.mem_filter.mpr ⟨List.mem_append_right _ (List.mem_append_right _ (List.mem_append_right _ (List.mem_append_left _ (List.mem_of_getElem? h)))), hg⟩
theorem lwG_d {w : Cond} (i : Nat) (h : tables_1_4[i]? = some w) (hg : goodWord w = true) : w ∈ lwG := List.mem_filter.mpr ⟨List.mem_append_right _ (List.mem_append_right _ (List.mem_append_right _ (List.mem_append_right _ (List.mem_of_getElem? h)))), hg⟩
theorem iGX0 : ∀ w ∈ wsX00, w ∈ lwG := by
  intro w h
  obtain ⟨k, hk, rfl⟩ := List.mem_map.mp h
  have hk := List.mem_range.mp hk
  match k, hk with
  | 0, _ => exact lwG_a 136 rfl rfl
  | 1, _ => exact lwG_a 138 rfl rfl
  | 2, _ => exact lwG_a 140 rfl rfl
  | k + 3, h => exact absurd h (by omega)
theorem iGX1 : ∀ w ∈ wsX10, w ∈ lwG := by
  intro w h
  obtain ⟨k, hk, rfl⟩ := List.mem_map.mp h
  have hk := List.mem_range.mp hk
  match k, hk with
  | 0, _ => exact lwG_a 150 rfl rfl
  | k + 1, h => exact absurd h (by omega)
theorem iGX2 : ∀ w ∈ wsX20, w ∈ lwG := by
  intro w h
  obtain ⟨k, hk, rfl⟩ := List.mem_map.mp h
  have hk := List.mem_range.mp hk
  match k, hk with
  | 0, _ => exact lwG_a 103 rfl rfl
  | 1, _ => exact lwG_a 105 rfl rfl
  | 2, _ => exact lwG_a 107 rfl rfl
  | k + 3, h => exact absurd h (by omega)
theorem iGX3 : ∀ w ∈ wsX30, w ∈ lwG := by
  intro w h
  obtain ⟨k, hk, rfl⟩ := List.mem_map.mp h
  have hk := List.mem_range.mp hk
  match k, hk with
  | 0, _ => exact lwG_a 119 rfl rfl
  | 1, _ => exact lwG_a 121 rfl rfl
  | 2, _ => exact lwG_a 123 rfl rfl
  | k + 3, h => exact absurd h (by omega)
theorem iGX4 : ∀ w ∈ wsX40, w ∈ lwG := by
  intro w h
  obtain ⟨k, hk, rfl⟩ := List.mem_map.mp h
  have hk := List.mem_range.mp hk
  match k, hk with
  | 0, _ => exact lwG_a 51 rfl rfl
  | 1, _ => exact lwG_a 53 rfl rfl
  | 2, _ => exact lwG_a 55 rfl rfl
  | 3, _ => exact lwG_a 57 rfl rfl
  | k + 4, h => exact absurd h (by omega)
theorem iGX5 : ∀ w ∈ wsX50, w ∈ lwG := by
  intro w h
  obtain ⟨k, hk, rfl⟩ := List.mem_map.mp h
  have hk := List.mem_range.mp hk
  match k, hk with
  | 0, _ => exact lwG_a 75 rfl rfl
  | 1, _ => exact lwG_a 77 rfl rfl
  | 2, _ => exact lwG_a 79 rfl rfl
  | 3, _ => exact lwG_a 81 rfl rfl
  | 4, _ => exact lwG_a 83 rfl rfl
  | 5, _ => exact lwG_a 85 rfl rfl
  | 6, _ => exact lwG_a 87 rfl rfl
  | 7, _ => exact lwG_a 89 rfl rfl
  | 8, _ => exact lwG_a 91 rfl rfl
  | k + 9, h => exact absurd h (by omega)
theorem iGX6 : ∀ w ∈ wsX60, w ∈ lwG := by
  intro w h
  obtain ⟨k, hk, rfl⟩ := List.mem_map.mp h
  have hk := List.mem_range.mp hk
  match k, hk with
  | 0, _ => exact lwG_a 35 rfl rfl
  | 1, _ => exact lwG_a 37 rfl rfl
  | k + 2, h => exact absurd h (by omega)
theorem iGX7 : ∀ w ∈ wsX70, w ∈ lwG := by
  intro w h
  obtain ⟨k, hk, rfl⟩ := List.mem_map.mp h
  have hk := List.mem_range.mp hk
  match k, hk with
  | 0, _ => exact lwG_a 160 rfl rfl
  | 1, _ => exact lwG_a 162 rfl rfl
  | 2, _ => exact lwG_a 164 rfl rfl
  | 3, _ => exact lwG_a 166 rfl rfl
  | 4, _ => exact lwG_a 168 rfl rfl
  | 5, _ => exact lwG_a 170 rfl rfl
  | 6, _ => exact lwG_a 172 rfl rfl
  | k + 7, h => exact absurd h (by omega)
theorem iGX8 : ∀ w ∈ wsX80, w ∈ lwG := by
  intro w h
  obtain ⟨k, hk, rfl⟩ := List.mem_map.mp h
  have hk := List.mem_range.mp hk
  match k, hk with
  | 0, _ => exact lwG_c 203 rfl rfl
  | 1, _ => exact lwG_c 205 rfl rfl
  | 2, _ => exact lwG_c 207 rfl rfl
  | 3, _ => exact lwG_c 209 rfl rfl
  | 4, _ => exact lwG_c 211 rfl rfl
  | 5, _ => exact lwG_c 213 rfl rfl
  | 6, _ => exact lwG_c 215 rfl rfl
  | 7, _ => exact lwG_c 217 rfl rfl
  | 8, _ => exact lwG_c 219 rfl rfl
  | 9, _ => exact lwG_c 221 rfl rfl
  | 10, _ => exact lwG_c 223 rfl rfl
  | k + 11, h => exact absurd h (by omega)
def pv_la (σ : pv_S) (k : Nat) (i : Int32) : Int32 := σ.2 k i.toNatClampNeg
def pv_sa (σ : pv_S) (k : Nat) (i x : Int32) : pv_S := pv_pa σ k (upd (σ.2 k) i.toNatClampNeg x)
def pv_sz (σ : pv_S) (k : Nat) (i x : Int32) : pv_S := pv_pa σ k (upd (σ.2 k) i.toNatClampNeg (vp_nar .boolean x))
def pv_cp (σ : pv_S) (k0 k1 : Nat) (sp dp n : Int32) : pv_S := pv_pa σ k1 (va_cpy (σ.2 k0) (σ.2 k1) sp.toNatClampNeg dp.toNatClampNeg n.toNatClampNeg)
def pv_FU : Nat := 5000
section PVF
variable {p : Program} {l : Launch} {e : Env} {R : Room} {s : State} {m : MethodId} {args : Array Value} {below : List Frame} {meth : Method} {c : Code} {cells slots : Nat} {Q : State → Prop}
variable {cc : ByteArray} {nL : Nat} {D : va_G} {cI cZ : ClassId} {ad : Nat → Nat} {A : Nat → Prop} {pc : Nat} {lv : List (Nat × Value)} {st : List Value} {σ : pv_S}
theorem kf_X7_10 : Cond.fieldLink RX7 10 (TX7 0).1 (TX7 0).2.1 (TX7 0).2.2.1 ∈ lwG := lwG_a 153 rfl rfl
theorem xg_X7_10 (C : pv_C p s m args meth c cc nL RX7 D cI cZ ad A) (hdg : decode cc pc = .ok (.getfield 10, 3)) (kk : Wx p l e R s m args below meth c cells slots Q nL D cI cZ ad A (pc + 3) lv (.ref (ad 1) :: st) σ) : Wx p l e R s m args below meth c cells slots Q nL D cI cZ ad A pc lv (.ref (ad 0) :: st) σ := x_get C 0 7 0 rfl rfl iGX7 (by decide) kf_X7_10 rfl hdg kk
theorem kf_X7_21 : Cond.fieldLink RX7 21 (TX7 1).1 (TX7 1).2.1 (TX7 1).2.2.1 ∈ lwG := lwG_a 154 rfl rfl
theorem xg_X7_21 (C : pv_C p s m args meth c cc nL RX7 D cI cZ ad A) (hdg : decode cc pc = .ok (.getfield 21, 3)) (kk : Wx p l e R s m args below meth c cells slots Q nL D cI cZ ad A (pc + 3) lv (.ref (ad 2) :: st) σ) : Wx p l e R s m args below meth c cells slots Q nL D cI cZ ad A pc lv (.ref (ad 0) :: st) σ := x_get C 0 7 1 rfl rfl iGX7 (by decide) kf_X7_21 rfl hdg kk
theorem kf_X7_28 : Cond.fieldLink RX7 28 (TX7 2).1 (TX7 2).2.1 (TX7 2).2.2.1 ∈ lwG := lwG_a 155 rfl rfl
theorem xg_X7_28 (C : pv_C p s m args meth c cc nL RX7 D cI cZ ad A) (hdg : decode cc pc = .ok (.getfield 28, 3)) (kk : Wx p l e R s m args below meth c cells slots Q nL D cI cZ ad A (pc + 3) lv (.ref (ad 3) :: st) σ) : Wx p l e R s m args below meth c cells slots Q nL D cI cZ ad A pc lv (.ref (ad 0) :: st) σ := x_get C 0 7 2 rfl rfl iGX7 (by decide) kf_X7_28 rfl hdg kk
theorem kf_X7_35 : Cond.fieldLink RX7 35 (TX7 3).1 (TX7 3).2.1 (TX7 3).2.2.1 ∈ lwG := lwG_a 156 rfl rfl
theorem xg_X7_35 (C : pv_C p s m args meth c cc nL RX7 D cI cZ ad A) (hdg : decode cc pc = .ok (.getfield 35, 3)) (kk : Wx p l e R s m args below meth c cells slots Q nL D cI cZ ad A (pc + 3) lv (.ref (ad 4) :: st) σ) : Wx p l e R s m args below meth c cells slots Q nL D cI cZ ad A pc lv (.ref (ad 0) :: st) σ := x_get C 0 7 3 rfl rfl iGX7 (by decide) kf_X7_35 rfl hdg kk
theorem kf_X7_42 : Cond.fieldLink RX7 42 (TX7 4).1 (TX7 4).2.1 (TX7 4).2.2.1 ∈ lwG := lwG_a 157 rfl rfl
theorem xg_X7_42 (C : pv_C p s m args meth c cc nL RX7 D cI cZ ad A) (hdg : decode cc pc = .ok (.getfield 42, 3)) (kk : Wx p l e R s m args below meth c cells slots Q nL D cI cZ ad A (pc + 3) lv (.ref (ad 5) :: st) σ) : Wx p l e R s m args below meth c cells slots Q nL D cI cZ ad A pc lv (.ref (ad 0) :: st) σ := x_get C 0 7 4 rfl rfl iGX7 (by decide) kf_X7_42 rfl hdg kk
theorem kf_X7_49 : Cond.fieldLink RX7 49 (TX7 5).1 (TX7 5).2.1 (TX7 5).2.2.1 ∈ lwG := lwG_a 158 rfl rfl
theorem xg_X7_49 (C : pv_C p s m args meth c cc nL RX7 D cI cZ ad A) (hdg : decode cc pc = .ok (.getfield 49, 3)) (kk : Wx p l e R s m args below meth c cells slots Q nL D cI cZ ad A (pc + 3) lv (.ref (ad 6) :: st) σ) : Wx p l e R s m args below meth c cells slots Q nL D cI cZ ad A pc lv (.ref (ad 0) :: st) σ := x_get C 0 7 5 rfl rfl iGX7 (by decide) kf_X7_49 rfl hdg kk
theorem kf_X7_56 : Cond.fieldLink RX7 56 (TX7 6).1 (TX7 6).2.1 (TX7 6).2.2.1 ∈ lwG := lwG_a 159 rfl rfl
theorem xg_X7_56 (C : pv_C p s m args meth c cc nL RX7 D cI cZ ad A) (hdg : decode cc pc = .ok (.getfield 56, 3)) (kk : Wx p l e R s m args below meth c cells slots Q nL D cI cZ ad A (pc + 3) lv (.ref (ad 7) :: st) σ) : Wx p l e R s m args below meth c cells slots Q nL D cI cZ ad A pc lv (.ref (ad 0) :: st) σ := x_get C 0 7 6 rfl rfl iGX7 (by decide) kf_X7_56 rfl hdg kk
theorem kf_X0_11 : Cond.fieldLink RX0 11 (TX0 0).1 (TX0 0).2.1 (TX0 0).2.2.1 ∈ lwG := lwG_a 133 rfl rfl
theorem xg_X0_11 (C : pv_C p s m args meth c cc nL RX0 D cI cZ ad A) (hdg : decode cc pc = .ok (.getfield 11, 3)) (kk : Wx p l e R s m args below meth c cells slots Q nL D cI cZ ad A (pc + 3) lv (.ref (ad 20) :: st) σ) : Wx p l e R s m args below meth c cells slots Q nL D cI cZ ad A pc lv (.ref (ad 6) :: st) σ := x_get C 6 0 0 rfl rfl iGX0 (by decide) kf_X0_11 rfl hdg kk
theorem kf_X0_15 : Cond.fieldLink RX0 15 (TX0 1).1 (TX0 1).2.1 (TX0 1).2.2.1 ∈ lwG := lwG_a 134 rfl rfl
theorem xg_X0_15 (C : pv_C p s m args meth c cc nL RX0 D cI cZ ad A) (hdg : decode cc pc = .ok (.getfield 15, 3)) (kk : Wx p l e R s m args below meth c cells slots Q nL D cI cZ ad A (pc + 3) lv (.ref (ad 21) :: st) σ) : Wx p l e R s m args below meth c cells slots Q nL D cI cZ ad A pc lv (.ref (ad 6) :: st) σ := x_get C 6 0 1 rfl rfl iGX0 (by decide) kf_X0_15 rfl hdg kk
theorem kf_X0_18 : Cond.fieldLink RX0 18 (TX0 2).1 (TX0 2).2.1 (TX0 2).2.2.1 ∈ lwG := lwG_a 135 rfl rfl
theorem xg_X0_18 (C : pv_C p s m args meth c cc nL RX0 D cI cZ ad A) (hdg : decode cc pc = .ok (.getfield 18, 3)) (kk : Wx p l e R s m args below meth c cells slots Q nL D cI cZ ad A (pc + 3) lv (.int (σ.1 8) :: st) σ) : Wx p l e R s m args below meth c cells slots Q nL D cI cZ ad A pc lv (.ref (ad 6) :: st) σ := x_get C 6 0 2 rfl rfl iGX0 (by decide) kf_X0_18 rfl hdg kk
theorem xp_X0_18 (C : pv_C p s m args meth c cc nL RX0 D cI cZ ad A) {v : Int32} (hdg : decode cc pc = .ok (.putfield 18, 3)) (kk : Wx p l e R s m args below meth c cells slots Q nL D cI cZ ad A (pc + 3) lv st (pv_pi σ 8 v)) : Wx p l e R s m args below meth c cells slots Q nL D cI cZ ad A pc lv (.int v :: .ref (ad 6) :: st) σ := x_put C 6 0 2 rfl rfl iGX0 (by decide) kf_X0_18 tyX0 tyX0_ok nmX0 rfl rfl (Nat.le_of_ble_eq_true rfl) rfl hdg kk
theorem kf_X1_7 : Cond.fieldLink RX1 7 (TX1 0).1 (TX1 0).2.1 (TX1 0).2.2.1 ∈ lwG := lwG_a 149 rfl rfl
theorem xg_X1_7 (C : pv_C p s m args meth c cc nL RX1 D cI cZ ad A) (hdg : decode cc pc = .ok (.getfield 7, 3)) (kk : Wx p l e R s m args below meth c cells slots Q nL D cI cZ ad A (pc + 3) lv (.int (σ.1 9) :: st) σ) : Wx p l e R s m args below meth c cells slots Q nL D cI cZ ad A pc lv (.ref (ad 7) :: st) σ := x_get C 7 1 0 rfl rfl iGX1 (by decide) kf_X1_7 rfl hdg kk
theorem xp_X1_7 (C : pv_C p s m args meth c cc nL RX1 D cI cZ ad A) {v : Int32} (hdg : decode cc pc = .ok (.putfield 7, 3)) (kk : Wx p l e R s m args below meth c cells slots Q nL D cI cZ ad A (pc + 3) lv st (pv_pi σ 9 v)) : Wx p l e R s m args below meth c cells slots Q nL D cI cZ ad A pc lv (.int v :: .ref (ad 7) :: st) σ := x_put C 7 1 0 rfl rfl iGX1 (by decide) kf_X1_7 tyX1 tyX1_ok nmX1 rfl rfl (Nat.le_of_ble_eq_true rfl) rfl hdg kk
theorem kf_X2_11 : Cond.fieldLink RX2 11 (TX2 0).1 (TX2 0).2.1 (TX2 0).2.2.1 ∈ lwG := lwG_a 100 rfl rfl
theorem xg_X2_11 (C : pv_C p s m args meth c cc nL RX2 D cI cZ ad A) (hdg : decode cc pc = .ok (.getfield 11, 3)) (kk : Wx p l e R s m args below meth c cells slots Q nL D cI cZ ad A (pc + 3) lv (.ref (ad 16) :: st) σ) : Wx p l e R s m args below meth c cells slots Q nL D cI cZ ad A pc lv (.ref (ad 4) :: st) σ := x_get C 4 2 0 rfl rfl iGX2 (by decide) kf_X2_11 rfl hdg kk
theorem kf_X2_15 : Cond.fieldLink RX2 15 (TX2 2).1 (TX2 2).2.1 (TX2 2).2.2.1 ∈ lwG := lwG_a 102 rfl rfl
theorem xg_X2_15 (C : pv_C p s m args meth c cc nL RX2 D cI cZ ad A) (hdg : decode cc pc = .ok (.getfield 15, 3)) (kk : Wx p l e R s m args below meth c cells slots Q nL D cI cZ ad A (pc + 3) lv (.int (σ.1 7) :: st) σ) : Wx p l e R s m args below meth c cells slots Q nL D cI cZ ad A pc lv (.ref (ad 4) :: st) σ := x_get C 4 2 2 rfl rfl iGX2 (by decide) kf_X2_15 rfl hdg kk
theorem xp_X2_15 (C : pv_C p s m args meth c cc nL RX2 D cI cZ ad A) {v : Int32} (hdg : decode cc pc = .ok (.putfield 15, 3)) (kk : Wx p l e R s m args below meth c cells slots Q nL D cI cZ ad A (pc + 3) lv st (pv_pi σ 7 v)) : Wx p l e R s m args below meth c cells slots Q nL D cI cZ ad A pc lv (.int v :: .ref (ad 4) :: st) σ := x_put C 4 2 2 rfl rfl iGX2 (by decide) kf_X2_15 tyX2 tyX2_ok nmX2 rfl rfl (Nat.le_of_ble_eq_true rfl) rfl hdg kk
theorem kf_X2_19 : Cond.fieldLink RX2 19 (TX2 1).1 (TX2 1).2.1 (TX2 1).2.2.1 ∈ lwG := lwG_a 101 rfl rfl
theorem xg_X2_19 (C : pv_C p s m args meth c cc nL RX2 D cI cZ ad A) (hdg : decode cc pc = .ok (.getfield 19, 3)) (kk : Wx p l e R s m args below meth c cells slots Q nL D cI cZ ad A (pc + 3) lv (.int (σ.1 6) :: st) σ) : Wx p l e R s m args below meth c cells slots Q nL D cI cZ ad A pc lv (.ref (ad 4) :: st) σ := x_get C 4 2 1 rfl rfl iGX2 (by decide) kf_X2_19 rfl hdg kk
theorem xp_X2_19 (C : pv_C p s m args meth c cc nL RX2 D cI cZ ad A) {v : Int32} (hdg : decode cc pc = .ok (.putfield 19, 3)) (kk : Wx p l e R s m args below meth c cells slots Q nL D cI cZ ad A (pc + 3) lv st (pv_pi σ 6 v)) : Wx p l e R s m args below meth c cells slots Q nL D cI cZ ad A pc lv (.int v :: .ref (ad 4) :: st) σ := x_put C 4 2 1 rfl rfl iGX2 (by decide) kf_X2_19 tyX2 tyX2_ok nmX2 rfl rfl (Nat.le_of_ble_eq_true rfl) rfl hdg kk
theorem kf_X3_11 : Cond.fieldLink RX3 11 (TX3 0).1 (TX3 0).2.1 (TX3 0).2.2.1 ∈ lwG := lwG_a 116 rfl rfl
theorem xg_X3_11 (C : pv_C p s m args meth c cc nL RX3 D cI cZ ad A) (hdg : decode cc pc = .ok (.getfield 11, 3)) (kk : Wx p l e R s m args below meth c cells slots Q nL D cI cZ ad A (pc + 3) lv (.ref (ad 17) :: st) σ) : Wx p l e R s m args below meth c cells slots Q nL D cI cZ ad A pc lv (.ref (ad 5) :: st) σ := x_get C 5 3 0 rfl rfl iGX3 (by decide) kf_X3_11 rfl hdg kk
theorem kf_X3_15 : Cond.fieldLink RX3 15 (TX3 1).1 (TX3 1).2.1 (TX3 1).2.2.1 ∈ lwG := lwG_a 117 rfl rfl
theorem xg_X3_15 (C : pv_C p s m args meth c cc nL RX3 D cI cZ ad A) (hdg : decode cc pc = .ok (.getfield 15, 3)) (kk : Wx p l e R s m args below meth c cells slots Q nL D cI cZ ad A (pc + 3) lv (.ref (ad 18) :: st) σ) : Wx p l e R s m args below meth c cells slots Q nL D cI cZ ad A pc lv (.ref (ad 5) :: st) σ := x_get C 5 3 1 rfl rfl iGX3 (by decide) kf_X3_15 rfl hdg kk
theorem kf_X3_18 : Cond.fieldLink RX3 18 (TX3 2).1 (TX3 2).2.1 (TX3 2).2.2.1 ∈ lwG := lwG_a 118 rfl rfl
theorem xg_X3_18 (C : pv_C p s m args meth c cc nL RX3 D cI cZ ad A) (hdg : decode cc pc = .ok (.getfield 18, 3)) (kk : Wx p l e R s m args below meth c cells slots Q nL D cI cZ ad A (pc + 3) lv (.ref (ad 19) :: st) σ) : Wx p l e R s m args below meth c cells slots Q nL D cI cZ ad A pc lv (.ref (ad 5) :: st) σ := x_get C 5 3 2 rfl rfl iGX3 (by decide) kf_X3_18 rfl hdg kk
theorem kf_X4_9 : Cond.fieldLink RX4 9 (TX4 1).1 (TX4 1).2.1 (TX4 1).2.2.1 ∈ lwG := lwG_a 48 rfl rfl
theorem xg_X4_9 (C : pv_C p s m args meth c cc nL RX4 D cI cZ ad A) (hdg : decode cc pc = .ok (.getfield 9, 3)) (kk : Wx p l e R s m args below meth c cells slots Q nL D cI cZ ad A (pc + 3) lv (.ref (ad 10) :: st) σ) : Wx p l e R s m args below meth c cells slots Q nL D cI cZ ad A pc lv (.ref (ad 2) :: st) σ := x_get C 2 4 1 rfl rfl iGX4 (by decide) kf_X4_9 rfl hdg kk
theorem kf_X4_15 : Cond.fieldLink RX4 15 (TX4 2).1 (TX4 2).2.1 (TX4 2).2.2.1 ∈ lwG := lwG_a 49 rfl rfl
theorem xg_X4_15 (C : pv_C p s m args meth c cc nL RX4 D cI cZ ad A) (hdg : decode cc pc = .ok (.getfield 15, 3)) (kk : Wx p l e R s m args below meth c cells slots Q nL D cI cZ ad A (pc + 3) lv (.ref (ad 11) :: st) σ) : Wx p l e R s m args below meth c cells slots Q nL D cI cZ ad A pc lv (.ref (ad 2) :: st) σ := x_get C 2 4 2 rfl rfl iGX4 (by decide) kf_X4_15 rfl hdg kk
theorem kf_X4_18 : Cond.fieldLink RX4 18 (TX4 0).1 (TX4 0).2.1 (TX4 0).2.2.1 ∈ lwG := lwG_a 47 rfl rfl
theorem xg_X4_18 (C : pv_C p s m args meth c cc nL RX4 D cI cZ ad A) (hdg : decode cc pc = .ok (.getfield 18, 3)) (kk : Wx p l e R s m args below meth c cells slots Q nL D cI cZ ad A (pc + 3) lv (.ref (ad 1) :: st) σ) : Wx p l e R s m args below meth c cells slots Q nL D cI cZ ad A pc lv (.ref (ad 2) :: st) σ := x_get C 2 4 0 rfl rfl iGX4 (by decide) kf_X4_18 rfl hdg kk
theorem kf_X4_42 : Cond.fieldLink RX4 42 (TX4 3).1 (TX4 3).2.1 (TX4 3).2.2.1 ∈ lwG := lwG_a 50 rfl rfl
theorem xg_X4_42 (C : pv_C p s m args meth c cc nL RX4 D cI cZ ad A) (hdg : decode cc pc = .ok (.getfield 42, 3)) (kk : Wx p l e R s m args below meth c cells slots Q nL D cI cZ ad A (pc + 3) lv (.int (σ.1 1) :: st) σ) : Wx p l e R s m args below meth c cells slots Q nL D cI cZ ad A pc lv (.ref (ad 2) :: st) σ := x_get C 2 4 3 rfl rfl iGX4 (by decide) kf_X4_42 rfl hdg kk
theorem xp_X4_42 (C : pv_C p s m args meth c cc nL RX4 D cI cZ ad A) {v : Int32} (hdg : decode cc pc = .ok (.putfield 42, 3)) (kk : Wx p l e R s m args below meth c cells slots Q nL D cI cZ ad A (pc + 3) lv st (pv_pi σ 1 v)) : Wx p l e R s m args below meth c cells slots Q nL D cI cZ ad A pc lv (.int v :: .ref (ad 2) :: st) σ := x_put C 2 4 3 rfl rfl iGX4 (by decide) kf_X4_42 tyX4 tyX4_ok nmX4 rfl rfl (Nat.le_of_ble_eq_true rfl) rfl hdg kk
theorem kf_X5_9 : Cond.fieldLink RX5 9 (TX5 1).1 (TX5 1).2.1 (TX5 1).2.2.1 ∈ lwG := lwG_a 67 rfl rfl
theorem xg_X5_9 (C : pv_C p s m args meth c cc nL RX5 D cI cZ ad A) (hdg : decode cc pc = .ok (.getfield 9, 3)) (kk : Wx p l e R s m args below meth c cells slots Q nL D cI cZ ad A (pc + 3) lv (.ref (ad 12) :: st) σ) : Wx p l e R s m args below meth c cells slots Q nL D cI cZ ad A pc lv (.ref (ad 3) :: st) σ := x_get C 3 5 1 rfl rfl iGX5 (by decide) kf_X5_9 rfl hdg kk
theorem kf_X5_15 : Cond.fieldLink RX5 15 (TX5 2).1 (TX5 2).2.1 (TX5 2).2.2.1 ∈ lwG := lwG_a 68 rfl rfl
theorem xg_X5_15 (C : pv_C p s m args meth c cc nL RX5 D cI cZ ad A) (hdg : decode cc pc = .ok (.getfield 15, 3)) (kk : Wx p l e R s m args below meth c cells slots Q nL D cI cZ ad A (pc + 3) lv (.ref (ad 13) :: st) σ) : Wx p l e R s m args below meth c cells slots Q nL D cI cZ ad A pc lv (.ref (ad 3) :: st) σ := x_get C 3 5 2 rfl rfl iGX5 (by decide) kf_X5_15 rfl hdg kk
theorem kf_X5_18 : Cond.fieldLink RX5 18 (TX5 3).1 (TX5 3).2.1 (TX5 3).2.2.1 ∈ lwG := lwG_a 69 rfl rfl
theorem xg_X5_18 (C : pv_C p s m args meth c cc nL RX5 D cI cZ ad A) (hdg : decode cc pc = .ok (.getfield 18, 3)) (kk : Wx p l e R s m args below meth c cells slots Q nL D cI cZ ad A (pc + 3) lv (.ref (ad 14) :: st) σ) : Wx p l e R s m args below meth c cells slots Q nL D cI cZ ad A pc lv (.ref (ad 3) :: st) σ := x_get C 3 5 3 rfl rfl iGX5 (by decide) kf_X5_18 rfl hdg kk
theorem kf_X5_21 : Cond.fieldLink RX5 21 (TX5 4).1 (TX5 4).2.1 (TX5 4).2.2.1 ∈ lwG := lwG_a 70 rfl rfl
theorem xg_X5_21 (C : pv_C p s m args meth c cc nL RX5 D cI cZ ad A) (hdg : decode cc pc = .ok (.getfield 21, 3)) (kk : Wx p l e R s m args below meth c cells slots Q nL D cI cZ ad A (pc + 3) lv (.ref (ad 15) :: st) σ) : Wx p l e R s m args below meth c cells slots Q nL D cI cZ ad A pc lv (.ref (ad 3) :: st) σ := x_get C 3 5 4 rfl rfl iGX5 (by decide) kf_X5_21 rfl hdg kk
theorem kf_X5_24 : Cond.fieldLink RX5 24 (TX5 7).1 (TX5 7).2.1 (TX5 7).2.2.1 ∈ lwG := lwG_a 73 rfl rfl
theorem xg_X5_24 (C : pv_C p s m args meth c cc nL RX5 D cI cZ ad A) (hdg : decode cc pc = .ok (.getfield 24, 3)) (kk : Wx p l e R s m args below meth c cells slots Q nL D cI cZ ad A (pc + 3) lv (.int (σ.1 4) :: st) σ) : Wx p l e R s m args below meth c cells slots Q nL D cI cZ ad A pc lv (.ref (ad 3) :: st) σ := x_get C 3 5 7 rfl rfl iGX5 (by decide) kf_X5_24 rfl hdg kk
theorem xp_X5_24 (C : pv_C p s m args meth c cc nL RX5 D cI cZ ad A) {v : Int32} (hdg : decode cc pc = .ok (.putfield 24, 3)) (kk : Wx p l e R s m args below meth c cells slots Q nL D cI cZ ad A (pc + 3) lv st (pv_pi σ 4 v)) : Wx p l e R s m args below meth c cells slots Q nL D cI cZ ad A pc lv (.int v :: .ref (ad 3) :: st) σ := x_put C 3 5 7 rfl rfl iGX5 (by decide) kf_X5_24 tyX5 tyX5_ok nmX5 rfl rfl (Nat.le_of_ble_eq_true rfl) rfl hdg kk
theorem kf_X5_28 : Cond.fieldLink RX5 28 (TX5 8).1 (TX5 8).2.1 (TX5 8).2.2.1 ∈ lwG := lwG_a 74 rfl rfl
theorem xg_X5_28 (C : pv_C p s m args meth c cc nL RX5 D cI cZ ad A) (hdg : decode cc pc = .ok (.getfield 28, 3)) (kk : Wx p l e R s m args below meth c cells slots Q nL D cI cZ ad A (pc + 3) lv (.int (σ.1 5) :: st) σ) : Wx p l e R s m args below meth c cells slots Q nL D cI cZ ad A pc lv (.ref (ad 3) :: st) σ := x_get C 3 5 8 rfl rfl iGX5 (by decide) kf_X5_28 rfl hdg kk
theorem xp_X5_28 (C : pv_C p s m args meth c cc nL RX5 D cI cZ ad A) {v : Int32} (hdg : decode cc pc = .ok (.putfield 28, 3)) (kk : Wx p l e R s m args below meth c cells slots Q nL D cI cZ ad A (pc + 3) lv st (pv_pi σ 5 v)) : Wx p l e R s m args below meth c cells slots Q nL D cI cZ ad A pc lv (.int v :: .ref (ad 3) :: st) σ := x_put C 3 5 8 rfl rfl iGX5 (by decide) kf_X5_28 tyX5 tyX5_ok nmX5 rfl rfl (Nat.le_of_ble_eq_true rfl) rfl hdg kk
theorem kf_X5_31 : Cond.fieldLink RX5 31 (TX5 0).1 (TX5 0).2.1 (TX5 0).2.2.1 ∈ lwG := lwG_a 66 rfl rfl
theorem xg_X5_31 (C : pv_C p s m args meth c cc nL RX5 D cI cZ ad A) (hdg : decode cc pc = .ok (.getfield 31, 3)) (kk : Wx p l e R s m args below meth c cells slots Q nL D cI cZ ad A (pc + 3) lv (.ref (ad 1) :: st) σ) : Wx p l e R s m args below meth c cells slots Q nL D cI cZ ad A pc lv (.ref (ad 3) :: st) σ := x_get C 3 5 0 rfl rfl iGX5 (by decide) kf_X5_31 rfl hdg kk
theorem kf_X5_50 : Cond.fieldLink RX5 50 (TX5 5).1 (TX5 5).2.1 (TX5 5).2.2.1 ∈ lwG := lwG_a 71 rfl rfl
theorem xg_X5_50 (C : pv_C p s m args meth c cc nL RX5 D cI cZ ad A) (hdg : decode cc pc = .ok (.getfield 50, 3)) (kk : Wx p l e R s m args below meth c cells slots Q nL D cI cZ ad A (pc + 3) lv (.int (σ.1 2) :: st) σ) : Wx p l e R s m args below meth c cells slots Q nL D cI cZ ad A pc lv (.ref (ad 3) :: st) σ := x_get C 3 5 5 rfl rfl iGX5 (by decide) kf_X5_50 rfl hdg kk
theorem xp_X5_50 (C : pv_C p s m args meth c cc nL RX5 D cI cZ ad A) {v : Int32} (hdg : decode cc pc = .ok (.putfield 50, 3)) (kk : Wx p l e R s m args below meth c cells slots Q nL D cI cZ ad A (pc + 3) lv st (pv_pi σ 2 v)) : Wx p l e R s m args below meth c cells slots Q nL D cI cZ ad A pc lv (.int v :: .ref (ad 3) :: st) σ := x_put C 3 5 5 rfl rfl iGX5 (by decide) kf_X5_50 tyX5 tyX5_ok nmX5 rfl rfl (Nat.le_of_ble_eq_true rfl) rfl hdg kk
theorem kf_X5_56 : Cond.fieldLink RX5 56 (TX5 6).1 (TX5 6).2.1 (TX5 6).2.2.1 ∈ lwG := lwG_a 72 rfl rfl
theorem xg_X5_56 (C : pv_C p s m args meth c cc nL RX5 D cI cZ ad A) (hdg : decode cc pc = .ok (.getfield 56, 3)) (kk : Wx p l e R s m args below meth c cells slots Q nL D cI cZ ad A (pc + 3) lv (.int (σ.1 3) :: st) σ) : Wx p l e R s m args below meth c cells slots Q nL D cI cZ ad A pc lv (.ref (ad 3) :: st) σ := x_get C 3 5 6 rfl rfl iGX5 (by decide) kf_X5_56 rfl hdg kk
theorem xp_X5_56 (C : pv_C p s m args meth c cc nL RX5 D cI cZ ad A) {v : Int32} (hdg : decode cc pc = .ok (.putfield 56, 3)) (kk : Wx p l e R s m args below meth c cells slots Q nL D cI cZ ad A (pc + 3) lv st (pv_pi σ 3 v)) : Wx p l e R s m args below meth c cells slots Q nL D cI cZ ad A pc lv (.int v :: .ref (ad 3) :: st) σ := x_put C 3 5 6 rfl rfl iGX5 (by decide) kf_X5_56 tyX5 tyX5_ok nmX5 rfl rfl (Nat.le_of_ble_eq_true rfl) rfl hdg kk
theorem kf_X6_11 : Cond.fieldLink RX6 11 (TX6 0).1 (TX6 0).2.1 (TX6 0).2.2.1 ∈ lwG := lwG_a 33 rfl rfl
theorem xg_X6_11 (C : pv_C p s m args meth c cc nL RX6 D cI cZ ad A) (hdg : decode cc pc = .ok (.getfield 11, 3)) (kk : Wx p l e R s m args below meth c cells slots Q nL D cI cZ ad A (pc + 3) lv (.ref (ad 9) :: st) σ) : Wx p l e R s m args below meth c cells slots Q nL D cI cZ ad A pc lv (.ref (ad 1) :: st) σ := x_get C 1 6 0 rfl rfl iGX6 (by decide) kf_X6_11 rfl hdg kk
theorem kf_X6_27 : Cond.fieldLink RX6 27 (TX6 1).1 (TX6 1).2.1 (TX6 1).2.2.1 ∈ lwG := lwG_a 34 rfl rfl
theorem xg_X6_27 (C : pv_C p s m args meth c cc nL RX6 D cI cZ ad A) (hdg : decode cc pc = .ok (.getfield 27, 3)) (kk : Wx p l e R s m args below meth c cells slots Q nL D cI cZ ad A (pc + 3) lv (.int (σ.1 0) :: st) σ) : Wx p l e R s m args below meth c cells slots Q nL D cI cZ ad A pc lv (.ref (ad 1) :: st) σ := x_get C 1 6 1 rfl rfl iGX6 (by decide) kf_X6_27 rfl hdg kk
theorem xp_X6_27 (C : pv_C p s m args meth c cc nL RX6 D cI cZ ad A) {v : Int32} (hdg : decode cc pc = .ok (.putfield 27, 3)) (kk : Wx p l e R s m args below meth c cells slots Q nL D cI cZ ad A (pc + 3) lv st (pv_pi σ 0 v)) : Wx p l e R s m args below meth c cells slots Q nL D cI cZ ad A pc lv (.int v :: .ref (ad 1) :: st) σ := x_put C 1 6 1 rfl rfl iGX6 (by decide) kf_X6_27 tyX6 tyX6_ok nmX6 rfl rfl (Nat.le_of_ble_eq_true rfl) rfl hdg kk
theorem kf_X8_7 : Cond.fieldLink RX8 7 (TX8 0).1 (TX8 0).2.1 (TX8 0).2.2.1 ∈ lwG := lwG_c 192 rfl rfl
theorem xg_X8_7 (C : pv_C p s m args meth c cc nL RX8 D cI cZ ad A) (hdg : decode cc pc = .ok (.getfield 7, 3)) (kk : Wx p l e R s m args below meth c cells slots Q nL D cI cZ ad A (pc + 3) lv (.ref (ad 22) :: st) σ) : Wx p l e R s m args below meth c cells slots Q nL D cI cZ ad A pc lv (.ref (ad 8) :: st) σ := x_get C 8 8 0 rfl rfl iGX8 (by decide) kf_X8_7 rfl hdg kk
theorem kf_X8_13 : Cond.fieldLink RX8 13 (TX8 4).1 (TX8 4).2.1 (TX8 4).2.2.1 ∈ lwG := lwG_c 196 rfl rfl
theorem xg_X8_13 (C : pv_C p s m args meth c cc nL RX8 D cI cZ ad A) (hdg : decode cc pc = .ok (.getfield 13, 3)) (kk : Wx p l e R s m args below meth c cells slots Q nL D cI cZ ad A (pc + 3) lv (.ref (ad 23) :: st) σ) : Wx p l e R s m args below meth c cells slots Q nL D cI cZ ad A pc lv (.ref (ad 8) :: st) σ := x_get C 8 8 4 rfl rfl iGX8 (by decide) kf_X8_13 rfl hdg kk
theorem kf_X8_16 : Cond.fieldLink RX8 16 (TX8 5).1 (TX8 5).2.1 (TX8 5).2.2.1 ∈ lwG := lwG_c 197 rfl rfl
theorem xg_X8_16 (C : pv_C p s m args meth c cc nL RX8 D cI cZ ad A) (hdg : decode cc pc = .ok (.getfield 16, 3)) (kk : Wx p l e R s m args below meth c cells slots Q nL D cI cZ ad A (pc + 3) lv (.ref (ad 24) :: st) σ) : Wx p l e R s m args below meth c cells slots Q nL D cI cZ ad A pc lv (.ref (ad 8) :: st) σ := x_get C 8 8 5 rfl rfl iGX8 (by decide) kf_X8_16 rfl hdg kk
theorem kf_X8_19 : Cond.fieldLink RX8 19 (TX8 6).1 (TX8 6).2.1 (TX8 6).2.2.1 ∈ lwG := lwG_c 198 rfl rfl
theorem xg_X8_19 (C : pv_C p s m args meth c cc nL RX8 D cI cZ ad A) (hdg : decode cc pc = .ok (.getfield 19, 3)) (kk : Wx p l e R s m args below meth c cells slots Q nL D cI cZ ad A (pc + 3) lv (.ref (ad 25) :: st) σ) : Wx p l e R s m args below meth c cells slots Q nL D cI cZ ad A pc lv (.ref (ad 8) :: st) σ := x_get C 8 8 6 rfl rfl iGX8 (by decide) kf_X8_19 rfl hdg kk
theorem kf_X8_22 : Cond.fieldLink RX8 22 (TX8 8).1 (TX8 8).2.1 (TX8 8).2.2.1 ∈ lwG := lwG_c 200 rfl rfl
theorem xg_X8_22 (C : pv_C p s m args meth c cc nL RX8 D cI cZ ad A) (hdg : decode cc pc = .ok (.getfield 22, 3)) (kk : Wx p l e R s m args below meth c cells slots Q nL D cI cZ ad A (pc + 3) lv (.ref (ad 26) :: st) σ) : Wx p l e R s m args below meth c cells slots Q nL D cI cZ ad A pc lv (.ref (ad 8) :: st) σ := x_get C 8 8 8 rfl rfl iGX8 (by decide) kf_X8_22 rfl hdg kk
theorem kf_X8_25 : Cond.fieldLink RX8 25 (TX8 9).1 (TX8 9).2.1 (TX8 9).2.2.1 ∈ lwG := lwG_c 201 rfl rfl
theorem xg_X8_25 (C : pv_C p s m args meth c cc nL RX8 D cI cZ ad A) (hdg : decode cc pc = .ok (.getfield 25, 3)) (kk : Wx p l e R s m args below meth c cells slots Q nL D cI cZ ad A (pc + 3) lv (.ref (ad 27) :: st) σ) : Wx p l e R s m args below meth c cells slots Q nL D cI cZ ad A pc lv (.ref (ad 8) :: st) σ := x_get C 8 8 9 rfl rfl iGX8 (by decide) kf_X8_25 rfl hdg kk
theorem kf_X8_32 : Cond.fieldLink RX8 32 (TX8 1).1 (TX8 1).2.1 (TX8 1).2.2.1 ∈ lwG := lwG_c 193 rfl rfl
theorem xg_X8_32 (C : pv_C p s m args meth c cc nL RX8 D cI cZ ad A) (hdg : decode cc pc = .ok (.getfield 32, 3)) (kk : Wx p l e R s m args below meth c cells slots Q nL D cI cZ ad A (pc + 3) lv (.int (σ.1 10) :: st) σ) : Wx p l e R s m args below meth c cells slots Q nL D cI cZ ad A pc lv (.ref (ad 8) :: st) σ := x_get C 8 8 1 rfl rfl iGX8 (by decide) kf_X8_32 rfl hdg kk
theorem xp_X8_32 (C : pv_C p s m args meth c cc nL RX8 D cI cZ ad A) {v : Int32} (hdg : decode cc pc = .ok (.putfield 32, 3)) (kk : Wx p l e R s m args below meth c cells slots Q nL D cI cZ ad A (pc + 3) lv st (pv_pi σ 10 v)) : Wx p l e R s m args below meth c cells slots Q nL D cI cZ ad A pc lv (.int v :: .ref (ad 8) :: st) σ := x_put C 8 8 1 rfl rfl iGX8 (by decide) kf_X8_32 tyX8 tyX8_ok nmX8 rfl rfl (Nat.le_of_ble_eq_true rfl) rfl hdg kk
theorem kf_X8_82 : Cond.fieldLink RX8 82 (TX8 7).1 (TX8 7).2.1 (TX8 7).2.2.1 ∈ lwG := lwG_c 199 rfl rfl
theorem xg_X8_82 (C : pv_C p s m args meth c cc nL RX8 D cI cZ ad A) (hdg : decode cc pc = .ok (.getfield 82, 3)) (kk : Wx p l e R s m args below meth c cells slots Q nL D cI cZ ad A (pc + 3) lv (.int (σ.1 13) :: st) σ) : Wx p l e R s m args below meth c cells slots Q nL D cI cZ ad A pc lv (.ref (ad 8) :: st) σ := x_get C 8 8 7 rfl rfl iGX8 (by decide) kf_X8_82 rfl hdg kk
theorem xp_X8_82 (C : pv_C p s m args meth c cc nL RX8 D cI cZ ad A) {v : Int32} (hdg : decode cc pc = .ok (.putfield 82, 3)) (kk : Wx p l e R s m args below meth c cells slots Q nL D cI cZ ad A (pc + 3) lv st (pv_pi σ 13 v)) : Wx p l e R s m args below meth c cells slots Q nL D cI cZ ad A pc lv (.int v :: .ref (ad 8) :: st) σ := x_put C 8 8 7 rfl rfl iGX8 (by decide) kf_X8_82 tyX8 tyX8_ok nmX8 rfl rfl (Nat.le_of_ble_eq_true rfl) rfl hdg kk
theorem kf_X8_88 : Cond.fieldLink RX8 88 (TX8 3).1 (TX8 3).2.1 (TX8 3).2.2.1 ∈ lwG := lwG_c 195 rfl rfl
theorem xg_X8_88 (C : pv_C p s m args meth c cc nL RX8 D cI cZ ad A) (hdg : decode cc pc = .ok (.getfield 88, 3)) (kk : Wx p l e R s m args below meth c cells slots Q nL D cI cZ ad A (pc + 3) lv (.int (σ.1 12) :: st) σ) : Wx p l e R s m args below meth c cells slots Q nL D cI cZ ad A pc lv (.ref (ad 8) :: st) σ := x_get C 8 8 3 rfl rfl iGX8 (by decide) kf_X8_88 rfl hdg kk
theorem xp_X8_88 (C : pv_C p s m args meth c cc nL RX8 D cI cZ ad A) {v : Int32} (hdg : decode cc pc = .ok (.putfield 88, 3)) (kk : Wx p l e R s m args below meth c cells slots Q nL D cI cZ ad A (pc + 3) lv st (pv_pi σ 12 v)) : Wx p l e R s m args below meth c cells slots Q nL D cI cZ ad A pc lv (.int v :: .ref (ad 8) :: st) σ := x_put C 8 8 3 rfl rfl iGX8 (by decide) kf_X8_88 tyX8 tyX8_ok nmX8 rfl rfl (Nat.le_of_ble_eq_true rfl) rfl hdg kk
theorem kf_X8_178 : Cond.fieldLink RX8 178 (TX8 10).1 (TX8 10).2.1 (TX8 10).2.2.1 ∈ lwG := lwG_c 202 rfl rfl
theorem xg_X8_178 (C : pv_C p s m args meth c cc nL RX8 D cI cZ ad A) (hdg : decode cc pc = .ok (.getfield 178, 3)) (kk : Wx p l e R s m args below meth c cells slots Q nL D cI cZ ad A (pc + 3) lv (.int (σ.1 14) :: st) σ) : Wx p l e R s m args below meth c cells slots Q nL D cI cZ ad A pc lv (.ref (ad 8) :: st) σ := x_get C 8 8 10 rfl rfl iGX8 (by decide) kf_X8_178 rfl hdg kk
theorem xp_X8_178 (C : pv_C p s m args meth c cc nL RX8 D cI cZ ad A) {v : Int32} (hdg : decode cc pc = .ok (.putfield 178, 3)) (kk : Wx p l e R s m args below meth c cells slots Q nL D cI cZ ad A (pc + 3) lv st (pv_pi σ 14 v)) : Wx p l e R s m args below meth c cells slots Q nL D cI cZ ad A pc lv (.int v :: .ref (ad 8) :: st) σ := x_put C 8 8 10 rfl rfl iGX8 (by decide) kf_X8_178 tyX8 tyX8_ok nmX8 rfl rfl (Nat.le_of_ble_eq_true rfl) rfl hdg kk
theorem kf_X8_183 : Cond.fieldLink RX8 183 (TX8 2).1 (TX8 2).2.1 (TX8 2).2.2.1 ∈ lwG := lwG_c 194 rfl rfl
theorem xg_X8_183 (C : pv_C p s m args meth c cc nL RX8 D cI cZ ad A) (hdg : decode cc pc = .ok (.getfield 183, 3)) (kk : Wx p l e R s m args below meth c cells slots Q nL D cI cZ ad A (pc + 3) lv (.int (σ.1 11) :: st) σ) : Wx p l e R s m args below meth c cells slots Q nL D cI cZ ad A pc lv (.ref (ad 8) :: st) σ := x_get C 8 8 2 rfl rfl iGX8 (by decide) kf_X8_183 rfl hdg kk
theorem xp_X8_183 (C : pv_C p s m args meth c cc nL RX8 D cI cZ ad A) {v : Int32} (hdg : decode cc pc = .ok (.putfield 183, 3)) (kk : Wx p l e R s m args below meth c cells slots Q nL D cI cZ ad A (pc + 3) lv st (pv_pi σ 11 v)) : Wx p l e R s m args below meth c cells slots Q nL D cI cZ ad A pc lv (.int v :: .ref (ad 8) :: st) σ := x_put C 8 8 2 rfl rfl iGX8 (by decide) kf_X8_183 tyX8 tyX8_ok nmX8 rfl rfl (Nat.le_of_ble_eq_true rfl) rfl hdg kk
theorem xl_0 {own : String} (C : pv_C p s m args meth c cc nL own D cI cZ ad A) {i : Int32} (hin : vp_in i 46) (hdg : decode cc pc = .ok (.iaload, 1)) (kk : Wx p l e R s m args below meth c cells slots Q nL D cI cZ ad A (pc + 1) lv (.int (pv_la σ 0 i) :: st) σ) : Wx p l e R s m args below meth c cells slots Q nL D cI cZ ad A pc lv (.int i :: .ref (ad 9) :: st) σ := x_iald C 9 rfl hin hdg kk
theorem xs_0 {own : String} (C : pv_C p s m args meth c cc nL own D cI cZ ad A) {i x : Int32} (hin : vp_in i 46) (hdg : decode cc pc = .ok (.iastore, 1)) (kk : Wx p l e R s m args below meth c cells slots Q nL D cI cZ ad A (pc + 1) lv st (pv_sa σ 0 i x)) : Wx p l e R s m args below meth c cells slots Q nL D cI cZ ad A pc lv (.int x :: .int i :: .ref (ad 9) :: st) σ := x_iast C 9 rfl hin rfl hdg kk
theorem xn_0 {own : String} (C : pv_C p s m args meth c cc nL own D cI cZ ad A) (hdg : decode cc pc = .ok (.arraylength, 1)) (kk : Wx p l e R s m args below meth c cells slots Q nL D cI cZ ad A (pc + 1) lv (.int 46 :: st) σ) : Wx p l e R s m args below meth c cells slots Q nL D cI cZ ad A pc lv (.ref (ad 9) :: st) σ := x_alen C 9 rfl rfl hdg kk
theorem xl_1 {own : String} (C : pv_C p s m args meth c cc nL own D cI cZ ad A) {i : Int32} (hin : vp_in i 10) (hdg : decode cc pc = .ok (.iaload, 1)) (kk : Wx p l e R s m args below meth c cells slots Q nL D cI cZ ad A (pc + 1) lv (.int (pv_la σ 1 i) :: st) σ) : Wx p l e R s m args below meth c cells slots Q nL D cI cZ ad A pc lv (.int i :: .ref (ad 10) :: st) σ := x_iald C 10 rfl hin hdg kk
theorem xs_1 {own : String} (C : pv_C p s m args meth c cc nL own D cI cZ ad A) {i x : Int32} (hin : vp_in i 10) (hdg : decode cc pc = .ok (.iastore, 1)) (kk : Wx p l e R s m args below meth c cells slots Q nL D cI cZ ad A (pc + 1) lv st (pv_sa σ 1 i x)) : Wx p l e R s m args below meth c cells slots Q nL D cI cZ ad A pc lv (.int x :: .int i :: .ref (ad 10) :: st) σ := x_iast C 10 rfl hin rfl hdg kk
theorem xn_1 {own : String} (C : pv_C p s m args meth c cc nL own D cI cZ ad A) (hdg : decode cc pc = .ok (.arraylength, 1)) (kk : Wx p l e R s m args below meth c cells slots Q nL D cI cZ ad A (pc + 1) lv (.int 10 :: st) σ) : Wx p l e R s m args below meth c cells slots Q nL D cI cZ ad A pc lv (.ref (ad 10) :: st) σ := x_alen C 10 rfl rfl hdg kk
theorem xl_2 {own : String} (C : pv_C p s m args meth c cc nL own D cI cZ ad A) {i : Int32} (hin : vp_in i 10) (hdg : decode cc pc = .ok (.iaload, 1)) (kk : Wx p l e R s m args below meth c cells slots Q nL D cI cZ ad A (pc + 1) lv (.int (pv_la σ 2 i) :: st) σ) : Wx p l e R s m args below meth c cells slots Q nL D cI cZ ad A pc lv (.int i :: .ref (ad 11) :: st) σ := x_iald C 11 rfl hin hdg kk
theorem xs_2 {own : String} (C : pv_C p s m args meth c cc nL own D cI cZ ad A) {i x : Int32} (hin : vp_in i 10) (hdg : decode cc pc = .ok (.iastore, 1)) (kk : Wx p l e R s m args below meth c cells slots Q nL D cI cZ ad A (pc + 1) lv st (pv_sa σ 2 i x)) : Wx p l e R s m args below meth c cells slots Q nL D cI cZ ad A pc lv (.int x :: .int i :: .ref (ad 11) :: st) σ := x_iast C 11 rfl hin rfl hdg kk
theorem xn_2 {own : String} (C : pv_C p s m args meth c cc nL own D cI cZ ad A) (hdg : decode cc pc = .ok (.arraylength, 1)) (kk : Wx p l e R s m args below meth c cells slots Q nL D cI cZ ad A (pc + 1) lv (.int 10 :: st) σ) : Wx p l e R s m args below meth c cells slots Q nL D cI cZ ad A pc lv (.ref (ad 11) :: st) σ := x_alen C 11 rfl rfl hdg kk
theorem xl_3 {own : String} (C : pv_C p s m args meth c cc nL own D cI cZ ad A) {i : Int32} (hin : vp_in i 100) (hdg : decode cc pc = .ok (.iaload, 1)) (kk : Wx p l e R s m args below meth c cells slots Q nL D cI cZ ad A (pc + 1) lv (.int (pv_la σ 3 i) :: st) σ) : Wx p l e R s m args below meth c cells slots Q nL D cI cZ ad A pc lv (.int i :: .ref (ad 12) :: st) σ := x_iald C 12 rfl hin hdg kk
theorem xs_3 {own : String} (C : pv_C p s m args meth c cc nL own D cI cZ ad A) {i x : Int32} (hin : vp_in i 100) (hdg : decode cc pc = .ok (.iastore, 1)) (kk : Wx p l e R s m args below meth c cells slots Q nL D cI cZ ad A (pc + 1) lv st (pv_sa σ 3 i x)) : Wx p l e R s m args below meth c cells slots Q nL D cI cZ ad A pc lv (.int x :: .int i :: .ref (ad 12) :: st) σ := x_iast C 12 rfl hin rfl hdg kk
theorem xn_3 {own : String} (C : pv_C p s m args meth c cc nL own D cI cZ ad A) (hdg : decode cc pc = .ok (.arraylength, 1)) (kk : Wx p l e R s m args below meth c cells slots Q nL D cI cZ ad A (pc + 1) lv (.int 100 :: st) σ) : Wx p l e R s m args below meth c cells slots Q nL D cI cZ ad A pc lv (.ref (ad 12) :: st) σ := x_alen C 12 rfl rfl hdg kk
theorem xl_4 {own : String} (C : pv_C p s m args meth c cc nL own D cI cZ ad A) {i : Int32} (hin : vp_in i 1024) (hdg : decode cc pc = .ok (.iaload, 1)) (kk : Wx p l e R s m args below meth c cells slots Q nL D cI cZ ad A (pc + 1) lv (.int (pv_la σ 4 i) :: st) σ) : Wx p l e R s m args below meth c cells slots Q nL D cI cZ ad A pc lv (.int i :: .ref (ad 13) :: st) σ := x_iald C 13 rfl hin hdg kk
theorem xs_4 {own : String} (C : pv_C p s m args meth c cc nL own D cI cZ ad A) {i x : Int32} (hin : vp_in i 1024) (hdg : decode cc pc = .ok (.iastore, 1)) (kk : Wx p l e R s m args below meth c cells slots Q nL D cI cZ ad A (pc + 1) lv st (pv_sa σ 4 i x)) : Wx p l e R s m args below meth c cells slots Q nL D cI cZ ad A pc lv (.int x :: .int i :: .ref (ad 13) :: st) σ := x_iast C 13 rfl hin rfl hdg kk
theorem xn_4 {own : String} (C : pv_C p s m args meth c cc nL own D cI cZ ad A) (hdg : decode cc pc = .ok (.arraylength, 1)) (kk : Wx p l e R s m args below meth c cells slots Q nL D cI cZ ad A (pc + 1) lv (.int 1024 :: st) σ) : Wx p l e R s m args below meth c cells slots Q nL D cI cZ ad A pc lv (.ref (ad 13) :: st) σ := x_alen C 13 rfl rfl hdg kk
theorem xl_5 {own : String} (C : pv_C p s m args meth c cc nL own D cI cZ ad A) {i : Int32} (hin : vp_in i 11) (hdg : decode cc pc = .ok (.iaload, 1)) (kk : Wx p l e R s m args below meth c cells slots Q nL D cI cZ ad A (pc + 1) lv (.int (pv_la σ 5 i) :: st) σ) : Wx p l e R s m args below meth c cells slots Q nL D cI cZ ad A pc lv (.int i :: .ref (ad 14) :: st) σ := x_iald C 14 rfl hin hdg kk
theorem xs_5 {own : String} (C : pv_C p s m args meth c cc nL own D cI cZ ad A) {i x : Int32} (hin : vp_in i 11) (hdg : decode cc pc = .ok (.iastore, 1)) (kk : Wx p l e R s m args below meth c cells slots Q nL D cI cZ ad A (pc + 1) lv st (pv_sa σ 5 i x)) : Wx p l e R s m args below meth c cells slots Q nL D cI cZ ad A pc lv (.int x :: .int i :: .ref (ad 14) :: st) σ := x_iast C 14 rfl hin rfl hdg kk
theorem xn_5 {own : String} (C : pv_C p s m args meth c cc nL own D cI cZ ad A) (hdg : decode cc pc = .ok (.arraylength, 1)) (kk : Wx p l e R s m args below meth c cells slots Q nL D cI cZ ad A (pc + 1) lv (.int 11 :: st) σ) : Wx p l e R s m args below meth c cells slots Q nL D cI cZ ad A pc lv (.ref (ad 14) :: st) σ := x_alen C 14 rfl rfl hdg kk
theorem xl_6 {own : String} (C : pv_C p s m args meth c cc nL own D cI cZ ad A) {i : Int32} (hin : vp_in i 10) (hdg : decode cc pc = .ok (.iaload, 1)) (kk : Wx p l e R s m args below meth c cells slots Q nL D cI cZ ad A (pc + 1) lv (.int (pv_la σ 6 i) :: st) σ) : Wx p l e R s m args below meth c cells slots Q nL D cI cZ ad A pc lv (.int i :: .ref (ad 15) :: st) σ := x_iald C 15 rfl hin hdg kk
theorem xs_6 {own : String} (C : pv_C p s m args meth c cc nL own D cI cZ ad A) {i x : Int32} (hin : vp_in i 10) (hdg : decode cc pc = .ok (.iastore, 1)) (kk : Wx p l e R s m args below meth c cells slots Q nL D cI cZ ad A (pc + 1) lv st (pv_sa σ 6 i x)) : Wx p l e R s m args below meth c cells slots Q nL D cI cZ ad A pc lv (.int x :: .int i :: .ref (ad 15) :: st) σ := x_iast C 15 rfl hin rfl hdg kk
theorem xn_6 {own : String} (C : pv_C p s m args meth c cc nL own D cI cZ ad A) (hdg : decode cc pc = .ok (.arraylength, 1)) (kk : Wx p l e R s m args below meth c cells slots Q nL D cI cZ ad A (pc + 1) lv (.int 10 :: st) σ) : Wx p l e R s m args below meth c cells slots Q nL D cI cZ ad A pc lv (.ref (ad 15) :: st) σ := x_alen C 15 rfl rfl hdg kk
theorem xl_7 {own : String} (C : pv_C p s m args meth c cc nL own D cI cZ ad A) {i : Int32} (hin : vp_in i 736) (hdg : decode cc pc = .ok (.iaload, 1)) (kk : Wx p l e R s m args below meth c cells slots Q nL D cI cZ ad A (pc + 1) lv (.int (pv_la σ 7 i) :: st) σ) : Wx p l e R s m args below meth c cells slots Q nL D cI cZ ad A pc lv (.int i :: .ref (ad 16) :: st) σ := x_iald C 16 rfl hin hdg kk
theorem xs_7 {own : String} (C : pv_C p s m args meth c cc nL own D cI cZ ad A) {i x : Int32} (hin : vp_in i 736) (hdg : decode cc pc = .ok (.iastore, 1)) (kk : Wx p l e R s m args below meth c cells slots Q nL D cI cZ ad A (pc + 1) lv st (pv_sa σ 7 i x)) : Wx p l e R s m args below meth c cells slots Q nL D cI cZ ad A pc lv (.int x :: .int i :: .ref (ad 16) :: st) σ := x_iast C 16 rfl hin rfl hdg kk
theorem xn_7 {own : String} (C : pv_C p s m args meth c cc nL own D cI cZ ad A) (hdg : decode cc pc = .ok (.arraylength, 1)) (kk : Wx p l e R s m args below meth c cells slots Q nL D cI cZ ad A (pc + 1) lv (.int 736 :: st) σ) : Wx p l e R s m args below meth c cells slots Q nL D cI cZ ad A pc lv (.ref (ad 16) :: st) σ := x_alen C 16 rfl rfl hdg kk
theorem xl_8 {own : String} (C : pv_C p s m args meth c cc nL own D cI cZ ad A) {i : Int32} (hin : vp_in i 92) (hdg : decode cc pc = .ok (.iaload, 1)) (kk : Wx p l e R s m args below meth c cells slots Q nL D cI cZ ad A (pc + 1) lv (.int (pv_la σ 8 i) :: st) σ) : Wx p l e R s m args below meth c cells slots Q nL D cI cZ ad A pc lv (.int i :: .ref (ad 17) :: st) σ := x_iald C 17 rfl hin hdg kk
theorem xs_8 {own : String} (C : pv_C p s m args meth c cc nL own D cI cZ ad A) {i x : Int32} (hin : vp_in i 92) (hdg : decode cc pc = .ok (.iastore, 1)) (kk : Wx p l e R s m args below meth c cells slots Q nL D cI cZ ad A (pc + 1) lv st (pv_sa σ 8 i x)) : Wx p l e R s m args below meth c cells slots Q nL D cI cZ ad A pc lv (.int x :: .int i :: .ref (ad 17) :: st) σ := x_iast C 17 rfl hin rfl hdg kk
theorem xn_8 {own : String} (C : pv_C p s m args meth c cc nL own D cI cZ ad A) (hdg : decode cc pc = .ok (.arraylength, 1)) (kk : Wx p l e R s m args below meth c cells slots Q nL D cI cZ ad A (pc + 1) lv (.int 92 :: st) σ) : Wx p l e R s m args below meth c cells slots Q nL D cI cZ ad A pc lv (.ref (ad 17) :: st) σ := x_alen C 17 rfl rfl hdg kk
theorem xl_9 {own : String} (C : pv_C p s m args meth c cc nL own D cI cZ ad A) {i : Int32} (hin : vp_in i 2) (hdg : decode cc pc = .ok (.iaload, 1)) (kk : Wx p l e R s m args below meth c cells slots Q nL D cI cZ ad A (pc + 1) lv (.int (pv_la σ 9 i) :: st) σ) : Wx p l e R s m args below meth c cells slots Q nL D cI cZ ad A pc lv (.int i :: .ref (ad 18) :: st) σ := x_iald C 18 rfl hin hdg kk
theorem xs_9 {own : String} (C : pv_C p s m args meth c cc nL own D cI cZ ad A) {i x : Int32} (hin : vp_in i 2) (hdg : decode cc pc = .ok (.iastore, 1)) (kk : Wx p l e R s m args below meth c cells slots Q nL D cI cZ ad A (pc + 1) lv st (pv_sa σ 9 i x)) : Wx p l e R s m args below meth c cells slots Q nL D cI cZ ad A pc lv (.int x :: .int i :: .ref (ad 18) :: st) σ := x_iast C 18 rfl hin rfl hdg kk
theorem xn_9 {own : String} (C : pv_C p s m args meth c cc nL own D cI cZ ad A) (hdg : decode cc pc = .ok (.arraylength, 1)) (kk : Wx p l e R s m args below meth c cells slots Q nL D cI cZ ad A (pc + 1) lv (.int 2 :: st) σ) : Wx p l e R s m args below meth c cells slots Q nL D cI cZ ad A pc lv (.ref (ad 18) :: st) σ := x_alen C 18 rfl rfl hdg kk
theorem xl_10 {own : String} (C : pv_C p s m args meth c cc nL own D cI cZ ad A) {i : Int32} (hin : vp_in i 2) (hdg : decode cc pc = .ok (.baload, 1)) (kk : Wx p l e R s m args below meth c cells slots Q nL D cI cZ ad A (pc + 1) lv (.int (pv_la σ 10 i) :: st) σ) : Wx p l e R s m args below meth c cells slots Q nL D cI cZ ad A pc lv (.int i :: .ref (ad 19) :: st) σ := x_zald C 19 rfl hin hdg kk
theorem xs_10 {own : String} (C : pv_C p s m args meth c cc nL own D cI cZ ad A) {i x : Int32} (hin : vp_in i 2) (hdg : decode cc pc = .ok (.bastore, 1)) (kk : Wx p l e R s m args below meth c cells slots Q nL D cI cZ ad A (pc + 1) lv st (pv_sz σ 10 i x)) : Wx p l e R s m args below meth c cells slots Q nL D cI cZ ad A pc lv (.int x :: .int i :: .ref (ad 19) :: st) σ := x_zast C 19 rfl hin rfl hdg kk
theorem xl_11 {own : String} (C : pv_C p s m args meth c cc nL own D cI cZ ad A) {i : Int32} (hin : vp_in i 20) (hdg : decode cc pc = .ok (.iaload, 1)) (kk : Wx p l e R s m args below meth c cells slots Q nL D cI cZ ad A (pc + 1) lv (.int (pv_la σ 11 i) :: st) σ) : Wx p l e R s m args below meth c cells slots Q nL D cI cZ ad A pc lv (.int i :: .ref (ad 20) :: st) σ := x_iald C 20 rfl hin hdg kk
theorem xs_11 {own : String} (C : pv_C p s m args meth c cc nL own D cI cZ ad A) {i x : Int32} (hin : vp_in i 20) (hdg : decode cc pc = .ok (.iastore, 1)) (kk : Wx p l e R s m args below meth c cells slots Q nL D cI cZ ad A (pc + 1) lv st (pv_sa σ 11 i x)) : Wx p l e R s m args below meth c cells slots Q nL D cI cZ ad A pc lv (.int x :: .int i :: .ref (ad 20) :: st) σ := x_iast C 20 rfl hin rfl hdg kk
theorem xn_11 {own : String} (C : pv_C p s m args meth c cc nL own D cI cZ ad A) (hdg : decode cc pc = .ok (.arraylength, 1)) (kk : Wx p l e R s m args below meth c cells slots Q nL D cI cZ ad A (pc + 1) lv (.int 20 :: st) σ) : Wx p l e R s m args below meth c cells slots Q nL D cI cZ ad A pc lv (.ref (ad 20) :: st) σ := x_alen C 20 rfl rfl hdg kk
theorem xl_12 {own : String} (C : pv_C p s m args meth c cc nL own D cI cZ ad A) {i : Int32} (hin : vp_in i 20) (hdg : decode cc pc = .ok (.iaload, 1)) (kk : Wx p l e R s m args below meth c cells slots Q nL D cI cZ ad A (pc + 1) lv (.int (pv_la σ 12 i) :: st) σ) : Wx p l e R s m args below meth c cells slots Q nL D cI cZ ad A pc lv (.int i :: .ref (ad 21) :: st) σ := x_iald C 21 rfl hin hdg kk
theorem xs_12 {own : String} (C : pv_C p s m args meth c cc nL own D cI cZ ad A) {i x : Int32} (hin : vp_in i 20) (hdg : decode cc pc = .ok (.iastore, 1)) (kk : Wx p l e R s m args below meth c cells slots Q nL D cI cZ ad A (pc + 1) lv st (pv_sa σ 12 i x)) : Wx p l e R s m args below meth c cells slots Q nL D cI cZ ad A pc lv (.int x :: .int i :: .ref (ad 21) :: st) σ := x_iast C 21 rfl hin rfl hdg kk
theorem xn_12 {own : String} (C : pv_C p s m args meth c cc nL own D cI cZ ad A) (hdg : decode cc pc = .ok (.arraylength, 1)) (kk : Wx p l e R s m args below meth c cells slots Q nL D cI cZ ad A (pc + 1) lv (.int 20 :: st) σ) : Wx p l e R s m args below meth c cells slots Q nL D cI cZ ad A pc lv (.ref (ad 21) :: st) σ := x_alen C 21 rfl rfl hdg kk
theorem xl_13 {own : String} (C : pv_C p s m args meth c cc nL own D cI cZ ad A) {i : Int32} (hin : vp_in i 874) (hdg : decode cc pc = .ok (.iaload, 1)) (kk : Wx p l e R s m args below meth c cells slots Q nL D cI cZ ad A (pc + 1) lv (.int (pv_la σ 13 i) :: st) σ) : Wx p l e R s m args below meth c cells slots Q nL D cI cZ ad A pc lv (.int i :: .ref (ad 22) :: st) σ := x_iald C 22 rfl hin hdg kk
theorem xs_13 {own : String} (C : pv_C p s m args meth c cc nL own D cI cZ ad A) {i x : Int32} (hin : vp_in i 874) (hdg : decode cc pc = .ok (.iastore, 1)) (kk : Wx p l e R s m args below meth c cells slots Q nL D cI cZ ad A (pc + 1) lv st (pv_sa σ 13 i x)) : Wx p l e R s m args below meth c cells slots Q nL D cI cZ ad A pc lv (.int x :: .int i :: .ref (ad 22) :: st) σ := x_iast C 22 rfl hin rfl hdg kk
theorem xn_13 {own : String} (C : pv_C p s m args meth c cc nL own D cI cZ ad A) (hdg : decode cc pc = .ok (.arraylength, 1)) (kk : Wx p l e R s m args below meth c cells slots Q nL D cI cZ ad A (pc + 1) lv (.int 874 :: st) σ) : Wx p l e R s m args below meth c cells slots Q nL D cI cZ ad A pc lv (.ref (ad 22) :: st) σ := x_alen C 22 rfl rfl hdg kk
theorem xl_14 {own : String} (C : pv_C p s m args meth c cc nL own D cI cZ ad A) {i : Int32} (hin : vp_in i 2) (hdg : decode cc pc = .ok (.iaload, 1)) (kk : Wx p l e R s m args below meth c cells slots Q nL D cI cZ ad A (pc + 1) lv (.int (pv_la σ 14 i) :: st) σ) : Wx p l e R s m args below meth c cells slots Q nL D cI cZ ad A pc lv (.int i :: .ref (ad 23) :: st) σ := x_iald C 23 rfl hin hdg kk
theorem xs_14 {own : String} (C : pv_C p s m args meth c cc nL own D cI cZ ad A) {i x : Int32} (hin : vp_in i 2) (hdg : decode cc pc = .ok (.iastore, 1)) (kk : Wx p l e R s m args below meth c cells slots Q nL D cI cZ ad A (pc + 1) lv st (pv_sa σ 14 i x)) : Wx p l e R s m args below meth c cells slots Q nL D cI cZ ad A pc lv (.int x :: .int i :: .ref (ad 23) :: st) σ := x_iast C 23 rfl hin rfl hdg kk
theorem xn_14 {own : String} (C : pv_C p s m args meth c cc nL own D cI cZ ad A) (hdg : decode cc pc = .ok (.arraylength, 1)) (kk : Wx p l e R s m args below meth c cells slots Q nL D cI cZ ad A (pc + 1) lv (.int 2 :: st) σ) : Wx p l e R s m args below meth c cells slots Q nL D cI cZ ad A pc lv (.ref (ad 23) :: st) σ := x_alen C 23 rfl rfl hdg kk
theorem xl_15 {own : String} (C : pv_C p s m args meth c cc nL own D cI cZ ad A) {i : Int32} (hin : vp_in i 20) (hdg : decode cc pc = .ok (.iaload, 1)) (kk : Wx p l e R s m args below meth c cells slots Q nL D cI cZ ad A (pc + 1) lv (.int (pv_la σ 15 i) :: st) σ) : Wx p l e R s m args below meth c cells slots Q nL D cI cZ ad A pc lv (.int i :: .ref (ad 24) :: st) σ := x_iald C 24 rfl hin hdg kk
theorem xs_15 {own : String} (C : pv_C p s m args meth c cc nL own D cI cZ ad A) {i x : Int32} (hin : vp_in i 20) (hdg : decode cc pc = .ok (.iastore, 1)) (kk : Wx p l e R s m args below meth c cells slots Q nL D cI cZ ad A (pc + 1) lv st (pv_sa σ 15 i x)) : Wx p l e R s m args below meth c cells slots Q nL D cI cZ ad A pc lv (.int x :: .int i :: .ref (ad 24) :: st) σ := x_iast C 24 rfl hin rfl hdg kk
theorem xn_15 {own : String} (C : pv_C p s m args meth c cc nL own D cI cZ ad A) (hdg : decode cc pc = .ok (.arraylength, 1)) (kk : Wx p l e R s m args below meth c cells slots Q nL D cI cZ ad A (pc + 1) lv (.int 20 :: st) σ) : Wx p l e R s m args below meth c cells slots Q nL D cI cZ ad A pc lv (.ref (ad 24) :: st) σ := x_alen C 24 rfl rfl hdg kk
theorem xl_16 {own : String} (C : pv_C p s m args meth c cc nL own D cI cZ ad A) {i : Int32} (hin : vp_in i 20) (hdg : decode cc pc = .ok (.iaload, 1)) (kk : Wx p l e R s m args below meth c cells slots Q nL D cI cZ ad A (pc + 1) lv (.int (pv_la σ 16 i) :: st) σ) : Wx p l e R s m args below meth c cells slots Q nL D cI cZ ad A pc lv (.int i :: .ref (ad 25) :: st) σ := x_iald C 25 rfl hin hdg kk
theorem xs_16 {own : String} (C : pv_C p s m args meth c cc nL own D cI cZ ad A) {i x : Int32} (hin : vp_in i 20) (hdg : decode cc pc = .ok (.iastore, 1)) (kk : Wx p l e R s m args below meth c cells slots Q nL D cI cZ ad A (pc + 1) lv st (pv_sa σ 16 i x)) : Wx p l e R s m args below meth c cells slots Q nL D cI cZ ad A pc lv (.int x :: .int i :: .ref (ad 25) :: st) σ := x_iast C 25 rfl hin rfl hdg kk
theorem xn_16 {own : String} (C : pv_C p s m args meth c cc nL own D cI cZ ad A) (hdg : decode cc pc = .ok (.arraylength, 1)) (kk : Wx p l e R s m args below meth c cells slots Q nL D cI cZ ad A (pc + 1) lv (.int 20 :: st) σ) : Wx p l e R s m args below meth c cells slots Q nL D cI cZ ad A pc lv (.ref (ad 25) :: st) σ := x_alen C 25 rfl rfl hdg kk
theorem xl_17 {own : String} (C : pv_C p s m args meth c cc nL own D cI cZ ad A) {i : Int32} (hin : vp_in i 11264) (hdg : decode cc pc = .ok (.iaload, 1)) (kk : Wx p l e R s m args below meth c cells slots Q nL D cI cZ ad A (pc + 1) lv (.int (pv_la σ 17 i) :: st) σ) : Wx p l e R s m args below meth c cells slots Q nL D cI cZ ad A pc lv (.int i :: .ref (ad 26) :: st) σ := x_iald C 26 rfl hin hdg kk
theorem xs_17 {own : String} (C : pv_C p s m args meth c cc nL own D cI cZ ad A) {i x : Int32} (hin : vp_in i 11264) (hdg : decode cc pc = .ok (.iastore, 1)) (kk : Wx p l e R s m args below meth c cells slots Q nL D cI cZ ad A (pc + 1) lv st (pv_sa σ 17 i x)) : Wx p l e R s m args below meth c cells slots Q nL D cI cZ ad A pc lv (.int x :: .int i :: .ref (ad 26) :: st) σ := x_iast C 26 rfl hin rfl hdg kk
theorem xn_17 {own : String} (C : pv_C p s m args meth c cc nL own D cI cZ ad A) (hdg : decode cc pc = .ok (.arraylength, 1)) (kk : Wx p l e R s m args below meth c cells slots Q nL D cI cZ ad A (pc + 1) lv (.int 11264 :: st) σ) : Wx p l e R s m args below meth c cells slots Q nL D cI cZ ad A pc lv (.ref (ad 26) :: st) σ := x_alen C 26 rfl rfl hdg kk
theorem xl_18 {own : String} (C : pv_C p s m args meth c cc nL own D cI cZ ad A) {i : Int32} (hin : vp_in i 10) (hdg : decode cc pc = .ok (.iaload, 1)) (kk : Wx p l e R s m args below meth c cells slots Q nL D cI cZ ad A (pc + 1) lv (.int (pv_la σ 18 i) :: st) σ) : Wx p l e R s m args below meth c cells slots Q nL D cI cZ ad A pc lv (.int i :: .ref (ad 27) :: st) σ := x_iald C 27 rfl hin hdg kk
theorem xs_18 {own : String} (C : pv_C p s m args meth c cc nL own D cI cZ ad A) {i x : Int32} (hin : vp_in i 10) (hdg : decode cc pc = .ok (.iastore, 1)) (kk : Wx p l e R s m args below meth c cells slots Q nL D cI cZ ad A (pc + 1) lv st (pv_sa σ 18 i x)) : Wx p l e R s m args below meth c cells slots Q nL D cI cZ ad A pc lv (.int x :: .int i :: .ref (ad 27) :: st) σ := x_iast C 27 rfl hin rfl hdg kk
theorem xn_18 {own : String} (C : pv_C p s m args meth c cc nL own D cI cZ ad A) (hdg : decode cc pc = .ok (.arraylength, 1)) (kk : Wx p l e R s m args below meth c cells slots Q nL D cI cZ ad A (pc + 1) lv (.int 10 :: st) σ) : Wx p l e R s m args below meth c cells slots Q nL D cI cZ ad A pc lv (.ref (ad 27) :: st) σ := x_alen C 27 rfl rfl hdg kk
end PVF
theorem kY_X7_told : pv_Y yX7_told cX7_told 2 (some .int) RX7 1 := ⟨rfl, lwG_a 176 rfl rfl, lwG_a 177 rfl rfl, lwG_a 1 rfl rfl, lwG_a 178 rfl rfl, by decide, by decide, by decide +kernel⟩
theorem kY_X6_count : pv_Y yX6_count cX6_count 1 (some .int) RX6 0 := ⟨rfl, lwG_a 180 rfl rfl, lwG_a 181 rfl rfl, lwG_a 2 rfl rfl, lwG_a 182 rfl rfl, by decide, by decide, by decide +kernel⟩
theorem kY_X7_standing : pv_Y yX7_standing cX7_standing 1 (some ((.object "PartedVoices$Lines"))) RX7 0 := ⟨rfl, lwG_a 185 rfl rfl, lwG_sel (q := (yX7_standing, _)) 0 rfl, lwG_a 1 rfl rfl, lwG_a 186 rfl rfl, by decide, by decide, by decide +kernel⟩
theorem kY_X4_read : pv_Y yX4_read cX4_read 3 (none) RX4 0 := ⟨rfl, lwG_a 188 rfl rfl, lwG_a 189 rfl rfl, lwG_a 4 rfl rfl, lwG_a 190 rfl rfl, by decide, by decide, by decide +kernel⟩
theorem kY_J7_fill_53178 : pv_Z yJ7_fill_53178 cJ7_fill_53178 4 (none) 2 := ⟨lwG_a 192 rfl rfl, lwG_a 11 rfl rfl, lwG_a 193 rfl rfl, by decide, by decide, by decide +kernel⟩
theorem kY_X6_next : pv_Y yX6_next cX6_next 2 (some .int) RX6 1 := ⟨rfl, lwG_a 196 rfl rfl, lwG_a 197 rfl rfl, lwG_a 2 rfl rfl, lwG_a 198 rfl rfl, by decide, by decide, by decide +kernel⟩
theorem kY_X6_cell : pv_Y yX6_cell cX6_cell 3 (some .int) RX6 2 := ⟨rfl, lwG_a 201 rfl rfl, lwG_sel (q := (yX6_cell, _)) 1 rfl, lwG_a 2 rfl rfl, lwG_a 202 rfl rfl, by decide, by decide, by decide +kernel⟩
theorem kY_X6_has : pv_Y yX6_has cX6_has 2 (some .boolean) RX6 1 := ⟨rfl, lwG_a 204 rfl rfl, lwG_a 205 rfl rfl, lwG_a 2 rfl rfl, lwG_a 206 rfl rfl, by decide, by decide, by decide +kernel⟩
theorem kY_X4_countVoices : pv_Y yX4_countVoices cX4_countVoices 1 (some .int) RX4 0 := ⟨rfl, lwG_a 208 rfl rfl, lwG_a 209 rfl rfl, lwG_a 4 rfl rfl, lwG_a 210 rfl rfl, by decide, by decide, by decide +kernel⟩
theorem kY_X4_costOfAll : pv_Y yX4_costOfAll cX4_costOfAll 3 (some .int) RX4 0 := ⟨rfl, lwG_a 212 rfl rfl, lwG_a 213 rfl rfl, lwG_a 4 rfl rfl, lwG_a 214 rfl rfl, by decide, by decide, by decide +kernel⟩
theorem kY_X6_valueOf : pv_Y yX6_valueOf cX6_valueOf 2 (some .int) RX6 1 := ⟨rfl, lwG_a 217 rfl rfl, lwG_a 218 rfl rfl, lwG_a 2 rfl rfl, lwG_a 219 rfl rfl, by decide, by decide, by decide +kernel⟩
theorem kY_X4_costBehind : pv_Y yX4_costBehind cX4_costBehind 3 (some .int) RX4 1 := ⟨rfl, lwG_a 222 rfl rfl, lwG_sel (q := (yX4_costBehind, _)) 2 rfl, lwG_a 4 rfl rfl, lwG_a 223 rfl rfl, by decide, by decide, by decide +kernel⟩
theorem kY_X6_costToFollow : pv_Y yX6_costToFollow cX6_costToFollow 6 (some .int) RX6 2 := ⟨rfl, lwG_a 225 rfl rfl, lwG_a 226 rfl rfl, lwG_a 2 rfl rfl, lwG_a 227 rfl rfl, by decide, by decide, by decide +kernel⟩
theorem kY_X6_mayFollow : pv_Y yX6_mayFollow cX6_mayFollow 4 (some .boolean) RX6 2 := ⟨rfl, lwG_a 229 rfl rfl, lwG_a 230 rfl rfl, lwG_a 2 rfl rfl, lwG_a 231 rfl rfl, by decide, by decide, by decide +kernel⟩
theorem kY_X6_on : pv_Y yX6_on cX6_on 2 (some .int) RX6 1 := ⟨rfl, lwG_a 234 rfl rfl, lwG_a 235 rfl rfl, lwG_a 2 rfl rfl, lwG_a 236 rfl rfl, by decide, by decide, by decide +kernel⟩
theorem kY_X6_off : pv_Y yX6_off cX6_off 2 (some .int) RX6 1 := ⟨rfl, lwG_a 238 rfl rfl, lwG_a 239 rfl rfl, lwG_a 2 rfl rfl, lwG_b 0 rfl rfl, by decide, by decide, by decide +kernel⟩
theorem kY_X6_pitch : pv_Y yX6_pitch cX6_pitch 2 (some .int) RX6 1 := ⟨rfl, lwG_b 3 rfl rfl, lwG_b 4 rfl rfl, lwG_a 2 rfl rfl, lwG_b 5 rfl rfl, by decide, by decide, by decide +kernel⟩
theorem kY_J9_abs_0f7a4 : pv_Z yJ9_abs_0f7a4 cJ9_abs_0f7a4 1 (some .int) 1 := ⟨lwG_b 7 rfl rfl, lwG_a 12 rfl rfl, lwG_b 8 rfl rfl, by decide, by decide, by decide +kernel⟩
theorem kY_X7_weighed : pv_Y yX7_weighed cX7_weighed 1 (some ((.object "PartedVoices$Partings"))) RX7 0 := ⟨rfl, lwG_b 11 rfl rfl, lwG_sel (q := (yX7_weighed, _)) 3 rfl, lwG_a 1 rfl rfl, lwG_b 12 rfl rfl, by decide, by decide, by decide +kernel⟩
theorem kY_X5_weigh : pv_Y yX5_weigh cX5_weigh 4 (none) RX5 1 := ⟨rfl, lwG_b 14 rfl rfl, lwG_b 15 rfl rfl, lwG_a 5 rfl rfl, lwG_b 16 rfl rfl, by decide, by decide, by decide +kernel⟩
theorem kY_X6_edition : pv_Y yX6_edition cX6_edition 1 (some .int) RX6 0 := ⟨rfl, lwG_b 18 rfl rfl, lwG_b 19 rfl rfl, lwG_a 2 rfl rfl, lwG_b 20 rfl rfl, by decide, by decide, by decide +kernel⟩
theorem kY_J9_min_7cf53 : pv_Z yJ9_min_7cf53 cJ9_min_7cf53 2 (some .int) 2 := ⟨lwG_b 23 rfl rfl, lwG_a 12 rfl rfl, lwG_b 24 rfl rfl, by decide, by decide, by decide +kernel⟩
theorem kY_X5_barredOr : pv_Z yX5_barredOr cX5_barredOr 1 (some .int) 1 := ⟨lwG_b 29 rfl rfl, lwG_a 5 rfl rfl, lwG_b 30 rfl rfl, by decide, by decide, by decide +kernel⟩
theorem kY_X5_bit : pv_Y yX5_bit cX5_bit 2 (some .int) RX5 1 := ⟨rfl, lwG_b 33 rfl rfl, lwG_sel (q := (yX5_bit, _)) 4 rfl, lwG_a 5 rfl rfl, lwG_b 34 rfl rfl, by decide, by decide, by decide +kernel⟩
theorem kY_X5_weighFrom : pv_Y yX5_weighFrom cX5_weighFrom 4 (none) RX5 1 := ⟨rfl, lwG_b 37 rfl rfl, lwG_sel (q := (yX5_weighFrom, _)) 5 rfl, lwG_a 5 rfl rfl, lwG_b 38 rfl rfl, by decide, by decide, by decide +kernel⟩
theorem kY_X5_lineCost : pv_Y yX5_lineCost cX5_lineCost 3 (some .int) RX5 2 := ⟨rfl, lwG_b 41 rfl rfl, lwG_sel (q := (yX5_lineCost, _)) 6 rfl, lwG_a 5 rfl rfl, lwG_b 42 rfl rfl, by decide, by decide, by decide +kernel⟩
theorem kY_X5_weighLine : pv_Y yX5_weighLine cX5_weighLine 6 (none) RX5 3 := ⟨rfl, lwG_b 45 rfl rfl, lwG_sel (q := (yX5_weighLine, _)) 7 rfl, lwG_a 5 rfl rfl, lwG_b 46 rfl rfl, by decide, by decide, by decide +kernel⟩
theorem kY_X5_findLeast : pv_Y yX5_findLeast cX5_findLeast 4 (none) RX5 0 := ⟨rfl, lwG_b 49 rfl rfl, lwG_sel (q := (yX5_findLeast, _)) 8 rfl, lwG_a 5 rfl rfl, lwG_b 50 rfl rfl, by decide, by decide, by decide +kernel⟩
theorem kY_J6_bitCount_0f7a4 : pv_Z yJ6_bitCount_0f7a4 cJ6_bitCount_0f7a4 1 (some .int) 1 := ⟨lwG_b 53 rfl rfl, lwG_a 13 rfl rfl, lwG_b 54 rfl rfl, by decide, by decide, by decide +kernel⟩
theorem kY_X5_offer : pv_Y yX5_offer cX5_offer 4 (none) RX5 2 := ⟨rfl, lwG_b 60 rfl rfl, lwG_sel (q := (yX5_offer, _)) 9 rfl, lwG_a 5 rfl rfl, lwG_b 61 rfl rfl, by decide, by decide, by decide +kernel⟩
theorem kY_X7_isVoiceCount : pv_Z yX7_isVoiceCount cX7_isVoiceCount 1 (some .boolean) 1 := ⟨lwG_b 63 rfl rfl, lwG_a 1 rfl rfl, lwG_b 64 rfl rfl, by decide, by decide, by decide +kernel⟩
theorem kY_X5_fewest : pv_Y yX5_fewest cX5_fewest 2 (some .int) RX5 0 := ⟨rfl, lwG_b 66 rfl rfl, lwG_b 67 rfl rfl, lwG_a 5 rfl rfl, lwG_b 68 rfl rfl, by decide, by decide, by decide +kernel⟩
theorem kY_X5_cheapest : pv_Y yX5_cheapest cX5_cheapest 3 (some .int) RX5 0 := ⟨rfl, lwG_b 70 rfl rfl, lwG_b 71 rfl rfl, lwG_a 5 rfl rfl, lwG_b 72 rfl rfl, by decide, by decide, by decide +kernel⟩
theorem kY_X5_leastCost : pv_Y yX5_leastCost cX5_leastCost 2 (some .int) RX5 1 := ⟨rfl, lwG_b 75 rfl rfl, lwG_b 76 rfl rfl, lwG_a 5 rfl rfl, lwG_b 77 rfl rfl, by decide, by decide, by decide +kernel⟩
theorem kY_X5_cheapestCost : pv_Y yX5_cheapestCost cX5_cheapestCost 1 (some .int) RX5 0 := ⟨rfl, lwG_b 79 rfl rfl, lwG_b 80 rfl rfl, lwG_a 5 rfl rfl, lwG_b 81 rfl rfl, by decide, by decide, by decide +kernel⟩
theorem kY_X4_crossings : pv_Y yX4_crossings cX4_crossings 4 (some .int) RX4 0 := ⟨rfl, lwG_b 84 rfl rfl, lwG_b 85 rfl rfl, lwG_a 4 rfl rfl, lwG_b 86 rfl rfl, by decide, by decide, by decide +kernel⟩
theorem kY_X4_cross : pv_Y yX4_cross cX4_cross 7 (some .boolean) RX4 2 := ⟨rfl, lwG_b 89 rfl rfl, lwG_sel (q := (yX4_cross, _)) 10 rfl, lwG_a 4 rfl rfl, lwG_b 90 rfl rfl, by decide, by decide, by decide +kernel⟩
theorem kY_X0_size : pv_Y yX0_size cX0_size 1 (some .int) RX0 0 := ⟨rfl, lwG_b 95 rfl rfl, lwG_b 96 rfl rfl, lwG_a 8 rfl rfl, lwG_b 97 rfl rfl, by decide, by decide, by decide +kernel⟩
theorem kY_X0_wrong : pv_Y yX0_wrong cX0_wrong 3 (some .int) RX0 1 := ⟨rfl, lwG_b 99 rfl rfl, lwG_b 100 rfl rfl, lwG_a 8 rfl rfl, lwG_b 101 rfl rfl, by decide, by decide, by decide +kernel⟩
theorem kY_X2_held : pv_Y yX2_held cX2_held 1 (some .int) RX2 0 := ⟨rfl, lwG_b 104 rfl rfl, lwG_b 105 rfl rfl, lwG_a 6 rfl rfl, lwG_b 106 rfl rfl, by decide, by decide, by decide +kernel⟩
theorem kY_X1_state : pv_Y yX1_state cX1_state 1 (some .int) RX1 0 := ⟨rfl, lwG_b 108 rfl rfl, lwG_b 109 rfl rfl, lwG_a 9 rfl rfl, lwG_b 110 rfl rfl, by decide, by decide, by decide +kernel⟩
theorem kY_X7_at : pv_Y yX7_at cX7_at 3 (some .int) RX7 2 := ⟨rfl, lwG_b 113 rfl rfl, lwG_b 114 rfl rfl, lwG_a 1 rfl rfl, lwG_b 115 rfl rfl, by decide, by decide, by decide +kernel⟩
theorem kY_X4_ahead : pv_Y yX4_ahead cX4_ahead 2 (some .int) RX4 1 := ⟨rfl, lwG_b 123 rfl rfl, lwG_b 124 rfl rfl, lwG_a 4 rfl rfl, lwG_b 125 rfl rfl, by decide, by decide, by decide +kernel⟩
theorem kY_X4_voiceWith : pv_Y yX4_voiceWith cX4_voiceWith 2 (some .int) RX4 1 := ⟨rfl, lwG_b 127 rfl rfl, lwG_b 128 rfl rfl, lwG_a 4 rfl rfl, lwG_b 129 rfl rfl, by decide, by decide, by decide +kernel⟩
theorem kY_X5_price : pv_Y yX5_price cX5_price 3 (some .int) RX5 1 := ⟨rfl, lwG_b 131 rfl rfl, lwG_b 132 rfl rfl, lwG_a 5 rfl rfl, lwG_b 133 rfl rfl, by decide, by decide, by decide +kernel⟩
theorem kY_X6_countFollowers : pv_Y yX6_countFollowers cX6_countFollowers 4 (some .int) RX6 1 := ⟨rfl, lwG_b 137 rfl rfl, lwG_b 138 rfl rfl, lwG_a 2 rfl rfl, lwG_b 139 rfl rfl, by decide, by decide, by decide +kernel⟩
theorem kY_X7_cost : pv_Y yX7_cost cX7_cost 3 (some .int) RX7 2 := ⟨rfl, lwG_b 142 rfl rfl, lwG_b 143 rfl rfl, lwG_a 1 rfl rfl, lwG_b 144 rfl rfl, by decide, by decide, by decide +kernel⟩
theorem kY_X7_least : pv_Y yX7_least cX7_least 2 (some .int) RX7 1 := ⟨rfl, lwG_b 147 rfl rfl, lwG_b 148 rfl rfl, lwG_a 1 rfl rfl, lwG_b 149 rfl rfl, by decide, by decide, by decide +kernel⟩
theorem kY_X7_first : pv_Y yX7_first cX7_first 4 (some .int) RX7 2 := ⟨rfl, lwG_b 153 rfl rfl, lwG_b 154 rfl rfl, lwG_a 1 rfl rfl, lwG_b 155 rfl rfl, by decide, by decide, by decide +kernel⟩
theorem kY_X5_choose : pv_Y yX5_choose cX5_choose 7 (some .boolean) RX5 1 := ⟨rfl, lwG_b 157 rfl rfl, lwG_b 158 rfl rfl, lwG_a 5 rfl rfl, lwG_b 159 rfl rfl, by decide, by decide, by decide +kernel⟩
theorem kY_X5_firstNext : pv_Y yX5_firstNext cX5_firstNext 7 (some .int) RX5 4 := ⟨rfl, lwG_b 162 rfl rfl, lwG_sel (q := (yX5_firstNext, _)) 11 rfl, lwG_a 5 rfl rfl, lwG_b 163 rfl rfl, by decide, by decide, by decide +kernel⟩
theorem kY_X5_leastBehind : pv_Y yX5_leastBehind cX5_leastBehind 7 (some .int) RX5 3 := ⟨rfl, lwG_b 166 rfl rfl, lwG_sel (q := (yX5_leastBehind, _)) 12 rfl, lwG_a 5 rfl rfl, lwG_b 167 rfl rfl, by decide, by decide, by decide +kernel⟩
theorem kY_X5_chosen : pv_Y yX5_chosen cX5_chosen 2 (some .int) RX5 1 := ⟨rfl, lwG_b 169 rfl rfl, lwG_b 170 rfl rfl, lwG_a 5 rfl rfl, lwG_b 171 rfl rfl, by decide, by decide, by decide +kernel⟩
theorem kY_X7_voice : pv_Y yX7_voice cX7_voice 4 (some .int) RX7 2 := ⟨rfl, lwG_b 174 rfl rfl, lwG_b 175 rfl rfl, lwG_a 1 rfl rfl, lwG_b 176 rfl rfl, by decide, by decide, by decide +kernel⟩
theorem kY_X4_hasVoice : pv_Y yX4_hasVoice cX4_hasVoice 2 (some .boolean) RX4 1 := ⟨rfl, lwG_b 178 rfl rfl, lwG_b 179 rfl rfl, lwG_a 4 rfl rfl, lwG_b 180 rfl rfl, by decide, by decide, by decide +kernel⟩
theorem kY_X4_size : pv_Y yX4_size cX4_size 4 (some .int) RX4 1 := ⟨rfl, lwG_b 182 rfl rfl, lwG_b 183 rfl rfl, lwG_a 4 rfl rfl, lwG_b 184 rfl rfl, by decide, by decide, by decide +kernel⟩
theorem kY_X4_isIn : pv_Y yX4_isIn cX4_isIn 3 (some .boolean) RX4 2 := ⟨rfl, lwG_b 187 rfl rfl, lwG_sel (q := (yX4_isIn, _)) 13 rfl, lwG_a 4 rfl rfl, lwG_b 188 rfl rfl, by decide, by decide, by decide +kernel⟩
theorem kY_X4_noteOf : pv_Y yX4_noteOf cX4_noteOf 5 (some .int) RX4 2 := ⟨rfl, lwG_b 190 rfl rfl, lwG_b 191 rfl rfl, lwG_a 4 rfl rfl, lwG_b 192 rfl rfl, by decide, by decide, by decide +kernel⟩
theorem kY_X4_lowest : pv_Y yX4_lowest cX4_lowest 4 (some .int) RX4 1 := ⟨rfl, lwG_b 194 rfl rfl, lwG_b 195 rfl rfl, lwG_a 4 rfl rfl, lwG_b 196 rfl rfl, by decide, by decide, by decide +kernel⟩
theorem kY_X4_highest : pv_Y yX4_highest cX4_highest 4 (some .int) RX4 1 := ⟨rfl, lwG_b 200 rfl rfl, lwG_b 201 rfl rfl, lwG_a 4 rfl rfl, lwG_b 202 rfl rfl, by decide, by decide, by decide +kernel⟩
theorem kY_J9_max_7cf53 : pv_Z yJ9_max_7cf53 cJ9_max_7cf53 2 (some .int) 2 := ⟨lwG_b 204 rfl rfl, lwG_a 12 rfl rfl, lwG_b 205 rfl rfl, by decide, by decide, by decide +kernel⟩
theorem kY_X4_rests : pv_Y yX4_rests cX4_rests 5 (some .int) RX4 1 := ⟨rfl, lwG_b 207 rfl rfl, lwG_b 208 rfl rfl, lwG_a 4 rfl rfl, lwG_b 209 rfl rfl, by decide, by decide, by decide +kernel⟩
theorem kY_X4_costOf : pv_Y yX4_costOf cX4_costOf 4 (some .int) RX4 1 := ⟨rfl, lwG_b 212 rfl rfl, lwG_b 213 rfl rfl, lwG_a 4 rfl rfl, lwG_b 214 rfl rfl, by decide, by decide, by decide +kernel⟩
theorem kY_X7_member : pv_Y yX7_member cX7_member 4 (some .int) RX7 2 := ⟨rfl, lwG_b 216 rfl rfl, lwG_b 217 rfl rfl, lwG_a 1 rfl rfl, lwG_b 218 rfl rfl, by decide, by decide, by decide +kernel⟩
theorem kY_X7_note : pv_Y yX7_note cX7_note 4 (some .int) RX7 3 := ⟨rfl, lwG_b 220 rfl rfl, lwG_b 221 rfl rfl, lwG_a 1 rfl rfl, lwG_b 222 rfl rfl, by decide, by decide, by decide +kernel⟩
theorem kY_X6_canBe : pv_Z yX6_canBe cX6_canBe 3 (some .boolean) 3 := ⟨lwG_b 224 rfl rfl, lwG_a 2 rfl rfl, lwG_b 225 rfl rfl, by decide, by decide, by decide +kernel⟩
theorem kY_X6_isFull : pv_Y yX6_isFull cX6_isFull 1 (some .boolean) RX6 0 := ⟨rfl, lwG_b 227 rfl rfl, lwG_b 228 rfl rfl, lwG_a 2 rfl rfl, lwG_b 229 rfl rfl, by decide, by decide, by decide +kernel⟩
theorem kY_X2_record : pv_Y yX2_record cX2_record 2 (none) RX2 1 := ⟨rfl, lwG_b 232 rfl rfl, lwG_b 233 rfl rfl, lwG_a 6 rfl rfl, lwG_b 234 rfl rfl, by decide, by decide, by decide +kernel⟩
theorem kY_X6_copyTo : pv_Y yX6_copyTo cX6_copyTo 3 (none) RX6 2 := ⟨rfl, lwG_b 236 rfl rfl, lwG_b 237 rfl rfl, lwG_a 2 rfl rfl, lwG_b 238 rfl rfl, by decide, by decide, by decide +kernel⟩
theorem kY_X6_fitsOn : pv_Z yX6_fitsOn cX6_fitsOn 2 (some .boolean) 2 := ⟨lwG_c 0 rfl rfl, lwG_a 2 rfl rfl, lwG_c 1 rfl rfl, by decide, by decide, by decide +kernel⟩
theorem kY_X6_bring : pv_Y yX6_bring cX6_bring 7 (some .int) RX6 3 := ⟨rfl, lwG_c 4 rfl rfl, lwG_c 5 rfl rfl, lwG_a 2 rfl rfl, lwG_c 6 rfl rfl, by decide, by decide, by decide +kernel⟩
theorem kY_X6_placeFor : pv_Y yX6_placeFor cX6_placeFor 6 (some .int) RX6 3 := ⟨rfl, lwG_c 10 rfl rfl, lwG_sel (q := (yX6_placeFor, _)) 14 rfl, lwG_a 2 rfl rfl, lwG_c 11 rfl rfl, by decide, by decide, by decide +kernel⟩
theorem kY_X6_orderKey : pv_Z yX6_orderKey cX6_orderKey 3 (some .int) 3 := ⟨lwG_c 13 rfl rfl, lwG_a 2 rfl rfl, lwG_c 14 rfl rfl, by decide, by decide, by decide +kernel⟩
theorem kY_X6_length : pv_Y yX6_length cX6_length 2 (some .int) RX6 1 := ⟨rfl, lwG_c 16 rfl rfl, lwG_c 17 rfl rfl, lwG_a 2 rfl rfl, lwG_c 18 rfl rfl, by decide, by decide, by decide +kernel⟩
theorem kY_X6_changed : pv_Y yX6_changed cX6_changed 2 (none) RX6 0 := ⟨rfl, lwG_c 21 rfl rfl, lwG_sel (q := (yX6_changed, _)) 15 rfl, lwG_a 2 rfl rfl, lwG_c 22 rfl rfl, by decide, by decide, by decide +kernel⟩
theorem kY_X6_link : pv_Y yX6_link cX6_link 3 (none) RX6 2 := ⟨rfl, lwG_c 24 rfl rfl, lwG_c 25 rfl rfl, lwG_a 2 rfl rfl, lwG_c 26 rfl rfl, by decide, by decide, by decide +kernel⟩
theorem kY_X7_take : pv_Y yX7_take cX7_take 2 (some .int) RX7 1 := ⟨rfl, lwG_c 28 rfl rfl, lwG_c 29 rfl rfl, lwG_a 1 rfl rfl, lwG_c 30 rfl rfl, by decide, by decide, by decide +kernel⟩
theorem kY_X6_drop : pv_Y yX6_drop cX6_drop 4 (none) RX6 1 := ⟨rfl, lwG_c 32 rfl rfl, lwG_c 33 rfl rfl, lwG_a 2 rfl rfl, lwG_c 34 rfl rfl, by decide, by decide, by decide +kernel⟩
theorem kY_X7_move : pv_Y yX7_move cX7_move 5 (some .int) RX7 4 := ⟨rfl, lwG_c 36 rfl rfl, lwG_c 37 rfl rfl, lwG_a 1 rfl rfl, lwG_c 38 rfl rfl, by decide, by decide, by decide +kernel⟩
theorem kY_X7_share : pv_Y yX7_share cX7_share 2 (some .int) RX7 1 := ⟨rfl, lwG_c 40 rfl rfl, lwG_c 41 rfl rfl, lwG_a 1 rfl rfl, lwG_c 42 rfl rfl, by decide, by decide, by decide +kernel⟩
theorem kY_X7_term : pv_Y yX7_term cX7_term 3 (some .int) RX7 2 := ⟨rfl, lwG_c 45 rfl rfl, lwG_c 46 rfl rfl, lwG_a 1 rfl rfl, lwG_c 47 rfl rfl, by decide, by decide, by decide +kernel⟩
theorem kY_X6_canBeTerm : pv_Z yX6_canBeTerm cX6_canBeTerm 2 (some .boolean) 2 := ⟨lwG_c 49 rfl rfl, lwG_a 2 rfl rfl, lwG_c 50 rfl rfl, by decide, by decide, by decide +kernel⟩
theorem kY_X6_changeTerm : pv_Y yX6_changeTerm cX6_changeTerm 4 (some .int) RX6 2 := ⟨rfl, lwG_c 54 rfl rfl, lwG_c 55 rfl rfl, lwG_a 2 rfl rfl, lwG_c 56 rfl rfl, by decide, by decide, by decide +kernel⟩
theorem kY_X7_follow : pv_Y yX7_follow cX7_follow 3 (some .int) RX7 2 := ⟨rfl, lwG_c 58 rfl rfl, lwG_c 59 rfl rfl, lwG_a 1 rfl rfl, lwG_c 60 rfl rfl, by decide, by decide, by decide +kernel⟩
theorem kY_X7_cut : pv_Y yX7_cut cX7_cut 3 (some .int) RX7 1 := ⟨rfl, lwG_c 64 rfl rfl, lwG_c 65 rfl rfl, lwG_a 1 rfl rfl, lwG_c 66 rfl rfl, by decide, by decide, by decide +kernel⟩
theorem kY_X7_part : pv_Y yX7_part cX7_part 5 (some .int) RX7 1 := ⟨rfl, lwG_c 68 rfl rfl, lwG_c 69 rfl rfl, lwG_a 1 rfl rfl, lwG_c 70 rfl rfl, by decide, by decide, by decide +kernel⟩
theorem kY_X7_mend : pv_Y yX7_mend cX7_mend 1 (some .int) RX7 0 := ⟨rfl, lwG_c 72 rfl rfl, lwG_c 73 rfl rfl, lwG_a 1 rfl rfl, lwG_c 74 rfl rfl, by decide, by decide, by decide +kernel⟩
theorem kY_X4_mendCrossings : pv_Y yX4_mendCrossings cX4_mendCrossings 2 (some .int) RX4 0 := ⟨rfl, lwG_c 76 rfl rfl, lwG_c 77 rfl rfl, lwG_a 4 rfl rfl, lwG_c 78 rfl rfl, by decide, by decide, by decide +kernel⟩
theorem kY_X4_mendFirst : pv_Y yX4_mendFirst cX4_mendFirst 4 (some .boolean) RX4 0 := ⟨rfl, lwG_c 81 rfl rfl, lwG_sel (q := (yX4_mendFirst, _)) 16 rfl, lwG_a 4 rfl rfl, lwG_c 82 rfl rfl, by decide, by decide, by decide +kernel⟩
theorem kY_X4_canMend : pv_Y yX4_canMend cX4_canMend 3 (some .boolean) RX4 2 := ⟨rfl, lwG_c 85 rfl rfl, lwG_sel (q := (yX4_canMend, _)) 17 rfl, lwG_a 4 rfl rfl, lwG_c 86 rfl rfl, by decide, by decide, by decide +kernel⟩
theorem kY_X7_clear : pv_Y yX7_clear cX7_clear 2 (some .int) RX7 0 := ⟨rfl, lwG_c 90 rfl rfl, lwG_c 91 rfl rfl, lwG_a 1 rfl rfl, lwG_c 92 rfl rfl, by decide, by decide, by decide +kernel⟩
theorem kY_X6_dropAll : pv_Y yX6_dropAll cX6_dropAll 1 (none) RX6 0 := ⟨rfl, lwG_c 94 rfl rfl, lwG_c 95 rfl rfl, lwG_a 2 rfl rfl, lwG_c 96 rfl rfl, by decide, by decide, by decide +kernel⟩
theorem kY_X7_drift : pv_Y yX7_drift cX7_drift 3 (some .int) RX7 1 := ⟨rfl, lwG_c 98 rfl rfl, lwG_c 99 rfl rfl, lwG_a 1 rfl rfl, lwG_c 100 rfl rfl, by decide, by decide, by decide +kernel⟩
theorem kY_X7_bringDrawn : pv_Y yX7_bringDrawn cX7_bringDrawn 4 (none) RX7 0 := ⟨rfl, lwG_c 103 rfl rfl, lwG_sel (q := (yX7_bringDrawn, _)) 18 rfl, lwG_a 1 rfl rfl, lwG_c 104 rfl rfl, by decide, by decide, by decide +kernel⟩
theorem kY_X1_draw : pv_Y yX1_draw cX1_draw 2 (some .int) RX1 1 := ⟨rfl, lwG_c 106 rfl rfl, lwG_c 107 rfl rfl, lwG_a 9 rfl rfl, lwG_c 108 rfl rfl, by decide, by decide, by decide +kernel⟩
theorem kY_X7_undo : pv_Y yX7_undo cX7_undo 2 (some .int) RX7 1 := ⟨rfl, lwG_c 113 rfl rfl, lwG_c 114 rfl rfl, lwG_a 1 rfl rfl, lwG_c 115 rfl rfl, by decide, by decide, by decide +kernel⟩
theorem kY_X2_giveBack : pv_Y yX2_giveBack cX2_giveBack 3 (none) RX2 2 := ⟨rfl, lwG_c 117 rfl rfl, lwG_c 118 rfl rfl, lwG_a 6 rfl rfl, lwG_c 119 rfl rfl, by decide, by decide, by decide +kernel⟩
theorem kY_X6_copyFrom : pv_Y yX6_copyFrom cX6_copyFrom 3 (none) RX6 2 := ⟨rfl, lwG_c 121 rfl rfl, lwG_c 122 rfl rfl, lwG_a 2 rfl rfl, lwG_c 123 rfl rfl, by decide, by decide, by decide +kernel⟩
theorem kY_X7_write : pv_Y yX7_write cX7_write 3 (some .int) RX7 2 := ⟨rfl, lwG_c 125 rfl rfl, lwG_c 126 rfl rfl, lwG_a 1 rfl rfl, lwG_c 127 rfl rfl, by decide, by decide, by decide +kernel⟩
theorem kY_X0_isFull : pv_Y yX0_isFull cX0_isFull 1 (some .boolean) RX0 0 := ⟨rfl, lwG_c 129 rfl rfl, lwG_c 130 rfl rfl, lwG_a 8 rfl rfl, lwG_c 131 rfl rfl, by decide, by decide, by decide +kernel⟩
theorem kY_X0_add : pv_Y yX0_add cX0_add 3 (none) RX0 2 := ⟨rfl, lwG_c 133 rfl rfl, lwG_c 134 rfl rfl, lwG_a 8 rfl rfl, lwG_c 135 rfl rfl, by decide, by decide, by decide +kernel⟩
theorem kY_X7_tear : pv_Y yX7_tear cX7_tear 2 (some .int) RX7 0 := ⟨rfl, lwG_c 138 rfl rfl, lwG_c 139 rfl rfl, lwG_a 1 rfl rfl, lwG_c 140 rfl rfl, by decide, by decide, by decide +kernel⟩
theorem kY_X0_empty : pv_Y yX0_empty cX0_empty 1 (none) RX0 0 := ⟨rfl, lwG_c 142 rfl rfl, lwG_c 143 rfl rfl, lwG_a 8 rfl rfl, lwG_c 144 rfl rfl, by decide, by decide, by decide +kernel⟩
theorem kY_X7_seed : pv_Y yX7_seed cX7_seed 3 (some .int) RX7 1 := ⟨rfl, lwG_c 146 rfl rfl, lwG_c 147 rfl rfl, lwG_a 1 rfl rfl, lwG_c 148 rfl rfl, by decide, by decide, by decide +kernel⟩
theorem kY_X1_become : pv_Y yX1_become cX1_become 2 (none) RX1 1 := ⟨rfl, lwG_c 150 rfl rfl, lwG_c 151 rfl rfl, lwG_a 9 rfl rfl, lwG_c 152 rfl rfl, by decide, by decide, by decide +kernel⟩
theorem kY_X7_keep : pv_Y yX7_keep cX7_keep 2 (some .int) RX7 1 := ⟨rfl, lwG_c 154 rfl rfl, lwG_c 155 rfl rfl, lwG_a 1 rfl rfl, lwG_c 156 rfl rfl, by decide, by decide, by decide +kernel⟩
theorem kY_X3_isImage : pv_Z yX3_isImage cX3_isImage 1 (some .boolean) 1 := ⟨lwG_c 158 rfl rfl, lwG_a 7 rfl rfl, lwG_c 159 rfl rfl, by decide, by decide, by decide +kernel⟩
theorem kY_X3_store : pv_Y yX3_store cX3_store 4 (none) RX3 3 := ⟨rfl, lwG_c 161 rfl rfl, lwG_c 162 rfl rfl, lwG_a 7 rfl rfl, lwG_c 163 rfl rfl, by decide, by decide, by decide +kernel⟩
theorem kY_X2_forget : pv_Y yX2_forget cX2_forget 1 (none) RX2 0 := ⟨rfl, lwG_c 168 rfl rfl, lwG_c 169 rfl rfl, lwG_a 6 rfl rfl, lwG_c 170 rfl rfl, by decide, by decide, by decide +kernel⟩
theorem kY_X7_goBack : pv_Y yX7_goBack cX7_goBack 2 (some .int) RX7 1 := ⟨rfl, lwG_c 172 rfl rfl, lwG_c 173 rfl rfl, lwG_a 1 rfl rfl, lwG_c 174 rfl rfl, by decide, by decide, by decide +kernel⟩
theorem kY_X3_isKept : pv_Y yX3_isKept cX3_isKept 2 (some .boolean) RX3 1 := ⟨rfl, lwG_c 176 rfl rfl, lwG_c 177 rfl rfl, lwG_a 7 rfl rfl, lwG_c 178 rfl rfl, by decide, by decide, by decide +kernel⟩
theorem kY_X3_restore : pv_Y yX3_restore cX3_restore 4 (none) RX3 3 := ⟨rfl, lwG_c 180 rfl rfl, lwG_c 181 rfl rfl, lwG_a 7 rfl rfl, lwG_c 182 rfl rfl, by decide, by decide, by decide +kernel⟩
theorem kY_X8_told : pv_Y yX8_told cX8_told 2 (some .int) RX8 1 := ⟨rfl, lwG_c 227 rfl rfl, lwG_c 228 rfl rfl, lwG_a 10 rfl rfl, lwG_c 229 rfl rfl, by decide, by decide, by decide +kernel⟩
theorem kY_X8_voices : pv_Y yX8_voices cX8_voices 3 (some .int) RX8 0 := ⟨rfl, lwG_c 232 rfl rfl, lwG_sel (q := (yX8_voices, _)) 19 rfl, lwG_a 10 rfl rfl, lwG_c 233 rfl rfl, by decide, by decide, by decide +kernel⟩
theorem kY_X8_prior : pv_Y yX8_prior cX8_prior 4 (some .int) RX8 1 := ⟨rfl, lwG_c 236 rfl rfl, lwG_sel (q := (yX8_prior, _)) 20 rfl, lwG_a 10 rfl rfl, lwG_c 237 rfl rfl, by decide, by decide, by decide +kernel⟩
theorem kY_X8_costNow : pv_Y yX8_costNow cX8_costNow 3 (some .int) RX8 0 := ⟨rfl, lwG_d 0 rfl rfl, lwG_sel (q := (yX8_costNow, _)) 21 rfl, lwG_a 10 rfl rfl, lwG_d 1 rfl rfl, by decide, by decide, by decide +kernel⟩
theorem kY_X8_costOf : pv_Y yX8_costOf cX8_costOf 4 (some .int) RX8 2 := ⟨rfl, lwG_d 4 rfl rfl, lwG_sel (q := (yX8_costOf, _)) 22 rfl, lwG_a 10 rfl rfl, lwG_d 5 rfl rfl, by decide, by decide, by decide +kernel⟩
theorem kY_X8_off : pv_Y yX8_off cX8_off 2 (some .int) RX8 1 := ⟨rfl, lwG_d 8 rfl rfl, lwG_sel (q := (yX8_off, _)) 23 rfl, lwG_a 10 rfl rfl, lwG_d 9 rfl rfl, by decide, by decide, by decide +kernel⟩
theorem kY_X8_fewest : pv_Y yX8_fewest cX8_fewest 2 (some .int) RX8 0 := ⟨rfl, lwG_d 12 rfl rfl, lwG_sel (q := (yX8_fewest, _)) 24 rfl, lwG_a 10 rfl rfl, lwG_d 13 rfl rfl, by decide, by decide, by decide +kernel⟩
theorem kY_X8_leastOf : pv_Y yX8_leastOf cX8_leastOf 4 (some .int) RX8 2 := ⟨rfl, lwG_d 16 rfl rfl, lwG_sel (q := (yX8_leastOf, _)) 25 rfl, lwG_a 10 rfl rfl, lwG_d 17 rfl rfl, by decide, by decide, by decide +kernel⟩
theorem kY_X8_in : pv_Z yX8_in cX8_in 6 (some .boolean) 3 := ⟨lwG_d 19 rfl rfl, lwG_a 10 rfl rfl, lwG_d 20 rfl rfl, by decide, by decide, by decide +kernel⟩
theorem kY_X8_lay : pv_Y yX8_lay cX8_lay 9 (none) RX8 2 := ⟨rfl, lwG_d 23 rfl rfl, lwG_sel (q := (yX8_lay, _)) 26 rfl, lwG_a 10 rfl rfl, lwG_d 24 rfl rfl, by decide, by decide, by decide +kernel⟩
theorem kY_X8_ones : pv_Z yX8_ones cX8_ones 3 (some .int) 1 := ⟨lwG_d 26 rfl rfl, lwG_a 10 rfl rfl, lwG_d 27 rfl rfl, by decide, by decide, by decide +kernel⟩
theorem kY_X8_through : pv_Y yX8_through cX8_through 5 (some .int) RX8 3 := ⟨rfl, lwG_d 31 rfl rfl, lwG_sel (q := (yX8_through, _)) 27 rfl, lwG_a 10 rfl rfl, lwG_d 32 rfl rfl, by decide, by decide, by decide +kernel⟩
theorem kY_X8_bestAt : pv_Y yX8_bestAt cX8_bestAt 3 (some .int) RX8 2 := ⟨rfl, lwG_d 35 rfl rfl, lwG_sel (q := (yX8_bestAt, _)) 28 rfl, lwG_a 10 rfl rfl, lwG_d 36 rfl rfl, by decide, by decide, by decide +kernel⟩
theorem kY_X8_may : pv_Y yX8_may cX8_may 3 (some .boolean) RX8 2 := ⟨rfl, lwG_d 39 rfl rfl, lwG_sel (q := (yX8_may, _)) 29 rfl, lwG_a 10 rfl rfl, lwG_d 40 rfl rfl, by decide, by decide, by decide +kernel⟩
theorem kY_X8_cheapest : pv_Y yX8_cheapest cX8_cheapest 7 (some .int) RX8 1 := ⟨rfl, lwG_d 43 rfl rfl, lwG_sel (q := (yX8_cheapest, _)) 30 rfl, lwG_a 10 rfl rfl, lwG_d 44 rfl rfl, by decide, by decide, by decide +kernel⟩
theorem kY_X8_leastOfAll : pv_Y yX8_leastOfAll cX8_leastOfAll 2 (some .int) RX8 1 := ⟨rfl, lwG_d 47 rfl rfl, lwG_sel (q := (yX8_leastOfAll, _)) 31 rfl, lwG_a 10 rfl rfl, lwG_d 48 rfl rfl, by decide, by decide, by decide +kernel⟩
theorem kY_X8_crossings : pv_Y yX8_crossings cX8_crossings 4 (some .int) RX8 0 := ⟨rfl, lwG_d 51 rfl rfl, lwG_sel (q := (yX8_crossings, _)) 32 rfl, lwG_a 10 rfl rfl, lwG_d 52 rfl rfl, by decide, by decide, by decide +kernel⟩
theorem kY_X8_cross : pv_Y yX8_cross cX8_cross 6 (some .boolean) RX8 2 := ⟨rfl, lwG_d 55 rfl rfl, lwG_sel (q := (yX8_cross, _)) 33 rfl, lwG_a 10 rfl rfl, lwG_d 56 rfl rfl, by decide, by decide, by decide +kernel⟩
theorem kY_X8_toldMore : pv_Y yX8_toldMore cX8_toldMore 2 (some .int) RX8 1 := ⟨rfl, lwG_d 59 rfl rfl, lwG_sel (q := (yX8_toldMore, _)) 34 rfl, lwG_a 10 rfl rfl, lwG_d 60 rfl rfl, by decide, by decide, by decide +kernel⟩
theorem kY_X8_wrong : pv_Y yX8_wrong cX8_wrong 2 (some .int) RX8 0 := ⟨rfl, lwG_d 63 rfl rfl, lwG_sel (q := (yX8_wrong, _)) 35 rfl, lwG_a 10 rfl rfl, lwG_d 64 rfl rfl, by decide, by decide, by decide +kernel⟩
theorem kY_X8_at : pv_Y yX8_at cX8_at 3 (some .int) RX8 2 := ⟨rfl, lwG_d 67 rfl rfl, lwG_d 68 rfl rfl, lwG_a 10 rfl rfl, lwG_d 69 rfl rfl, by decide, by decide, by decide +kernel⟩
theorem kY_X8_isNote : pv_Y yX8_isNote cX8_isNote 2 (some .boolean) RX8 1 := ⟨rfl, lwG_d 72 rfl rfl, lwG_sel (q := (yX8_isNote, _)) 36 rfl, lwG_a 10 rfl rfl, lwG_d 73 rfl rfl, by decide, by decide, by decide +kernel⟩
theorem kY_X8_voiceOf : pv_Y yX8_voiceOf cX8_voiceOf 5 (some .int) RX8 1 := ⟨rfl, lwG_d 77 rfl rfl, lwG_sel (q := (yX8_voiceOf, _)) 37 rfl, lwG_a 10 rfl rfl, lwG_d 78 rfl rfl, by decide, by decide, by decide +kernel⟩
theorem kY_X8_followers : pv_Y yX8_followers cX8_followers 4 (some .int) RX8 1 := ⟨rfl, lwG_d 81 rfl rfl, lwG_sel (q := (yX8_followers, _)) 38 rfl, lwG_a 10 rfl rfl, lwG_d 82 rfl rfl, by decide, by decide, by decide +kernel⟩
theorem kY_X8_cost : pv_Y yX8_cost cX8_cost 3 (some .int) RX8 2 := ⟨rfl, lwG_d 84 rfl rfl, lwG_d 85 rfl rfl, lwG_a 10 rfl rfl, lwG_d 86 rfl rfl, by decide, by decide, by decide +kernel⟩
theorem kY_X8_least : pv_Y yX8_least cX8_least 2 (some .int) RX8 1 := ⟨rfl, lwG_d 88 rfl rfl, lwG_d 89 rfl rfl, lwG_a 10 rfl rfl, lwG_d 90 rfl rfl, by decide, by decide, by decide +kernel⟩
theorem kY_X8_first : pv_Y yX8_first cX8_first 3 (some .int) RX8 2 := ⟨rfl, lwG_d 93 rfl rfl, lwG_d 94 rfl rfl, lwG_a 10 rfl rfl, lwG_d 95 rfl rfl, by decide, by decide, by decide +kernel⟩
theorem kY_X8_layFirst : pv_Y yX8_layFirst cX8_layFirst 5 (some .boolean) RX8 1 := ⟨rfl, lwG_d 98 rfl rfl, lwG_sel (q := (yX8_layFirst, _)) 39 rfl, lwG_a 10 rfl rfl, lwG_d 99 rfl rfl, by decide, by decide, by decide +kernel⟩
theorem kY_X8_voice : pv_Y yX8_voice cX8_voice 3 (some .int) RX8 2 := ⟨rfl, lwG_d 102 rfl rfl, lwG_d 103 rfl rfl, lwG_a 10 rfl rfl, lwG_d 104 rfl rfl, by decide, by decide, by decide +kernel⟩
theorem kY_X8_firstOf : pv_Y yX8_firstOf cX8_firstOf 4 (some .int) RX8 1 := ⟨rfl, lwG_d 108 rfl rfl, lwG_sel (q := (yX8_firstOf, _)) 40 rfl, lwG_a 10 rfl rfl, lwG_d 109 rfl rfl, by decide, by decide, by decide +kernel⟩
theorem kY_X8_ofVoice : pv_Y yX8_ofVoice cX8_ofVoice 11 (some .int) RX8 2 := ⟨rfl, lwG_d 112 rfl rfl, lwG_sel (q := (yX8_ofVoice, _)) 41 rfl, lwG_a 10 rfl rfl, lwG_d 113 rfl rfl, by decide, by decide, by decide +kernel⟩
theorem kY_X8_member : pv_Y yX8_member cX8_member 5 (some .int) RX8 2 := ⟨rfl, lwG_d 115 rfl rfl, lwG_d 116 rfl rfl, lwG_a 10 rfl rfl, lwG_d 117 rfl rfl, by decide, by decide, by decide +kernel⟩
theorem kY_X8_note : pv_Y yX8_note cX8_note 4 (some .int) RX8 3 := ⟨rfl, lwG_d 119 rfl rfl, lwG_d 120 rfl rfl, lwG_a 10 rfl rfl, lwG_d 121 rfl rfl, by decide, by decide, by decide +kernel⟩
theorem kY_X8_isNoteOf : pv_Y yX8_isNoteOf cX8_isNoteOf 4 (some .boolean) RX8 3 := ⟨rfl, lwG_d 124 rfl rfl, lwG_sel (q := (yX8_isNoteOf, _)) 42 rfl, lwG_a 10 rfl rfl, lwG_d 125 rfl rfl, by decide, by decide, by decide +kernel⟩
theorem kY_X8_remember : pv_Y yX8_remember cX8_remember 2 (none) RX8 0 := ⟨rfl, lwG_d 132 rfl rfl, lwG_sel (q := (yX8_remember, _)) 43 rfl, lwG_a 10 rfl rfl, lwG_d 133 rfl rfl, by decide, by decide, by decide +kernel⟩
theorem kY_X8_copyRow : pv_Y yX8_copyRow cX8_copyRow 4 (none) RX8 2 := ⟨rfl, lwG_d 136 rfl rfl, lwG_sel (q := (yX8_copyRow, _)) 44 rfl, lwG_a 10 rfl rfl, lwG_d 137 rfl rfl, by decide, by decide, by decide +kernel⟩
theorem kY_X8_add : pv_Y yX8_add cX8_add 5 (some .int) RX8 3 := ⟨rfl, lwG_d 140 rfl rfl, lwG_sel (q := (yX8_add, _)) 45 rfl, lwG_a 10 rfl rfl, lwG_d 141 rfl rfl, by decide, by decide, by decide +kernel⟩
theorem kY_X8_stays : pv_Y yX8_stays cX8_stays 5 (some .boolean) RX8 4 := ⟨rfl, lwG_d 144 rfl rfl, lwG_sel (q := (yX8_stays, _)) 46 rfl, lwG_a 10 rfl rfl, lwG_d 145 rfl rfl, by decide, by decide, by decide +kernel⟩
theorem kY_X8_part0 : pv_Y yX8_part0 cX8_part0 2 (none) RX8 0 := ⟨rfl, lwG_d 148 rfl rfl, lwG_sel (q := (yX8_part0, _)) 47 rfl, lwG_a 10 rfl rfl, lwG_d 149 rfl rfl, by decide, by decide, by decide +kernel⟩
theorem kY_X8_take : pv_Y yX8_take cX8_take 2 (some .int) RX8 1 := ⟨rfl, lwG_d 151 rfl rfl, lwG_d 152 rfl rfl, lwG_a 10 rfl rfl, lwG_d 153 rfl rfl, by decide, by decide, by decide +kernel⟩
theorem kY_X8_remove : pv_Y yX8_remove cX8_remove 3 (none) RX8 1 := ⟨rfl, lwG_d 156 rfl rfl, lwG_sel (q := (yX8_remove, _)) 48 rfl, lwG_a 10 rfl rfl, lwG_d 157 rfl rfl, by decide, by decide, by decide +kernel⟩
theorem kY_X8_move : pv_Y yX8_move cX8_move 5 (some .int) RX8 4 := ⟨rfl, lwG_d 159 rfl rfl, lwG_d 160 rfl rfl, lwG_a 10 rfl rfl, lwG_d 161 rfl rfl, by decide, by decide, by decide +kernel⟩
theorem kY_X8_share : pv_Y yX8_share cX8_share 2 (some .int) RX8 1 := ⟨rfl, lwG_d 163 rfl rfl, lwG_d 164 rfl rfl, lwG_a 10 rfl rfl, lwG_d 165 rfl rfl, by decide, by decide, by decide +kernel⟩
theorem kY_X8_term : pv_Y yX8_term cX8_term 5 (some .int) RX8 2 := ⟨rfl, lwG_d 167 rfl rfl, lwG_d 168 rfl rfl, lwG_a 10 rfl rfl, lwG_d 169 rfl rfl, by decide, by decide, by decide +kernel⟩
theorem kY_X8_follow : pv_Y yX8_follow cX8_follow 3 (some .int) RX8 2 := ⟨rfl, lwG_d 172 rfl rfl, lwG_d 173 rfl rfl, lwG_a 10 rfl rfl, lwG_d 174 rfl rfl, by decide, by decide, by decide +kernel⟩
theorem kY_X8_cut : pv_Y yX8_cut cX8_cut 3 (some .int) RX8 1 := ⟨rfl, lwG_d 176 rfl rfl, lwG_d 177 rfl rfl, lwG_a 10 rfl rfl, lwG_d 178 rfl rfl, by decide, by decide, by decide +kernel⟩
theorem kY_X8_part : pv_Y yX8_part cX8_part 3 (some .int) RX8 1 := ⟨rfl, lwG_d 180 rfl rfl, lwG_d 181 rfl rfl, lwG_a 10 rfl rfl, lwG_d 182 rfl rfl, by decide, by decide, by decide +kernel⟩
theorem kY_X8_mend : pv_Y yX8_mend cX8_mend 2 (some .int) RX8 0 := ⟨rfl, lwG_d 185 rfl rfl, lwG_d 186 rfl rfl, lwG_a 10 rfl rfl, lwG_d 187 rfl rfl, by decide, by decide, by decide +kernel⟩
theorem kY_X8_mendOne : pv_Y yX8_mendOne cX8_mendOne 4 (some .boolean) RX8 0 := ⟨rfl, lwG_d 190 rfl rfl, lwG_sel (q := (yX8_mendOne, _)) 49 rfl, lwG_a 10 rfl rfl, lwG_d 191 rfl rfl, by decide, by decide, by decide +kernel⟩
theorem kY_X8_clear : pv_Y yX8_clear cX8_clear 2 (some .int) RX8 0 := ⟨rfl, lwG_d 193 rfl rfl, lwG_d 194 rfl rfl, lwG_a 10 rfl rfl, lwG_d 195 rfl rfl, by decide, by decide, by decide +kernel⟩
theorem kY_X8_drift : pv_Y yX8_drift cX8_drift 5 (some .int) RX8 1 := ⟨rfl, lwG_d 197 rfl rfl, lwG_d 198 rfl rfl, lwG_a 10 rfl rfl, lwG_d 199 rfl rfl, by decide, by decide, by decide +kernel⟩
theorem kY_X8_draw : pv_Y yX8_draw cX8_draw 2 (some .int) RX8 1 := ⟨rfl, lwG_d 202 rfl rfl, lwG_sel (q := (yX8_draw, _)) 50 rfl, lwG_a 10 rfl rfl, lwG_d 203 rfl rfl, by decide, by decide, by decide +kernel⟩
theorem kY_X8_undo : pv_Y yX8_undo cX8_undo 3 (some .int) RX8 1 := ⟨rfl, lwG_d 209 rfl rfl, lwG_d 210 rfl rfl, lwG_a 10 rfl rfl, lwG_d 211 rfl rfl, by decide, by decide, by decide +kernel⟩
theorem kY_X8_write : pv_Y yX8_write cX8_write 3 (some .int) RX8 2 := ⟨rfl, lwG_d 214 rfl rfl, lwG_d 215 rfl rfl, lwG_a 10 rfl rfl, lwG_d 216 rfl rfl, by decide, by decide, by decide +kernel⟩
theorem kY_X8_tear : pv_Y yX8_tear cX8_tear 2 (some .int) RX8 0 := ⟨rfl, lwG_d 218 rfl rfl, lwG_d 219 rfl rfl, lwG_a 10 rfl rfl, lwG_d 220 rfl rfl, by decide, by decide, by decide +kernel⟩
theorem kY_X8_seed : pv_Y yX8_seed cX8_seed 3 (some .int) RX8 1 := ⟨rfl, lwG_d 222 rfl rfl, lwG_d 223 rfl rfl, lwG_a 10 rfl rfl, lwG_d 224 rfl rfl, by decide, by decide, by decide +kernel⟩
theorem kY_X8_keep : pv_Y yX8_keep cX8_keep 2 (some .int) RX8 1 := ⟨rfl, lwG_d 226 rfl rfl, lwG_d 227 rfl rfl, lwG_a 10 rfl rfl, lwG_d 228 rfl rfl, by decide, by decide, by decide +kernel⟩
theorem kY_X8_goBack : pv_Y yX8_goBack cX8_goBack 2 (some .int) RX8 1 := ⟨rfl, lwG_d 230 rfl rfl, lwG_d 231 rfl rfl, lwG_a 10 rfl rfl, lwG_d 232 rfl rfl, by decide, by decide, by decide +kernel⟩
theorem kl_X6_18 : Cond.methodLink RX6 18 arraycopyName ∈ lwG := lwG_a 30 rfl rfl
theorem kl_L_13 : Cond.methodLink RL 13 yX7_told ∈ lwG := lwG_a 175 rfl rfl
theorem kl_X7_60 : Cond.methodLink RX7 60 yX6_count ∈ lwG := lwG_a 179 rfl rfl
theorem kl_X7_64 : Cond.methodLink RX7 64 yX7_standing ∈ lwG := lwG_a 183 rfl rfl
theorem kl_X7_250 : Cond.methodLink RX7 250 yX4_read ∈ lwG := lwG_a 187 rfl rfl
theorem kl_X4_22 : Cond.methodLink RX4 22 yJ7_fill_53178 ∈ lwG := lwG_a 191 rfl rfl
theorem kl_X4_28 : Cond.methodLink RX4 28 yX6_count ∈ lwG := lwG_a 194 rfl rfl
theorem kl_X4_34 : Cond.methodLink RX4 34 yX6_next ∈ lwG := lwG_a 195 rfl rfl
theorem kl_X6_31 : Cond.methodLink RX6 31 yX6_cell ∈ lwG := lwG_a 199 rfl rfl
theorem kl_X4_38 : Cond.methodLink RX4 38 yX6_has ∈ lwG := lwG_a 203 rfl rfl
theorem kl_X7_68 : Cond.methodLink RX7 68 yX4_countVoices ∈ lwG := lwG_a 207 rfl rfl
theorem kl_X7_71 : Cond.methodLink RX7 71 yX4_costOfAll ∈ lwG := lwG_a 211 rfl rfl
theorem kl_X4_77 : Cond.methodLink RX4 77 yX4_countVoices ∈ lwG := lwG_a 215 rfl rfl
theorem kl_X4_71 : Cond.methodLink RX4 71 yX6_valueOf ∈ lwG := lwG_a 216 rfl rfl
theorem kl_X4_74 : Cond.methodLink RX4 74 yX4_costBehind ∈ lwG := lwG_a 220 rfl rfl
theorem kl_X4_80 : Cond.methodLink RX4 80 yX6_costToFollow ∈ lwG := lwG_a 224 rfl rfl
theorem kl_X6_52 : Cond.methodLink RX6 52 yX6_mayFollow ∈ lwG := lwG_a 228 rfl rfl
theorem kl_X6_42 : Cond.methodLink RX6 42 yX6_has ∈ lwG := lwG_a 232 rfl rfl
theorem kl_X6_46 : Cond.methodLink RX6 46 yX6_on ∈ lwG := lwG_a 233 rfl rfl
theorem kl_X6_49 : Cond.methodLink RX6 49 yX6_off ∈ lwG := lwG_a 237 rfl rfl
theorem kl_X6_35 : Cond.methodLink RX6 35 yX6_valueOf ∈ lwG := lwG_b 1 rfl rfl
theorem kl_X6_56 : Cond.methodLink RX6 56 yX6_pitch ∈ lwG := lwG_b 2 rfl rfl
theorem kl_X6_59 : Cond.methodLink RX6 59 Lib.Math.abs.name ∈ lwG := lwG_b 6 rfl rfl
theorem kl_X7_74 : Cond.methodLink RX7 74 yX7_weighed ∈ lwG := lwG_b 9 rfl rfl
theorem kl_X7_253 : Cond.methodLink RX7 253 yX5_weigh ∈ lwG := lwG_b 13 rfl rfl
theorem kl_X5_35 : Cond.methodLink RX5 35 yX6_edition ∈ lwG := lwG_b 17 rfl rfl
theorem kl_X5_41 : Cond.methodLink RX5 41 yX6_count ∈ lwG := lwG_b 21 rfl rfl
theorem kl_X5_44 : Cond.methodLink RX5 44 Lib.Math.min.name ∈ lwG := lwG_b 22 rfl rfl
theorem kl_X5_52 : Cond.methodLink RX5 52 yX6_valueOf ∈ lwG := lwG_b 25 rfl rfl
theorem kc_X5_59 : Cond.constant RX5 59 1000000 ∈ lwG := lwG_b 26 rfl rfl
theorem kl_X5_60 : Cond.methodLink RX5 60 yX6_costToFollow ∈ lwG := lwG_b 27 rfl rfl
theorem kl_X5_63 : Cond.methodLink RX5 63 yX5_barredOr ∈ lwG := lwG_b 28 rfl rfl
theorem kl_X5_66 : Cond.methodLink RX5 66 yX5_bit ∈ lwG := lwG_b 31 rfl rfl
theorem kl_X5_69 : Cond.methodLink RX5 69 yX5_weighFrom ∈ lwG := lwG_b 35 rfl rfl
theorem kl_X5_76 : Cond.methodLink RX5 76 yX5_lineCost ∈ lwG := lwG_b 39 rfl rfl
theorem kl_X5_79 : Cond.methodLink RX5 79 yX5_weighLine ∈ lwG := lwG_b 43 rfl rfl
theorem kl_X5_73 : Cond.methodLink RX5 73 yX5_findLeast ∈ lwG := lwG_b 47 rfl rfl
theorem kl_X5_83 : Cond.methodLink RX5 83 yJ7_fill_53178 ∈ lwG := lwG_b 51 rfl rfl
theorem kl_X5_89 : Cond.methodLink RX5 89 yJ6_bitCount_0f7a4 ∈ lwG := lwG_b 52 rfl rfl
theorem kc_J6_265 : Cond.constant RJ6 265 1431655765 ∈ lwG := lwG_b 55 rfl rfl
theorem kc_J6_266 : Cond.constant RJ6 266 858993459 ∈ lwG := lwG_b 56 rfl rfl
theorem kc_J6_267 : Cond.constant RJ6 267 252645135 ∈ lwG := lwG_b 57 rfl rfl
theorem kl_X5_94 : Cond.methodLink RX5 94 yX5_offer ∈ lwG := lwG_b 58 rfl rfl
theorem kl_X7_78 : Cond.methodLink RX7 78 yX5_fewest ∈ lwG := lwG_b 65 rfl rfl
theorem kl_X7_81 : Cond.methodLink RX7 81 yX5_cheapest ∈ lwG := lwG_b 69 rfl rfl
theorem kl_X5_102 : Cond.methodLink RX5 102 yX5_fewest ∈ lwG := lwG_b 73 rfl rfl
theorem kl_X5_105 : Cond.methodLink RX5 105 yX5_leastCost ∈ lwG := lwG_b 74 rfl rfl
theorem kl_X7_84 : Cond.methodLink RX7 84 yX5_cheapestCost ∈ lwG := lwG_b 78 rfl rfl
theorem kl_X5_108 : Cond.methodLink RX5 108 yX5_cheapest ∈ lwG := lwG_b 82 rfl rfl
theorem kl_X7_87 : Cond.methodLink RX7 87 yX4_crossings ∈ lwG := lwG_b 83 rfl rfl
theorem kl_X4_83 : Cond.methodLink RX4 83 yX4_cross ∈ lwG := lwG_b 87 rfl rfl
theorem kl_X4_65 : Cond.methodLink RX4 65 yX6_on ∈ lwG := lwG_b 91 rfl rfl
theorem kl_X4_54 : Cond.methodLink RX4 54 yX6_pitch ∈ lwG := lwG_b 92 rfl rfl
theorem kl_X7_90 : Cond.methodLink RX7 90 yX6_valueOf ∈ lwG := lwG_b 93 rfl rfl
theorem kl_X7_94 : Cond.methodLink RX7 94 yX0_size ∈ lwG := lwG_b 94 rfl rfl
theorem kl_X7_97 : Cond.methodLink RX7 97 yX0_wrong ∈ lwG := lwG_b 98 rfl rfl
theorem kl_X0_26 : Cond.methodLink RX0 26 yX5_leastCost ∈ lwG := lwG_b 102 rfl rfl
theorem kl_X7_101 : Cond.methodLink RX7 101 yX2_held ∈ lwG := lwG_b 103 rfl rfl
theorem kl_X7_104 : Cond.methodLink RX7 104 yX1_state ∈ lwG := lwG_b 107 rfl rfl
theorem kc_X7_107 : Cond.constant RX7 107 (-1000000002) ∈ lwG := lwG_b 111 rfl rfl
theorem kl_L_18 : Cond.methodLink RL 18 yX7_at ∈ lwG := lwG_b 112 rfl rfl
theorem kl_X7_108 : Cond.methodLink RX7 108 yX6_has ∈ lwG := lwG_b 116 rfl rfl
theorem kc_X7_112 : Cond.constant RX7 112 (-1000000001) ∈ lwG := lwG_b 117 rfl rfl
theorem kl_X7_113 : Cond.methodLink RX7 113 yX6_on ∈ lwG := lwG_b 118 rfl rfl
theorem kl_X7_116 : Cond.methodLink RX7 116 yX6_off ∈ lwG := lwG_b 119 rfl rfl
theorem kl_X7_119 : Cond.methodLink RX7 119 yX6_pitch ∈ lwG := lwG_b 120 rfl rfl
theorem kl_X7_122 : Cond.methodLink RX7 122 yX6_next ∈ lwG := lwG_b 121 rfl rfl
theorem kl_X7_125 : Cond.methodLink RX7 125 yX4_ahead ∈ lwG := lwG_b 122 rfl rfl
theorem kl_X7_128 : Cond.methodLink RX7 128 yX4_voiceWith ∈ lwG := lwG_b 126 rfl rfl
theorem kl_X7_131 : Cond.methodLink RX7 131 yX5_price ∈ lwG := lwG_b 130 rfl rfl
theorem kl_X5_111 : Cond.methodLink RX5 111 yX5_weigh ∈ lwG := lwG_b 134 rfl rfl
theorem kl_X5_114 : Cond.methodLink RX5 114 yX5_cheapestCost ∈ lwG := lwG_b 135 rfl rfl
theorem kl_X7_134 : Cond.methodLink RX7 134 yX6_countFollowers ∈ lwG := lwG_b 136 rfl rfl
theorem kl_X6_64 : Cond.methodLink RX6 64 yX6_count ∈ lwG := lwG_b 140 rfl rfl
theorem kl_L_23 : Cond.methodLink RL 23 yX7_cost ∈ lwG := lwG_b 141 rfl rfl
theorem kl_X7_137 : Cond.methodLink RX7 137 yX6_costToFollow ∈ lwG := lwG_b 145 rfl rfl
theorem kl_L_27 : Cond.methodLink RL 27 yX7_least ∈ lwG := lwG_b 146 rfl rfl
theorem kl_X7_141 : Cond.methodLink RX7 141 yX7_isVoiceCount ∈ lwG := lwG_b 150 rfl rfl
theorem kl_X7_144 : Cond.methodLink RX7 144 yX5_leastCost ∈ lwG := lwG_b 151 rfl rfl
theorem kl_L_31 : Cond.methodLink RL 31 yX7_first ∈ lwG := lwG_b 152 rfl rfl
theorem kl_X7_147 : Cond.methodLink RX7 147 yX5_choose ∈ lwG := lwG_b 156 rfl rfl
theorem kl_X5_117 : Cond.methodLink RX5 117 yX5_firstNext ∈ lwG := lwG_b 160 rfl rfl
theorem kl_X5_121 : Cond.methodLink RX5 121 yX5_leastBehind ∈ lwG := lwG_b 164 rfl rfl
theorem kl_X7_150 : Cond.methodLink RX7 150 yX5_chosen ∈ lwG := lwG_b 168 rfl rfl
theorem kc_X7_153 : Cond.constant RX7 153 (-1000000003) ∈ lwG := lwG_b 172 rfl rfl
theorem kl_L_35 : Cond.methodLink RL 35 yX7_voice ∈ lwG := lwG_b 173 rfl rfl
theorem kl_X7_154 : Cond.methodLink RX7 154 yX4_hasVoice ∈ lwG := lwG_b 177 rfl rfl
theorem kl_X7_157 : Cond.methodLink RX7 157 yX4_size ∈ lwG := lwG_b 181 rfl rfl
theorem kl_X4_46 : Cond.methodLink RX4 46 yX4_isIn ∈ lwG := lwG_b 185 rfl rfl
theorem kl_X7_159 : Cond.methodLink RX7 159 yX4_noteOf ∈ lwG := lwG_b 189 rfl rfl
theorem kl_X7_162 : Cond.methodLink RX7 162 yX4_lowest ∈ lwG := lwG_b 193 rfl rfl
theorem kl_X4_50 : Cond.methodLink RX4 50 yX4_noteOf ∈ lwG := lwG_b 197 rfl rfl
theorem kl_X4_57 : Cond.methodLink RX4 57 Lib.Math.min.name ∈ lwG := lwG_b 198 rfl rfl
theorem kl_X7_165 : Cond.methodLink RX7 165 yX4_highest ∈ lwG := lwG_b 199 rfl rfl
theorem kl_X4_62 : Cond.methodLink RX4 62 Lib.Math.max.name ∈ lwG := lwG_b 203 rfl rfl
theorem kl_X7_168 : Cond.methodLink RX7 168 yX4_rests ∈ lwG := lwG_b 206 rfl rfl
theorem kl_X4_68 : Cond.methodLink RX4 68 yX6_off ∈ lwG := lwG_b 210 rfl rfl
theorem kl_X7_171 : Cond.methodLink RX7 171 yX4_costOf ∈ lwG := lwG_b 211 rfl rfl
theorem kl_L_39 : Cond.methodLink RL 39 yX7_member ∈ lwG := lwG_b 215 rfl rfl
theorem kl_L_43 : Cond.methodLink RL 43 yX7_note ∈ lwG := lwG_b 219 rfl rfl
theorem kl_X7_174 : Cond.methodLink RX7 174 yX6_canBe ∈ lwG := lwG_b 223 rfl rfl
theorem kl_X7_178 : Cond.methodLink RX7 178 yX6_isFull ∈ lwG := lwG_b 226 rfl rfl
theorem kc_X7_182 : Cond.constant RX7 182 (-1000000004) ∈ lwG := lwG_b 230 rfl rfl
theorem kl_X7_183 : Cond.methodLink RX7 183 yX2_record ∈ lwG := lwG_b 231 rfl rfl
theorem kl_X2_22 : Cond.methodLink RX2 22 yX6_copyTo ∈ lwG := lwG_b 235 rfl rfl
theorem kl_X6_83 : Cond.methodLink RX6 83 yX6_fitsOn ∈ lwG := lwG_b 239 rfl rfl
theorem kl_X2_26 : Cond.methodLink RX2 26 Lib.Math.min.name ∈ lwG := lwG_c 2 rfl rfl
theorem kl_X7_186 : Cond.methodLink RX7 186 yX6_bring ∈ lwG := lwG_c 3 rfl rfl
theorem kc_X6_68 : Cond.constant RX6 68 (-1000000004) ∈ lwG := lwG_c 7 rfl rfl
theorem kl_X6_69 : Cond.methodLink RX6 69 yX6_placeFor ∈ lwG := lwG_c 8 rfl rfl
theorem kl_X6_73 : Cond.methodLink RX6 73 yX6_orderKey ∈ lwG := lwG_c 12 rfl rfl
theorem kl_X6_76 : Cond.methodLink RX6 76 yX6_length ∈ lwG := lwG_c 15 rfl rfl
theorem kl_X6_39 : Cond.methodLink RX6 39 yX6_changed ∈ lwG := lwG_c 19 rfl rfl
theorem kl_X6_79 : Cond.methodLink RX6 79 yX6_link ∈ lwG := lwG_c 23 rfl rfl
theorem kl_L_48 : Cond.methodLink RL 48 yX7_take ∈ lwG := lwG_c 27 rfl rfl
theorem kl_X7_190 : Cond.methodLink RX7 190 yX6_drop ∈ lwG := lwG_c 31 rfl rfl
theorem kl_L_52 : Cond.methodLink RL 52 yX7_move ∈ lwG := lwG_c 35 rfl rfl
theorem kl_L_57 : Cond.methodLink RL 57 yX7_share ∈ lwG := lwG_c 39 rfl rfl
theorem kl_X7_194 : Cond.methodLink RX7 194 yX6_length ∈ lwG := lwG_c 43 rfl rfl
theorem kl_L_61 : Cond.methodLink RL 61 yX7_term ∈ lwG := lwG_c 44 rfl rfl
theorem kl_X7_197 : Cond.methodLink RX7 197 yX6_canBeTerm ∈ lwG := lwG_c 48 rfl rfl
theorem kl_X7_201 : Cond.methodLink RX7 201 yX6_changeTerm ∈ lwG := lwG_c 53 rfl rfl
theorem kl_L_65 : Cond.methodLink RL 65 yX7_follow ∈ lwG := lwG_c 57 rfl rfl
theorem kl_X7_204 : Cond.methodLink RX7 204 yX6_mayFollow ∈ lwG := lwG_c 61 rfl rfl
theorem kl_X7_207 : Cond.methodLink RX7 207 yX6_link ∈ lwG := lwG_c 62 rfl rfl
theorem kl_L_69 : Cond.methodLink RL 69 yX7_cut ∈ lwG := lwG_c 63 rfl rfl
theorem kl_L_73 : Cond.methodLink RL 73 yX7_part ∈ lwG := lwG_c 67 rfl rfl
theorem kl_L_77 : Cond.methodLink RL 77 yX7_mend ∈ lwG := lwG_c 71 rfl rfl
theorem kl_X7_211 : Cond.methodLink RX7 211 yX4_mendCrossings ∈ lwG := lwG_c 75 rfl rfl
theorem kl_X4_86 : Cond.methodLink RX4 86 yX4_mendFirst ∈ lwG := lwG_c 79 rfl rfl
theorem kl_X4_90 : Cond.methodLink RX4 90 yX4_canMend ∈ lwG := lwG_c 83 rfl rfl
theorem kl_X4_97 : Cond.methodLink RX4 97 yX6_mayFollow ∈ lwG := lwG_c 87 rfl rfl
theorem kl_X4_93 : Cond.methodLink RX4 93 yX6_link ∈ lwG := lwG_c 88 rfl rfl
theorem kl_L_82 : Cond.methodLink RL 82 yX7_clear ∈ lwG := lwG_c 89 rfl rfl
theorem kl_X7_214 : Cond.methodLink RX7 214 yX6_dropAll ∈ lwG := lwG_c 93 rfl rfl
theorem kl_L_86 : Cond.methodLink RL 86 yX7_drift ∈ lwG := lwG_c 97 rfl rfl
theorem kl_X7_217 : Cond.methodLink RX7 217 yX7_bringDrawn ∈ lwG := lwG_c 101 rfl rfl
theorem kl_X7_256 : Cond.methodLink RX7 256 yX1_draw ∈ lwG := lwG_c 105 rfl rfl
theorem kc_X1_13 : Cond.constant RX1 13 1103515245 ∈ lwG := lwG_c 109 rfl rfl
theorem kc_X1_14 : Cond.constant RX1 14 2147483647 ∈ lwG := lwG_c 110 rfl rfl
theorem kc_X1_15 : Cond.constant RX1 15 65536 ∈ lwG := lwG_c 111 rfl rfl
theorem kl_L_90 : Cond.methodLink RL 90 yX7_undo ∈ lwG := lwG_c 112 rfl rfl
theorem kl_X7_220 : Cond.methodLink RX7 220 yX2_giveBack ∈ lwG := lwG_c 116 rfl rfl
theorem kl_X2_32 : Cond.methodLink RX2 32 yX6_copyFrom ∈ lwG := lwG_c 120 rfl rfl
theorem kl_L_94 : Cond.methodLink RL 94 yX7_write ∈ lwG := lwG_c 124 rfl rfl
theorem kl_X7_224 : Cond.methodLink RX7 224 yX0_isFull ∈ lwG := lwG_c 128 rfl rfl
theorem kl_X7_225 : Cond.methodLink RX7 225 yX0_add ∈ lwG := lwG_c 132 rfl rfl
theorem kl_X0_22 : Cond.methodLink RX0 22 yX0_isFull ∈ lwG := lwG_c 136 rfl rfl
theorem kl_L_98 : Cond.methodLink RL 98 yX7_tear ∈ lwG := lwG_c 137 rfl rfl
theorem kl_X7_228 : Cond.methodLink RX7 228 yX0_empty ∈ lwG := lwG_c 141 rfl rfl
theorem kl_L_102 : Cond.methodLink RL 102 yX7_seed ∈ lwG := lwG_c 145 rfl rfl
theorem kl_X7_231 : Cond.methodLink RX7 231 yX1_become ∈ lwG := lwG_c 149 rfl rfl
theorem kl_L_106 : Cond.methodLink RL 106 yX7_keep ∈ lwG := lwG_c 153 rfl rfl
theorem kl_X7_234 : Cond.methodLink RX7 234 yX3_isImage ∈ lwG := lwG_c 157 rfl rfl
theorem kl_X7_237 : Cond.methodLink RX7 237 yX3_store ∈ lwG := lwG_c 160 rfl rfl
theorem kl_X3_22 : Cond.methodLink RX3 22 yX3_isImage ∈ lwG := lwG_c 164 rfl rfl
theorem kl_X3_26 : Cond.methodLink RX3 26 yX6_copyTo ∈ lwG := lwG_c 165 rfl rfl
theorem kl_X3_30 : Cond.methodLink RX3 30 yX1_state ∈ lwG := lwG_c 166 rfl rfl
theorem kl_X7_241 : Cond.methodLink RX7 241 yX2_forget ∈ lwG := lwG_c 167 rfl rfl
theorem kl_L_110 : Cond.methodLink RL 110 yX7_goBack ∈ lwG := lwG_c 171 rfl rfl
theorem kl_X7_244 : Cond.methodLink RX7 244 yX3_isKept ∈ lwG := lwG_c 175 rfl rfl
theorem kl_X7_247 : Cond.methodLink RX7 247 yX3_restore ∈ lwG := lwG_c 179 rfl rfl
theorem kl_X3_36 : Cond.methodLink RX3 36 yX3_isKept ∈ lwG := lwG_c 183 rfl rfl
theorem kl_X3_39 : Cond.methodLink RX3 39 yX6_copyFrom ∈ lwG := lwG_c 184 rfl rfl
theorem kl_X3_42 : Cond.methodLink RX3 42 yX1_become ∈ lwG := lwG_c 185 rfl rfl
theorem kl_L_17 : Cond.methodLink RL 17 yX8_told ∈ lwG := lwG_c 226 rfl rfl
theorem kl_X8_75 : Cond.methodLink RX8 75 yX8_voices ∈ lwG := lwG_c 230 rfl rfl
theorem kl_X8_72 : Cond.methodLink RX8 72 yX8_prior ∈ lwG := lwG_c 234 rfl rfl
theorem kl_X8_92 : Cond.methodLink RX8 92 yX8_costNow ∈ lwG := lwG_c 238 rfl rfl
theorem kl_X8_52 : Cond.methodLink RX8 52 yX8_costOf ∈ lwG := lwG_d 2 rfl rfl
theorem kl_X8_36 : Cond.methodLink RX8 36 yX8_off ∈ lwG := lwG_d 6 rfl rfl
theorem kl_X8_95 : Cond.methodLink RX8 95 yX8_fewest ∈ lwG := lwG_d 10 rfl rfl
theorem kl_X8_66 : Cond.methodLink RX8 66 yX8_leastOf ∈ lwG := lwG_d 14 rfl rfl
theorem kl_X8_40 : Cond.methodLink RX8 40 yX8_in ∈ lwG := lwG_d 18 rfl rfl
theorem kl_X8_63 : Cond.methodLink RX8 63 yX8_lay ∈ lwG := lwG_d 21 rfl rfl
theorem kl_X8_56 : Cond.methodLink RX8 56 yX8_ones ∈ lwG := lwG_d 25 rfl rfl
theorem kc_X8_55 : Cond.constant RX8 55 1000000 ∈ lwG := lwG_d 28 rfl rfl
theorem kl_X8_59 : Cond.methodLink RX8 59 yX8_through ∈ lwG := lwG_d 29 rfl rfl
theorem kl_X8_44 : Cond.methodLink RX8 44 yX8_bestAt ∈ lwG := lwG_d 33 rfl rfl
theorem kl_X8_48 : Cond.methodLink RX8 48 yX8_may ∈ lwG := lwG_d 37 rfl rfl
theorem kl_X8_69 : Cond.methodLink RX8 69 yX8_cheapest ∈ lwG := lwG_d 41 rfl rfl
theorem kl_X8_98 : Cond.methodLink RX8 98 yX8_leastOfAll ∈ lwG := lwG_d 45 rfl rfl
theorem kl_X8_101 : Cond.methodLink RX8 101 yX8_crossings ∈ lwG := lwG_d 49 rfl rfl
theorem kl_X8_79 : Cond.methodLink RX8 79 yX8_cross ∈ lwG := lwG_d 53 rfl rfl
theorem kl_X8_104 : Cond.methodLink RX8 104 yX8_toldMore ∈ lwG := lwG_d 57 rfl rfl
theorem kl_X8_85 : Cond.methodLink RX8 85 yX8_wrong ∈ lwG := lwG_d 61 rfl rfl
theorem kc_X8_91 : Cond.constant RX8 91 (-1000000002) ∈ lwG := lwG_d 65 rfl rfl
theorem kl_L_22 : Cond.methodLink RL 22 yX8_at ∈ lwG := lwG_d 66 rfl rfl
theorem kl_X8_107 : Cond.methodLink RX8 107 yX8_isNote ∈ lwG := lwG_d 70 rfl rfl
theorem kc_X8_111 : Cond.constant RX8 111 (-1000000001) ∈ lwG := lwG_d 74 rfl rfl
theorem kl_X8_112 : Cond.methodLink RX8 112 yX8_voiceOf ∈ lwG := lwG_d 75 rfl rfl
theorem kl_X8_115 : Cond.methodLink RX8 115 yX8_followers ∈ lwG := lwG_d 79 rfl rfl
theorem kl_L_26 : Cond.methodLink RL 26 yX8_cost ∈ lwG := lwG_d 83 rfl rfl
theorem kl_L_30 : Cond.methodLink RL 30 yX8_least ∈ lwG := lwG_d 87 rfl rfl
theorem kc_X8_118 : Cond.constantLong RX8 118 10 ∈ lwG := lwG_d 91 rfl rfl
theorem kl_L_34 : Cond.methodLink RL 34 yX8_first ∈ lwG := lwG_d 92 rfl rfl
theorem kl_X8_120 : Cond.methodLink RX8 120 yX8_layFirst ∈ lwG := lwG_d 96 rfl rfl
theorem kc_X8_123 : Cond.constant RX8 123 (-1000000003) ∈ lwG := lwG_d 100 rfl rfl
theorem kl_L_38 : Cond.methodLink RL 38 yX8_voice ∈ lwG := lwG_d 101 rfl rfl
theorem kc_X8_124 : Cond.constantLong RX8 124 6 ∈ lwG := lwG_d 105 rfl rfl
theorem kl_X8_126 : Cond.methodLink RX8 126 yX8_firstOf ∈ lwG := lwG_d 106 rfl rfl
theorem kl_X8_129 : Cond.methodLink RX8 129 yX8_ofVoice ∈ lwG := lwG_d 110 rfl rfl
theorem kl_L_42 : Cond.methodLink RL 42 yX8_member ∈ lwG := lwG_d 114 rfl rfl
theorem kl_L_47 : Cond.methodLink RL 47 yX8_note ∈ lwG := lwG_d 118 rfl rfl
theorem kl_X8_145 : Cond.methodLink RX8 145 yX8_isNoteOf ∈ lwG := lwG_d 122 rfl rfl
theorem kc_X8_132 : Cond.constantLong RX8 132 99 ∈ lwG := lwG_d 126 rfl rfl
theorem kc_X8_134 : Cond.constantLong RX8 134 32 ∈ lwG := lwG_d 127 rfl rfl
theorem kc_X8_136 : Cond.constantLong RX8 136 127 ∈ lwG := lwG_d 128 rfl rfl
theorem kc_X8_149 : Cond.constant RX8 149 (-1000000004) ∈ lwG := lwG_d 129 rfl rfl
theorem kl_X8_150 : Cond.methodLink RX8 150 yX8_remember ∈ lwG := lwG_d 130 rfl rfl
theorem kl_X8_28 : Cond.methodLink RX8 28 yX8_copyRow ∈ lwG := lwG_d 134 rfl rfl
theorem kl_X8_153 : Cond.methodLink RX8 153 yX8_add ∈ lwG := lwG_d 138 rfl rfl
theorem kl_X8_138 : Cond.methodLink RX8 138 yX8_stays ∈ lwG := lwG_d 142 rfl rfl
theorem kl_X8_142 : Cond.methodLink RX8 142 yX8_part0 ∈ lwG := lwG_d 146 rfl rfl
theorem kl_L_51 : Cond.methodLink RL 51 yX8_take ∈ lwG := lwG_d 150 rfl rfl
theorem kl_X8_156 : Cond.methodLink RX8 156 yX8_remove ∈ lwG := lwG_d 154 rfl rfl
theorem kl_L_56 : Cond.methodLink RL 56 yX8_move ∈ lwG := lwG_d 158 rfl rfl
theorem kl_L_60 : Cond.methodLink RL 60 yX8_share ∈ lwG := lwG_d 162 rfl rfl
theorem kl_L_64 : Cond.methodLink RL 64 yX8_term ∈ lwG := lwG_d 166 rfl rfl
theorem kc_X8_160 : Cond.constantLong RX8 160 4 ∈ lwG := lwG_d 170 rfl rfl
theorem kl_L_68 : Cond.methodLink RL 68 yX8_follow ∈ lwG := lwG_d 171 rfl rfl
theorem kl_L_72 : Cond.methodLink RL 72 yX8_cut ∈ lwG := lwG_d 175 rfl rfl
theorem kl_L_76 : Cond.methodLink RL 76 yX8_part ∈ lwG := lwG_d 179 rfl rfl
theorem kc_X8_162 : Cond.constantLong RX8 162 (-1) ∈ lwG := lwG_d 183 rfl rfl
theorem kl_L_81 : Cond.methodLink RL 81 yX8_mend ∈ lwG := lwG_d 184 rfl rfl
theorem kl_X8_164 : Cond.methodLink RX8 164 yX8_mendOne ∈ lwG := lwG_d 188 rfl rfl
theorem kl_L_85 : Cond.methodLink RL 85 yX8_clear ∈ lwG := lwG_d 192 rfl rfl
theorem kl_L_89 : Cond.methodLink RL 89 yX8_drift ∈ lwG := lwG_d 196 rfl rfl
theorem kl_X8_175 : Cond.methodLink RX8 175 yX8_draw ∈ lwG := lwG_d 200 rfl rfl
theorem kc_X8_168 : Cond.constantLong RX8 168 1103515245 ∈ lwG := lwG_d 204 rfl rfl
theorem kc_X8_170 : Cond.constantLong RX8 170 12345 ∈ lwG := lwG_d 205 rfl rfl
theorem kc_X8_172 : Cond.constantLong RX8 172 2147483648 ∈ lwG := lwG_d 206 rfl rfl
theorem kc_X8_174 : Cond.constant RX8 174 65536 ∈ lwG := lwG_d 207 rfl rfl
theorem kl_L_93 : Cond.methodLink RL 93 yX8_undo ∈ lwG := lwG_d 208 rfl rfl
theorem kc_X8_181 : Cond.constantLong RX8 181 16 ∈ lwG := lwG_d 212 rfl rfl
theorem kl_L_97 : Cond.methodLink RL 97 yX8_write ∈ lwG := lwG_d 213 rfl rfl
theorem kl_L_101 : Cond.methodLink RL 101 yX8_tear ∈ lwG := lwG_d 217 rfl rfl
theorem kl_L_105 : Cond.methodLink RL 105 yX8_seed ∈ lwG := lwG_d 221 rfl rfl
theorem kl_L_109 : Cond.methodLink RL 109 yX8_keep ∈ lwG := lwG_d 225 rfl rfl
theorem kl_L_113 : Cond.methodLink RL 113 yX8_goBack ∈ lwG := lwG_d 229 rfl rfl
theorem kM_min : Cond.static Lib.Math.min.name ∈ lwG := lwG_b 23 rfl rfl
theorem kMc_min : Cond.code Lib.Math.min.name Lib.Math.min.code 2 (some .int) ∈ lwG := lwG_b 24 rfl rfl
theorem kM_max : Cond.static Lib.Math.max.name ∈ lwG := lwG_b 204 rfl rfl
theorem kMc_max : Cond.code Lib.Math.max.name Lib.Math.max.code 2 (some .int) ∈ lwG := lwG_b 205 rfl rfl
theorem kM_abs : Cond.static Lib.Math.abs.name ∈ lwG := lwG_b 7 rfl rfl
theorem kMc_abs : Cond.code Lib.Math.abs.name Lib.Math.abs.code 1 (some .int) ∈ lwG := lwG_b 8 rfl rfl
theorem kM_init : Cond.initialized "java/lang/Math" ∈ lwG := lwG_a 12 rfl rfl
theorem kA_nat : Cond.native arraycopyName ∈ lwG := lwG_a 32 rfl rfl
theorem kA_stat : Cond.static arraycopyName ∈ lwG := lwG_a 31 rfl rfl
theorem kA_init : Cond.initialized "java/lang/System" ∈ lwG := lwG_a 3 rfl rfl
theorem kf_X6_24 : Cond.fieldLink RX6 24 RX6 "GREATEST_TERMS" "[I" ∈ lwG := lwG_c 51 rfl rfl
end
section
def f_X6_count (σ : pv_S) : Option (Int32 × pv_S) := (gd 0 46 (some ((pv_la σ 0 0), σ)))
def f_J7_fill_53178_10_5 : Nat → Int32 → Int32 → Int32 → pv_S → Option pv_S
  | 0, _, _, _, _ => none
  | n + 1, v1, v2, v3, σ => (if v3 ≤ v2 then (some σ) else (gd v2 10 (f_J7_fill_53178_10_5 n v1 (v2 + 1) v3 (pv_sa σ 1 v2 v1))))
def f_J7_fill_53178_10 (p1 : Int32) (σ : pv_S) : Option pv_S := (f_J7_fill_53178_10_5 pv_FU p1 0 10 σ)
def f_X6_cell (p0 : Int32) (p1 : Int32) (σ : pv_S) : Option (Int32 × pv_S) := (if p0 < 0 then (some ((-1), σ)) else (if 10 ≤ p0 then (some ((-1), σ)) else (gd ((6 + (p0 * 4)) + p1) 46 (some ((pv_la σ 0 ((6 + (p0 * 4)) + p1)), σ)))))
def f_X6_next (p0 : Int32) (σ : pv_S) : Option (Int32 × pv_S) := (Option.bind (f_X6_cell p0 3 σ) (fun q1 => (some (q1.1, q1.2))))
def f_X6_has (p0 : Int32) (σ : pv_S) : Option (Int32 × pv_S) := (if p0 < 0 then (some (0, σ)) else (if 10 ≤ p0 then (some (0, σ)) else (gd 0 46 (if (pv_la σ 0 0) ≤ p0 then (some (0, σ)) else (some (1, σ))))))
def f_X4_read_109 (K61 : Int32 → pv_S → Option pv_S) (v1 : Int32) (σ : pv_S) : Option pv_S := (gd v1 10 (K61 (v1 + 1) (pv_pi (pv_sa σ 2 v1 (σ.1 1)) 1 (((pv_sa σ 2 v1 (σ.1 1)).1 1) + 1))))
def f_X4_read_61 : Nat → Int32 → pv_S → Option pv_S
  | 0, _, _ => none
  | n + 1, v1, σ => (Option.bind (f_X6_count σ) (fun q1 => (if q1.1 ≤ v1 then (some q1.2) else (if 10 ≤ v1 then (some q1.2) else (gd v1 10 (if (pv_la q1.2 1 v1) < 0 then (f_X4_read_109 (f_X4_read_61 n) v1 q1.2) else (if v1 ≤ (pv_la q1.2 1 v1) then (f_X4_read_109 (f_X4_read_61 n) v1 q1.2) else (gd (pv_la q1.2 1 v1) 10 (gd v1 10 (f_X4_read_61 n (v1 + 1) (pv_sa q1.2 2 v1 (pv_la q1.2 2 (pv_la q1.2 1 v1)))))))))))))
def f_X4_read_10 : Nat → Int32 → pv_S → Option pv_S
  | 0, _, _ => none
  | n + 1, v1, σ => (Option.bind (f_X6_count σ) (fun q1 => (if q1.1 ≤ v1 then (f_X4_read_61 pv_FU 0 (pv_pi q1.2 1 0)) else (Option.bind (f_X6_next v1 q1.2) (fun q3 => (Option.bind (f_X6_has q3.1 q3.2) (fun q4 => (if q4.1 = 0 then (f_X4_read_10 n (v1 + 1) q4.2) else (gd q3.1 10 (f_X4_read_10 n (v1 + 1) (pv_sa q4.2 1 q3.1 v1)))))))))))
def f_X4_read (σ : pv_S) : Option pv_S := (Option.bind (f_J7_fill_53178_10 (-1) σ) (fun q1 => (f_X4_read_10 pv_FU 0 q1)))
def f_X7_standing (σ : pv_S) : Option pv_S := (Option.bind (f_X4_read σ) (fun q1 => (some q1)))
def f_X4_countVoices (σ : pv_S) : Option (Int32 × pv_S) := (some ((σ.1 1), σ))
def f_X6_valueOf (p0 : Int32) (σ : pv_S) : Option (Int32 × pv_S) := (if p0 < 0 then (some ((-1), σ)) else (if 5 ≤ p0 then (some ((-1), σ)) else (gd (1 + p0) 46 (some ((pv_la σ 0 (1 + p0)), σ)))))
def f_X6_on (p0 : Int32) (σ : pv_S) : Option (Int32 × pv_S) := (Option.bind (f_X6_cell p0 0 σ) (fun q1 => (some (q1.1, q1.2))))
def f_X6_off (p0 : Int32) (σ : pv_S) : Option (Int32 × pv_S) := (Option.bind (f_X6_cell p0 0 σ) (fun q1 => (Option.bind (f_X6_cell p0 1 q1.2) (fun q2 => (some ((q1.1 + q2.1), q2.2))))))
def f_X6_mayFollow (p0 : Int32) (p1 : Int32) (σ : pv_S) : Option (Int32 × pv_S) := (Option.bind (f_X6_has p0 σ) (fun q1 => (if q1.1 = 0 then (some (0, q1.2)) else (Option.bind (f_X6_has p1 q1.2) (fun q3 => (if q3.1 = 0 then (some (0, q3.2)) else (Option.bind (f_X6_on p1 q3.2) (fun q5 => (Option.bind (f_X6_off p0 q5.2) (fun q6 => (if (q5.1 - q6.1) < 0 then (some (0, q6.2)) else (Option.bind (f_X6_valueOf 4 q6.2) (fun q8 => (if q8.1 < (q5.1 - q6.1) then (some (0, q8.2)) else (some (1, q8.2))))))))))))))))
def f_X6_pitch (p0 : Int32) (σ : pv_S) : Option (Int32 × pv_S) := (Option.bind (f_X6_cell p0 2 σ) (fun q1 => (some (q1.1, q1.2))))
def f_X6_costToFollow_54 (v3 : Int32) (v4 : Int32) (s0 : Int32) (σ : pv_S) : Option (Int32 × pv_S) := (Option.bind (f_X6_valueOf 0 σ) (fun q1 => (Option.bind (f_X6_valueOf 1 q1.2) (fun q2 => (some ((((v3 * q1.1) + (v4 * q2.1)) + s0), q2.2))))))
def f_X6_costToFollow (p0 : Int32) (p1 : Int32) (σ : pv_S) : Option (Int32 × pv_S) := (Option.bind (f_X6_mayFollow p0 p1 σ) (fun q1 => (if q1.1 = 0 then (some ((-1), q1.2)) else (Option.bind (f_X6_pitch p1 q1.2) (fun q3 => (Option.bind (f_X6_pitch p0 q3.2) (fun q4 => (Option.bind (f_X6_on p1 q4.2) (fun q5 => (Option.bind (f_X6_off p0 q5.2) (fun q6 => (if (if 0 ≤ (q3.1 - q4.1) then (q3.1 - q4.1) else 0 - (q3.1 - q4.1)) ≤ 12 then (f_X6_costToFollow_54 (if 0 ≤ (q3.1 - q4.1) then (q3.1 - q4.1) else 0 - (q3.1 - q4.1)) (q5.1 - q6.1) 0 q6.2) else (Option.bind (f_X6_valueOf 2 q6.2) (fun q8 => (f_X6_costToFollow_54 (if 0 ≤ (q3.1 - q4.1) then (q3.1 - q4.1) else 0 - (q3.1 - q4.1)) (q5.1 - q6.1) q8.1 q8.2)))))))))))))))
def f_X4_costBehind (p0 : Int32) (σ : pv_S) : Option (Int32 × pv_S) := (Option.bind (f_X6_next p0 σ) (fun q1 => (if q1.1 = (-1) then (some (0, q1.2)) else (Option.bind (f_X6_costToFollow p0 q1.1 q1.2) (fun q3 => (some (q3.1, q3.2)))))))
def f_X4_costOfAll_16 : Nat → Int32 → Int32 → pv_S → Option (Int32 × pv_S)
  | 0, _, _, _ => none
  | n + 1, v1, v2, σ => (Option.bind (f_X6_count σ) (fun q1 => (if q1.1 ≤ v2 then (some (v1, q1.2)) else (Option.bind (f_X4_costBehind v2 q1.2) (fun q3 => (f_X4_costOfAll_16 n (v1 + q3.1) (v2 + 1) q3.2))))))
def f_X4_costOfAll (σ : pv_S) : Option (Int32 × pv_S) := (Option.bind (f_X4_countVoices σ) (fun q1 => (Option.bind (f_X6_valueOf 3 q1.2) (fun q2 => (f_X4_costOfAll_16 pv_FU (q1.1 * q2.1) 0 q2.2)))))
def f_X6_edition (σ : pv_S) : Option (Int32 × pv_S) := (some ((σ.1 0), σ))
def f_J7_fill_53178_14_5 : Nat → Int32 → Int32 → Int32 → pv_S → Option pv_S
  | 0, _, _, _, _ => none
  | n + 1, v1, v2, v3, σ => (if v3 ≤ v2 then (some σ) else (gd v2 11 (f_J7_fill_53178_14_5 n v1 (v2 + 1) v3 (pv_sa σ 5 v2 v1))))
def f_J7_fill_53178_14 (p1 : Int32) (σ : pv_S) : Option pv_S := (f_J7_fill_53178_14_5 pv_FU p1 0 11 σ)
def f_X5_bit (p0 : Int32) (σ : pv_S) : Option (Int32 × pv_S) := (some ((1 <<< ((((σ.1 2) - 1) - p0) &&& 31)), σ))
def f_J6_bitCount_0f7a4 (p0 : Int32) (σ : pv_S) : Option (Int32 × pv_S) := (some (((((((((p0 - ((((p0).toUInt32 >>> ((1 : Int32).toUInt32 &&& Int32.toUInt32 31)).toInt32) &&& 1431655765)) &&& 858993459) + (((((p0 - ((((p0).toUInt32 >>> ((1 : Int32).toUInt32 &&& Int32.toUInt32 31)).toInt32) &&& 1431655765))).toUInt32 >>> ((2 : Int32).toUInt32 &&& Int32.toUInt32 31)).toInt32) &&& 858993459)) + ((((((p0 - ((((p0).toUInt32 >>> ((1 : Int32).toUInt32 &&& Int32.toUInt32 31)).toInt32) &&& 1431655765)) &&& 858993459) + (((((p0 - ((((p0).toUInt32 >>> ((1 : Int32).toUInt32 &&& Int32.toUInt32 31)).toInt32) &&& 1431655765))).toUInt32 >>> ((2 : Int32).toUInt32 &&& Int32.toUInt32 31)).toInt32) &&& 858993459))).toUInt32 >>> ((4 : Int32).toUInt32 &&& Int32.toUInt32 31)).toInt32)) &&& 252645135) + ((((((((p0 - ((((p0).toUInt32 >>> ((1 : Int32).toUInt32 &&& Int32.toUInt32 31)).toInt32) &&& 1431655765)) &&& 858993459) + (((((p0 - ((((p0).toUInt32 >>> ((1 : Int32).toUInt32 &&& Int32.toUInt32 31)).toInt32) &&& 1431655765))).toUInt32 >>> ((2 : Int32).toUInt32 &&& Int32.toUInt32 31)).toInt32) &&& 858993459)) + ((((((p0 - ((((p0).toUInt32 >>> ((1 : Int32).toUInt32 &&& Int32.toUInt32 31)).toInt32) &&& 1431655765)) &&& 858993459) + (((((p0 - ((((p0).toUInt32 >>> ((1 : Int32).toUInt32 &&& Int32.toUInt32 31)).toInt32) &&& 1431655765))).toUInt32 >>> ((2 : Int32).toUInt32 &&& Int32.toUInt32 31)).toInt32) &&& 858993459))).toUInt32 >>> ((4 : Int32).toUInt32 &&& Int32.toUInt32 31)).toInt32)) &&& 252645135)).toUInt32 >>> ((8 : Int32).toUInt32 &&& Int32.toUInt32 31)).toInt32)) + (((((((((p0 - ((((p0).toUInt32 >>> ((1 : Int32).toUInt32 &&& Int32.toUInt32 31)).toInt32) &&& 1431655765)) &&& 858993459) + (((((p0 - ((((p0).toUInt32 >>> ((1 : Int32).toUInt32 &&& Int32.toUInt32 31)).toInt32) &&& 1431655765))).toUInt32 >>> ((2 : Int32).toUInt32 &&& Int32.toUInt32 31)).toInt32) &&& 858993459)) + ((((((p0 - ((((p0).toUInt32 >>> ((1 : Int32).toUInt32 &&& Int32.toUInt32 31)).toInt32) &&& 1431655765)) &&& 858993459) + (((((p0 - ((((p0).toUInt32 >>> ((1 : Int32).toUInt32 &&& Int32.toUInt32 31)).toInt32) &&& 1431655765))).toUInt32 >>> ((2 : Int32).toUInt32 &&& Int32.toUInt32 31)).toInt32) &&& 858993459))).toUInt32 >>> ((4 : Int32).toUInt32 &&& Int32.toUInt32 31)).toInt32)) &&& 252645135) + ((((((((p0 - ((((p0).toUInt32 >>> ((1 : Int32).toUInt32 &&& Int32.toUInt32 31)).toInt32) &&& 1431655765)) &&& 858993459) + (((((p0 - ((((p0).toUInt32 >>> ((1 : Int32).toUInt32 &&& Int32.toUInt32 31)).toInt32) &&& 1431655765))).toUInt32 >>> ((2 : Int32).toUInt32 &&& Int32.toUInt32 31)).toInt32) &&& 858993459)) + ((((((p0 - ((((p0).toUInt32 >>> ((1 : Int32).toUInt32 &&& Int32.toUInt32 31)).toInt32) &&& 1431655765)) &&& 858993459) + (((((p0 - ((((p0).toUInt32 >>> ((1 : Int32).toUInt32 &&& Int32.toUInt32 31)).toInt32) &&& 1431655765))).toUInt32 >>> ((2 : Int32).toUInt32 &&& Int32.toUInt32 31)).toInt32) &&& 858993459))).toUInt32 >>> ((4 : Int32).toUInt32 &&& Int32.toUInt32 31)).toInt32)) &&& 252645135)).toUInt32 >>> ((8 : Int32).toUInt32 &&& Int32.toUInt32 31)).toInt32))).toUInt32 >>> ((16 : Int32).toUInt32 &&& Int32.toUInt32 31)).toInt32)) &&& 63), σ))
def f_X7_isVoiceCount (p0 : Int32) (σ : pv_S) : Option (Int32 × pv_S) := (if p0 < 0 then (some (0, σ)) else (if 10 < p0 then (some (0, σ)) else (some (1, σ))))
def f_X5_offer_36 (v1 : Int32) (v3 : Int32) (σ : pv_S) : Option pv_S := (gd v1 11 (some (pv_sa σ 5 v1 v3)))
def f_X5_offer (p0 : Int32) (p1 : Int32) (σ : pv_S) : Option pv_S := (Option.bind (f_X7_isVoiceCount p0 σ) (fun q1 => (if q1.1 = 0 then (some q1.2) else (gd p0 11 (if (pv_la q1.2 5 p0) = (-1) then (f_X5_offer_36 p0 (p1 + (p0 * (σ.1 3))) q1.2) else (gd p0 11 (if (pv_la q1.2 5 p0) ≤ (p1 + (p0 * (σ.1 3))) then (some q1.2) else (f_X5_offer_36 p0 (p1 + (p0 * (σ.1 3))) q1.2))))))))
def f_X5_findLeast_31 : Nat → Int32 → Int32 → pv_S → Option pv_S
  | 0, _, _, _ => none
  | n + 1, v1, v2, σ => (if v1 ≤ v2 then (some σ) else (gd (v1 + v2) 1024 (if 1000000 ≤ (pv_la σ 4 (v1 + v2)) then (f_X5_findLeast_31 n v1 (v2 + 1) σ) else (Option.bind (f_J6_bitCount_0f7a4 v2 σ) (fun q4 => (Option.bind (f_X5_offer ((σ.1 2) - q4.1) (pv_la σ 4 (v1 + v2)) q4.2) (fun q5 => (f_X5_findLeast_31 n v1 (v2 + 1) q5))))))))
def f_X5_findLeast (σ : pv_S) : Option pv_S := (Option.bind (f_J7_fill_53178_14 (-1) σ) (fun q1 => (if (q1.1 2) = 0 then (gd 0 11 (some (pv_sa q1 5 0 0))) else (Option.bind (f_X5_bit 0 q1) (fun q3 => (f_X5_findLeast_31 pv_FU q3.1 0 q3.2))))))
def f_X5_lineCost (p0 : Int32) (p1 : Int32) (σ : pv_S) : Option (Int32 × pv_S) := (if p0 < 0 then (some (1000000, σ)) else (if 10 ≤ p0 then (some (1000000, σ)) else (if p1 < 0 then (some (1000000, σ)) else (if 10 ≤ p1 then (some (1000000, σ)) else (gd ((p0 * 10) + p1) 100 (some ((pv_la σ 3 ((p0 * 10) + p1)), σ)))))))
def f_X5_weighLine_3 : Nat → Int32 → Int32 → Int32 → Int32 → pv_S → Option pv_S
  | 0, _, _, _, _, _ => none
  | n + 1, v1, v2, v3, v4, σ => (if v1 ≤ v4 then (some σ) else (if (v4 &&& v2) = 0 then (gd (((2 * v1) + v4) + v2) 1024 (gd (v1 + v4) 1024 (gd (((2 * v1) + v4) + v2) 1024 (f_X5_weighLine_3 n v1 v2 v3 (v4 + 1) (pv_sa σ 4 (((2 * v1) + v4) + v2) (if (v3 + (pv_la σ 4 (v1 + v4))) < (pv_la σ 4 (((2 * v1) + v4) + v2)) then (v3 + (pv_la σ 4 (v1 + v4))) else (pv_la σ 4 (((2 * v1) + v4) + v2)))))))) else (f_X5_weighLine_3 n v1 v2 v3 (v4 + 1) σ)))
def f_X5_weighLine (p0 : Int32) (p1 : Int32) (p2 : Int32) (σ : pv_S) : Option pv_S := (f_X5_weighLine_3 pv_FU p0 p1 p2 0 σ)
def f_X5_weighFrom_55 : Nat → Int32 → Int32 → Int32 → pv_S → Option pv_S
  | 0, _, _, _, _ => none
  | n + 1, v1, v2, v3, σ => (if (σ.1 2) ≤ v3 then (some σ) else (Option.bind (f_X5_lineCost v1 v3 σ) (fun q2 => (if 1000000 ≤ q2.1 then (f_X5_weighFrom_55 n v1 v2 (v3 + 1) q2.2) else (Option.bind (f_X5_bit v3 q2.2) (fun q4 => (Option.bind (f_X5_lineCost v1 v3 q4.2) (fun q5 => (Option.bind (f_X5_weighLine v2 q4.1 q5.1 q5.2) (fun q6 => (f_X5_weighFrom_55 n v1 v2 (v3 + 1) q6)))))))))))
def f_X5_weighFrom_10 : Nat → Int32 → Int32 → Int32 → pv_S → Option pv_S
  | 0, _, _, _, _ => none
  | n + 1, v1, v2, v3, σ => (if v2 ≤ v3 then (f_X5_weighFrom_55 pv_FU v1 v2 (v1 + 1) σ) else (gd (v2 + v3) 1024 (gd ((2 * v2) + v3) 1024 (gd ((3 * v2) + v3) 1024 (f_X5_weighFrom_10 n v1 v2 (v3 + 1) (pv_sa (pv_sa σ 4 ((2 * v2) + v3) (pv_la σ 4 (v2 + v3))) 4 ((3 * v2) + v3) 1000000))))))
def f_X5_weighFrom (p0 : Int32) (σ : pv_S) : Option pv_S := (Option.bind (f_X5_bit (p0 + 1) σ) (fun q1 => (f_X5_weighFrom_10 pv_FU p0 q1.1 0 q1.2)))
def f_X5_barredOr (p0 : Int32) (σ : pv_S) : Option (Int32 × pv_S) := (if p0 = (-1) then (some (1000000, σ)) else (some (p0, σ)))
def f_X5_weigh_167 : Nat → Int32 → pv_S → Option pv_S
  | 0, _, _ => none
  | n + 1, v2, σ => (if v2 < 0 then (Option.bind (f_X5_findLeast σ) (fun q2 => (some q2))) else (Option.bind (f_X5_weighFrom v2 σ) (fun q3 => (f_X5_weigh_167 n (v2 + (-1)) q3))))
def f_X5_weigh_124 (K69 : Int32 → Int32 → pv_S → Option pv_S) (K79 : Int32 → Int32 → Int32 → pv_S → Option pv_S) (v1 : Int32) (v2 : Int32) (v3 : Int32) (s0 : Int32) (s1 : Int32) (σ : pv_S) : Option pv_S := (gd s1 100 (K79 v1 v2 (v3 + 1) (pv_sa σ 3 s1 s0)))
def f_X5_weigh_79 (K69 : Int32 → Int32 → pv_S → Option pv_S) : Nat → Int32 → Int32 → Int32 → pv_S → Option pv_S
  | 0, _, _, _, _ => none
  | n + 1, v1, v2, v3, σ => (if (σ.1 2) ≤ v3 then (K69 v1 (v2 + 1) σ) else (if v2 = v1 then (f_X5_weigh_124 K69 (f_X5_weigh_79 K69 n) v1 v2 v3 1000000 ((v2 * 10) + v3) σ) else (if v3 = v1 then (f_X5_weigh_124 K69 (f_X5_weigh_79 K69 n) v1 v2 v3 1000000 ((v2 * 10) + v3) σ) else (Option.bind (f_X6_costToFollow v2 v3 σ) (fun q4 => (Option.bind (f_X5_barredOr q4.1 q4.2) (fun q5 => (f_X5_weigh_124 K69 (f_X5_weigh_79 K69 n) v1 v2 v3 q5.1 ((v2 * 10) + v3) q5.2))))))))
def f_X5_weigh_69 : Nat → Int32 → Int32 → pv_S → Option pv_S
  | 0, _, _, _ => none
  | n + 1, v1, v2, σ => (if (σ.1 2) ≤ v2 then (if (σ.1 2) ≤ 0 then (f_X5_weigh_167 pv_FU ((σ.1 2) - 2) σ) else (Option.bind (f_X5_bit ((σ.1 2) - 1) σ) (fun q3 => (gd q3.1 1024 (f_X5_weigh_167 pv_FU (((pv_sa q3.2 4 q3.1 0).1 2) - 2) (pv_sa q3.2 4 q3.1 0)))))) else (f_X5_weigh_79 (f_X5_weigh_69 n) pv_FU v1 v2 0 σ))
def f_X5_weigh_23 (v1 : Int32) (σ : pv_S) : Option pv_S := (Option.bind (f_X6_edition σ) (fun q1 => (Option.bind (f_X6_count (pv_pi (pv_pi q1.2 4 q1.1) 5 v1)) (fun q2 => (Option.bind (f_X6_valueOf 3 (pv_pi q2.2 2 (if 10 < q2.1 then 10 else q2.1))) (fun q3 => (f_X5_weigh_69 pv_FU v1 0 (pv_pi q3.2 3 q3.1))))))))
def f_X5_weigh (p0 : Int32) (σ : pv_S) : Option pv_S := (Option.bind (f_X6_edition σ) (fun q1 => (if (σ.1 4) = q1.1 then (if (q1.2.1 5) = p0 then (some q1.2) else (f_X5_weigh_23 p0 q1.2)) else (f_X5_weigh_23 p0 q1.2))))
def f_X7_weighed (σ : pv_S) : Option pv_S := (Option.bind (f_X5_weigh (-1) σ) (fun q1 => (some q1)))
def f_X5_fewest_2 : Nat → Int32 → pv_S → Option (Int32 × pv_S)
  | 0, _, _ => none
  | n + 1, v1, σ => (if 10 < v1 then (some (0, σ)) else (gd v1 11 (if (pv_la σ 5 v1) = (-1) then (f_X5_fewest_2 n (v1 + 1) σ) else (some (v1, σ)))))
def f_X5_fewest (σ : pv_S) : Option (Int32 × pv_S) := (f_X5_fewest_2 pv_FU 0 σ)
def f_X5_leastCost (p0 : Int32) (σ : pv_S) : Option (Int32 × pv_S) := (Option.bind (f_X7_isVoiceCount p0 σ) (fun q1 => (if q1.1 = 0 then (some ((-1), q1.2)) else (gd p0 11 (some ((pv_la q1.2 5 p0), q1.2))))))
def f_X5_cheapest_9 : Nat → Int32 → Int32 → pv_S → Option (Int32 × pv_S)
  | 0, _, _, _ => none
  | n + 1, v1, v2, σ => (if 10 < v2 then (some (v1, σ)) else (gd v2 11 (if (pv_la σ 5 v2) = (-1) then (f_X5_cheapest_9 n v1 (v2 + 1) σ) else (gd v2 11 (Option.bind (f_X5_leastCost v1 σ) (fun q5 => (if q5.1 ≤ (pv_la σ 5 v2) then (f_X5_cheapest_9 n v1 (v2 + 1) q5.2) else (f_X5_cheapest_9 n v2 (v2 + 1) q5.2))))))))
def f_X5_cheapest (σ : pv_S) : Option (Int32 × pv_S) := (Option.bind (f_X5_fewest σ) (fun q1 => (f_X5_cheapest_9 pv_FU q1.1 (q1.1 + 1) q1.2)))
def f_X5_cheapestCost (σ : pv_S) : Option (Int32 × pv_S) := (Option.bind (f_X5_cheapest σ) (fun q1 => (Option.bind (f_X5_leastCost q1.1 q1.2) (fun q2 => (some (q2.1, q2.2))))))
def f_X4_cross_122 (v5 : Int32) (v6 : Int32) (σ : pv_S) : Option (Int32 × pv_S) := (if v5 ≤ 0 then (some (0, σ)) else (if 0 ≤ v6 then (some (0, σ)) else (some (1, σ))))
def f_X4_cross (p0 : Int32) (p1 : Int32) (σ : pv_S) : Option (Int32 × pv_S) := (Option.bind (f_X6_next p0 σ) (fun q1 => (Option.bind (f_X6_next p1 q1.2) (fun q2 => (if q1.1 = (-1) then (some (0, q2.2)) else (if q2.1 = (-1) then (some (0, q2.2)) else (Option.bind (f_X6_on p0 q2.2) (fun q5 => (Option.bind (f_X6_on q2.1 q5.2) (fun q6 => (if q6.1 ≤ q5.1 then (some (0, q6.2)) else (Option.bind (f_X6_on p1 q6.2) (fun q8 => (Option.bind (f_X6_on q1.1 q8.2) (fun q9 => (if q8.1 < q9.1 then (Option.bind (f_X6_pitch p0 q9.2) (fun q11 => (Option.bind (f_X6_pitch p1 q11.2) (fun q12 => (Option.bind (f_X6_pitch q1.1 q12.2) (fun q13 => (Option.bind (f_X6_pitch q2.1 q13.2) (fun q14 => (if 0 ≤ (q11.1 - q12.1) then (f_X4_cross_122 (q11.1 - q12.1) (q13.1 - q14.1) q14.2) else (if 0 < (q13.1 - q14.1) then (some (1, q14.2)) else (f_X4_cross_122 (q11.1 - q12.1) (q13.1 - q14.1) q14.2))))))))))) else (some (0, q9.2))))))))))))))))))
def f_X4_crossings_19 (K4 : Int32 → Int32 → pv_S → Option (Int32 × pv_S)) : Nat → Int32 → Int32 → Int32 → pv_S → Option (Int32 × pv_S)
  | 0, _, _, _, _ => none
  | n + 1, v1, v2, v3, σ => (Option.bind (f_X6_count σ) (fun q1 => (if q1.1 ≤ v3 then (K4 v1 (v2 + 1) q1.2) else (Option.bind (f_X4_cross v2 v3 q1.2) (fun q3 => (if q3.1 = 0 then (f_X4_crossings_19 K4 n v1 v2 (v3 + 1) q3.2) else (f_X4_crossings_19 K4 n (v1 + 1) v2 (v3 + 1) q3.2)))))))
def f_X4_crossings_4 : Nat → Int32 → Int32 → pv_S → Option (Int32 × pv_S)
  | 0, _, _, _ => none
  | n + 1, v1, v2, σ => (Option.bind (f_X6_count σ) (fun q1 => (if q1.1 ≤ v2 then (some (v1, q1.2)) else (f_X4_crossings_19 (f_X4_crossings_4 n) pv_FU v1 v2 (v2 + 1) q1.2))))
def f_X4_crossings (σ : pv_S) : Option (Int32 × pv_S) := (f_X4_crossings_4 pv_FU 0 0 σ)
def f_X0_size (σ : pv_S) : Option (Int32 × pv_S) := (some ((σ.1 8), σ))
def f_X0_wrong_2 : Nat → Int32 → pv_S → Option (Int32 × pv_S)
  | 0, _, _ => none
  | n + 1, v2, σ => (if (σ.1 8) ≤ v2 then (some ((-1), σ)) else (if 20 ≤ v2 then (some ((-1), σ)) else (gd v2 20 (Option.bind (f_X5_leastCost (pv_la σ 11 v2) σ) (fun q4 => (gd v2 20 (if q4.1 = (pv_la q4.2 12 v2) then (f_X0_wrong_2 n (v2 + 1) q4.2) else (some (v2, q4.2)))))))))
def f_X0_wrong (σ : pv_S) : Option (Int32 × pv_S) := (f_X0_wrong_2 pv_FU 0 σ)
def f_X2_held (σ : pv_S) : Option (Int32 × pv_S) := (some ((σ.1 7), σ))
def f_X1_state (σ : pv_S) : Option (Int32 × pv_S) := (some ((σ.1 9), σ))
def f_X7_told_136 (v1 : Int32) (σ : pv_S) : Option (Int32 × pv_S) := (Option.bind (f_X6_valueOf (v1 - 7) σ) (fun q1 => (some (q1.1, q1.2))))
def f_X7_told (p0 : Int32) (σ : pv_S) : Option (Int32 × pv_S) := (if p0 = 0 then (Option.bind (f_X6_count σ) (fun q2 => (some (q2.1, q2.2)))) else (if p0 = 1 then (Option.bind (f_X7_standing σ) (fun q4 => (Option.bind (f_X4_countVoices q4) (fun q5 => (some (q5.1, q5.2)))))) else (if p0 = 2 then (Option.bind (f_X7_standing σ) (fun q7 => (Option.bind (f_X4_costOfAll q7) (fun q8 => (some (q8.1, q8.2)))))) else (if p0 = 3 then (Option.bind (f_X7_weighed σ) (fun q10 => (Option.bind (f_X5_fewest q10) (fun q11 => (some (q11.1, q11.2)))))) else (if p0 = 4 then (Option.bind (f_X7_weighed σ) (fun q13 => (Option.bind (f_X5_cheapest q13) (fun q14 => (some (q14.1, q14.2)))))) else (if p0 = 5 then (Option.bind (f_X7_weighed σ) (fun q16 => (Option.bind (f_X5_cheapestCost q16) (fun q17 => (some (q17.1, q17.2)))))) else (if p0 = 6 then (Option.bind (f_X4_crossings σ) (fun q19 => (some (q19.1, q19.2)))) else (if p0 = 7 then (f_X7_told_136 p0 σ) else (if p0 = 8 then (f_X7_told_136 p0 σ) else (if p0 = 9 then (f_X7_told_136 p0 σ) else (if p0 = 10 then (f_X7_told_136 p0 σ) else (if p0 = 11 then (f_X7_told_136 p0 σ) else (if p0 = 12 then (Option.bind (f_X0_size σ) (fun q26 => (some (q26.1, q26.2)))) else (if p0 = 13 then (Option.bind (f_X7_weighed σ) (fun q28 => (Option.bind (f_X0_wrong q28) (fun q29 => (some (q29.1, q29.2)))))) else (if p0 = 14 then (Option.bind (f_X2_held σ) (fun q31 => (some (q31.1, q31.2)))) else (if p0 = 15 then (Option.bind (f_X1_state σ) (fun q33 => (some (q33.1, q33.2)))) else (some ((-1000000002), σ))))))))))))))))))
def f_X4_ahead (p0 : Int32) (σ : pv_S) : Option (Int32 × pv_S) := (Option.bind (f_X6_has p0 σ) (fun q1 => (if q1.1 = 0 then (some ((-1), q1.2)) else (gd p0 10 (some ((pv_la q1.2 1 p0), q1.2))))))
def f_X4_voiceWith (p0 : Int32) (σ : pv_S) : Option (Int32 × pv_S) := (Option.bind (f_X6_has p0 σ) (fun q1 => (if q1.1 = 0 then (some ((-1), q1.2)) else (gd p0 10 (some ((pv_la q1.2 2 p0), q1.2))))))
def f_X5_price (p0 : Int32) (σ : pv_S) : Option (Int32 × pv_S) := (Option.bind (f_X5_weigh (-1) σ) (fun q1 => (Option.bind (f_X5_cheapestCost q1) (fun q2 => (Option.bind (f_X5_weigh p0 q2.2) (fun q3 => (Option.bind (f_X5_cheapestCost q3) (fun q4 => (some ((q2.1 - (q4.1 - (q4.2.1 3))), q4.2))))))))))
def f_X6_countFollowers_4 : Nat → Int32 → Int32 → Int32 → pv_S → Option (Int32 × pv_S)
  | 0, _, _, _, _ => none
  | n + 1, v1, v2, v3, σ => (Option.bind (f_X6_count σ) (fun q1 => (if q1.1 ≤ v3 then (some (v2, q1.2)) else (Option.bind (f_X6_mayFollow v1 v3 q1.2) (fun q3 => (if q3.1 = 0 then (f_X6_countFollowers_4 n v1 v2 (v3 + 1) q3.2) else (f_X6_countFollowers_4 n v1 (v2 + 1) (v3 + 1) q3.2)))))))
def f_X6_countFollowers (p0 : Int32) (σ : pv_S) : Option (Int32 × pv_S) := (f_X6_countFollowers_4 pv_FU p0 0 0 σ)
def f_X7_at (p0 : Int32) (p1 : Int32) (σ : pv_S) : Option (Int32 × pv_S) := (Option.bind (f_X6_has p0 σ) (fun q1 => (if q1.1 = 0 then (some ((-1000000001), q1.2)) else (if p1 = 0 then (Option.bind (f_X6_on p0 q1.2) (fun q4 => (some (q4.1, q4.2)))) else (if p1 = 1 then (Option.bind (f_X6_off p0 q1.2) (fun q6 => (some (q6.1, q6.2)))) else (if p1 = 2 then (Option.bind (f_X6_pitch p0 q1.2) (fun q8 => (some (q8.1, q8.2)))) else (if p1 = 3 then (Option.bind (f_X6_next p0 q1.2) (fun q10 => (some (q10.1, q10.2)))) else (if p1 = 4 then (Option.bind (f_X7_standing q1.2) (fun q12 => (Option.bind (f_X4_ahead p0 q12) (fun q13 => (some (q13.1, q13.2)))))) else (if p1 = 5 then (Option.bind (f_X7_standing q1.2) (fun q15 => (Option.bind (f_X4_voiceWith p0 q15) (fun q16 => (some (q16.1, q16.2)))))) else (if p1 = 6 then (Option.bind (f_X5_price p0 q1.2) (fun q18 => (some (q18.1, q18.2)))) else (if p1 = 7 then (Option.bind (f_X6_countFollowers p0 q1.2) (fun q20 => (some (q20.1, q20.2)))) else (some ((-1000000002), q1.2)))))))))))))
def f_X7_cost (p0 : Int32) (p1 : Int32) (σ : pv_S) : Option (Int32 × pv_S) := (Option.bind (f_X6_has p0 σ) (fun q1 => (if q1.1 = 0 then (some ((-1000000001), q1.2)) else (Option.bind (f_X6_has p1 q1.2) (fun q3 => (if q3.1 = 0 then (some ((-1000000001), q3.2)) else (Option.bind (f_X6_costToFollow p0 p1 q3.2) (fun q5 => (some (q5.1, q5.2))))))))))
def f_X7_least (p0 : Int32) (σ : pv_S) : Option (Int32 × pv_S) := (Option.bind (f_X7_isVoiceCount p0 σ) (fun q1 => (if q1.1 = 0 then (some ((-1000000002), q1.2)) else (Option.bind (f_X7_weighed q1.2) (fun q3 => (Option.bind (f_X5_leastCost p0 q3) (fun q4 => (some (q4.1, q4.2)))))))))
def f_X5_leastBehind_37 : Nat → Int32 → Int32 → Int32 → Int32 → Int32 → pv_S → Option (Int32 × pv_S)
  | 0, _, _, _, _, _, _ => none
  | n + 1, v2, v3, v4, v5, v6, σ => (if v4 ≤ v6 then (some (v5, σ)) else (if (v6 &&& v3) = 0 then (Option.bind (f_J6_bitCount_0f7a4 v6 σ) (fun q3 => (if q3.1 = v2 then (gd (v4 + v6) 1024 (f_X5_leastBehind_37 n v2 v3 v4 (if (pv_la q3.2 4 (v4 + v6)) < v5 then (pv_la q3.2 4 (v4 + v6)) else v5) (v6 + 1) q3.2)) else (f_X5_leastBehind_37 n v2 v3 v4 v5 (v6 + 1) q3.2)))) else (f_X5_leastBehind_37 n v2 v3 v4 v5 (v6 + 1) σ)))
def f_X5_leastBehind (p0 : Int32) (p1 : Int32) (p2 : Int32) (σ : pv_S) : Option (Int32 × pv_S) := (if (p0 + 1) < (σ.1 2) then (Option.bind (f_X5_bit (p0 + 1) σ) (fun q2 => (f_X5_leastBehind_37 pv_FU p1 p2 q2.1 1000000 0 q2.2))) else (if p1 = 0 then (some (0, σ)) else (some (1000000, σ))))
def f_X5_firstNext_19 : Nat → Int32 → Int32 → Int32 → Int32 → Int32 → pv_S → Option (Int32 × pv_S)
  | 0, _, _, _, _, _, _ => none
  | n + 1, v1, v2, v3, v4, v5, σ => (if (σ.1 2) ≤ v5 then (some ((-1), σ)) else (Option.bind (f_X5_bit v5 σ) (fun q2 => (if (v4 &&& q2.1) = 0 then (Option.bind (f_X5_lineCost v1 v5 q2.2) (fun q4 => (Option.bind (f_X5_leastBehind v1 (v3 - 1) (v4 ||| q2.1) q4.2) (fun q5 => (if (q4.1 + q5.1) = v2 then (some (v5, q5.2)) else (f_X5_firstNext_19 n v1 v2 v3 v4 (v5 + 1) q5.2)))))) else (f_X5_firstNext_19 n v1 v2 v3 v4 (v5 + 1) q2.2)))))
def f_X5_firstNext (p0 : Int32) (p1 : Int32) (p2 : Int32) (p3 : Int32) (σ : pv_S) : Option (Int32 × pv_S) := (Option.bind (f_X5_leastBehind p0 p2 p3 σ) (fun q1 => (if q1.1 = p1 then (some ((-1), q1.2)) else (f_X5_firstNext_19 pv_FU p0 p1 p2 p3 (p0 + 1) q1.2))))
def f_X5_choose_37 : Nat → Int32 → Int32 → Int32 → Int32 → pv_S → Option (Int32 × pv_S)
  | 0, _, _, _, _, _ => none
  | n + 1, v2, v3, v4, v5, σ => (if (σ.1 2) ≤ v5 then (some (1, σ)) else (Option.bind (f_X5_firstNext v5 v2 v3 v4 σ) (fun q2 => (gd v5 10 (if q2.1 = (-1) then (f_X5_choose_37 n v2 v3 v4 (v5 + 1) (pv_sa q2.2 6 v5 q2.1)) else (Option.bind (f_X5_lineCost v5 q2.1 (pv_sa q2.2 6 v5 q2.1)) (fun q5 => (Option.bind (f_X5_bit q2.1 q5.2) (fun q6 => (f_X5_choose_37 n (v2 - q5.1) (v3 + (-1)) (v4 ||| q6.1) (v5 + 1) q6.2))))))))))
def f_X5_choose (p0 : Int32) (σ : pv_S) : Option (Int32 × pv_S) := (Option.bind (f_X5_leastCost p0 σ) (fun q1 => (if q1.1 = (-1) then (some (0, q1.2)) else (Option.bind (f_X5_leastCost p0 q1.2) (fun q3 => (f_X5_choose_37 pv_FU (q3.1 - (p0 * (q3.2.1 3))) ((q3.2.1 2) - p0) 0 0 q3.2))))))
def f_X5_chosen (p0 : Int32) (σ : pv_S) : Option (Int32 × pv_S) := (if p0 < 0 then (some ((-1), σ)) else (if 10 ≤ p0 then (some ((-1), σ)) else (gd p0 10 (some ((pv_la σ 6 p0), σ)))))
def f_X7_first (p0 : Int32) (p1 : Int32) (σ : pv_S) : Option (Int32 × pv_S) := (Option.bind (f_X6_has p1 σ) (fun q1 => (if q1.1 = 0 then (some ((-1000000001), q1.2)) else (Option.bind (f_X7_isVoiceCount p0 q1.2) (fun q3 => (if q3.1 = 0 then (some ((-1000000002), q3.2)) else (Option.bind (f_X7_weighed q3.2) (fun q5 => (Option.bind (f_X5_choose p0 q5) (fun q6 => (if q6.1 = 0 then (some ((-1000000003), q6.2)) else (Option.bind (f_X5_chosen p1 q6.2) (fun q8 => (some (q8.1, q8.2)))))))))))))))
def f_X4_hasVoice (p0 : Int32) (σ : pv_S) : Option (Int32 × pv_S) := (if p0 < 0 then (some (0, σ)) else (if (σ.1 1) ≤ p0 then (some (0, σ)) else (some (1, σ))))
def f_X4_isIn (p0 : Int32) (p1 : Int32) (σ : pv_S) : Option (Int32 × pv_S) := (Option.bind (f_X6_has p1 σ) (fun q1 => (if q1.1 = 0 then (some (0, q1.2)) else (gd p1 10 (if (pv_la q1.2 2 p1) = p0 then (some (1, q1.2)) else (some (0, q1.2)))))))
def f_X4_size_4 : Nat → Int32 → Int32 → Int32 → pv_S → Option (Int32 × pv_S)
  | 0, _, _, _, _ => none
  | n + 1, v1, v2, v3, σ => (Option.bind (f_X6_count σ) (fun q1 => (if q1.1 ≤ v3 then (some (v2, q1.2)) else (Option.bind (f_X4_isIn v1 v3 q1.2) (fun q3 => (if q3.1 = 0 then (f_X4_size_4 n v1 v2 (v3 + 1) q3.2) else (f_X4_size_4 n v1 (v2 + 1) (v3 + 1) q3.2)))))))
def f_X4_size (p0 : Int32) (σ : pv_S) : Option (Int32 × pv_S) := (f_X4_size_4 pv_FU p0 0 0 σ)
def f_X4_noteOf_5 : Nat → Int32 → Int32 → Int32 → Int32 → pv_S → Option (Int32 × pv_S)
  | 0, _, _, _, _, _ => none
  | n + 1, v1, v2, v3, v4, σ => (Option.bind (f_X6_count σ) (fun q1 => (if q1.1 ≤ v4 then (some ((-1), q1.2)) else (Option.bind (f_X4_isIn v1 v4 q1.2) (fun q3 => (if q3.1 = 0 then (f_X4_noteOf_5 n v1 v2 v3 (v4 + 1) q3.2) else (if v3 = v2 then (some (v4, q3.2)) else (f_X4_noteOf_5 n v1 v2 (v3 + 1) (v4 + 1) q3.2))))))))
def f_X4_noteOf (p0 : Int32) (p1 : Int32) (σ : pv_S) : Option (Int32 × pv_S) := (f_X4_noteOf_5 pv_FU p0 p1 0 0 σ)
def f_X4_lowest_16 : Nat → Int32 → Int32 → Int32 → pv_S → Option (Int32 × pv_S)
  | 0, _, _, _, _ => none
  | n + 1, v1, v2, v3, σ => (Option.bind (f_X6_count σ) (fun q1 => (if q1.1 ≤ v3 then (some (v2, q1.2)) else (Option.bind (f_X4_isIn v1 v3 q1.2) (fun q3 => (if q3.1 = 0 then (f_X4_lowest_16 n v1 v2 (v3 + 1) q3.2) else (Option.bind (f_X6_pitch v3 q3.2) (fun q5 => (f_X4_lowest_16 n v1 (if q5.1 < v2 then q5.1 else v2) (v3 + 1) q5.2)))))))))
def f_X4_lowest (p0 : Int32) (σ : pv_S) : Option (Int32 × pv_S) := (Option.bind (f_X4_noteOf p0 0 σ) (fun q1 => (Option.bind (f_X6_pitch q1.1 q1.2) (fun q2 => (f_X4_lowest_16 pv_FU p0 q2.1 0 q2.2)))))
def f_X4_highest_16 : Nat → Int32 → Int32 → Int32 → pv_S → Option (Int32 × pv_S)
  | 0, _, _, _, _ => none
  | n + 1, v1, v2, v3, σ => (Option.bind (f_X6_count σ) (fun q1 => (if q1.1 ≤ v3 then (some (v2, q1.2)) else (Option.bind (f_X4_isIn v1 v3 q1.2) (fun q3 => (if q3.1 = 0 then (f_X4_highest_16 n v1 v2 (v3 + 1) q3.2) else (Option.bind (f_X6_pitch v3 q3.2) (fun q5 => (f_X4_highest_16 n v1 (if v2 < q5.1 then q5.1 else v2) (v3 + 1) q5.2)))))))))
def f_X4_highest (p0 : Int32) (σ : pv_S) : Option (Int32 × pv_S) := (Option.bind (f_X4_noteOf p0 0 σ) (fun q1 => (Option.bind (f_X6_pitch q1.1 q1.2) (fun q2 => (f_X4_highest_16 pv_FU p0 q2.1 0 q2.2)))))
def f_X4_rests_4 : Nat → Int32 → Int32 → Int32 → pv_S → Option (Int32 × pv_S)
  | 0, _, _, _, _ => none
  | n + 1, v1, v2, v3, σ => (Option.bind (f_X6_count σ) (fun q1 => (if q1.1 ≤ v3 then (some (v2, q1.2)) else (Option.bind (f_X6_next v3 q1.2) (fun q3 => (Option.bind (f_X4_isIn v1 v3 q3.2) (fun q4 => (if q4.1 = 0 then (f_X4_rests_4 n v1 v2 (v3 + 1) q4.2) else (if q3.1 = (-1) then (f_X4_rests_4 n v1 v2 (v3 + 1) q4.2) else (Option.bind (f_X6_on q3.1 q4.2) (fun q7 => (Option.bind (f_X6_off v3 q7.2) (fun q8 => (f_X4_rests_4 n v1 (v2 + (q7.1 - q8.1)) (v3 + 1) q8.2))))))))))))))
def f_X4_rests (p0 : Int32) (σ : pv_S) : Option (Int32 × pv_S) := (f_X4_rests_4 pv_FU p0 0 0 σ)
def f_X4_costOf_11 : Nat → Int32 → Int32 → Int32 → pv_S → Option (Int32 × pv_S)
  | 0, _, _, _, _ => none
  | n + 1, v1, v2, v3, σ => (Option.bind (f_X6_count σ) (fun q1 => (if q1.1 ≤ v3 then (some (v2, q1.2)) else (Option.bind (f_X4_isIn v1 v3 q1.2) (fun q3 => (if q3.1 = 0 then (f_X4_costOf_11 n v1 v2 (v3 + 1) q3.2) else (Option.bind (f_X4_costBehind v3 q3.2) (fun q5 => (f_X4_costOf_11 n v1 (v2 + q5.1) (v3 + 1) q5.2)))))))))
def f_X4_costOf (p0 : Int32) (σ : pv_S) : Option (Int32 × pv_S) := (Option.bind (f_X6_valueOf 3 σ) (fun q1 => (f_X4_costOf_11 pv_FU p0 q1.1 0 q1.2)))
def f_X7_voice (p0 : Int32) (p1 : Int32) (σ : pv_S) : Option (Int32 × pv_S) := (Option.bind (f_X7_standing σ) (fun q1 => (Option.bind (f_X4_hasVoice p0 q1) (fun q2 => (if q2.1 = 0 then (some ((-1000000001), q2.2)) else (if p1 = 0 then (Option.bind (f_X4_size p0 q2.2) (fun q5 => (some (q5.1, q5.2)))) else (if p1 = 1 then (Option.bind (f_X4_noteOf p0 0 q2.2) (fun q7 => (some (q7.1, q7.2)))) else (if p1 = 2 then (Option.bind (f_X4_size p0 q2.2) (fun q9 => (Option.bind (f_X4_noteOf p0 (q9.1 - 1) q9.2) (fun q10 => (some (q10.1, q10.2)))))) else (if p1 = 3 then (Option.bind (f_X4_lowest p0 q2.2) (fun q12 => (some (q12.1, q12.2)))) else (if p1 = 4 then (Option.bind (f_X4_highest p0 q2.2) (fun q14 => (some (q14.1, q14.2)))) else (if p1 = 5 then (Option.bind (f_X4_rests p0 q2.2) (fun q16 => (some (q16.1, q16.2)))) else (if p1 = 6 then (Option.bind (f_X4_costOf p0 q2.2) (fun q18 => (some (q18.1, q18.2)))) else (some ((-1000000002), q2.2))))))))))))))
def f_X7_member (p0 : Int32) (p1 : Int32) (σ : pv_S) : Option (Int32 × pv_S) := (Option.bind (f_X7_standing σ) (fun q1 => (Option.bind (f_X4_hasVoice p0 q1) (fun q2 => (if q2.1 = 0 then (some ((-1000000001), q2.2)) else (if 0 ≤ p1 then (Option.bind (f_X4_noteOf p0 p1 q2.2) (fun q5 => (some (q5.1, q5.2)))) else (some ((-1000000002), q2.2))))))))
def f_X6_canBe (p0 : Int32) (p1 : Int32) (p2 : Int32) (σ : pv_S) : Option (Int32 × pv_S) := (if p0 < 0 then (some (0, σ)) else (if 99 < p0 then (some (0, σ)) else (if p1 < 1 then (some (0, σ)) else (if 32 < p1 then (some (0, σ)) else (if p2 < 0 then (some (0, σ)) else (if 127 < p2 then (some (0, σ)) else (some (1, σ))))))))
def f_X6_isFull (σ : pv_S) : Option (Int32 × pv_S) := (gd 0 46 (if (pv_la σ 0 0) < 10 then (some (0, σ)) else (some (1, σ))))
def f_X6_fitsOn_16 (p1 : Int32) (σ : pv_S) : Option (Int32 × pv_S) := (if p1 < 0 then (some (0, σ)) else (if (736 / 46) ≤ p1 then (some (0, σ)) else (some (1, σ))))
def f_X6_copyTo_16 (p1 : Int32) (σ : pv_S) : Option pv_S := (Option.bind (f_X6_fitsOn_16 p1 σ) (fun q1 => (if q1.1 = 0 then (some q1.2) else (gc 0 (p1 * 46) 46 46 736 (some (pv_cp q1.2 0 7 0 (p1 * 46) 46))))))
def f_X2_record (σ : pv_S) : Option pv_S := (Option.bind (f_X6_copyTo_16 (σ.1 6) σ) (fun q1 => (some (pv_pi (pv_pi q1 6 (((q1.1 6) + 1) - ((q1.1 6) + 1) / 16 * 16)) 7 (if 16 < (((pv_pi q1 6 (((q1.1 6) + 1) - ((q1.1 6) + 1) / 16 * 16)).1 7) + 1) then 16 else (((pv_pi q1 6 (((q1.1 6) + 1) - ((q1.1 6) + 1) / 16 * 16)).1 7) + 1))))))
def f_X6_orderKey (p0 : Int32) (p1 : Int32) (p2 : Int32) (σ : pv_S) : Option (Int32 × pv_S) := (some (((((p0 * 128) + p2) * 64) + p1), σ))
def f_X6_length (p0 : Int32) (σ : pv_S) : Option (Int32 × pv_S) := (Option.bind (f_X6_cell p0 1 σ) (fun q1 => (some (q1.1, q1.2))))
def f_X6_placeFor_11 : Nat → Int32 → Int32 → pv_S → Option (Int32 × pv_S)
  | 0, _, _, _ => none
  | n + 1, v4, v5, σ => (Option.bind (f_X6_count σ) (fun q1 => (if q1.1 ≤ v5 then (some (v5, q1.2)) else (Option.bind (f_X6_on v5 q1.2) (fun q3 => (Option.bind (f_X6_length v5 q3.2) (fun q4 => (Option.bind (f_X6_pitch v5 q4.2) (fun q5 => (Option.bind (f_X6_orderKey q3.1 q4.1 q5.1 q5.2) (fun q6 => (if v4 < q6.1 then (some (v5, q6.2)) else (f_X6_placeFor_11 n v4 (v5 + 1) q6.2)))))))))))))
def f_X6_placeFor (p0 : Int32) (p1 : Int32) (p2 : Int32) (σ : pv_S) : Option (Int32 × pv_S) := (Option.bind (f_X6_orderKey p0 p1 p2 σ) (fun q1 => (f_X6_placeFor_11 pv_FU q1.1 0 q1.2)))
def f_X6_link (p0 : Int32) (p1 : Int32) (σ : pv_S) : Option pv_S := (Option.bind (f_X6_has p0 σ) (fun q1 => (if q1.1 = 0 then (some q1.2) else (gd ((6 + (p0 * 4)) + 3) 46 (some (pv_sa q1.2 0 ((6 + (p0 * 4)) + 3) p1))))))
def f_X6_changed_12 : Nat → Int32 → pv_S → Option pv_S
  | 0, _, _ => none
  | n + 1, v1, σ => (Option.bind (f_X6_count σ) (fun q1 => (if q1.1 ≤ v1 then (some q1.2) else (Option.bind (f_X6_link v1 (-1) q1.2) (fun q3 => (f_X6_changed_12 n (v1 + 1) q3))))))
def f_X6_changed (σ : pv_S) : Option pv_S := (f_X6_changed_12 pv_FU 0 (pv_pi σ 0 ((σ.1 0) + 1)))
def f_X6_bring (p0 : Int32) (p1 : Int32) (p2 : Int32) (σ : pv_S) : Option (Int32 × pv_S) := (Option.bind (f_X6_count σ) (fun q1 => (if q1.1 < 0 then (some ((-1000000004), q1.2)) else (if q1.1 < 10 then (Option.bind (f_X6_placeFor p0 p1 p2 q1.2) (fun q4 => (gc (6 + (q4.1 * 4)) ((6 + (q4.1 * 4)) + 4) ((q1.1 - q4.1) * 4) 46 46 (gd ((6 + (q4.1 * 4)) + 0) 46 (gd ((6 + (q4.1 * 4)) + 1) 46 (gd ((6 + (q4.1 * 4)) + 2) 46 (gd 0 46 (Option.bind (f_X6_changed (pv_sa (pv_sa (pv_sa (pv_sa (pv_cp q4.2 0 0 (6 + (q4.1 * 4)) ((6 + (q4.1 * 4)) + 4) ((q1.1 - q4.1) * 4)) 0 ((6 + (q4.1 * 4)) + 0) p0) 0 ((6 + (q4.1 * 4)) + 1) p1) 0 ((6 + (q4.1 * 4)) + 2) p2) 0 0 (q1.1 + 1))) (fun q10 => (some (q4.1, q10))))))))))) else (some ((-1000000004), q1.2))))))
def f_X7_note (p0 : Int32) (p1 : Int32) (p2 : Int32) (σ : pv_S) : Option (Int32 × pv_S) := (Option.bind (f_X6_canBe p0 p1 p2 σ) (fun q1 => (if q1.1 = 0 then (some ((-1000000002), q1.2)) else (Option.bind (f_X6_isFull q1.2) (fun q3 => (if q3.1 = 0 then (Option.bind (f_X2_record q3.2) (fun q5 => (Option.bind (f_X6_bring p0 p1 p2 q5) (fun q6 => (some (q6.1, q6.2)))))) else (some ((-1000000004), q3.2))))))))
def f_X6_drop (p0 : Int32) (σ : pv_S) : Option pv_S := (Option.bind (f_X6_has p0 σ) (fun q1 => (if q1.1 = 0 then (some q1.2) else (Option.bind (f_X6_count q1.2) (fun q3 => (gc ((6 + (p0 * 4)) + 4) (6 + (p0 * 4)) (((q3.1 - 1) - p0) * 4) 46 46 (Option.bind (f_X6_count (pv_cp q3.2 0 0 ((6 + (p0 * 4)) + 4) (6 + (p0 * 4)) (((q3.1 - 1) - p0) * 4))) (fun q5 => (gd 0 46 (Option.bind (f_X6_changed (pv_sa q5.2 0 0 (q5.1 - 1))) (fun q7 => (some q7))))))))))))
def f_X7_take (p0 : Int32) (σ : pv_S) : Option (Int32 × pv_S) := (Option.bind (f_X6_has p0 σ) (fun q1 => (if q1.1 = 0 then (some ((-1000000001), q1.2)) else (Option.bind (f_X2_record q1.2) (fun q3 => (Option.bind (f_X6_drop p0 q3) (fun q4 => (Option.bind (f_X6_count q4) (fun q5 => (some (q5.1, q5.2)))))))))))
def f_X7_move (p0 : Int32) (p1 : Int32) (p2 : Int32) (p3 : Int32) (σ : pv_S) : Option (Int32 × pv_S) := (Option.bind (f_X6_has p0 σ) (fun q1 => (if q1.1 = 0 then (some ((-1000000001), q1.2)) else (Option.bind (f_X6_canBe p1 p2 p3 q1.2) (fun q3 => (if q3.1 = 0 then (some ((-1000000002), q3.2)) else (Option.bind (f_X2_record q3.2) (fun q5 => (Option.bind (f_X6_drop p0 q5) (fun q6 => (Option.bind (f_X6_bring p1 p2 p3 q6) (fun q7 => (some (q7.1, q7.2))))))))))))))
def f_X7_share (p0 : Int32) (σ : pv_S) : Option (Int32 × pv_S) := (Option.bind (f_X6_has p0 σ) (fun q1 => (if q1.1 = 0 then (some ((-1000000001), q1.2)) else (Option.bind (f_X6_isFull q1.2) (fun q3 => (if q3.1 = 0 then (Option.bind (f_X2_record q3.2) (fun q5 => (Option.bind (f_X6_on p0 q5) (fun q6 => (Option.bind (f_X6_length p0 q6.2) (fun q7 => (Option.bind (f_X6_pitch p0 q7.2) (fun q8 => (Option.bind (f_X6_bring q6.1 q7.1 q8.1 q8.2) (fun q9 => (some (q9.1, q9.2)))))))))))) else (some ((-1000000004), q3.2))))))))
def f_X6_canBeTerm (p0 : Int32) (p1 : Int32) (σ : pv_S) : Option (Int32 × pv_S) := (if p0 < 0 then (some (0, σ)) else (if 5 ≤ p0 then (some (0, σ)) else (if p1 < 0 then (some (0, σ)) else (gd p0 5 (if (pv_gt p0.toNatClampNeg) < p1 then (some (0, σ)) else (some (1, σ)))))))
def f_X6_changeTerm (p0 : Int32) (p1 : Int32) (σ : pv_S) : Option (Int32 × pv_S) := (Option.bind (f_X6_valueOf p0 σ) (fun q1 => (if p0 < 0 then (some (q1.1, q1.2)) else (if 5 ≤ p0 then (some (q1.1, q1.2)) else (gd (1 + p0) 46 (Option.bind (f_X6_changed (pv_sa q1.2 0 (1 + p0) p1)) (fun q5 => (some (q1.1, q5)))))))))
def f_X7_term (p0 : Int32) (p1 : Int32) (σ : pv_S) : Option (Int32 × pv_S) := (Option.bind (f_X6_canBeTerm p0 p1 σ) (fun q1 => (if q1.1 = 0 then (some ((-1000000002), q1.2)) else (Option.bind (f_X2_record q1.2) (fun q3 => (Option.bind (f_X6_changeTerm p0 p1 q3) (fun q4 => (some (q4.1, q4.2)))))))))
def f_X7_follow (p0 : Int32) (p1 : Int32) (σ : pv_S) : Option (Int32 × pv_S) := (Option.bind (f_X6_has p0 σ) (fun q1 => (if q1.1 = 0 then (some ((-1000000001), q1.2)) else (Option.bind (f_X6_has p1 q1.2) (fun q3 => (if q3.1 = 0 then (some ((-1000000001), q3.2)) else (Option.bind (f_X6_mayFollow p0 p1 q3.2) (fun q5 => (if q5.1 = 0 then (some ((-1000000003), q5.2)) else (Option.bind (f_X2_record q5.2) (fun q7 => (Option.bind (f_X7_standing q7) (fun q8 => (Option.bind (f_X4_ahead p1 q8) (fun q9 => (Option.bind (f_X6_link q9.1 (-1) q9.2) (fun q10 => (Option.bind (f_X6_link p0 p1 q10) (fun q11 => (Option.bind (f_X6_costToFollow p0 p1 q11) (fun q12 => (some (q12.1, q12.2)))))))))))))))))))))))
def f_X7_cut (p0 : Int32) (σ : pv_S) : Option (Int32 × pv_S) := (Option.bind (f_X6_has p0 σ) (fun q1 => (if q1.1 = 0 then (some ((-1000000001), q1.2)) else (Option.bind (f_X2_record q1.2) (fun q3 => (Option.bind (f_X6_next p0 q3) (fun q4 => (Option.bind (f_X6_link p0 (-1) q4.2) (fun q5 => (some (q4.1, q5)))))))))))
def f_X7_part_59 : Nat → Int32 → pv_S → Option (Int32 × pv_S)
  | 0, _, _ => none
  | n + 1, v4, σ => (Option.bind (f_X6_count σ) (fun q1 => (if q1.1 ≤ v4 then (Option.bind (f_X7_standing q1.2) (fun q3 => (Option.bind (f_X4_costOfAll q3) (fun q4 => (some (q4.1, q4.2)))))) else (Option.bind (f_X5_chosen v4 q1.2) (fun q5 => (Option.bind (f_X6_link v4 q5.1 q5.2) (fun q6 => (f_X7_part_59 n (v4 + 1) q6))))))))
def f_X7_part_33 (s0 : Int32) (σ : pv_S) : Option (Int32 × pv_S) := (Option.bind (f_X5_choose s0 σ) (fun q1 => (if q1.1 = 0 then (some ((-1000000003), q1.2)) else (Option.bind (f_X2_record q1.2) (fun q3 => (f_X7_part_59 pv_FU 0 q3))))))
def f_X7_part_15 (v1 : Int32) (σ : pv_S) : Option (Int32 × pv_S) := (Option.bind (f_X7_weighed σ) (fun q1 => (if v1 = (-1) then (Option.bind (f_X5_cheapest q1) (fun q3 => (f_X7_part_33 q3.1 q3.2))) else (f_X7_part_33 v1 q1))))
def f_X7_part (p0 : Int32) (σ : pv_S) : Option (Int32 × pv_S) := (if p0 = (-1) then (f_X7_part_15 p0 σ) else (Option.bind (f_X7_isVoiceCount p0 σ) (fun q2 => (if q2.1 = 0 then (some ((-1000000002), q2.2)) else (f_X7_part_15 p0 q2.2)))))
def f_X4_canMend (p0 : Int32) (p1 : Int32) (σ : pv_S) : Option (Int32 × pv_S) := (Option.bind (f_X4_cross p0 p1 σ) (fun q1 => (if q1.1 = 0 then (some (0, q1.2)) else (Option.bind (f_X6_next p1 q1.2) (fun q3 => (Option.bind (f_X6_mayFollow p0 q3.1 q3.2) (fun q4 => (if q4.1 = 0 then (some (0, q4.2)) else (Option.bind (f_X6_next p0 q4.2) (fun q6 => (Option.bind (f_X6_mayFollow p1 q6.1 q6.2) (fun q7 => (if q7.1 = 0 then (some (0, q7.2)) else (some (1, q7.2)))))))))))))))
def f_X4_mendFirst_17 (K2 : Int32 → pv_S → Option (Int32 × pv_S)) : Nat → Int32 → Int32 → pv_S → Option (Int32 × pv_S)
  | 0, _, _, _ => none
  | n + 1, v1, v2, σ => (Option.bind (f_X6_count σ) (fun q1 => (if q1.1 ≤ v2 then (K2 (v1 + 1) q1.2) else (Option.bind (f_X4_canMend v1 v2 q1.2) (fun q3 => (if q3.1 = 0 then (f_X4_mendFirst_17 K2 n v1 (v2 + 1) q3.2) else (Option.bind (f_X6_next v1 q3.2) (fun q5 => (Option.bind (f_X6_next v2 q5.2) (fun q6 => (Option.bind (f_X6_link v1 q6.1 q6.2) (fun q7 => (Option.bind (f_X6_link v2 q5.1 q7) (fun q8 => (some (1, q8))))))))))))))))
def f_X4_mendFirst_2 : Nat → Int32 → pv_S → Option (Int32 × pv_S)
  | 0, _, _ => none
  | n + 1, v1, σ => (Option.bind (f_X6_count σ) (fun q1 => (if q1.1 ≤ v1 then (some (0, q1.2)) else (f_X4_mendFirst_17 (f_X4_mendFirst_2 n) pv_FU v1 (v1 + 1) q1.2))))
def f_X4_mendFirst (σ : pv_S) : Option (Int32 × pv_S) := (f_X4_mendFirst_2 pv_FU 0 σ)
def f_X4_mendCrossings_2 : Nat → Int32 → pv_S → Option (Int32 × pv_S)
  | 0, _, _ => none
  | n + 1, v1, σ => (if 50 ≤ v1 then (some (v1, σ)) else (Option.bind (f_X4_mendFirst σ) (fun q2 => (if q2.1 = 0 then (some (v1, q2.2)) else (f_X4_mendCrossings_2 n (v1 + 1) q2.2)))))
def f_X4_mendCrossings (σ : pv_S) : Option (Int32 × pv_S) := (f_X4_mendCrossings_2 pv_FU 0 σ)
def f_X7_mend (σ : pv_S) : Option (Int32 × pv_S) := (Option.bind (f_X2_record σ) (fun q1 => (Option.bind (f_X4_mendCrossings q1) (fun q2 => (some (q2.1, q2.2))))))
def f_X6_dropAll (σ : pv_S) : Option pv_S := (gd 0 46 (Option.bind (f_X6_changed (pv_sa σ 0 0 0)) (fun q2 => (some q2))))
def f_X7_clear (σ : pv_S) : Option (Int32 × pv_S) := (Option.bind (f_X2_record σ) (fun q1 => (Option.bind (f_X6_count q1) (fun q2 => (Option.bind (f_X6_dropAll q2.2) (fun q3 => (some (q2.1, q3))))))))
def f_X1_draw (p0 : Int32) (σ : pv_S) : Option (Int32 × pv_S) := (if 1 ≤ p0 then (gn p0 (some (((((pv_pi σ 9 ((((σ.1 9) * 1103515245) + 12345) &&& 2147483647)).1 9) / 65536) - (((pv_pi σ 9 ((((σ.1 9) * 1103515245) + 12345) &&& 2147483647)).1 9) / 65536) / p0 * p0), (pv_pi σ 9 ((((σ.1 9) * 1103515245) + 12345) &&& 2147483647))))) else (some (0, (pv_pi σ 9 ((((σ.1 9) * 1103515245) + 12345) &&& 2147483647)))))
def f_X7_bringDrawn (σ : pv_S) : Option pv_S := (Option.bind (f_X1_draw 24 σ) (fun q1 => (Option.bind (f_X1_draw 6 q1.2) (fun q2 => (Option.bind (f_X1_draw 25 q2.2) (fun q3 => (Option.bind (f_X6_bring q1.1 (q2.1 + 1) (q3.1 + 48) q3.2) (fun q4 => (some q4.2)))))))))
def f_X7_drift_52 (σ : pv_S) : Option (Int32 × pv_S) := (Option.bind (f_X6_count σ) (fun q1 => (some (q1.1, q1.2))))
def f_X7_drift_16 : Nat → Int32 → Int32 → pv_S → Option (Int32 × pv_S)
  | 0, _, _, _ => none
  | n + 1, v1, v2, σ => (if v1 ≤ v2 then (f_X7_drift_52 σ) else (Option.bind (f_X6_isFull σ) (fun q2 => (if q2.1 = 0 then (Option.bind (f_X2_record q2.2) (fun q4 => (Option.bind (f_X7_bringDrawn q4) (fun q5 => (f_X7_drift_16 n v1 (v2 + 1) q5))))) else (f_X7_drift_52 q2.2)))))
def f_X7_drift (p0 : Int32) (σ : pv_S) : Option (Int32 × pv_S) := (if p0 < 1 then (some ((-1000000002), σ)) else (if p0 ≤ 10 then (f_X7_drift_16 pv_FU p0 0 σ) else (some ((-1000000002), σ))))
def f_X6_copyFrom_16 (p1 : Int32) (σ : pv_S) : Option pv_S := (Option.bind (f_X6_fitsOn_16 p1 σ) (fun q1 => (if q1.1 = 0 then (some q1.2) else (gc (p1 * 46) 0 46 736 46 (some (pv_pi (pv_cp q1.2 7 0 (p1 * 46) 0 46) 0 (((pv_cp q1.2 7 0 (p1 * 46) 0 46).1 0) + 1)))))))
def f_X2_giveBack (p0 : Int32) (σ : pv_S) : Option pv_S := (if p0 < 1 then (some σ) else (if p0 ≤ (σ.1 7) then (Option.bind (f_X6_copyFrom_16 ((pv_pi (pv_pi σ 6 ((((σ.1 6) + 16) - p0) - (((σ.1 6) + 16) - p0) / 16 * 16)) 7 (((pv_pi σ 6 ((((σ.1 6) + 16) - p0) - (((σ.1 6) + 16) - p0) / 16 * 16)).1 7) - p0)).1 6) (pv_pi (pv_pi σ 6 ((((σ.1 6) + 16) - p0) - (((σ.1 6) + 16) - p0) / 16 * 16)) 7 (((pv_pi σ 6 ((((σ.1 6) + 16) - p0) - (((σ.1 6) + 16) - p0) / 16 * 16)).1 7) - p0))) (fun q3 => (some q3))) else (some σ)))
def f_X7_undo (p0 : Int32) (σ : pv_S) : Option (Int32 × pv_S) := (if p0 < 1 then (some ((-1000000002), σ)) else (if p0 ≤ 16 then (Option.bind (f_X2_held σ) (fun q3 => (if p0 ≤ q3.1 then (Option.bind (f_X2_giveBack p0 q3.2) (fun q5 => (Option.bind (f_X6_count q5) (fun q6 => (some (q6.1, q6.2)))))) else (some ((-1000000003), q3.2))))) else (some ((-1000000002), σ))))
def f_X0_isFull (σ : pv_S) : Option (Int32 × pv_S) := (if (σ.1 8) < 20 then (some (0, σ)) else (some (1, σ)))
def f_X0_add (p0 : Int32) (p1 : Int32) (σ : pv_S) : Option pv_S := (Option.bind (f_X0_isFull σ) (fun q1 => (if q1.1 = 0 then (gd (q1.2.1 8) 20 (gd ((pv_sa q1.2 11 (q1.2.1 8) p0).1 8) 20 (some (pv_pi (pv_sa (pv_sa q1.2 11 (q1.2.1 8) p0) 12 ((pv_sa q1.2 11 (q1.2.1 8) p0).1 8) p1) 8 (((pv_sa (pv_sa q1.2 11 (q1.2.1 8) p0) 12 ((pv_sa q1.2 11 (q1.2.1 8) p0).1 8) p1).1 8) + 1))))) else (some q1.2))))
def f_X7_write (p0 : Int32) (p1 : Int32) (σ : pv_S) : Option (Int32 × pv_S) := (Option.bind (f_X7_isVoiceCount p0 σ) (fun q1 => (if q1.1 = 0 then (some ((-1000000002), q1.2)) else (Option.bind (f_X0_isFull q1.2) (fun q3 => (if q3.1 = 0 then (Option.bind (f_X0_add p0 p1 q3.2) (fun q5 => (Option.bind (f_X0_size q5) (fun q6 => (some (q6.1, q6.2)))))) else (some ((-1000000004), q3.2))))))))
def f_X0_empty (σ : pv_S) : Option pv_S := (some (pv_pi σ 8 0))
def f_X7_tear (σ : pv_S) : Option (Int32 × pv_S) := (Option.bind (f_X0_size σ) (fun q1 => (Option.bind (f_X0_empty q1.2) (fun q2 => (some (q1.1, q2))))))
def f_X1_become (p0 : Int32) (σ : pv_S) : Option pv_S := (some (pv_pi σ 9 p0))
def f_X7_seed (p0 : Int32) (σ : pv_S) : Option (Int32 × pv_S) := (if 0 ≤ p0 then (Option.bind (f_X1_state σ) (fun q2 => (Option.bind (f_X1_become p0 q2.2) (fun q3 => (some (q2.1, q3)))))) else (some ((-1000000002), σ)))
def f_X3_isImage (p0 : Int32) (σ : pv_S) : Option (Int32 × pv_S) := (if p0 < 0 then (some (0, σ)) else (if 2 ≤ p0 then (some (0, σ)) else (some (1, σ))))
def f_X6_fitsOn_17 (p1 : Int32) (σ : pv_S) : Option (Int32 × pv_S) := (if p1 < 0 then (some (0, σ)) else (if (92 / 46) ≤ p1 then (some (0, σ)) else (some (1, σ))))
def f_X6_copyTo_17 (p1 : Int32) (σ : pv_S) : Option pv_S := (Option.bind (f_X6_fitsOn_17 p1 σ) (fun q1 => (if q1.1 = 0 then (some q1.2) else (gc 0 (p1 * 46) 46 46 92 (some (pv_cp q1.2 0 8 0 (p1 * 46) 46))))))
def f_X3_store (p0 : Int32) (σ : pv_S) : Option pv_S := (Option.bind (f_X3_isImage p0 σ) (fun q1 => (if q1.1 = 0 then (some q1.2) else (Option.bind (f_X6_copyTo_17 p0 q1.2) (fun q3 => (Option.bind (f_X1_state q3) (fun q4 => (gd p0 2 (gd p0 2 (some (pv_sz (pv_sa q4.2 9 p0 q4.1) 10 p0 1)))))))))))
def f_X2_forget (σ : pv_S) : Option pv_S := (some (pv_pi σ 7 0))
def f_X7_keep (p0 : Int32) (σ : pv_S) : Option (Int32 × pv_S) := (Option.bind (f_X3_isImage p0 σ) (fun q1 => (if q1.1 = 0 then (some ((-1000000001), q1.2)) else (Option.bind (f_X3_store p0 q1.2) (fun q3 => (Option.bind (f_X2_forget q3) (fun q4 => (some (1, q4)))))))))
def f_X3_isKept (p0 : Int32) (σ : pv_S) : Option (Int32 × pv_S) := (Option.bind (f_X3_isImage p0 σ) (fun q1 => (if q1.1 = 0 then (some (0, q1.2)) else (gd p0 2 (if (pv_la q1.2 10 p0) = 0 then (some (0, q1.2)) else (some (1, q1.2)))))))
def f_X6_copyFrom_17 (p1 : Int32) (σ : pv_S) : Option pv_S := (Option.bind (f_X6_fitsOn_17 p1 σ) (fun q1 => (if q1.1 = 0 then (some q1.2) else (gc (p1 * 46) 0 46 92 46 (some (pv_pi (pv_cp q1.2 8 0 (p1 * 46) 0 46) 0 (((pv_cp q1.2 8 0 (p1 * 46) 0 46).1 0) + 1)))))))
def f_X3_restore (p0 : Int32) (σ : pv_S) : Option pv_S := (Option.bind (f_X3_isKept p0 σ) (fun q1 => (if q1.1 = 0 then (some q1.2) else (Option.bind (f_X6_copyFrom_17 p0 q1.2) (fun q3 => (gd p0 2 (Option.bind (f_X1_become (pv_la q3 9 p0) q3) (fun q5 => (some q5)))))))))
def f_X7_goBack (p0 : Int32) (σ : pv_S) : Option (Int32 × pv_S) := (Option.bind (f_X3_isImage p0 σ) (fun q1 => (if q1.1 = 0 then (some ((-1000000001), q1.2)) else (Option.bind (f_X3_isKept p0 q1.2) (fun q3 => (if q3.1 = 0 then (some ((-1000000003), q3.2)) else (Option.bind (f_X3_restore p0 q3.2) (fun q5 => (Option.bind (f_X2_forget q5) (fun q6 => (some (1, q6))))))))))))
def f_X8_prior_4 : Nat → Int32 → Int32 → Int32 → pv_S → Option (Int32 × pv_S)
  | 0, _, _, _, _ => none
  | n + 1, v1, v2, v3, σ => (gd 0 874 (if (pv_la σ 13 0) ≤ v3 then (some (v2, σ)) else (gd (36 + v3) 874 (if (pv_la σ 13 (36 + v3)) = v1 then (f_X8_prior_4 n v1 v3 (v3 + 1) σ) else (f_X8_prior_4 n v1 v2 (v3 + 1) σ)))))
def f_X8_prior (p0 : Int32) (σ : pv_S) : Option (Int32 × pv_S) := (f_X8_prior_4 pv_FU p0 (-1) 0 σ)
def f_X8_voices_4 : Nat → Int32 → Int32 → pv_S → Option (Int32 × pv_S)
  | 0, _, _, _ => none
  | n + 1, v1, v2, σ => (gd 0 874 (if (pv_la σ 13 0) ≤ v2 then (some (v1, σ)) else (Option.bind (f_X8_prior v2 σ) (fun q3 => (if q3.1 = (-1) then (f_X8_voices_4 n (v1 + 1) (v2 + 1) q3.2) else (f_X8_voices_4 n (v1 + 0) (v2 + 1) q3.2))))))
def f_X8_voices (σ : pv_S) : Option (Int32 × pv_S) := (f_X8_voices_4 pv_FU 0 0 σ)
def f_X8_off (p0 : Int32) (σ : pv_S) : Option (Int32 × pv_S) := (gd (6 + p0) 874 (gd (16 + p0) 874 (some (((pv_la σ 13 (6 + p0)) + (pv_la σ 13 (16 + p0))), σ))))
def f_X8_costOf_30 (v1 : Int32) (v2 : Int32) (s0 : Int32) (σ : pv_S) : Option (Int32 × pv_S) := (gd 1 874 (gd 2 874 (gd (6 + v2) 874 (Option.bind (f_X8_off v1 σ) (fun q4 => (if s0 ≤ 12 then (some (((((pv_la σ 13 1) * s0) + ((pv_la σ 13 2) * ((pv_la σ 13 (6 + v2)) - q4.1))) + 0), q4.2)) else (gd 3 874 (some (((((pv_la σ 13 1) * s0) + ((pv_la σ 13 2) * ((pv_la σ 13 (6 + v2)) - q4.1))) + (pv_la q4.2 13 3)), q4.2)))))))))
def f_X8_costOf (p0 : Int32) (p1 : Int32) (σ : pv_S) : Option (Int32 × pv_S) := (gd (26 + p0) 874 (gd (26 + p1) 874 (if 0 ≤ ((pv_la σ 13 (26 + p0)) - (pv_la σ 13 (26 + p1))) then (f_X8_costOf_30 p0 p1 ((pv_la σ 13 (26 + p0)) - (pv_la σ 13 (26 + p1))) σ) else (f_X8_costOf_30 p0 p1 (-((pv_la σ 13 (26 + p0)) - (pv_la σ 13 (26 + p1)))) σ))))
def f_X8_costNow_14 : Nat → Int32 → Int32 → pv_S → Option (Int32 × pv_S)
  | 0, _, _, _ => none
  | n + 1, v1, v2, σ => (gd 0 874 (if (pv_la σ 13 0) ≤ v2 then (some (v1, σ)) else (gd (36 + v2) 874 (if 0 ≤ (pv_la σ 13 (36 + v2)) then (gd (36 + v2) 874 (Option.bind (f_X8_costOf v2 (pv_la σ 13 (36 + v2)) σ) (fun q6 => (f_X8_costNow_14 n (v1 + q6.1) (v2 + 1) q6.2)))) else (f_X8_costNow_14 n (v1 + 0) (v2 + 1) σ)))))
def f_X8_costNow (σ : pv_S) : Option (Int32 × pv_S) := (Option.bind (f_X8_voices σ) (fun q1 => (gd 4 874 (f_X8_costNow_14 pv_FU (q1.1 * (pv_la q1.2 13 4)) 0 q1.2))))
def f_X8_in (p0 : Int64) (p1 : Int64) (p2 : Int64) (σ : pv_S) : Option (Int32 × pv_S) := (if (lg_cmp p0 p1) < 0 then (some (0, σ)) else (if 0 < (lg_cmp p0 p2) then (some (0, σ)) else (some (1, σ))))
def f_X8_bestAt (p0 : Int32) (p1 : Int32) (σ : pv_S) : Option (Int32 × pv_S) := (gd ((1024 * p0) + p1) 11264 (some ((pv_la σ 17 ((1024 * p0) + p1)), σ)))
def f_X8_may (p0 : Int32) (p1 : Int32) (σ : pv_S) : Option (Int32 × pv_S) := (gd (6 + p1) 874 (Option.bind (f_X8_off p0 σ) (fun q2 => (Option.bind (f_X8_off p0 q2.2) (fun q3 => (gd 5 874 (Option.bind (f_X8_in ((pv_la σ 13 (6 + p1))).toInt64 q2.1.toInt64 ((q3.1 + (pv_la q3.2 13 5))).toInt64 q3.2) (fun q5 => (gz q5.1 (some (q5.1, q5.2)))))))))))
def f_X8_through_36 (v1 : Int32) (v2 : Int32) (v3 : Int32) (s0 : Int32) (σ : pv_S) : Option (Int32 × pv_S) := (if s0 = 0 then (some (1000000, σ)) else (Option.bind (f_X8_bestAt (v1 + 1) (v2 ||| (1 <<< (v3 &&& 31))) σ) (fun q2 => (Option.bind (f_X8_costOf v1 v3 q2.2) (fun q3 => (some ((q2.1 + q3.1), q3.2)))))))
def f_X8_through (p0 : Int32) (p1 : Int32) (p2 : Int32) (σ : pv_S) : Option (Int32 × pv_S) := (if p2 = (-1) then (Option.bind (f_X8_bestAt (p0 + 1) p1 σ) (fun q5 => (some (q5.1, q5.2)))) else (if ((p1 >>> (p2 &&& 31)) &&& 1) = 0 then (Option.bind (f_X8_may p0 p2 σ) (fun q3 => (if q3.1 = 0 then (f_X8_through_36 p0 p1 p2 0 q3.2) else (f_X8_through_36 p0 p1 p2 1 q3.2)))) else (f_X8_through_36 p0 p1 p2 0 σ)))
def f_X8_ones_4 : Nat → Int32 → Int32 → Int32 → pv_S → Option (Int32 × pv_S)
  | 0, _, _, _, _ => none
  | n + 1, v0, v1, v2, σ => (if 10 ≤ v2 then (some (v1, σ)) else (f_X8_ones_4 n v0 (v1 + ((v0 >>> (v2 &&& 31)) &&& 1)) (v2 + 1) σ))
def f_X8_ones (p0 : Int32) (σ : pv_S) : Option (Int32 × pv_S) := (f_X8_ones_4 pv_FU p0 0 0 σ)
def f_X8_lay_171 (K57 : Int32 → Int32 → Int32 → pv_S → Option pv_S) (K65 : Int32 → Int32 → Int32 → Int32 → pv_S → Option pv_S) (v2 : Int32) (v3 : Int32) (v4 : Int32) (v5 : Int32) (s0 : Int32) (s1 : Int32) (σ : pv_S) : Option pv_S := (gd s1 11264 (K65 v2 v3 v4 (v5 + 1) (pv_sa σ 17 s1 s0)))
def f_X8_lay_144 (K57 : Int32 → Int32 → Int32 → pv_S → Option pv_S) (K65 : Int32 → Int32 → Int32 → Int32 → pv_S → Option pv_S) (v2 : Int32) (v3 : Int32) (v4 : Int32) (v5 : Int32) (v6 : Int32) (σ : pv_S) : Option pv_S := (if 1000000 ≤ v6 then (f_X8_lay_171 K57 K65 v2 v3 v4 v5 1000000 ((1024 * v4) + v5) σ) else (f_X8_lay_171 K57 K65 v2 v3 v4 v5 v6 ((1024 * v4) + v5) σ))
def f_X8_lay_120 (K57 : Int32 → Int32 → Int32 → pv_S → Option pv_S) (K65 : Int32 → Int32 → Int32 → Int32 → pv_S → Option pv_S) (K87 : Int32 → Int32 → Int32 → Int32 → Int32 → Int32 → pv_S → Option pv_S) (v2 : Int32) (v3 : Int32) (v4 : Int32) (v5 : Int32) (v6 : Int32) (v7 : Int32) (s0 : Int32) (σ : pv_S) : Option pv_S := (if v6 ≤ s0 then (K87 v2 v3 v4 v5 v6 (v7 + 1) σ) else (K87 v2 v3 v4 v5 s0 (v7 + 1) σ))
def f_X8_lay_87 (K57 : Int32 → Int32 → Int32 → pv_S → Option pv_S) (K65 : Int32 → Int32 → Int32 → Int32 → pv_S → Option pv_S) : Nat → Int32 → Int32 → Int32 → Int32 → Int32 → Int32 → pv_S → Option pv_S
  | 0, _, _, _, _, _, _, _ => none
  | n + 1, v2, v3, v4, v5, v6, v7, σ => (if v3 ≤ v7 then (f_X8_lay_144 K57 K65 v2 v3 v4 v5 v6 σ) else (if v4 = v2 then (f_X8_lay_144 K57 K65 v2 v3 v4 v5 v6 σ) else (if v7 = v2 then (f_X8_lay_120 K57 K65 (f_X8_lay_87 K57 K65 n) v2 v3 v4 v5 v6 v7 1000000 σ) else (Option.bind (f_X8_through v4 v5 v7 σ) (fun q4 => (f_X8_lay_120 K57 K65 (f_X8_lay_87 K57 K65 n) v2 v3 v4 v5 v6 v7 q4.1 q4.2))))))
def f_X8_lay_65 (K57 : Int32 → Int32 → Int32 → pv_S → Option pv_S) : Nat → Int32 → Int32 → Int32 → Int32 → pv_S → Option pv_S
  | 0, _, _, _, _, _ => none
  | n + 1, v2, v3, v4, v5, σ => (if (1 <<< (v3 &&& 31)) ≤ v5 then (K57 v2 v3 (v4 + (-1)) σ) else (Option.bind (f_X8_through v4 v5 (-1) σ) (fun q2 => (f_X8_lay_87 K57 (f_X8_lay_65 K57 n) pv_FU v2 v3 v4 v5 q2.1 0 q2.2))))
def f_X8_lay_57 : Nat → Int32 → Int32 → Int32 → pv_S → Option pv_S
  | 0, _, _, _, _ => none
  | n + 1, v2, v3, v4, σ => (if v4 < 0 then (some σ) else (f_X8_lay_65 (f_X8_lay_57 n) pv_FU v2 v3 v4 0 σ))
def f_X8_lay_45 (K10 : Int32 → Int32 → Int32 → Int32 → pv_S → Option pv_S) (v1 : Int32) (v2 : Int32) (v3 : Int32) (v4 : Int32) (s0 : Int32) (s1 : Int32) (σ : pv_S) : Option pv_S := (gd s1 11264 (K10 v1 v2 v3 (v4 + 1) (pv_sa σ 17 s1 s0)))
def f_X8_lay_10 : Nat → Int32 → Int32 → Int32 → Int32 → pv_S → Option pv_S
  | 0, _, _, _, _, _ => none
  | n + 1, v1, v2, v3, v4, σ => (if (1 <<< (v3 &&& 31)) ≤ v4 then (f_X8_lay_57 pv_FU v2 v3 (v3 - 1) σ) else (Option.bind (f_X8_ones v4 σ) (fun q2 => (if q2.1 = v1 then (f_X8_lay_45 (f_X8_lay_10 n) v1 v2 v3 v4 0 ((1024 * v3) + v4) q2.2) else (f_X8_lay_45 (f_X8_lay_10 n) v1 v2 v3 v4 1000000 ((1024 * v3) + v4) q2.2)))))
def f_X8_lay (p0 : Int32) (p1 : Int32) (σ : pv_S) : Option pv_S := (gd 0 874 (f_X8_lay_10 pv_FU p0 p1 (pv_la σ 13 0) 0 σ))
def f_X8_leastOf_28 (v1 : Int32) (v2 : Int32) (v3 : Int32) (s0 : Int64) (s1 : Int64) (σ : pv_S) : Option (Int32 × pv_S) := (Option.bind (f_X8_in s1 s0 v3.toInt64 σ) (fun q1 => (if q1.1 = 0 then (some ((-1), q1.2)) else (Option.bind (f_X8_lay (v3 - v1) v2 q1.2) (fun q3 => (Option.bind (f_X8_bestAt 0 0 q3) (fun q4 => (if 1000000 ≤ q4.1 then (some ((-1), q4.2)) else (Option.bind (f_X8_bestAt 0 0 q4.2) (fun q6 => (gd 4 874 (some ((q6.1 + (v1 * (pv_la q6.2 13 4))), q6.2)))))))))))))
def f_X8_leastOf_15 (v1 : Int32) (v2 : Int32) (s0 : Int32) (s1 : Int32) (σ : pv_S) : Option (Int32 × pv_S) := (if (s1 - s0) ≤ 0 then (f_X8_leastOf_28 v1 v2 (s1 - s0) 0 v1.toInt64 σ) else (f_X8_leastOf_28 v1 v2 (s1 - s0) 1 v1.toInt64 σ))
def f_X8_leastOf (p0 : Int32) (p1 : Int32) (σ : pv_S) : Option (Int32 × pv_S) := (gd 0 874 (if 0 ≤ p1 then (f_X8_leastOf_15 p0 p1 1 (pv_la σ 13 0) σ) else (f_X8_leastOf_15 p0 p1 0 (pv_la σ 13 0) σ)))
def f_X8_fewest_2 : Nat → Int32 → pv_S → Option (Int32 × pv_S)
  | 0, _, _ => none
  | n + 1, v1, σ => (Option.bind (f_X8_leastOf v1 (-1) σ) (fun q1 => (if 0 ≤ q1.1 then (some (v1, q1.2)) else (f_X8_fewest_2 n (v1 + 1) q1.2))))
def f_X8_fewest (σ : pv_S) : Option (Int32 × pv_S) := (f_X8_fewest_2 pv_FU 0 σ)
def f_X8_cheapest_57 (K8 : Int32 → Int32 → Int32 → Int32 → pv_S → Option (Int32 × pv_S)) (v1 : Int32) (v3 : Int32) (v4 : Int32) (v5 : Int32) (v6 : Int32) (s0 : Int32) (σ : pv_S) : Option (Int32 × pv_S) := (if v6 = 0 then (K8 v1 s0 v3 (v4 + 1) σ) else (K8 v1 s0 v5 (v4 + 1) σ))
def f_X8_cheapest_44 (K8 : Int32 → Int32 → Int32 → Int32 → pv_S → Option (Int32 × pv_S)) (v1 : Int32) (v2 : Int32) (v3 : Int32) (v4 : Int32) (v5 : Int32) (s0 : Int32) (σ : pv_S) : Option (Int32 × pv_S) := (if s0 = 0 then (f_X8_cheapest_57 K8 v1 v3 v4 v5 s0 v2 σ) else (f_X8_cheapest_57 K8 v1 v3 v4 v5 s0 v4 σ))
def f_X8_cheapest_8 : Nat → Int32 → Int32 → Int32 → Int32 → pv_S → Option (Int32 × pv_S)
  | 0, _, _, _, _, _ => none
  | n + 1, v1, v2, v3, v4, σ => (gd 0 874 (if (pv_la σ 13 0) < v4 then (some (v2, σ)) else (Option.bind (f_X8_leastOf v4 v1 σ) (fun q3 => (if q3.1 < 0 then (f_X8_cheapest_44 (f_X8_cheapest_8 n) v1 v2 v3 v4 q3.1 0 q3.2) else (if v3 ≤ q3.1 then (f_X8_cheapest_44 (f_X8_cheapest_8 n) v1 v2 v3 v4 q3.1 0 q3.2) else (f_X8_cheapest_44 (f_X8_cheapest_8 n) v1 v2 v3 v4 q3.1 1 q3.2)))))))
def f_X8_cheapest (p0 : Int32) (σ : pv_S) : Option (Int32 × pv_S) := (f_X8_cheapest_8 pv_FU p0 0 1000000 0 σ)
def f_X8_leastOfAll (p0 : Int32) (σ : pv_S) : Option (Int32 × pv_S) := (Option.bind (f_X8_cheapest p0 σ) (fun q1 => (Option.bind (f_X8_leastOf q1.1 p0 q1.2) (fun q2 => (some (q2.1, q2.2))))))
def f_X8_cross_128 (v1 : Int32) (v2 : Int32) (v3 : Int32) (v4 : Int32) (s0 : Int32) (σ : pv_S) : Option (Int32 × pv_S) := (if s0 = 0 then (gd (26 + v1) 874 (gd (26 + v2) 874 (if (pv_la σ 13 (26 + v1)) ≤ (pv_la σ 13 (26 + v2)) then (some (0, σ)) else (gd (26 + v3) 874 (gd (26 + v4) 874 (if (pv_la σ 13 (26 + v4)) ≤ (pv_la σ 13 (26 + v3)) then (some (0, σ)) else (some (1, σ)))))))) else (some (1, σ)))
def f_X8_cross (p0 : Int32) (p1 : Int32) (σ : pv_S) : Option (Int32 × pv_S) := (gd (36 + p0) 874 (gd (36 + p1) 874 (if p0 = p1 then (some (0, σ)) else (if (pv_la σ 13 (36 + p0)) < 0 then (some (0, σ)) else (if (pv_la σ 13 (36 + p1)) < 0 then (some (0, σ)) else (gd (6 + p0) 874 (gd (6 + (pv_la σ 13 (36 + p1))) 874 (if (pv_la σ 13 (6 + (pv_la σ 13 (36 + p1)))) ≤ (pv_la σ 13 (6 + p0)) then (some (0, σ)) else (gd (6 + p1) 874 (gd (6 + (pv_la σ 13 (36 + p0))) 874 (if (pv_la σ 13 (6 + p1)) < (pv_la σ 13 (6 + (pv_la σ 13 (36 + p0)))) then (gd (26 + p0) 874 (gd (26 + p1) 874 (if (pv_la σ 13 (26 + p1)) ≤ (pv_la σ 13 (26 + p0)) then (f_X8_cross_128 p0 p1 (pv_la σ 13 (36 + p0)) (pv_la σ 13 (36 + p1)) 0 σ) else (gd (26 + (pv_la σ 13 (36 + p0))) 874 (gd (26 + (pv_la σ 13 (36 + p1))) 874 (if (pv_la σ 13 (26 + (pv_la σ 13 (36 + p0)))) ≤ (pv_la σ 13 (26 + (pv_la σ 13 (36 + p1)))) then (f_X8_cross_128 p0 p1 (pv_la σ 13 (36 + p0)) (pv_la σ 13 (36 + p1)) 0 σ) else (f_X8_cross_128 p0 p1 (pv_la σ 13 (36 + p0)) (pv_la σ 13 (36 + p1)) 1 σ))))))) else (some (0, σ)))))))))))))
def f_X8_crossings_18 (K4 : Int32 → Int32 → pv_S → Option (Int32 × pv_S)) : Nat → Int32 → Int32 → Int32 → pv_S → Option (Int32 × pv_S)
  | 0, _, _, _, _ => none
  | n + 1, v1, v2, v3, σ => (gd 0 874 (if (pv_la σ 13 0) ≤ v3 then (K4 v1 (v2 + 1) σ) else (Option.bind (f_X8_cross v2 v3 σ) (fun q3 => (if q3.1 = 0 then (f_X8_crossings_18 K4 n (v1 + 0) v2 (v3 + 1) q3.2) else (f_X8_crossings_18 K4 n (v1 + 1) v2 (v3 + 1) q3.2))))))
def f_X8_crossings_4 : Nat → Int32 → Int32 → pv_S → Option (Int32 × pv_S)
  | 0, _, _, _ => none
  | n + 1, v1, v2, σ => (gd 0 874 (if (pv_la σ 13 0) ≤ v2 then (some (v1, σ)) else (f_X8_crossings_18 (f_X8_crossings_4 n) pv_FU v1 v2 (v2 + 1) σ)))
def f_X8_crossings (σ : pv_S) : Option (Int32 × pv_S) := (f_X8_crossings_4 pv_FU 0 0 σ)
def f_X8_wrong_2 : Nat → Int32 → pv_S → Option (Int32 × pv_S)
  | 0, _, _ => none
  | n + 1, v1, σ => (if (σ.1 13) ≤ v1 then (some ((-1), σ)) else (gd v1 20 (Option.bind (f_X8_leastOf (pv_la σ 15 v1) (-1) σ) (fun q3 => (gd v1 20 (if q3.1 = (pv_la q3.2 16 v1) then (f_X8_wrong_2 n (v1 + 1) q3.2) else (some (v1, q3.2))))))))
def f_X8_wrong (σ : pv_S) : Option (Int32 × pv_S) := (f_X8_wrong_2 pv_FU 0 σ)
def f_X8_toldMore_52 (v1 : Int32) (σ : pv_S) : Option (Int32 × pv_S) := (gd ((1 + v1) - 7) 874 (some ((pv_la σ 13 ((1 + v1) - 7)), σ)))
def f_X8_toldMore (p0 : Int32) (σ : pv_S) : Option (Int32 × pv_S) := (if p0 = 7 then (f_X8_toldMore_52 p0 σ) else (if p0 = 8 then (f_X8_toldMore_52 p0 σ) else (if p0 = 9 then (f_X8_toldMore_52 p0 σ) else (if p0 = 10 then (f_X8_toldMore_52 p0 σ) else (if p0 = 11 then (f_X8_toldMore_52 p0 σ) else (if p0 = 12 then (some ((σ.1 13), σ)) else (if p0 = 13 then (Option.bind (f_X8_wrong σ) (fun q8 => (some (q8.1, q8.2)))) else (if p0 = 14 then (some ((σ.1 10), σ)) else (if p0 = 15 then (some ((σ.1 12), σ)) else (some ((-1000000002), σ)))))))))))
def f_X8_told (p0 : Int32) (σ : pv_S) : Option (Int32 × pv_S) := (if p0 = 0 then (gd 0 874 (some ((pv_la σ 13 0), σ))) else (if p0 = 1 then (Option.bind (f_X8_voices σ) (fun q4 => (some (q4.1, q4.2)))) else (if p0 = 2 then (Option.bind (f_X8_costNow σ) (fun q6 => (some (q6.1, q6.2)))) else (if p0 = 3 then (Option.bind (f_X8_fewest σ) (fun q8 => (some (q8.1, q8.2)))) else (if p0 = 4 then (Option.bind (f_X8_cheapest (-1) σ) (fun q10 => (some (q10.1, q10.2)))) else (if p0 = 5 then (Option.bind (f_X8_leastOfAll (-1) σ) (fun q12 => (some (q12.1, q12.2)))) else (if p0 = 6 then (Option.bind (f_X8_crossings σ) (fun q14 => (some (q14.1, q14.2)))) else (Option.bind (f_X8_toldMore p0 σ) (fun q15 => (some (q15.1, q15.2)))))))))))
def f_X8_isNote (p0 : Int32) (σ : pv_S) : Option (Int32 × pv_S) := (gd 0 874 (Option.bind (f_X8_in p0.toInt64 0 (((pv_la σ 13 0) - 1)).toInt64 σ) (fun q2 => (gz q2.1 (some (q2.1, q2.2))))))
def f_X8_voiceOf_25 : Nat → Int32 → Int32 → Int32 → pv_S → Option (Int32 × pv_S)
  | 0, _, _, _, _ => none
  | n + 1, v2, v3, v4, σ => (if v2 ≤ v4 then (some (v3, σ)) else (Option.bind (f_X8_prior v4 σ) (fun q2 => (if q2.1 = (-1) then (f_X8_voiceOf_25 n v2 (v3 + 1) (v4 + 1) q2.2) else (f_X8_voiceOf_25 n v2 (v3 + 0) (v4 + 1) q2.2)))))
def f_X8_voiceOf_2 : Nat → Int32 → pv_S → Option (Int32 × pv_S)
  | 0, _, _ => none
  | n + 1, v2, σ => (Option.bind (f_X8_prior v2 σ) (fun q1 => (if q1.1 = (-1) then (f_X8_voiceOf_25 pv_FU v2 0 0 q1.2) else (Option.bind (f_X8_prior v2 q1.2) (fun q3 => (f_X8_voiceOf_2 n q3.1 q3.2))))))
def f_X8_voiceOf (p0 : Int32) (σ : pv_S) : Option (Int32 × pv_S) := (f_X8_voiceOf_2 pv_FU p0 σ)
def f_X8_followers_4 : Nat → Int32 → Int32 → Int32 → pv_S → Option (Int32 × pv_S)
  | 0, _, _, _, _ => none
  | n + 1, v1, v2, v3, σ => (gd 0 874 (if (pv_la σ 13 0) ≤ v3 then (some (v2, σ)) else (Option.bind (f_X8_may v1 v3 σ) (fun q3 => (if q3.1 = 0 then (f_X8_followers_4 n v1 (v2 + 0) (v3 + 1) q3.2) else (f_X8_followers_4 n v1 (v2 + 1) (v3 + 1) q3.2))))))
def f_X8_followers (p0 : Int32) (σ : pv_S) : Option (Int32 × pv_S) := (f_X8_followers_4 pv_FU p0 0 0 σ)
def f_X8_at (p0 : Int32) (p1 : Int32) (σ : pv_S) : Option (Int32 × pv_S) := (Option.bind (f_X8_isNote p0 σ) (fun q1 => (if q1.1 = 0 then (some ((-1000000001), q1.2)) else (if p1 = 0 then (gd (6 + p0) 874 (some ((pv_la q1.2 13 (6 + p0)), q1.2))) else (if p1 = 1 then (Option.bind (f_X8_off p0 q1.2) (fun q6 => (some (q6.1, q6.2)))) else (if p1 = 2 then (gd (26 + p0) 874 (some ((pv_la q1.2 13 (26 + p0)), q1.2))) else (if p1 = 3 then (gd (36 + p0) 874 (some ((pv_la q1.2 13 (36 + p0)), q1.2))) else (if p1 = 4 then (Option.bind (f_X8_prior p0 q1.2) (fun q12 => (some (q12.1, q12.2)))) else (if p1 = 5 then (Option.bind (f_X8_voiceOf p0 q1.2) (fun q14 => (some (q14.1, q14.2)))) else (if p1 = 6 then (Option.bind (f_X8_leastOfAll (-1) q1.2) (fun q16 => (Option.bind (f_X8_leastOfAll p0 q16.2) (fun q17 => (some ((q16.1 - q17.1), q17.2)))))) else (if p1 = 7 then (Option.bind (f_X8_followers p0 q1.2) (fun q19 => (some (q19.1, q19.2)))) else (some ((-1000000002), q1.2)))))))))))))
def f_X8_cost (p0 : Int32) (p1 : Int32) (σ : pv_S) : Option (Int32 × pv_S) := (Option.bind (f_X8_isNote p0 σ) (fun q1 => (if q1.1 = 0 then (some ((-1000000001), q1.2)) else (Option.bind (f_X8_isNote p1 q1.2) (fun q3 => (if q3.1 = 0 then (some ((-1000000001), q3.2)) else (Option.bind (f_X8_may p0 p1 q3.2) (fun q5 => (if q5.1 = 0 then (some ((-1), q5.2)) else (Option.bind (f_X8_costOf p0 p1 q5.2) (fun q7 => (some (q7.1, q7.2)))))))))))))
def f_X8_least (p0 : Int32) (σ : pv_S) : Option (Int32 × pv_S) := (Option.bind (f_X8_in p0.toInt64 0 10 σ) (fun q1 => (if q1.1 = 0 then (some ((-1000000002), q1.2)) else (Option.bind (f_X8_leastOf p0 (-1) q1.2) (fun q3 => (some (q3.1, q3.2)))))))
def f_X8_layFirst_28 (K15 : Int32 → Int32 → pv_S → Option (Int32 × pv_S)) : Nat → Int32 → Int32 → Int32 → pv_S → Option (Int32 × pv_S)
  | 0, _, _, _, _ => none
  | n + 1, v2, v3, v4, σ => (Option.bind (f_X8_through v3 v2 v4 σ) (fun q1 => (Option.bind (f_X8_bestAt v3 v2 q1.2) (fun q2 => (if q1.1 = q2.1 then (gd v3 10 (if 0 ≤ v4 then (K15 (v2 ||| (1 <<< (v4 &&& 31))) (v3 + 1) (pv_sa q2.2 18 v3 v4)) else (K15 (v2 ||| 0) (v3 + 1) (pv_sa q2.2 18 v3 v4)))) else (f_X8_layFirst_28 K15 n v2 v3 (v4 + 1) q2.2))))))
def f_X8_layFirst_15 : Nat → Int32 → Int32 → pv_S → Option (Int32 × pv_S)
  | 0, _, _, _ => none
  | n + 1, v2, v3, σ => (gd 0 874 (if (pv_la σ 13 0) ≤ v3 then (some (1, σ)) else (f_X8_layFirst_28 (f_X8_layFirst_15 n) pv_FU v2 v3 (-1) σ)))
def f_X8_layFirst (p0 : Int32) (σ : pv_S) : Option (Int32 × pv_S) := (Option.bind (f_X8_leastOf p0 (-1) σ) (fun q1 => (if 0 ≤ q1.1 then (f_X8_layFirst_15 pv_FU 0 0 q1.2) else (some (0, q1.2)))))
def f_X8_first (p0 : Int32) (p1 : Int32) (σ : pv_S) : Option (Int32 × pv_S) := (Option.bind (f_X8_isNote p1 σ) (fun q1 => (if q1.1 = 0 then (some ((-1000000001), q1.2)) else (Option.bind (f_X8_in p0.toInt64 0 10 q1.2) (fun q3 => (if q3.1 = 0 then (some ((-1000000002), q3.2)) else (Option.bind (f_X8_layFirst p0 q3.2) (fun q5 => (if q5.1 = 0 then (some ((-1000000003), q5.2)) else (gd p1 10 (some ((pv_la q5.2 18 p1), q5.2))))))))))))
def f_X8_firstOf_4 : Nat → Int32 → Int32 → Int32 → pv_S → Option (Int32 × pv_S)
  | 0, _, _, _, _ => none
  | n + 1, v1, v2, v3, σ => (gd 0 874 (if (pv_la σ 13 0) ≤ v3 then (some ((-1), σ)) else (Option.bind (f_X8_prior v3 σ) (fun q3 => (if q3.1 = (-1) then (if v2 = v1 then (some (v3, q3.2)) else (f_X8_firstOf_4 n v1 (v2 + 1) (v3 + 1) q3.2)) else (f_X8_firstOf_4 n v1 v2 (v3 + 1) q3.2))))))
def f_X8_firstOf (p0 : Int32) (σ : pv_S) : Option (Int32 × pv_S) := (f_X8_firstOf_4 pv_FU p0 0 0 σ)
def f_X8_ofVoice_172 (K34 : Int32 → Int32 → Int32 → Int32 → Int32 → Int32 → Int32 → Int32 → Int32 → pv_S → Option (Int32 × pv_S)) (v1 : Int32) (v2 : Int32) (v3 : Int32) (v4 : Int32) (v5 : Int32) (v6 : Int32) (v7 : Int32) (v9 : Int32) (s0 : Int32) (s1 : Int32) (σ : pv_S) : Option (Int32 × pv_S) := (gd (36 + v9) 874 (K34 v1 v2 v3 v4 v5 v6 v7 (s1 + s0) (pv_la σ 13 (36 + v9)) σ))
def f_X8_ofVoice_150 (K34 : Int32 → Int32 → Int32 → Int32 → Int32 → Int32 → Int32 → Int32 → Int32 → pv_S → Option (Int32 × pv_S)) (v1 : Int32) (v2 : Int32) (v3 : Int32) (v4 : Int32) (v5 : Int32) (v6 : Int32) (v8 : Int32) (v9 : Int32) (v10 : Int32) (s0 : Int32) (s1 : Int32) (σ : pv_S) : Option (Int32 × pv_S) := (if 0 ≤ v10 then (Option.bind (f_X8_costOf v9 v10 σ) (fun q2 => (f_X8_ofVoice_172 K34 v1 v2 v3 v4 v5 v6 (s1 + s0) v9 q2.1 v8 q2.2))) else (f_X8_ofVoice_172 K34 v1 v2 v3 v4 v5 v6 (s1 + s0) v9 0 v8 σ))
def f_X8_ofVoice_120 (K34 : Int32 → Int32 → Int32 → Int32 → Int32 → Int32 → Int32 → Int32 → Int32 → pv_S → Option (Int32 × pv_S)) (v1 : Int32) (v2 : Int32) (v3 : Int32) (v4 : Int32) (v5 : Int32) (v7 : Int32) (v8 : Int32) (v9 : Int32) (v10 : Int32) (s0 : Int32) (σ : pv_S) : Option (Int32 × pv_S) := (if 0 ≤ v10 then (gd (6 + v10) 874 (Option.bind (f_X8_off v9 σ) (fun q3 => (f_X8_ofVoice_150 K34 v1 v2 v3 v4 v5 s0 v8 v9 v10 ((pv_la σ 13 (6 + v10)) - q3.1) v7 q3.2)))) else (f_X8_ofVoice_150 K34 v1 v2 v3 v4 v5 s0 v8 v9 v10 0 v7 σ))
def f_X8_ofVoice_88 (K34 : Int32 → Int32 → Int32 → Int32 → Int32 → Int32 → Int32 → Int32 → Int32 → pv_S → Option (Int32 × pv_S)) (v1 : Int32) (v2 : Int32) (v3 : Int32) (v4 : Int32) (v6 : Int32) (v7 : Int32) (v8 : Int32) (v9 : Int32) (v10 : Int32) (s0 : Int32) (σ : pv_S) : Option (Int32 × pv_S) := (gd (26 + v9) 874 (if (pv_la σ 13 (26 + v9)) ≤ v6 then (f_X8_ofVoice_120 K34 v1 v2 v3 v4 s0 v7 v8 v9 v10 v6 σ) else (gd (26 + v9) 874 (f_X8_ofVoice_120 K34 v1 v2 v3 v4 s0 v7 v8 v9 v10 (pv_la σ 13 (26 + v9)) σ))))
def f_X8_ofVoice_34 : Nat → Int32 → Int32 → Int32 → Int32 → Int32 → Int32 → Int32 → Int32 → Int32 → pv_S → Option (Int32 × pv_S)
  | 0, _, _, _, _, _, _, _, _, _, _ => none
  | n + 1, v1, v2, v3, v4, v5, v6, v7, v8, v9, σ => (if v9 < 0 then (if v2 = 0 then (some (v3, σ)) else (if v2 = 1 then (some (v1, σ)) else (if v2 = 2 then (some (v4, σ)) else (if v2 = 3 then (some (v5, σ)) else (if v2 = 4 then (some (v6, σ)) else (if v2 = 5 then (some (v7, σ)) else (some (v8, σ)))))))) else (gd (36 + v9) 874 (gd (26 + v9) 874 (if v5 ≤ (pv_la σ 13 (26 + v9)) then (f_X8_ofVoice_88 (f_X8_ofVoice_34 n) v1 v2 (v3 + 1) v9 v6 v7 v8 v9 (pv_la σ 13 (36 + v9)) v5 σ) else (gd (26 + v9) 874 (f_X8_ofVoice_88 (f_X8_ofVoice_34 n) v1 v2 (v3 + 1) v9 v6 v7 v8 v9 (pv_la σ 13 (36 + v9)) (pv_la σ 13 (26 + v9)) σ))))))
def f_X8_ofVoice (p0 : Int32) (p1 : Int32) (σ : pv_S) : Option (Int32 × pv_S) := (gd (26 + p0) 874 (gd 4 874 (f_X8_ofVoice_34 pv_FU p0 p1 0 p0 (pv_la σ 13 (26 + p0)) (pv_la σ 13 (26 + p0)) 0 (pv_la σ 13 4) p0 σ)))
def f_X8_voice (p0 : Int32) (p1 : Int32) (σ : pv_S) : Option (Int32 × pv_S) := (Option.bind (f_X8_voices σ) (fun q1 => (Option.bind (f_X8_in p0.toInt64 0 ((q1.1 - 1)).toInt64 q1.2) (fun q2 => (if q2.1 = 0 then (some ((-1000000001), q2.2)) else (Option.bind (f_X8_in p1.toInt64 0 6 q2.2) (fun q4 => (if q4.1 = 0 then (some ((-1000000002), q4.2)) else (Option.bind (f_X8_firstOf p0 q4.2) (fun q6 => (Option.bind (f_X8_ofVoice q6.1 p1 q6.2) (fun q7 => (some (q7.1, q7.2))))))))))))))
def f_X8_member_35 : Nat → Int32 → Int32 → Int32 → pv_S → Option (Int32 × pv_S)
  | 0, _, _, _, _ => none
  | n + 1, v2, v3, v4, σ => (if v2 ≤ v4 then (some (v3, σ)) else (if v3 < 0 then (some (v3, σ)) else (gd (36 + v3) 874 (f_X8_member_35 n v2 (pv_la σ 13 (36 + v3)) (v4 + 1) σ))))
def f_X8_member (p0 : Int32) (p1 : Int32) (σ : pv_S) : Option (Int32 × pv_S) := (Option.bind (f_X8_voices σ) (fun q1 => (Option.bind (f_X8_in p0.toInt64 0 ((q1.1 - 1)).toInt64 q1.2) (fun q2 => (if q2.1 = 0 then (some ((-1000000001), q2.2)) else (if 0 ≤ p1 then (Option.bind (f_X8_firstOf p0 q2.2) (fun q5 => (f_X8_member_35 pv_FU p1 q5.1 0 q5.2))) else (some ((-1000000002), q2.2))))))))
def f_X8_isNoteOf (p0 : Int32) (p1 : Int32) (p2 : Int32) (σ : pv_S) : Option (Int32 × pv_S) := (Option.bind (f_X8_in p0.toInt64 0 99 σ) (fun q1 => (if q1.1 = 0 then (some (0, q1.2)) else (Option.bind (f_X8_in p1.toInt64 1 32 q1.2) (fun q3 => (if q3.1 = 0 then (some (0, q3.2)) else (Option.bind (f_X8_in p2.toInt64 0 127 q3.2) (fun q5 => (if q5.1 = 0 then (some (0, q5.2)) else (some (1, q5.2)))))))))))
def f_X8_copyRow_2 : Nat → Int32 → Int32 → Int32 → pv_S → Option pv_S
  | 0, _, _, _, _ => none
  | n + 1, v1, v2, v3, σ => (if 46 ≤ v3 then (some σ) else (gd (v1 + v3) 874 (gd (v2 + v3) 874 (f_X8_copyRow_2 n v1 v2 (v3 + 1) (pv_sa σ 13 (v2 + v3) (pv_la σ 13 (v1 + v3)))))))
def f_X8_copyRow (p0 : Int32) (p1 : Int32) (σ : pv_S) : Option pv_S := (f_X8_copyRow_2 pv_FU p0 p1 0 σ)
def f_X8_remember_48 (s0 : Int32) (σ : pv_S) : Option pv_S := (some (pv_pi σ 10 s0))
def f_X8_remember_3 : Nat → Int32 → pv_S → Option pv_S
  | 0, _, _ => none
  | n + 1, v1, σ => (if v1 ≤ 0 then (if 16 ≤ (σ.1 10) then (f_X8_remember_48 16 σ) else (f_X8_remember_48 ((σ.1 10) + 1) σ)) else (Option.bind (f_X8_copyRow (46 * (v1 - 1)) (46 * v1) σ) (fun q3 => (f_X8_remember_3 n (v1 + (-1)) q3))))
def f_X8_remember (σ : pv_S) : Option pv_S := (f_X8_remember_3 pv_FU 16 σ)
def f_X8_part0_2 : Nat → Int32 → pv_S → Option pv_S
  | 0, _, _ => none
  | n + 1, v1, σ => (if 10 ≤ v1 then (some σ) else (gd (36 + v1) 874 (f_X8_part0_2 n (v1 + 1) (pv_sa σ 13 (36 + v1) (-1)))))
def f_X8_part0 (σ : pv_S) : Option pv_S := (f_X8_part0_2 pv_FU 0 σ)
def f_X8_stays (p0 : Int32) (p1 : Int32) (p2 : Int32) (p3 : Int32) (σ : pv_S) : Option (Int32 × pv_S) := (gd (6 + p0) 874 (if (pv_la σ 13 (6 + p0)) = p1 then (gd (26 + p0) 874 (if (pv_la σ 13 (26 + p0)) = p3 then (gd (16 + p0) 874 (if p2 < (pv_la σ 13 (16 + p0)) then (some (0, σ)) else (some (1, σ)))) else (gd (26 + p0) 874 (if p3 ≤ (pv_la σ 13 (26 + p0)) then (some (0, σ)) else (some (1, σ)))))) else (gd (6 + p0) 874 (if p1 ≤ (pv_la σ 13 (6 + p0)) then (some (0, σ)) else (some (1, σ))))))
def f_X8_add_99 (v1 : Int32) (v2 : Int32) (v3 : Int32) (v4 : Int32) (σ : pv_S) : Option (Int32 × pv_S) := (gd (6 + v4) 874 (gd (16 + v4) 874 (gd (26 + v4) 874 (gd 0 874 (gd 0 874 (Option.bind (f_X8_part0 (pv_sa (pv_sa (pv_sa (pv_sa σ 13 (6 + v4) v1) 13 (16 + v4) v2) 13 (26 + v4) v3) 13 0 ((pv_la (pv_sa (pv_sa (pv_sa σ 13 (6 + v4) v1) 13 (16 + v4) v2) 13 (26 + v4) v3) 13 0) + 1))) (fun q6 => (some (v4, q6)))))))))
def f_X8_add_8 : Nat → Int32 → Int32 → Int32 → Int32 → pv_S → Option (Int32 × pv_S)
  | 0, _, _, _, _, _ => none
  | n + 1, v1, v2, v3, v4, σ => (if v4 ≤ 0 then (f_X8_add_99 v1 v2 v3 v4 σ) else (Option.bind (f_X8_stays (v4 - 1) v1 v2 v3 σ) (fun q2 => (if q2.1 = 0 then (gd ((6 + v4) - 1) 874 (gd (6 + v4) 874 (gd ((16 + v4) - 1) 874 (gd (16 + v4) 874 (gd ((26 + v4) - 1) 874 (gd (26 + v4) 874 (f_X8_add_8 n v1 v2 v3 (v4 + (-1)) (pv_sa (pv_sa (pv_sa q2.2 13 (6 + v4) (pv_la q2.2 13 ((6 + v4) - 1))) 13 (16 + v4) (pv_la (pv_sa q2.2 13 (6 + v4) (pv_la q2.2 13 ((6 + v4) - 1))) 13 ((16 + v4) - 1))) 13 (26 + v4) (pv_la (pv_sa (pv_sa q2.2 13 (6 + v4) (pv_la q2.2 13 ((6 + v4) - 1))) 13 (16 + v4) (pv_la (pv_sa q2.2 13 (6 + v4) (pv_la q2.2 13 ((6 + v4) - 1))) 13 ((16 + v4) - 1))) 13 ((26 + v4) - 1)))))))))) else (f_X8_add_99 v1 v2 v3 v4 q2.2)))))
def f_X8_add (p0 : Int32) (p1 : Int32) (p2 : Int32) (σ : pv_S) : Option (Int32 × pv_S) := (gd 0 874 (f_X8_add_8 pv_FU p0 p1 p2 (pv_la σ 13 0) σ))
def f_X8_note (p0 : Int32) (p1 : Int32) (p2 : Int32) (σ : pv_S) : Option (Int32 × pv_S) := (Option.bind (f_X8_isNoteOf p0 p1 p2 σ) (fun q1 => (if q1.1 = 0 then (some ((-1000000002), q1.2)) else (gd 0 874 (if (pv_la q1.2 13 0) = 10 then (some ((-1000000004), q1.2)) else (Option.bind (f_X8_remember q1.2) (fun q5 => (Option.bind (f_X8_add p0 p1 p2 q5) (fun q6 => (some (q6.1, q6.2)))))))))))
def f_X8_remove_2 : Nat → Int32 → pv_S → Option pv_S
  | 0, _, _ => none
  | n + 1, v2, σ => (gd 0 874 (if ((pv_la σ 13 0) - 1) ≤ v2 then (gd 0 874 (gd 0 874 (Option.bind (f_X8_part0 (pv_sa σ 13 0 ((pv_la σ 13 0) - 1))) (fun q5 => (some q5))))) else (gd ((6 + v2) + 1) 874 (gd (6 + v2) 874 (gd ((16 + v2) + 1) 874 (gd (16 + v2) 874 (gd ((26 + v2) + 1) 874 (gd (26 + v2) 874 (f_X8_remove_2 n (v2 + 1) (pv_sa (pv_sa (pv_sa σ 13 (6 + v2) (pv_la σ 13 ((6 + v2) + 1))) 13 (16 + v2) (pv_la (pv_sa σ 13 (6 + v2) (pv_la σ 13 ((6 + v2) + 1))) 13 ((16 + v2) + 1))) 13 (26 + v2) (pv_la (pv_sa (pv_sa σ 13 (6 + v2) (pv_la σ 13 ((6 + v2) + 1))) 13 (16 + v2) (pv_la (pv_sa σ 13 (6 + v2) (pv_la σ 13 ((6 + v2) + 1))) 13 ((16 + v2) + 1))) 13 ((26 + v2) + 1))))))))))))
def f_X8_remove (p0 : Int32) (σ : pv_S) : Option pv_S := (f_X8_remove_2 pv_FU p0 σ)
def f_X8_take (p0 : Int32) (σ : pv_S) : Option (Int32 × pv_S) := (Option.bind (f_X8_isNote p0 σ) (fun q1 => (if q1.1 = 0 then (some ((-1000000001), q1.2)) else (Option.bind (f_X8_remember q1.2) (fun q3 => (Option.bind (f_X8_remove p0 q3) (fun q4 => (gd 0 874 (some ((pv_la q4 13 0), q4))))))))))
def f_X8_move (p0 : Int32) (p1 : Int32) (p2 : Int32) (p3 : Int32) (σ : pv_S) : Option (Int32 × pv_S) := (Option.bind (f_X8_isNote p0 σ) (fun q1 => (if q1.1 = 0 then (some ((-1000000001), q1.2)) else (Option.bind (f_X8_isNoteOf p1 p2 p3 q1.2) (fun q3 => (if q3.1 = 0 then (some ((-1000000002), q3.2)) else (Option.bind (f_X8_remember q3.2) (fun q5 => (Option.bind (f_X8_remove p0 q5) (fun q6 => (Option.bind (f_X8_add p1 p2 p3 q6) (fun q7 => (some (q7.1, q7.2))))))))))))))
def f_X8_share (p0 : Int32) (σ : pv_S) : Option (Int32 × pv_S) := (Option.bind (f_X8_isNote p0 σ) (fun q1 => (if q1.1 = 0 then (some ((-1000000001), q1.2)) else (gd 0 874 (if (pv_la q1.2 13 0) = 10 then (some ((-1000000004), q1.2)) else (Option.bind (f_X8_remember q1.2) (fun q5 => (gd (6 + p0) 874 (gd (16 + p0) 874 (gd (26 + p0) 874 (Option.bind (f_X8_add (pv_la q5 13 (6 + p0)) (pv_la q5 13 (16 + p0)) (pv_la q5 13 (26 + p0)) q5) (fun q9 => (some (q9.1, q9.2))))))))))))))
def f_X8_term_23 (v1 : Int32) (v2 : Int32) (s0 : Int32) (σ : pv_S) : Option (Int32 × pv_S) := (Option.bind (f_X8_in v1.toInt64 0 4 σ) (fun q1 => (if q1.1 = 0 then (some ((-1000000002), q1.2)) else (Option.bind (f_X8_in v2.toInt64 0 s0.toInt64 q1.2) (fun q3 => (if q3.1 = 0 then (some ((-1000000002), q3.2)) else (Option.bind (f_X8_remember q3.2) (fun q5 => (gd (1 + v1) 874 (gd (1 + v1) 874 (Option.bind (f_X8_part0 (pv_sa q5 13 (1 + v1) v2)) (fun q8 => (some ((pv_la q5 13 (1 + v1)), q8))))))))))))))
def f_X8_term (p0 : Int32) (p1 : Int32) (σ : pv_S) : Option (Int32 × pv_S) := (if 2 ≤ p0 then (if p0 = 3 then (f_X8_term_23 p0 p1 999 σ) else (f_X8_term_23 p0 p1 99 σ)) else (f_X8_term_23 p0 p1 9 σ))
def f_X8_follow_57 (v1 : Int32) (v2 : Int32) (σ : pv_S) : Option (Int32 × pv_S) := (gd (36 + v1) 874 (Option.bind (f_X8_costOf v1 v2 (pv_sa σ 13 (36 + v1) v2)) (fun q2 => (some (q2.1, q2.2)))))
def f_X8_follow (p0 : Int32) (p1 : Int32) (σ : pv_S) : Option (Int32 × pv_S) := (Option.bind (f_X8_isNote p0 σ) (fun q1 => (if q1.1 = 0 then (some ((-1000000001), q1.2)) else (Option.bind (f_X8_isNote p1 q1.2) (fun q3 => (if q3.1 = 0 then (some ((-1000000001), q3.2)) else (Option.bind (f_X8_may p0 p1 q3.2) (fun q5 => (if q5.1 = 0 then (some ((-1000000003), q5.2)) else (Option.bind (f_X8_remember q5.2) (fun q7 => (Option.bind (f_X8_prior p1 q7) (fun q8 => (if q8.1 < 0 then (f_X8_follow_57 p0 p1 q8.2) else (Option.bind (f_X8_prior p1 q8.2) (fun q10 => (gd (36 + q10.1) 874 (f_X8_follow_57 p0 p1 (pv_sa q10.2 13 (36 + q10.1) (-1))))))))))))))))))))
def f_X8_cut (p0 : Int32) (σ : pv_S) : Option (Int32 × pv_S) := (Option.bind (f_X8_isNote p0 σ) (fun q1 => (if q1.1 = 0 then (some ((-1000000001), q1.2)) else (Option.bind (f_X8_remember q1.2) (fun q3 => (gd (36 + p0) 874 (gd (36 + p0) 874 (some ((pv_la q3 13 (36 + p0)), (pv_sa q3 13 (36 + p0) (-1)))))))))))
def f_X8_part_46 : Nat → Int32 → pv_S → Option (Int32 × pv_S)
  | 0, _, _ => none
  | n + 1, v2, σ => (gd 0 874 (if (pv_la σ 13 0) ≤ v2 then (Option.bind (f_X8_costNow σ) (fun q3 => (some (q3.1, q3.2)))) else (gd v2 10 (gd (36 + v2) 874 (f_X8_part_46 n (v2 + 1) (pv_sa σ 13 (36 + v2) (pv_la σ 18 v2)))))))
def f_X8_part_31 (s0 : Int32) (σ : pv_S) : Option (Int32 × pv_S) := (Option.bind (f_X8_layFirst s0 σ) (fun q1 => (if q1.1 = 0 then (some ((-1000000003), q1.2)) else (Option.bind (f_X8_remember q1.2) (fun q3 => (f_X8_part_46 pv_FU 0 q3))))))
def f_X8_part (p0 : Int32) (σ : pv_S) : Option (Int32 × pv_S) := (Option.bind (f_X8_in p0.toInt64 (-1) 10 σ) (fun q1 => (if q1.1 = 0 then (some ((-1000000002), q1.2)) else (if 0 ≤ p0 then (f_X8_part_31 p0 q1.2) else (Option.bind (f_X8_cheapest (-1) q1.2) (fun q4 => (f_X8_part_31 q4.1 q4.2)))))))
def f_X8_mendOne_16 (K2 : Int32 → pv_S → Option (Int32 × pv_S)) : Nat → Int32 → Int32 → pv_S → Option (Int32 × pv_S)
  | 0, _, _, _ => none
  | n + 1, v1, v2, σ => (gd 0 874 (if (pv_la σ 13 0) ≤ v2 then (K2 (v1 + 1) σ) else (Option.bind (f_X8_cross v1 v2 σ) (fun q3 => (if q3.1 = 0 then (f_X8_mendOne_16 K2 n v1 (v2 + 1) q3.2) else (gd (36 + v2) 874 (Option.bind (f_X8_may v1 (pv_la q3.2 13 (36 + v2)) q3.2) (fun q6 => (if q6.1 = 0 then (f_X8_mendOne_16 K2 n v1 (v2 + 1) q6.2) else (gd (36 + v1) 874 (Option.bind (f_X8_may v2 (pv_la q6.2 13 (36 + v1)) q6.2) (fun q9 => (if q9.1 = 0 then (f_X8_mendOne_16 K2 n v1 (v2 + 1) q9.2) else (gd (36 + v1) 874 (gd (36 + v2) 874 (gd (36 + v1) 874 (gd (36 + v2) 874 (some (1, (pv_sa (pv_sa q9.2 13 (36 + v1) (pv_la q9.2 13 (36 + v2))) 13 (36 + v2) (pv_la q9.2 13 (36 + v1))))))))))))))))))))))
def f_X8_mendOne_2 : Nat → Int32 → pv_S → Option (Int32 × pv_S)
  | 0, _, _ => none
  | n + 1, v1, σ => (gd 0 874 (if (pv_la σ 13 0) ≤ v1 then (some (0, σ)) else (f_X8_mendOne_16 (f_X8_mendOne_2 n) pv_FU v1 (v1 + 1) σ)))
def f_X8_mendOne (σ : pv_S) : Option (Int32 × pv_S) := (f_X8_mendOne_2 pv_FU 0 σ)
def f_X8_mend_6 : Nat → Int32 → pv_S → Option (Int32 × pv_S)
  | 0, _, _ => none
  | n + 1, v1, σ => (if 50 ≤ v1 then (some (v1, σ)) else (Option.bind (f_X8_mendOne σ) (fun q2 => (if q2.1 = 0 then (some (v1, q2.2)) else (f_X8_mend_6 n (v1 + 1) q2.2)))))
def f_X8_mend (σ : pv_S) : Option (Int32 × pv_S) := (Option.bind (f_X8_remember σ) (fun q1 => (f_X8_mend_6 pv_FU 0 q1)))
def f_X8_clear (σ : pv_S) : Option (Int32 × pv_S) := (Option.bind (f_X8_remember σ) (fun q1 => (gd 0 874 (gd 0 874 (Option.bind (f_X8_part0 (pv_sa q1 13 0 0)) (fun q4 => (some ((pv_la q1 13 0), q4))))))))
def f_X8_draw (p0 : Int32) (σ : pv_S) : Option (Int32 × pv_S) := (gn p0 (some (((((pv_pi σ 12 ((((((σ.1 12)).toInt64 * 1103515245) + 12345) - ((((σ.1 12)).toInt64 * 1103515245) + 12345) / 2147483648 * 2147483648)).toInt32).1 12) / 65536) - (((pv_pi σ 12 ((((((σ.1 12)).toInt64 * 1103515245) + 12345) - ((((σ.1 12)).toInt64 * 1103515245) + 12345) / 2147483648 * 2147483648)).toInt32).1 12) / 65536) / p0 * p0), (pv_pi σ 12 ((((((σ.1 12)).toInt64 * 1103515245) + 12345) - ((((σ.1 12)).toInt64 * 1103515245) + 12345) / 2147483648 * 2147483648)).toInt32))))
def f_X8_drift_80 (σ : pv_S) : Option (Int32 × pv_S) := (gd 0 874 (some ((pv_la σ 13 0), σ)))
def f_X8_drift_17 : Nat → Int32 → Int32 → pv_S → Option (Int32 × pv_S)
  | 0, _, _, _ => none
  | n + 1, v1, v2, σ => (if v1 ≤ v2 then (f_X8_drift_80 σ) else (gd 0 874 (if 10 ≤ (pv_la σ 13 0) then (f_X8_drift_80 σ) else (Option.bind (f_X8_remember σ) (fun q4 => (Option.bind (f_X8_draw 24 q4) (fun q5 => (Option.bind (f_X8_draw 6 q5.2) (fun q6 => (Option.bind (f_X8_draw 25 q6.2) (fun q7 => (Option.bind (f_X8_add q5.1 (q6.1 + 1) (q7.1 + 48) q7.2) (fun q8 => (f_X8_drift_17 n v1 (v2 + 1) (pv_pi q8.2 14 q8.1)))))))))))))))
def f_X8_drift (p0 : Int32) (σ : pv_S) : Option (Int32 × pv_S) := (Option.bind (f_X8_in p0.toInt64 1 10 σ) (fun q1 => (if q1.1 = 0 then (some ((-1000000002), q1.2)) else (f_X8_drift_17 pv_FU p0 0 q1.2))))
def f_X8_undo_28 : Nat → Int32 → Int32 → pv_S → Option (Int32 × pv_S)
  | 0, _, _, _ => none
  | n + 1, v1, v2, σ => (if 16 < (v2 + v1) then (gd 0 874 (some ((pv_la (pv_pi σ 10 ((σ.1 10) - v1)) 13 0), (pv_pi σ 10 ((σ.1 10) - v1))))) else (Option.bind (f_X8_copyRow (46 * (v2 + v1)) (46 * v2) σ) (fun q3 => (f_X8_undo_28 n v1 (v2 + 1) q3))))
def f_X8_undo (p0 : Int32) (σ : pv_S) : Option (Int32 × pv_S) := (Option.bind (f_X8_in p0.toInt64 1 16 σ) (fun q1 => (if q1.1 = 0 then (some ((-1000000002), q1.2)) else (if p0 ≤ (q1.2.1 10) then (f_X8_undo_28 pv_FU p0 0 q1.2) else (some ((-1000000003), q1.2))))))
def f_X8_write (p0 : Int32) (p1 : Int32) (σ : pv_S) : Option (Int32 × pv_S) := (Option.bind (f_X8_in p0.toInt64 0 10 σ) (fun q1 => (if q1.1 = 0 then (some ((-1000000002), q1.2)) else (if (q1.2.1 13) = 20 then (some ((-1000000004), q1.2)) else (gd (q1.2.1 13) 20 (gd ((pv_sa q1.2 15 (q1.2.1 13) p0).1 13) 20 (some (((pv_pi (pv_sa (pv_sa q1.2 15 (q1.2.1 13) p0) 16 ((pv_sa q1.2 15 (q1.2.1 13) p0).1 13) p1) 13 (((pv_sa (pv_sa q1.2 15 (q1.2.1 13) p0) 16 ((pv_sa q1.2 15 (q1.2.1 13) p0).1 13) p1).1 13) + 1)).1 13), (pv_pi (pv_sa (pv_sa q1.2 15 (q1.2.1 13) p0) 16 ((pv_sa q1.2 15 (q1.2.1 13) p0).1 13) p1) 13 (((pv_sa (pv_sa q1.2 15 (q1.2.1 13) p0) 16 ((pv_sa q1.2 15 (q1.2.1 13) p0).1 13) p1).1 13) + 1))))))))))
def f_X8_tear (σ : pv_S) : Option (Int32 × pv_S) := (some ((σ.1 13), (pv_pi σ 13 0)))
def f_X8_seed (p0 : Int32) (σ : pv_S) : Option (Int32 × pv_S) := (if 0 ≤ p0 then (some ((σ.1 12), (pv_pi σ 12 p0))) else (some ((-1000000002), σ)))
def f_X8_keep (p0 : Int32) (σ : pv_S) : Option (Int32 × pv_S) := (Option.bind (f_X8_in p0.toInt64 0 1 σ) (fun q1 => (if q1.1 = 0 then (some ((-1000000001), q1.2)) else (Option.bind (f_X8_copyRow 0 (782 + (46 * p0)) q1.2) (fun q3 => (gd p0 2 (some (1, (pv_pi (pv_pi (pv_sa q3 14 p0 (q3.1 12)) 11 (((pv_sa q3 14 p0 (q3.1 12)).1 11) ||| (1 <<< (p0 &&& 31)))) 10 0)))))))))
def f_X8_goBack (p0 : Int32) (σ : pv_S) : Option (Int32 × pv_S) := (Option.bind (f_X8_in p0.toInt64 0 1 σ) (fun q1 => (if q1.1 = 0 then (some ((-1000000001), q1.2)) else (if (((q1.2.1 11) >>> (p0 &&& 31)) &&& 1) = 0 then (some ((-1000000003), q1.2)) else (Option.bind (f_X8_copyRow (782 + (46 * p0)) 0 q1.2) (fun q4 => (gd p0 2 (some (1, (pv_pi (pv_pi q4 12 (pv_la q4 14 p0)) 10 0))))))))))
end
