section
-- ===== PART A: goes FIRST, ahead of the names: the tables' words, and 'selects' of the private methods out of them =====
/-- a private method of a class that the tables say can be made, by its rows of tables_1 -/
def lw_okq (q : MethodName × Nat) : Prop := (q.1.cls ≠ "java/lang/invoke/MethodHandle" ∧ q.1.cls ≠ "java/lang/invoke/VarHandle") ∧ Cond.instantiable q.1.cls q.2 ∈ tables_1 ∧ Cond.privateMethod q.1 ∈ tables_1 ∧ Cond.instanceMethod q.1 ∈ tables_1
theorem lw_p0 : lw_okq (⟨"SmokeGoesTo$Reader", "step", "()V"⟩, 7) := ⟨⟨by decide +kernel, by decide +kernel⟩, List.mem_of_getElem? (i := 84) (by decide +kernel), List.mem_of_getElem? (i := 292) (by decide +kernel), List.mem_of_getElem? (i := 293) (by decide +kernel)⟩
theorem lw_p1 : lw_okq (⟨"SmokeGoesTo$Reader", "stepNumber", "()V"⟩, 7) := ⟨⟨by decide +kernel, by decide +kernel⟩, List.mem_of_getElem? (i := 84) (by decide +kernel), List.mem_of_getElem? (i := 299) (by decide +kernel), List.mem_of_getElem? (i := 300) (by decide +kernel)⟩
theorem lw_p2 : lw_okq (⟨"SmokeGoesTo$Reader", "stepWord", "()V"⟩, 7) := ⟨⟨by decide +kernel, by decide +kernel⟩, List.mem_of_getElem? (i := 84) (by decide +kernel), List.mem_of_getElem? (i := 306) (by decide +kernel), List.mem_of_getElem? (i := 307) (by decide +kernel)⟩
theorem lw_p3 : lw_okq (⟨"SmokeGoesTo$Reader", "isWord", "(I)Z"⟩, 7) := ⟨⟨by decide +kernel, by decide +kernel⟩, List.mem_of_getElem? (i := 84) (by decide +kernel), List.mem_of_getElem? (i := 310) (by decide +kernel), List.mem_of_getElem? (i := 311) (by decide +kernel)⟩
theorem lw_p4 : lw_okq (⟨"SmokeGoesTo$Reader", "accept", "(I)Z"⟩, 7) := ⟨⟨by decide +kernel, by decide +kernel⟩, List.mem_of_getElem? (i := 84) (by decide +kernel), List.mem_of_getElem? (i := 376) (by decide +kernel), List.mem_of_getElem? (i := 377) (by decide +kernel)⟩
theorem lw_p5 : lw_okq (⟨"SmokeGoesTo$Reader", "readOr", "(I)Z"⟩, 7) := ⟨⟨by decide +kernel, by decide +kernel⟩, List.mem_of_getElem? (i := 84) (by decide +kernel), List.mem_of_getElem? (i := 380) (by decide +kernel), List.mem_of_getElem? (i := 381) (by decide +kernel)⟩
theorem lw_p6 : lw_okq (⟨"SmokeGoesTo$Reader", "readAnd", "(I)Z"⟩, 7) := ⟨⟨by decide +kernel, by decide +kernel⟩, List.mem_of_getElem? (i := 84) (by decide +kernel), List.mem_of_getElem? (i := 384) (by decide +kernel), List.mem_of_getElem? (i := 385) (by decide +kernel)⟩
theorem lw_p7 : lw_okq (⟨"SmokeGoesTo$Reader", "readNot", "(I)Z"⟩, 7) := ⟨⟨by decide +kernel, by decide +kernel⟩, List.mem_of_getElem? (i := 84) (by decide +kernel), List.mem_of_getElem? (i := 388) (by decide +kernel), List.mem_of_getElem? (i := 389) (by decide +kernel)⟩
theorem lw_p8 : lw_okq (⟨"SmokeGoesTo$Reader", "readSum", "(I)Z"⟩, 7) := ⟨⟨by decide +kernel, by decide +kernel⟩, List.mem_of_getElem? (i := 84) (by decide +kernel), List.mem_of_getElem? (i := 400) (by decide +kernel), List.mem_of_getElem? (i := 401) (by decide +kernel)⟩
theorem lw_p9 : lw_okq (⟨"SmokeGoesTo$Reader", "readTerm", "(I)Z"⟩, 7) := ⟨⟨by decide +kernel, by decide +kernel⟩, List.mem_of_getElem? (i := 84) (by decide +kernel), List.mem_of_getElem? (i := 404) (by decide +kernel), List.mem_of_getElem? (i := 405) (by decide +kernel)⟩
theorem lw_p10 : lw_okq (⟨"SmokeGoesTo$Reader", "readOne", "(I)Z"⟩, 7) := ⟨⟨by decide +kernel, by decide +kernel⟩, List.mem_of_getElem? (i := 84) (by decide +kernel), List.mem_of_getElem? (i := 408) (by decide +kernel), List.mem_of_getElem? (i := 409) (by decide +kernel)⟩
theorem lw_p11 : lw_okq (⟨"SmokeGoesTo", "setSmoke", "(I)I"⟩, 9) := ⟨⟨by decide +kernel, by decide +kernel⟩, List.mem_of_getElem? (i := 19) (by decide +kernel), List.mem_of_getElem? (i := 458) (by decide +kernel), List.mem_of_getElem? (i := 459) (by decide +kernel)⟩
theorem lw_p12 : lw_okq (⟨"SmokeGoesTo", "setLeft", "(I)I"⟩, 9) := ⟨⟨by decide +kernel, by decide +kernel⟩, List.mem_of_getElem? (i := 19) (by decide +kernel), List.mem_of_getElem? (i := 465) (by decide +kernel), List.mem_of_getElem? (i := 466) (by decide +kernel)⟩
theorem lw_p13 : lw_okq (⟨"SmokeGoesTo", "setRight", "(I)I"⟩, 9) := ⟨⟨by decide +kernel, by decide +kernel⟩, List.mem_of_getElem? (i := 19) (by decide +kernel), List.mem_of_getElem? (i := 469) (by decide +kernel), List.mem_of_getElem? (i := 470) (by decide +kernel)⟩
theorem lw_p14 : lw_okq (⟨"SmokeGoesTo", "setTents", "(I)I"⟩, 9) := ⟨⟨by decide +kernel, by decide +kernel⟩, List.mem_of_getElem? (i := 19) (by decide +kernel), List.mem_of_getElem? (i := 473) (by decide +kernel), List.mem_of_getElem? (i := 474) (by decide +kernel)⟩
theorem lw_p15 : lw_okq (⟨"SmokeGoesTo", "setEddy", "(I)I"⟩, 9) := ⟨⟨by decide +kernel, by decide +kernel⟩, List.mem_of_getElem? (i := 19) (by decide +kernel), List.mem_of_getElem? (i := 477) (by decide +kernel), List.mem_of_getElem? (i := 478) (by decide +kernel)⟩
def lw_privs_1 : List (MethodName × Nat) := [(⟨"SmokeGoesTo$Reader", "step", "()V"⟩, 7), (⟨"SmokeGoesTo$Reader", "stepNumber", "()V"⟩, 7), (⟨"SmokeGoesTo$Reader", "stepWord", "()V"⟩, 7), (⟨"SmokeGoesTo$Reader", "isWord", "(I)Z"⟩, 7), (⟨"SmokeGoesTo$Reader", "accept", "(I)Z"⟩, 7), (⟨"SmokeGoesTo$Reader", "readOr", "(I)Z"⟩, 7), (⟨"SmokeGoesTo$Reader", "readAnd", "(I)Z"⟩, 7), (⟨"SmokeGoesTo$Reader", "readNot", "(I)Z"⟩, 7), (⟨"SmokeGoesTo$Reader", "readSum", "(I)Z"⟩, 7), (⟨"SmokeGoesTo$Reader", "readTerm", "(I)Z"⟩, 7), (⟨"SmokeGoesTo$Reader", "readOne", "(I)Z"⟩, 7), (⟨"SmokeGoesTo", "setSmoke", "(I)I"⟩, 9), (⟨"SmokeGoesTo", "setLeft", "(I)I"⟩, 9), (⟨"SmokeGoesTo", "setRight", "(I)I"⟩, 9), (⟨"SmokeGoesTo", "setTents", "(I)I"⟩, 9), (⟨"SmokeGoesTo", "setEddy", "(I)I"⟩, 9)]
theorem lw_r1 : ∀ q ∈ lw_privs_1, lw_okq q := List.forall_mem_cons.mpr ⟨lw_p0, List.forall_mem_cons.mpr ⟨lw_p1, List.forall_mem_cons.mpr ⟨lw_p2, List.forall_mem_cons.mpr ⟨lw_p3, List.forall_mem_cons.mpr ⟨lw_p4, List.forall_mem_cons.mpr ⟨lw_p5, List.forall_mem_cons.mpr ⟨lw_p6, List.forall_mem_cons.mpr ⟨lw_p7, List.forall_mem_cons.mpr ⟨lw_p8, List.forall_mem_cons.mpr ⟨lw_p9, List.forall_mem_cons.mpr ⟨lw_p10, List.forall_mem_cons.mpr ⟨lw_p11, List.forall_mem_cons.mpr ⟨lw_p12, List.forall_mem_cons.mpr ⟨lw_p13, List.forall_mem_cons.mpr ⟨lw_p14, List.forall_mem_cons.mpr ⟨lw_p15, fun _ h => absurd h List.not_mem_nil⟩⟩⟩⟩⟩⟩⟩⟩⟩⟩⟩⟩⟩⟩⟩⟩
theorem lw_p16 : lw_okq (⟨"SmokeGoesTo", "setNumber", "(II)I"⟩, 9) := ⟨⟨by decide +kernel, by decide +kernel⟩, List.mem_of_getElem? (i := 19) (by decide +kernel), List.mem_of_getElem? (i := 481) (by decide +kernel), List.mem_of_getElem? (i := 482) (by decide +kernel)⟩
theorem lw_p17 : lw_okq (⟨"SmokeGoesTo", "setPlace", "(II)I"⟩, 9) := ⟨⟨by decide +kernel, by decide +kernel⟩, List.mem_of_getElem? (i := 19) (by decide +kernel), List.mem_of_getElem? (i := 489) (by decide +kernel), List.mem_of_getElem? (i := 490) (by decide +kernel)⟩
theorem lw_p18 : lw_okq (⟨"SmokeGoesTo", "isNightWhat", "(I)Z"⟩, 9) := ⟨⟨by decide +kernel, by decide +kernel⟩, List.mem_of_getElem? (i := 19) (by decide +kernel), List.mem_of_getElem? (i := 545) (by decide +kernel), List.mem_of_getElem? (i := 546) (by decide +kernel)⟩
theorem lw_p19 : lw_okq (⟨"SmokeGoesTo", "thinkAsItIs", "()V"⟩, 9) := ⟨⟨by decide +kernel, by decide +kernel⟩, List.mem_of_getElem? (i := 19) (by decide +kernel), List.mem_of_getElem? (i := 561) (by decide +kernel), List.mem_of_getElem? (i := 562) (by decide +kernel)⟩
theorem lw_p20 : lw_okq (⟨"SmokeGoesTo$Night", "turn", "(I)V"⟩, 14) := ⟨⟨by decide +kernel, by decide +kernel⟩, List.mem_of_getElem? (i := 117) (by decide +kernel), List.mem_of_getElem? (i := 581) (by decide +kernel), List.mem_of_getElem? (i := 582) (by decide +kernel)⟩
theorem lw_p21 : lw_okq (⟨"SmokeGoesTo$Night", "feel", "(IZI)V"⟩, 14) := ⟨⟨by decide +kernel, by decide +kernel⟩, List.mem_of_getElem? (i := 117) (by decide +kernel), List.mem_of_getElem? (i := 591) (by decide +kernel), List.mem_of_getElem? (i := 592) (by decide +kernel)⟩
theorem lw_p22 : lw_okq (⟨"SmokeGoesTo$Night", "price", "(III)I"⟩, 14) := ⟨⟨by decide +kernel, by decide +kernel⟩, List.mem_of_getElem? (i := 117) (by decide +kernel), List.mem_of_getElem? (i := 595) (by decide +kernel), List.mem_of_getElem? (i := 596) (by decide +kernel)⟩
theorem lw_p23 : lw_okq (⟨"SmokeGoesTo$Night", "rise", "(III)V"⟩, 14) := ⟨⟨by decide +kernel, by decide +kernel⟩, List.mem_of_getElem? (i := 117) (by decide +kernel), List.mem_of_getElem? (i := 613) (by decide +kernel), List.mem_of_getElem? (i := 614) (by decide +kernel)⟩
theorem lw_p24 : lw_okq (⟨"SmokeGoesTo", "refusal", "(I)I"⟩, 9) := ⟨⟨by decide +kernel, by decide +kernel⟩, List.mem_of_getElem? (i := 19) (by decide +kernel), List.mem_of_getElem? (i := 642) (by decide +kernel), List.mem_of_getElem? (i := 643) (by decide +kernel)⟩
theorem lw_p25 : lw_okq (⟨"SmokeGoesTo$Odds", "pass", "(II)V"⟩, 4) := ⟨⟨by decide +kernel, by decide +kernel⟩, List.mem_of_getElem? (i := 171) (by decide +kernel), List.mem_of_getElem? (i := 664) (by decide +kernel), List.mem_of_getElem? (i := 665) (by decide +kernel)⟩
theorem lw_p26 : lw_okq (⟨"SmokeGoesTo", "leastOutside", "(I)I"⟩, 9) := ⟨⟨by decide +kernel, by decide +kernel⟩, List.mem_of_getElem? (i := 19) (by decide +kernel), List.mem_of_getElem? (i := 692) (by decide +kernel), List.mem_of_getElem? (i := 693) (by decide +kernel)⟩
theorem lw_p27 : lw_okq (⟨"SmokeGoesTo", "costIf", "(III)I"⟩, 9) := ⟨⟨by decide +kernel, by decide +kernel⟩, List.mem_of_getElem? (i := 19) (by decide +kernel), List.mem_of_getElem? (i := 704) (by decide +kernel), List.mem_of_getElem? (i := 705) (by decide +kernel)⟩
theorem lw_p28 : lw_okq (⟨"SmokeGoesTo", "costIfEddy", "(I)I"⟩, 9) := ⟨⟨by decide +kernel, by decide +kernel⟩, List.mem_of_getElem? (i := 19) (by decide +kernel), List.mem_of_getElem? (i := 713) (by decide +kernel), List.mem_of_getElem? (i := 714) (by decide +kernel)⟩
theorem lw_p29 : lw_okq (⟨"SmokeGoesTo", "rowsThatFit", "(LSmokeGoesTo$Sheet;I)I"⟩, 9) := ⟨⟨by decide +kernel, by decide +kernel⟩, List.mem_of_getElem? (i := 19) (by decide +kernel), List.mem_of_getElem? (i := 725) (by decide +kernel), List.mem_of_getElem? (i := 726) (by decide +kernel)⟩
theorem lw_p30 : lw_okq (⟨"SmokeGoesTo", "fits", "(LSmokeGoesTo$Sheet;IIII)Z"⟩, 9) := ⟨⟨by decide +kernel, by decide +kernel⟩, List.mem_of_getElem? (i := 19) (by decide +kernel), List.mem_of_getElem? (i := 732) (by decide +kernel), List.mem_of_getElem? (i := 733) (by decide +kernel)⟩
theorem lw_p31 : lw_okq (⟨"SmokeGoesTo", "firstThatFits", "(LSmokeGoesTo$Sheet;I)I"⟩, 9) := ⟨⟨by decide +kernel, by decide +kernel⟩, List.mem_of_getElem? (i := 19) (by decide +kernel), List.mem_of_getElem? (i := 741) (by decide +kernel), List.mem_of_getElem? (i := 742) (by decide +kernel)⟩
def lw_privs_2 : List (MethodName × Nat) := [(⟨"SmokeGoesTo", "setNumber", "(II)I"⟩, 9), (⟨"SmokeGoesTo", "setPlace", "(II)I"⟩, 9), (⟨"SmokeGoesTo", "isNightWhat", "(I)Z"⟩, 9), (⟨"SmokeGoesTo", "thinkAsItIs", "()V"⟩, 9), (⟨"SmokeGoesTo$Night", "turn", "(I)V"⟩, 14), (⟨"SmokeGoesTo$Night", "feel", "(IZI)V"⟩, 14), (⟨"SmokeGoesTo$Night", "price", "(III)I"⟩, 14), (⟨"SmokeGoesTo$Night", "rise", "(III)V"⟩, 14), (⟨"SmokeGoesTo", "refusal", "(I)I"⟩, 9), (⟨"SmokeGoesTo$Odds", "pass", "(II)V"⟩, 4), (⟨"SmokeGoesTo", "leastOutside", "(I)I"⟩, 9), (⟨"SmokeGoesTo", "costIf", "(III)I"⟩, 9), (⟨"SmokeGoesTo", "costIfEddy", "(I)I"⟩, 9), (⟨"SmokeGoesTo", "rowsThatFit", "(LSmokeGoesTo$Sheet;I)I"⟩, 9), (⟨"SmokeGoesTo", "fits", "(LSmokeGoesTo$Sheet;IIII)Z"⟩, 9), (⟨"SmokeGoesTo", "firstThatFits", "(LSmokeGoesTo$Sheet;I)I"⟩, 9)]
theorem lw_r2 : ∀ q ∈ lw_privs_2, lw_okq q := List.forall_mem_cons.mpr ⟨lw_p16, List.forall_mem_cons.mpr ⟨lw_p17, List.forall_mem_cons.mpr ⟨lw_p18, List.forall_mem_cons.mpr ⟨lw_p19, List.forall_mem_cons.mpr ⟨lw_p20, List.forall_mem_cons.mpr ⟨lw_p21, List.forall_mem_cons.mpr ⟨lw_p22, List.forall_mem_cons.mpr ⟨lw_p23, List.forall_mem_cons.mpr ⟨lw_p24, List.forall_mem_cons.mpr ⟨lw_p25, List.forall_mem_cons.mpr ⟨lw_p26, List.forall_mem_cons.mpr ⟨lw_p27, List.forall_mem_cons.mpr ⟨lw_p28, List.forall_mem_cons.mpr ⟨lw_p29, List.forall_mem_cons.mpr ⟨lw_p30, List.forall_mem_cons.mpr ⟨lw_p31, fun _ h => absurd h List.not_mem_nil⟩⟩⟩⟩⟩⟩⟩⟩⟩⟩⟩⟩⟩⟩⟩⟩
theorem lw_p32 : lw_okq (⟨"SmokeGoesTo", "kindsThatFit", "(LSmokeGoesTo$Sheet;II)I"⟩, 9) := ⟨⟨by decide +kernel, by decide +kernel⟩, List.mem_of_getElem? (i := 19) (by decide +kernel), List.mem_of_getElem? (i := 749) (by decide +kernel), List.mem_of_getElem? (i := 750) (by decide +kernel)⟩
theorem lw_p33 : lw_okq (⟨"SmokeGoesToModel", "spell", "(IIIIIIIII)V"⟩, 57) := ⟨⟨by decide +kernel, by decide +kernel⟩, List.mem_of_getElem? (i := 824) (by decide +kernel), List.mem_of_getElem? (i := 830) (by decide +kernel), List.mem_of_getElem? (i := 831) (by decide +kernel)⟩
theorem lw_p34 : lw_okq (⟨"SmokeGoesToModel", "isSitter", "(I)Z"⟩, 57) := ⟨⟨by decide +kernel, by decide +kernel⟩, List.mem_of_getElem? (i := 824) (by decide +kernel), List.mem_of_getElem? (i := 1014) (by decide +kernel), List.mem_of_getElem? (i := 1015) (by decide +kernel)⟩
theorem lw_p35 : lw_okq (⟨"SmokeGoesToModel", "onPlace", "(II)I"⟩, 57) := ⟨⟨by decide +kernel, by decide +kernel⟩, List.mem_of_getElem? (i := 824) (by decide +kernel), List.mem_of_getElem? (i := 1018) (by decide +kernel), List.mem_of_getElem? (i := 1019) (by decide +kernel)⟩
theorem lw_p36 : lw_okq (⟨"SmokeGoesToModel", "goesTo", "(III)I"⟩, 57) := ⟨⟨by decide +kernel, by decide +kernel⟩, List.mem_of_getElem? (i := 824) (by decide +kernel), List.mem_of_getElem? (i := 1036) (by decide +kernel), List.mem_of_getElem? (i := 1037) (by decide +kernel)⟩
theorem lw_p37 : lw_okq (⟨"SmokeGoesToModel", "getsUp", "(II)Z"⟩, 57) := ⟨⟨by decide +kernel, by decide +kernel⟩, List.mem_of_getElem? (i := 824) (by decide +kernel), List.mem_of_getElem? (i := 1043) (by decide +kernel), List.mem_of_getElem? (i := 1044) (by decide +kernel)⟩
theorem lw_p38 : lw_okq (⟨"SmokeGoesToModel", "read", "(II)I"⟩, 57) := ⟨⟨by decide +kernel, by decide +kernel⟩, List.mem_of_getElem? (i := 824) (by decide +kernel), List.mem_of_getElem? (i := 1056) (by decide +kernel), List.mem_of_getElem? (i := 1057) (by decide +kernel)⟩
theorem lw_p39 : lw_okq (⟨"SmokeGoesToModel", "next", "()V"⟩, 57) := ⟨⟨by decide +kernel, by decide +kernel⟩, List.mem_of_getElem? (i := 824) (by decide +kernel), List.mem_of_getElem? (i := 1060) (by decide +kernel), List.mem_of_getElem? (i := 1061) (by decide +kernel)⟩
theorem lw_p40 : lw_okq (⟨"SmokeGoesToModel", "byteAt", "(I)I"⟩, 57) := ⟨⟨by decide +kernel, by decide +kernel⟩, List.mem_of_getElem? (i := 824) (by decide +kernel), List.mem_of_getElem? (i := 1064) (by decide +kernel), List.mem_of_getElem? (i := 1065) (by decide +kernel)⟩
theorem lw_p41 : lw_okq (⟨"SmokeGoesToModel", "isWord", "(IIIIIIII)Z"⟩, 57) := ⟨⟨by decide +kernel, by decide +kernel⟩, List.mem_of_getElem? (i := 824) (by decide +kernel), List.mem_of_getElem? (i := 1073) (by decide +kernel), List.mem_of_getElem? (i := 1074) (by decide +kernel)⟩
theorem lw_p42 : lw_okq (⟨"SmokeGoesToModel", "isLetter", "(II)Z"⟩, 57) := ⟨⟨by decide +kernel, by decide +kernel⟩, List.mem_of_getElem? (i := 824) (by decide +kernel), List.mem_of_getElem? (i := 1077) (by decide +kernel), List.mem_of_getElem? (i := 1078) (by decide +kernel)⟩
theorem lw_p43 : lw_okq (⟨"SmokeGoesToModel", "part", "(Z)I"⟩, 57) := ⟨⟨by decide +kernel, by decide +kernel⟩, List.mem_of_getElem? (i := 824) (by decide +kernel), List.mem_of_getElem? (i := 1081) (by decide +kernel), List.mem_of_getElem? (i := 1082) (by decide +kernel)⟩
theorem lw_p44 : lw_okq (⟨"SmokeGoesToModel", "fail", "()V"⟩, 57) := ⟨⟨by decide +kernel, by decide +kernel⟩, List.mem_of_getElem? (i := 824) (by decide +kernel), List.mem_of_getElem? (i := 1085) (by decide +kernel), List.mem_of_getElem? (i := 1086) (by decide +kernel)⟩
theorem lw_p45 : lw_okq (⟨"SmokeGoesToModel", "either", "()I"⟩, 57) := ⟨⟨by decide +kernel, by decide +kernel⟩, List.mem_of_getElem? (i := 824) (by decide +kernel), List.mem_of_getElem? (i := 1089) (by decide +kernel), List.mem_of_getElem? (i := 1090) (by decide +kernel)⟩
theorem lw_p46 : lw_okq (⟨"SmokeGoesToModel", "both", "()I"⟩, 57) := ⟨⟨by decide +kernel, by decide +kernel⟩, List.mem_of_getElem? (i := 824) (by decide +kernel), List.mem_of_getElem? (i := 1093) (by decide +kernel), List.mem_of_getElem? (i := 1094) (by decide +kernel)⟩
theorem lw_p47 : lw_okq (⟨"SmokeGoesToModel", "not", "()I"⟩, 57) := ⟨⟨by decide +kernel, by decide +kernel⟩, List.mem_of_getElem? (i := 824) (by decide +kernel), List.mem_of_getElem? (i := 1097) (by decide +kernel), List.mem_of_getElem? (i := 1098) (by decide +kernel)⟩
def lw_privs_3 : List (MethodName × Nat) := [(⟨"SmokeGoesTo", "kindsThatFit", "(LSmokeGoesTo$Sheet;II)I"⟩, 9), (⟨"SmokeGoesToModel", "spell", "(IIIIIIIII)V"⟩, 57), (⟨"SmokeGoesToModel", "isSitter", "(I)Z"⟩, 57), (⟨"SmokeGoesToModel", "onPlace", "(II)I"⟩, 57), (⟨"SmokeGoesToModel", "goesTo", "(III)I"⟩, 57), (⟨"SmokeGoesToModel", "getsUp", "(II)Z"⟩, 57), (⟨"SmokeGoesToModel", "read", "(II)I"⟩, 57), (⟨"SmokeGoesToModel", "next", "()V"⟩, 57), (⟨"SmokeGoesToModel", "byteAt", "(I)I"⟩, 57), (⟨"SmokeGoesToModel", "isWord", "(IIIIIIII)Z"⟩, 57), (⟨"SmokeGoesToModel", "isLetter", "(II)Z"⟩, 57), (⟨"SmokeGoesToModel", "part", "(Z)I"⟩, 57), (⟨"SmokeGoesToModel", "fail", "()V"⟩, 57), (⟨"SmokeGoesToModel", "either", "()I"⟩, 57), (⟨"SmokeGoesToModel", "both", "()I"⟩, 57), (⟨"SmokeGoesToModel", "not", "()I"⟩, 57)]
theorem lw_r3 : ∀ q ∈ lw_privs_3, lw_okq q := List.forall_mem_cons.mpr ⟨lw_p32, List.forall_mem_cons.mpr ⟨lw_p33, List.forall_mem_cons.mpr ⟨lw_p34, List.forall_mem_cons.mpr ⟨lw_p35, List.forall_mem_cons.mpr ⟨lw_p36, List.forall_mem_cons.mpr ⟨lw_p37, List.forall_mem_cons.mpr ⟨lw_p38, List.forall_mem_cons.mpr ⟨lw_p39, List.forall_mem_cons.mpr ⟨lw_p40, List.forall_mem_cons.mpr ⟨lw_p41, List.forall_mem_cons.mpr ⟨lw_p42, List.forall_mem_cons.mpr ⟨lw_p43, List.forall_mem_cons.mpr ⟨lw_p44, List.forall_mem_cons.mpr ⟨lw_p45, List.forall_mem_cons.mpr ⟨lw_p46, List.forall_mem_cons.mpr ⟨lw_p47, fun _ h => absurd h List.not_mem_nil⟩⟩⟩⟩⟩⟩⟩⟩⟩⟩⟩⟩⟩⟩⟩⟩
theorem lw_p48 : lw_okq (⟨"SmokeGoesToModel", "opens", "()Z"⟩, 57) := ⟨⟨by decide +kernel, by decide +kernel⟩, List.mem_of_getElem? (i := 824) (by decide +kernel), List.mem_of_getElem? (i := 1101) (by decide +kernel), List.mem_of_getElem? (i := 1102) (by decide +kernel)⟩
theorem lw_p49 : lw_okq (⟨"SmokeGoesToModel", "added", "()I"⟩, 57) := ⟨⟨by decide +kernel, by decide +kernel⟩, List.mem_of_getElem? (i := 824) (by decide +kernel), List.mem_of_getElem? (i := 1105) (by decide +kernel), List.mem_of_getElem? (i := 1106) (by decide +kernel)⟩
theorem lw_p50 : lw_okq (⟨"SmokeGoesToModel", "term", "()I"⟩, 57) := ⟨⟨by decide +kernel, by decide +kernel⟩, List.mem_of_getElem? (i := 824) (by decide +kernel), List.mem_of_getElem? (i := 1109) (by decide +kernel), List.mem_of_getElem? (i := 1110) (by decide +kernel)⟩
theorem lw_p51 : lw_okq (⟨"SmokeGoesToModel", "atom", "()I"⟩, 57) := ⟨⟨by decide +kernel, by decide +kernel⟩, List.mem_of_getElem? (i := 824) (by decide +kernel), List.mem_of_getElem? (i := 1113) (by decide +kernel), List.mem_of_getElem? (i := 1114) (by decide +kernel)⟩
theorem lw_p52 : lw_okq (⟨"SmokeGoesToModel", "isSign", "(I)Z"⟩, 57) := ⟨⟨by decide +kernel, by decide +kernel⟩, List.mem_of_getElem? (i := 824) (by decide +kernel), List.mem_of_getElem? (i := 1117) (by decide +kernel), List.mem_of_getElem? (i := 1118) (by decide +kernel)⟩
theorem lw_p53 : lw_okq (⟨"SmokeGoesToModel", "name", "()I"⟩, 57) := ⟨⟨by decide +kernel, by decide +kernel⟩, List.mem_of_getElem? (i := 824) (by decide +kernel), List.mem_of_getElem? (i := 1121) (by decide +kernel), List.mem_of_getElem? (i := 1122) (by decide +kernel)⟩
theorem lw_p54 : lw_okq (⟨"SmokeGoesToModel", "layAside", "()V"⟩, 57) := ⟨⟨by decide +kernel, by decide +kernel⟩, List.mem_of_getElem? (i := 824) (by decide +kernel), List.mem_of_getElem? (i := 1140) (by decide +kernel), List.mem_of_getElem? (i := 1141) (by decide +kernel)⟩
theorem lw_p55 : lw_okq (⟨"SmokeGoesToModel", "nights", "(I)V"⟩, 57) := ⟨⟨by decide +kernel, by decide +kernel⟩, List.mem_of_getElem? (i := 824) (by decide +kernel), List.mem_of_getElem? (i := 1144) (by decide +kernel), List.mem_of_getElem? (i := 1145) (by decide +kernel)⟩
theorem lw_p56 : lw_okq (⟨"SmokeGoesToModel", "begins", "()V"⟩, 57) := ⟨⟨by decide +kernel, by decide +kernel⟩, List.mem_of_getElem? (i := 824) (by decide +kernel), List.mem_of_getElem? (i := 1148) (by decide +kernel), List.mem_of_getElem? (i := 1149) (by decide +kernel)⟩
theorem lw_p57 : lw_okq (⟨"SmokeGoesToModel", "passes", "(II)V"⟩, 57) := ⟨⟨by decide +kernel, by decide +kernel⟩, List.mem_of_getElem? (i := 824) (by decide +kernel), List.mem_of_getElem? (i := 1155) (by decide +kernel), List.mem_of_getElem? (i := 1156) (by decide +kernel)⟩
theorem lw_p58 : lw_okq (⟨"SmokeGoesToModel", "turns", "(I)V"⟩, 57) := ⟨⟨by decide +kernel, by decide +kernel⟩, List.mem_of_getElem? (i := 824) (by decide +kernel), List.mem_of_getElem? (i := 1159) (by decide +kernel), List.mem_of_getElem? (i := 1160) (by decide +kernel)⟩
theorem lw_p59 : lw_okq (⟨"SmokeGoesToModel", "bearsOf", "(III)I"⟩, 57) := ⟨⟨by decide +kernel, by decide +kernel⟩, List.mem_of_getElem? (i := 824) (by decide +kernel), List.mem_of_getElem? (i := 1163) (by decide +kernel), List.mem_of_getElem? (i := 1164) (by decide +kernel)⟩
theorem lw_p60 : lw_okq (⟨"SmokeGoesToModel", "says", "(IIII)I"⟩, 57) := ⟨⟨by decide +kernel, by decide +kernel⟩, List.mem_of_getElem? (i := 824) (by decide +kernel), List.mem_of_getElem? (i := 1167) (by decide +kernel), List.mem_of_getElem? (i := 1168) (by decide +kernel)⟩
theorem lw_p61 : lw_okq (⟨"SmokeGoesToModel", "firstFree", "(II)I"⟩, 57) := ⟨⟨by decide +kernel, by decide +kernel⟩, List.mem_of_getElem? (i := 824) (by decide +kernel), List.mem_of_getElem? (i := 1174) (by decide +kernel), List.mem_of_getElem? (i := 1175) (by decide +kernel)⟩
theorem lw_p62 : lw_okq (⟨"SmokeGoesToModel", "sumOf", "([I)I"⟩, 57) := ⟨⟨by decide +kernel, by decide +kernel⟩, List.mem_of_getElem? (i := 824) (by decide +kernel), List.mem_of_getElem? (i := 1178) (by decide +kernel), List.mem_of_getElem? (i := 1179) (by decide +kernel)⟩
theorem lw_p63 : lw_okq (⟨"SmokeGoesToModel", "takeBack", "()V"⟩, 57) := ⟨⟨by decide +kernel, by decide +kernel⟩, List.mem_of_getElem? (i := 824) (by decide +kernel), List.mem_of_getElem? (i := 1182) (by decide +kernel), List.mem_of_getElem? (i := 1183) (by decide +kernel)⟩
def lw_privs_4 : List (MethodName × Nat) := [(⟨"SmokeGoesToModel", "opens", "()Z"⟩, 57), (⟨"SmokeGoesToModel", "added", "()I"⟩, 57), (⟨"SmokeGoesToModel", "term", "()I"⟩, 57), (⟨"SmokeGoesToModel", "atom", "()I"⟩, 57), (⟨"SmokeGoesToModel", "isSign", "(I)Z"⟩, 57), (⟨"SmokeGoesToModel", "name", "()I"⟩, 57), (⟨"SmokeGoesToModel", "layAside", "()V"⟩, 57), (⟨"SmokeGoesToModel", "nights", "(I)V"⟩, 57), (⟨"SmokeGoesToModel", "begins", "()V"⟩, 57), (⟨"SmokeGoesToModel", "passes", "(II)V"⟩, 57), (⟨"SmokeGoesToModel", "turns", "(I)V"⟩, 57), (⟨"SmokeGoesToModel", "bearsOf", "(III)I"⟩, 57), (⟨"SmokeGoesToModel", "says", "(IIII)I"⟩, 57), (⟨"SmokeGoesToModel", "firstFree", "(II)I"⟩, 57), (⟨"SmokeGoesToModel", "sumOf", "([I)I"⟩, 57), (⟨"SmokeGoesToModel", "takeBack", "()V"⟩, 57)]
theorem lw_r4 : ∀ q ∈ lw_privs_4, lw_okq q := List.forall_mem_cons.mpr ⟨lw_p48, List.forall_mem_cons.mpr ⟨lw_p49, List.forall_mem_cons.mpr ⟨lw_p50, List.forall_mem_cons.mpr ⟨lw_p51, List.forall_mem_cons.mpr ⟨lw_p52, List.forall_mem_cons.mpr ⟨lw_p53, List.forall_mem_cons.mpr ⟨lw_p54, List.forall_mem_cons.mpr ⟨lw_p55, List.forall_mem_cons.mpr ⟨lw_p56, List.forall_mem_cons.mpr ⟨lw_p57, List.forall_mem_cons.mpr ⟨lw_p58, List.forall_mem_cons.mpr ⟨lw_p59, List.forall_mem_cons.mpr ⟨lw_p60, List.forall_mem_cons.mpr ⟨lw_p61, List.forall_mem_cons.mpr ⟨lw_p62, List.forall_mem_cons.mpr ⟨lw_p63, fun _ h => absurd h List.not_mem_nil⟩⟩⟩⟩⟩⟩⟩⟩⟩⟩⟩⟩⟩⟩⟩⟩
theorem lw_p64 : lw_okq (⟨"SmokeGoesToModel", "spreads", "(I)V"⟩, 57) := ⟨⟨by decide +kernel, by decide +kernel⟩, List.mem_of_getElem? (i := 824) (by decide +kernel), List.mem_of_getElem? (i := 1196) (by decide +kernel), List.mem_of_getElem? (i := 1197) (by decide +kernel)⟩
theorem lw_p65 : lw_okq (⟨"SmokeGoesToModel", "seatsFrom", "(IIJ)V"⟩, 57) := ⟨⟨by decide +kernel, by decide +kernel⟩, List.mem_of_getElem? (i := 824) (by decide +kernel), List.mem_of_getElem? (i := 1216) (by decide +kernel), List.mem_of_getElem? (i := 1217) (by decide +kernel)⟩
theorem lw_p66 : lw_okq (⟨"SmokeGoesToModel", "costOf", "(I)I"⟩, 57) := ⟨⟨by decide +kernel, by decide +kernel⟩, List.mem_of_getElem? (i := 824) (by decide +kernel), List.mem_of_getElem? (i := 1224) (by decide +kernel), List.mem_of_getElem? (i := 1225) (by decide +kernel)⟩
theorem lw_p67 : lw_okq (⟨"SmokeGoesToModel", "rowsOf", "(II)V"⟩, 57) := ⟨⟨by decide +kernel, by decide +kernel⟩, List.mem_of_getElem? (i := 824) (by decide +kernel), List.mem_of_getElem? (i := 1243) (by decide +kernel), List.mem_of_getElem? (i := 1244) (by decide +kernel)⟩
theorem lw_p68 : lw_okq (⟨"SmokeGoesToModel", "draws", "(I)I"⟩, 57) := ⟨⟨by decide +kernel, by decide +kernel⟩, List.mem_of_getElem? (i := 824) (by decide +kernel), List.mem_of_getElem? (i := 1260) (by decide +kernel), List.mem_of_getElem? (i := 1261) (by decide +kernel)⟩
def lw_privs_5 : List (MethodName × Nat) := [(⟨"SmokeGoesToModel", "spreads", "(I)V"⟩, 57), (⟨"SmokeGoesToModel", "seatsFrom", "(IIJ)V"⟩, 57), (⟨"SmokeGoesToModel", "costOf", "(I)I"⟩, 57), (⟨"SmokeGoesToModel", "rowsOf", "(II)V"⟩, 57), (⟨"SmokeGoesToModel", "draws", "(I)I"⟩, 57)]
theorem lw_r5 : ∀ q ∈ lw_privs_5, lw_okq q := List.forall_mem_cons.mpr ⟨lw_p64, List.forall_mem_cons.mpr ⟨lw_p65, List.forall_mem_cons.mpr ⟨lw_p66, List.forall_mem_cons.mpr ⟨lw_p67, List.forall_mem_cons.mpr ⟨lw_p68, fun _ h => absurd h List.not_mem_nil⟩⟩⟩⟩⟩
def lw_privs : List (MethodName × Nat) := lw_privs_1 ++ (lw_privs_2 ++ (lw_privs_3 ++ (lw_privs_4 ++ (lw_privs_5))))
def lw_tbl : List Cond := k2_sels lw_privs ++ tables_1
theorem lw_privs_ok : ∀ q ∈ lw_privs, lw_okq q := by
  show ∀ q ∈ lw_privs_1 ++ (lw_privs_2 ++ (lw_privs_3 ++ (lw_privs_4 ++ (lw_privs_5)))), lw_okq q
  exact List.forall_mem_append.mpr ⟨lw_r1, List.forall_mem_append.mpr ⟨lw_r2, List.forall_mem_append.mpr ⟨lw_r3, List.forall_mem_append.mpr ⟨lw_r4, lw_r5⟩⟩⟩⟩
end
section
/-! THE FRAME: one judgement over an abstract state of cells and slots; a row an instruction -/
def sm_G : List Cond := lw_tbl.filter goodWord
theorem sm_gin {w : Cond} (h : w ∈ lw_tbl) (hg : goodWord w = true) : w ∈ sm_G := List.mem_filter.mpr ⟨h, hg⟩
theorem sm_good : GoodIn sm_G sm_G := fun w h => ⟨h, good_of_word (List.mem_filter.mp h).2⟩
abbrev sm_St : Type := (Nat → Nat → Int32) × (Nat → Nat → Int64) × (Nat → Nat → Option Nat)
def sm_sI (σ : sm_St) (k j : Nat) (v : Int32) : sm_St := (va_up σ.1 k (upd (σ.1 k) j v), σ.2.1, σ.2.2)
def sm_sL (σ : sm_St) (k j : Nat) (v : Int64) : sm_St := (σ.1, va_up σ.2.1 k (vp_updL (σ.2.1 k) j v), σ.2.2)
def sm_sR (σ : sm_St) (k j : Nat) (v : Option Nat) : sm_St := (σ.1, σ.2.1, va_up σ.2.2 k (va_up (σ.2.2 k) j v))
def sm_cI (σ : sm_St) (k k1 sp dp n : Nat) : sm_St := (va_up σ.1 k1 (va_cpy (σ.1 k) (σ.1 k1) sp dp n), σ.2.1, σ.2.2)
def sm_cL (σ : sm_St) (k k1 sp dp n : Nat) : sm_St := (σ.1, va_up σ.2.1 k1 (va_cpy (σ.2.1 k) (σ.2.1 k1) sp dp n), σ.2.2)
/-- pure words: a bound value, a guard, a call -/
def sm_b {α β : Type} (a : α) (f : α → Option β) : Option β := f a
def sm_g {β : Type} (b : Bool) (x : Option β) : Option β := match b with
  | true => x
  | false => none
def sm_c {α β : Type} (x : Option (α × sm_St)) (f : α → sm_St → Option β) : Option β := match x with
  | some q => f q.1 q.2
  | none => none
def sm_o {β : Type} (x : Option Nat) (f : Nat → Option β) : Option β := match x with
  | some q => f q
  | none => none
def sm_in (i : Int32) (n : Nat) : Bool := decide (¬ (i < 0 ∨ n ≤ i.toNatClampNeg))
theorem sm_inE {i : Int32} {n : Nat} (h : sm_in i n = true) : vp_in i n := of_decide_eq_true (p := ¬ (i < 0 ∨ n ≤ i.toNatClampNeg)) h
theorem sm_gE {β : Type} {b : Bool} {x : Option β} {r : β} (h : sm_g b x = some r) : b = true ∧ x = some r := by
  cases b with
  | true => exact ⟨rfl, h⟩
  | false => cases h
theorem sm_cE {α β : Type} {x : Option (α × sm_St)} {f : α → sm_St → Option β} {r : β} (h : sm_c x f = some r) : ∃ a σ, x = some (a, σ) ∧ f a σ = some r := by
  cases x with
  | none => cases h
  | some q => exact ⟨q.1, q.2, rfl, h⟩
theorem sm_oE {β : Type} {x : Option Nat} {f : Nat → Option β} {r : β} (h : sm_o x f = some r) : ∃ a, x = some a ∧ f a = some r := by
  cases x with
  | none => cases h
  | some q => exact ⟨q, rfl, h⟩
abbrev sm_Sh : Type := Nat → (Nat → Int32) → (Nat → Int64) → (Nat → Option Nat) → va_E
/-- a world: classes' numbers, classes, array classes, shapes, addresses, how many; the String constants' addresses; where the law began -/
abbrev sm_WD : Type := va_G × List vw_C × List (ClassId × FieldType) × sm_Sh × (Nat → Nat) × Nat × (Nat → Nat) × (Nat → Nat) × Nat
def sm_D (w : sm_WD) : va_G := w.1
def sm_cl (w : sm_WD) : List vw_C := w.2.1
def sm_ty (w : sm_WD) : List (ClassId × FieldType) := w.2.2.1
def sm_sh (w : sm_WD) : sm_Sh := w.2.2.2.1
def sm_ad (w : sm_WD) : Nat → Nat := w.2.2.2.2.1
def sm_N (w : sm_WD) : Nat := w.2.2.2.2.2.1
def sm_aK (w : sm_WD) : Nat → Nat := w.2.2.2.2.2.2.1
def sm_aV (w : sm_WD) : Nat → Nat := w.2.2.2.2.2.2.2.1
def sm_z (w : sm_WD) : Nat := w.2.2.2.2.2.2.2.2
def sm_wd (w : sm_WD) (σ : sm_St) : va_W := (List.range (sm_N w)).map fun k => (sm_ad w k, sm_sh w k (σ.1 k) (σ.2.1 k) (σ.2.2 k))
theorem sm_at {w : sm_WD} {σ : sm_St} {k : Nat} (h : k < sm_N w) : (sm_wd w σ)[k]? = some (sm_ad w k, sm_sh w k (σ.1 k) (σ.2.1 k) (σ.2.2 k)) := by
  simp [sm_wd, List.getElem?_range h]
theorem sm_set {w : sm_WD} {σ σ' : sm_St} {k : Nat} {e : va_E} (h : k < sm_N w) (he : sm_sh w k (σ'.1 k) (σ'.2.1 k) (σ'.2.2 k) = e) (ho : ∀ j, j ≠ k → σ'.1 j = σ.1 j ∧ σ'.2.1 j = σ.2.1 j ∧ σ'.2.2 j = σ.2.2 j) : (sm_wd w σ).set k (sm_ad w k, e) = sm_wd w σ' := by
  refine List.ext_getElem? fun i => ?_
  by_cases hi : i = k
  · subst hi
    rw [List.getElem?_set_self (by simp [sm_wd]; exact h), sm_at h, he]
  · rw [List.getElem?_set_ne (Ne.symm hi)]
    obtain ⟨h1, h2, h3⟩ := ho i hi
    by_cases hl : i < sm_N w
    · rw [sm_at hl, sm_at hl, h1, h2, h3]
    · rw [List.getElem?_eq_none (by simp [sm_wd]; omega), List.getElem?_eq_none (by simp [sm_wd]; omega)]
theorem sm_sIo {σ : sm_St} {k j : Nat} {v : Int32} : ∀ i, i ≠ k → (sm_sI σ k j v).1 i = σ.1 i ∧ (sm_sI σ k j v).2.1 i = σ.2.1 i ∧ (sm_sI σ k j v).2.2 i = σ.2.2 i := fun i hi => ⟨by simp [sm_sI, va_up, hi], rfl, rfl⟩
theorem sm_sLo {σ : sm_St} {k j : Nat} {v : Int64} : ∀ i, i ≠ k → (sm_sL σ k j v).1 i = σ.1 i ∧ (sm_sL σ k j v).2.1 i = σ.2.1 i ∧ (sm_sL σ k j v).2.2 i = σ.2.2 i := fun i hi => ⟨rfl, by simp [sm_sL, va_up, hi], rfl⟩
theorem sm_sRo {σ : sm_St} {k j : Nat} {v : Option Nat} : ∀ i, i ≠ k → (sm_sR σ k j v).1 i = σ.1 i ∧ (sm_sR σ k j v).2.1 i = σ.2.1 i ∧ (sm_sR σ k j v).2.2 i = σ.2.2 i := fun i hi => ⟨rfl, rfl, by simp [sm_sR, va_up, hi]⟩
theorem sm_cIo {σ : sm_St} {k k1 a b n : Nat} : ∀ i, i ≠ k1 → (sm_cI σ k k1 a b n).1 i = σ.1 i ∧ (sm_cI σ k k1 a b n).2.1 i = σ.2.1 i ∧ (sm_cI σ k k1 a b n).2.2 i = σ.2.2 i := fun i hi => ⟨by simp [sm_cI, va_up, hi], rfl, rfl⟩
theorem sm_cLo {σ : sm_St} {k k1 a b n : Nat} : ∀ i, i ≠ k1 → (sm_cL σ k k1 a b n).1 i = σ.1 i ∧ (sm_cL σ k k1 a b n).2.1 i = σ.2.1 i ∧ (sm_cL σ k k1 a b n).2.2 i = σ.2.2 i := fun i hi => ⟨rfl, by simp [sm_cL, va_up, hi], rfl⟩
theorem sm_sIk {σ : sm_St} {k j : Nat} {v : Int32} : (sm_sI σ k j v).1 k = upd (σ.1 k) j v ∧ (sm_sI σ k j v).2.1 k = σ.2.1 k ∧ (sm_sI σ k j v).2.2 k = σ.2.2 k := ⟨by simp [sm_sI, va_up], rfl, rfl⟩
theorem sm_sLk {σ : sm_St} {k j : Nat} {v : Int64} : (sm_sL σ k j v).1 k = σ.1 k ∧ (sm_sL σ k j v).2.1 k = vp_updL (σ.2.1 k) j v ∧ (sm_sL σ k j v).2.2 k = σ.2.2 k := ⟨rfl, by simp [sm_sL, va_up], rfl⟩
theorem sm_sRk {σ : sm_St} {k j : Nat} {v : Option Nat} : (sm_sR σ k j v).1 k = σ.1 k ∧ (sm_sR σ k j v).2.1 k = σ.2.1 k ∧ (sm_sR σ k j v).2.2 k = va_up (σ.2.2 k) j v := ⟨rfl, rfl, by simp [sm_sR, va_up]⟩
theorem sm_cIk {σ : sm_St} {k k1 a b n : Nat} : (sm_cI σ k k1 a b n).1 k1 = va_cpy (σ.1 k) (σ.1 k1) a b n ∧ (sm_cI σ k k1 a b n).2.1 k1 = σ.2.1 k1 ∧ (sm_cI σ k k1 a b n).2.2 k1 = σ.2.2 k1 := ⟨by simp [sm_cI, va_up], rfl, rfl⟩
theorem sm_cLk {σ : sm_St} {k k1 a b n : Nat} : (sm_cL σ k k1 a b n).1 k1 = σ.1 k1 ∧ (sm_cL σ k k1 a b n).2.1 k1 = va_cpy (σ.2.1 k) (σ.2.1 k1) a b n ∧ (sm_cL σ k k1 a b n).2.2 k1 = σ.2.2 k1 := ⟨rfl, by simp [sm_cL, va_up], rfl⟩
/-- the String constants, the two statics that are read -/
def sm_len : List Nat := [35, 72, 8]
def sm_byt : List (List Int32) := [[98, 101, 97, 114, 115, 32, 53, 32, 43, 32, 108, 111, 110, 103, 32, 59, 32, 109, 111, 118, 101, 115, 32, 51, 32, 59, 32, 104, 101, 97, 116, 32, 48, 32, 59], [112, 108, 97, 99, 101, 32, 115, 109, 111, 107, 101, 32, 109, 105, 110, 117, 116, 101, 108, 111, 110, 103, 32, 32, 110, 117, 109, 98, 101, 114, 115, 105, 116, 116, 101, 114, 98, 101, 97, 114, 115, 32, 109, 111, 118, 101, 115, 32, 104, 101, 97, 116, 32, 32, 111, 114, 32, 32, 32, 32, 97, 110, 100, 32, 32, 32, 110, 111, 116, 32, 32, 32], [40, 41, 59, 43, 45, 42, 60, 61]]
def sm_tx (i : Nat) : String × Nat × String := match i with
  | 0 => ("SmokeGoesTo", 62, "bears 5 + long ; moves 3 ; heat 0 ;")
  | 1 => ("SmokeGoesTo$Reader", 101, "place smoke minutelong  numbersitterbears moves heat  or    and   not   ")
  | _ => ("SmokeGoesTo$Reader", 90, "();+-*<=")
def sm_nl : List (String × Nat × MethodName) := [("SmokeGoesTo", 11, ⟨"SmokeGoesTo$Fire", "<init>", "()V"⟩), ("SmokeGoesTo", 25, ⟨"SmokeGoesTo$Reader", "<init>", "()V"⟩), ("SmokeGoesTo", 48, ⟨"SmokeGoesTo$Night", "<init>", "()V"⟩), ("SmokeGoesTo$Night", 11, ⟨"SmokeGoesTo$Fire", "<init>", "()V"⟩), ("SmokeGoesTo", 55, ⟨"SmokeGoesTo$Odds", "<init>", "()V"⟩), ("SmokeGoesTo", 60, ⟨"SmokeGoesTo$Text", "<init>", "()V"⟩), ("SmokeGoesTo", 61, ⟨"SmokeGoesTo$Sheet", "<init>", "()V"⟩), ("SmokeGoesTo$Fire", 59, ⟨"SmokeGoesTo", "isPlace", "(I)Z"⟩), ("SmokeGoesTo$Kind", 15, ⟨"SmokeGoesTo", "round", "(I)I"⟩), ("SmokeGoesTo$Night", 117, ⟨"SmokeGoesTo", "round", "(I)I"⟩), ("SmokeGoesTo$Odds", 37, ⟨"SmokeGoesTo", "round", "(I)I"⟩)]
def sm_Nst (U : State) : Prop := (∀ q ∈ sm_nl, va_Nw (.methodLinkNest q.1 q.2.1 q.2.2 "SmokeGoesTo") U) ∧ va_AO "SmokeGoesTo$Text" U ∧ va_AO "SmokeGoesTo$Sheet" U
def sm_Str (w : sm_WD) (U : State) (H : Heap) : Prop := vk_S 3 sm_len sm_byt (sm_aK w) (sm_aV w) (fun q => sm_z w ≤ q) U H ∧ va_Z "java/lang/String" "COMPACT_STRINGS" "Z" (.int 1) (fun q => sm_z w ≤ q) U H ∧ va_Zq "jdk/internal/util/Preconditions" "SIOOBE_FORMATTER" "Ljava/util/function/BiFunction;" (fun q => sm_z w ≤ q) U H ∧ (∀ i, i < 3 → vk_R (sm_tx i).1 (sm_tx i).2.1 (sm_tx i).2.2 (sm_aK w i) U) ∧ sm_Nst U
theorem sm_Str.kept {w : sm_WD} {U : State} {H H1 : Heap} (h : sm_Str w U H) (hq : ∀ a : Nat, a < H.size → ¬ sm_z w ≤ a → H1[a]? = H[a]?) : sm_Str w U H1 := ⟨h.1.kept hq, h.2.1.kept hq, h.2.2.1.kept hq, h.2.2.2⟩
theorem sm_Str.warm {w : sm_WD} {s U : State} {H : Heap} (hW : s.WarmedH U.vm) (h : sm_Str w s H) : sm_Str w U H := ⟨h.1.moved hW.alike, h.2.1.moved hW.alike, h.2.2.1.moved hW.alike, fun i hi => (h.2.2.2.1 i hi).warm hW, fun q hq => va_Nw.warmM hW (h.2.2.2.2.1 q hq), h.2.2.2.2.2.1.moved hW.alike, h.2.2.2.2.2.2.moved hW.alike⟩
theorem sm_Str.same {w : sm_WD} {s U : State} {H : Heap} (hv : U.vm = s.vm) (h : sm_Str w s H) : sm_Str w U H := ⟨h.1.moved (by rw [hv]; exact Vm.Alike.refl _), h.2.1.moved (by rw [hv]; exact Vm.Alike.refl _), h.2.2.1.moved (by rw [hv]; exact Vm.Alike.refl _), fun i hi => vk_R.same hv (h.2.2.2.1 i hi), fun q hq => va_Nw.same rfl hv.symm (h.2.2.2.2.1 q hq), h.2.2.2.2.2.1.moved (by rw [hv]; exact Vm.Alike.refl _), h.2.2.2.2.2.2.moved (by rw [hv]; exact Vm.Alike.refl _)⟩
def sm_Inj (w : sm_WD) (sz : Nat) : Prop := (∀ i j, i < sm_N w → j < sm_N w → sm_ad w i = sm_ad w j → i = j) ∧ (∀ k, k < sm_N w → sm_z w ≤ sm_ad w k) ∧ sm_z w ≤ sz
def sm_A (w : sm_WD) (sz : Nat) : Nat → Prop := fun q => (∃ k, k < sm_N w ∧ q = sm_ad w k) ∨ sz ≤ q
def sm_Pre (w : sm_WD) (σ : sm_St) (U : State) : Prop := va_P (sm_D w) (sm_cl w) (sm_wd w σ) U.heap ∧ va_K (sm_D w) (sm_cl w) (sm_ty w) U ∧ sm_Inj w U.heap.size ∧ sm_Str w U U.heap
theorem sm_wdi {w : sm_WD} {σ : sm_St} {i : Nat} {q : Nat × va_E} (h : (sm_wd w σ)[i]? = some q) : i < sm_N w ∧ q.1 = sm_ad w i := by
  have hl : i < sm_N w := by
    have := (List.getElem?_eq_some_iff.mp h).1
    simpa [sm_wd] using this
  rw [sm_at hl] at h
  cases h
  exact ⟨hl, rfl⟩
theorem sm_Dis {w : sm_WD} {σ : sm_St} {sz : Nat} {A : Nat → Prop} (h : sm_Inj w sz) (hA : ∀ k, k < sm_N w → A (sm_ad w k)) : va_D A (sm_wd w σ) := by
  refine ⟨fun i j p q hi hj hpq => ?_, fun k q hk => ?_⟩
  · obtain ⟨h1, e1⟩ := sm_wdi hi
    obtain ⟨h2, e2⟩ := sm_wdi hj
    exact h.1 i j h1 h2 (by rw [← e1, ← e2]; exact hpq)
  · obtain ⟨h1, e1⟩ := sm_wdi hk
    rw [e1]; exact hA k h1
/-- what is fixed in one run of a method -/
abbrev sm_VC : Type := Program × Launch × Env × Room × State × MethodId × Array Value × List Frame × Method × Code × sm_WD × (Nat → Prop) × Nat × Nat
def sm_p (X : sm_VC) : Program := X.1
def sm_l (X : sm_VC) : Launch := X.2.1
def sm_e (X : sm_VC) : Env := X.2.2.1
def sm_R (X : sm_VC) : Room := X.2.2.2.1
def sm_s (X : sm_VC) : State := X.2.2.2.2.1
def sm_m (X : sm_VC) : MethodId := X.2.2.2.2.2.1
def sm_as (X : sm_VC) : Array Value := X.2.2.2.2.2.2.1
def sm_be (X : sm_VC) : List Frame := X.2.2.2.2.2.2.2.1
def sm_me (X : sm_VC) : Method := X.2.2.2.2.2.2.2.2.1
def sm_co (X : sm_VC) : Code := X.2.2.2.2.2.2.2.2.2.1
def sm_w (X : sm_VC) : sm_WD := X.2.2.2.2.2.2.2.2.2.2.1
def sm_fA (X : sm_VC) : Nat → Prop := X.2.2.2.2.2.2.2.2.2.2.2.1
def sm_cs (X : sm_VC) : Nat := X.2.2.2.2.2.2.2.2.2.2.2.2.1
def sm_sl (X : sm_VC) : Nat := X.2.2.2.2.2.2.2.2.2.2.2.2.2
def sm_W (X : sm_VC) (H : Heap) (locs : List Loc) (Q : State → Prop) (g : JFrame) : Prop := W (sm_p X) (sm_l X) (sm_e X) (sm_R X) (sm_s X) (sm_m X) (sm_as X) (sm_be X) (sm_me X) (sm_co X) H locs (sm_cs X) (sm_sl X) Q g
/-- THE JUDGEMENT: from the abstract state σ, at pc, with these locals and this stack, the run comes to Q -/
def sm_V (X : sm_VC) (Q : State → Prop) (nL : Nat) (σ : sm_St) (pc : Nat) (lv : List (Nat × Value)) (st : List Value) : Prop :=
  ∀ (H : Heap) (locs : List Loc) (ls : Array Slot), va_P (sm_D (sm_w X)) (sm_cl (sm_w X)) (sm_wd (sm_w X) σ) H → va_S (sm_fA X) (sm_s X).heap H locs → lv_has ls nL lv → sm_W X H locs Q (F0 (sm_m X) pc ls st)
def sm_Cx (X : sm_VC) (cc : ByteArray) (nL : Nat) (own : String) (fr lo : Nat) (ret : Option FieldType) : Prop :=
  (sm_p X).tables.exec = Jvm.exec ∧ (sm_co X).code = cc ∧ (sm_co X).maxLocals = nL ∧ (sm_s X).vm.findClass own = some (sm_m X).cls ∧ (∀ w ∈ sm_G, w.before (sm_as X) (sm_s X) = true) ∧ va_K (sm_D (sm_w X)) (sm_cl (sm_w X)) (sm_ty (sm_w X)) (sm_s X) ∧ sm_Inj (sm_w X) (sm_s X).heap.size ∧ (∀ q, sm_A (sm_w X) (sm_s X).heap.size q → sm_fA X q) ∧ (∀ q, sm_fA X q → sm_z (sm_w X) ≤ q) ∧ (sm_me X).locks = false ∧ (sm_me X).sig.returnType = ret ∧ ((fr ≤ (sm_R X).frames ∧ lo ≤ (sm_R X).locals) ∧ sm_cs X ≤ (sm_R X).cells ∧ sm_sl X ≤ (sm_R X).slots) ∧ sm_Str (sm_w X) (sm_s X) (sm_s X).heap
section
variable {X : sm_VC} {cc : ByteArray} {nL : Nat} {own : String} {fr lo : Nat} {ret : Option FieldType}
theorem sm_Cx.hx (C : sm_Cx X cc nL own fr lo ret) : (sm_p X).tables.exec = Jvm.exec := C.1
theorem sm_Cx.hb (C : sm_Cx X cc nL own fr lo ret) : (sm_co X).code = cc := C.2.1
theorem sm_Cx.hml (C : sm_Cx X cc nL own fr lo ret) : (sm_co X).maxLocals = nL := C.2.2.1
theorem sm_Cx.hown (C : sm_Cx X cc nL own fr lo ret) : (sm_s X).vm.findClass own = some (sm_m X).cls := C.2.2.2.1
theorem sm_Cx.hts (C : sm_Cx X cc nL own fr lo ret) : ∀ w ∈ sm_G, w.before (sm_as X) (sm_s X) = true := C.2.2.2.2.1
theorem sm_Cx.hK (C : sm_Cx X cc nL own fr lo ret) : va_K (sm_D (sm_w X)) (sm_cl (sm_w X)) (sm_ty (sm_w X)) (sm_s X) := C.2.2.2.2.2.1
theorem sm_Cx.hI (C : sm_Cx X cc nL own fr lo ret) : sm_Inj (sm_w X) (sm_s X).heap.size := C.2.2.2.2.2.2.1
theorem sm_Cx.hA (C : sm_Cx X cc nL own fr lo ret) : ∀ q, sm_A (sm_w X) (sm_s X).heap.size q → sm_fA X q := C.2.2.2.2.2.2.2.1
theorem sm_Cx.hz (C : sm_Cx X cc nL own fr lo ret) : ∀ q, sm_fA X q → sm_z (sm_w X) ≤ q := C.2.2.2.2.2.2.2.2.1
theorem sm_Cx.hlk (C : sm_Cx X cc nL own fr lo ret) : (sm_me X).locks = false := C.2.2.2.2.2.2.2.2.2.1
theorem sm_Cx.hr (C : sm_Cx X cc nL own fr lo ret) : (sm_me X).sig.returnType = ret := C.2.2.2.2.2.2.2.2.2.2.1
theorem sm_Cx.hR (C : sm_Cx X cc nL own fr lo ret) : fr ≤ (sm_R X).frames ∧ lo ≤ (sm_R X).locals := C.2.2.2.2.2.2.2.2.2.2.2.1.1
theorem sm_Cx.hcs (C : sm_Cx X cc nL own fr lo ret) : sm_cs X ≤ (sm_R X).cells ∧ sm_sl X ≤ (sm_R X).slots := C.2.2.2.2.2.2.2.2.2.2.2.1.2
theorem sm_Cx.hT (C : sm_Cx X cc nL own fr lo ret) : sm_Str (sm_w X) (sm_s X) (sm_s X).heap := C.2.2.2.2.2.2.2.2.2.2.2.2
theorem sm_Cx.hAk (C : sm_Cx X cc nL own fr lo ret) : ∀ k, k < sm_N (sm_w X) → sm_fA X (sm_ad (sm_w X) k) := fun k h => C.hA _ (Or.inl ⟨k, h, rfl⟩)
theorem sm_Cx.hAz (C : sm_Cx X cc nL own fr lo ret) : ∀ q, (sm_s X).heap.size ≤ q → sm_fA X q := fun q h => C.hA _ (Or.inr h)
theorem sm_Cx.hD (C : sm_Cx X cc nL own fr lo ret) {σ : sm_St} : va_D (sm_fA X) (sm_wd (sm_w X) σ) := sm_Dis C.hI C.hAk
theorem sm_Cx.hTA (C : sm_Cx X cc nL own fr lo ret) : vk_S 3 sm_len sm_byt (sm_aK (sm_w X)) (sm_aV (sm_w X)) (sm_fA X) (sm_s X) (sm_s X).heap := C.hT.1.narrow C.hz
end
end
section
/-! THE ROWS: an instruction over the judgement sm_V; the pure word's value h says where it goes -/
section
variable {X : sm_VC} {cc : ByteArray} {nL : Nat} {own : String} {fr lo : Nat} {ret : Option FieldType} {Q : State → Prop} {σ : sm_St} {pc : Nat} {lv : List (Nat × Value)} {st : List Value} {β : Type} {z : β}
theorem sm_sub {lv' : List (Nat × Value)} (ks : List Nat) (hl : lv_pick lv ks = lv') (kk : sm_V X Q nL σ pc lv' st) : sm_V X Q nL σ pc lv st := fun H locs ls hP hS hL => kk H locs ls hP hS (lv_sub hL ks hl)
theorem sm_iconst (C : sm_Cx X cc nL own fr lo ret) {n : Int} {v : Int32} (hd : decode cc pc = .ok (.iconst n, 1)) (hv : Int32.ofInt n = v) (kk : sm_V X Q nL σ (pc + 1) lv (.int v :: st)) : sm_V X Q nL σ pc lv st := by
  intro H locs ls hP hS hL
  exact lv_iconst C.hx C.hb hd hv (kk H locs ls hP hS hL)
theorem sm_bipush (C : sm_Cx X cc nL own fr lo ret) {n : Int} {v : Int32} (hd : decode cc pc = .ok (.bipush n, 2)) (hv : (Int8.ofInt n).toInt32 = v) (kk : sm_V X Q nL σ (pc + 2) lv (.int v :: st)) : sm_V X Q nL σ pc lv st := by
  intro H locs ls hP hS hL
  exact lv_bipush C.hx C.hb hd hv (kk H locs ls hP hS hL)
theorem sm_sipush (C : sm_Cx X cc nL own fr lo ret) {n : Int} {v : Int32} (hd : decode cc pc = .ok (.sipush n, 3)) (hv : (Int16.ofInt n).toInt32 = v) (kk : sm_V X Q nL σ (pc + 3) lv (.int v :: st)) : sm_V X Q nL σ pc lv st := by
  intro H locs ls hP hS hL
  exact lv_sipush C.hx C.hb hd hv (kk H locs ls hP hS hL)
theorem sm_lconst (C : sm_Cx X cc nL own fr lo ret) {n : Fin 2} {v : Int64} (hd : decode cc pc = .ok (.lconst n, 1)) (hv : Int64.ofNat (n : Nat) = v) (kk : sm_V X Q nL σ (pc + 1) lv (.long v :: st)) : sm_V X Q nL σ pc lv st := by
  intro H locs ls hP hS hL
  exact lv_lconst C.hx C.hb hd hv (kk H locs ls hP hS hL)
theorem sm_ldc (C : sm_Cx X cc nL own fr lo ret) {ix : Nat} {v : Int32} (hc : Cond.constant own ix v ∈ sm_G) (hd : decode cc pc = .ok (.ldc ix, 2)) (kk : sm_V X Q nL σ (pc + 2) lv (.int v :: st)) : sm_V X Q nL σ pc lv st := by
  intro H locs ls hP hS hL
  exact lv_ldc C.hx C.hb C.hown (C.hts _ hc) hd (kk H locs ls hP hS hL)
theorem sm_ldc2 (C : sm_Cx X cc nL own fr lo ret) {ix : Nat} {v : Int64} (hc : Cond.constantLong own ix v ∈ sm_G) (hd : decode cc pc = .ok (.ldc2_w ix, 3)) (kk : sm_V X Q nL σ (pc + 3) lv (.long v :: st)) : sm_V X Q nL σ pc lv st := by
  intro H locs ls hP hS hL
  exact lv_ldc2 C.hx C.hb C.hown (C.hts _ hc) hd (kk H locs ls hP hS hL)
theorem sm_null (C : sm_Cx X cc nL own fr lo ret)  (hd : decode cc pc = .ok (.aconst_null, 1)) (kk : sm_V X Q nL σ (pc + 1) lv (.null :: st)) : sm_V X Q nL σ pc lv st := by
  intro H locs ls hP hS hL
  exact lv_null C.hx C.hb hd (kk H locs ls hP hS hL)
theorem sm_ldcS (C : sm_Cx X cc nL own fr lo ret) {ix i : Nat} (hi : i < 3) (ho : (sm_tx i).1 = own) (hj : (sm_tx i).2.1 = ix) (hd : decode cc pc = .ok (.ldc ix, 2)) (kk : sm_V X Q nL σ (pc + 2) lv (.ref (sm_aK (sm_w X) i) :: st)) : sm_V X Q nL σ pc lv st := by
  intro H locs ls hP hS hL
  subst hj
  subst ho
  exact va_ldcS C.hx C.hb C.hown (C.hT.2.2.2.1 i hi) hd (kk H locs ls hP hS hL)
theorem sm_iload_n (C : sm_Cx X cc nL own fr lo ret) {n : Fin 4} {i : Nat} {x : Int32} (k : Nat) (hd : decode cc pc = .ok (.iload_n n, 1)) (hi : (n : Nat) = i) (hk : lv[k]? = some (i, .int x)) (kk : sm_V X Q nL σ (pc + 1) lv (.int x :: st)) : sm_V X Q nL σ pc lv st := by
  intro H locs ls hP hS hL
  exact lv_iload_n C.hx C.hb hd hi (lv_at hL k hk) (kk H locs ls hP hS hL)
theorem sm_iload (C : sm_Cx X cc nL own fr lo ret) {i : Nat} {x : Int32} (k : Nat) (hd : decode cc pc = .ok (.iload i, 2)) (hk : lv[k]? = some (i, .int x)) (kk : sm_V X Q nL σ (pc + 2) lv (.int x :: st)) : sm_V X Q nL σ pc lv st := by
  intro H locs ls hP hS hL
  exact lv_iload C.hx C.hb hd (lv_at hL k hk) (kk H locs ls hP hS hL)
theorem sm_lload_n (C : sm_Cx X cc nL own fr lo ret) {n : Fin 4} {i : Nat} {x : Int64} (k : Nat) (hd : decode cc pc = .ok (.lload_n n, 1)) (hi : (n : Nat) = i) (hk : lv[k]? = some (i, .long x)) (kk : sm_V X Q nL σ (pc + 1) lv (.long x :: st)) : sm_V X Q nL σ pc lv st := by
  intro H locs ls hP hS hL
  exact lv_lload_n C.hx C.hb hd hi (lv_at hL k hk) (kk H locs ls hP hS hL)
theorem sm_lload (C : sm_Cx X cc nL own fr lo ret) {i : Nat} {x : Int64} (k : Nat) (hd : decode cc pc = .ok (.lload i, 2)) (hk : lv[k]? = some (i, .long x)) (kk : sm_V X Q nL σ (pc + 2) lv (.long x :: st)) : sm_V X Q nL σ pc lv st := by
  intro H locs ls hP hS hL
  exact lv_lload C.hx C.hb hd (lv_at hL k hk) (kk H locs ls hP hS hL)
theorem sm_aload_n (C : sm_Cx X cc nL own fr lo ret) {n : Fin 4} {i : Nat} {x : Nat} (k : Nat) (hd : decode cc pc = .ok (.aload_n n, 1)) (hi : (n : Nat) = i) (hk : lv[k]? = some (i, .ref x)) (kk : sm_V X Q nL σ (pc + 1) lv (.ref x :: st)) : sm_V X Q nL σ pc lv st := by
  intro H locs ls hP hS hL
  exact lv_aload_n C.hx C.hb hd hi (lv_at hL k hk) (kk H locs ls hP hS hL)
theorem sm_aload (C : sm_Cx X cc nL own fr lo ret) {i : Nat} {x : Nat} (k : Nat) (hd : decode cc pc = .ok (.aload i, 2)) (hk : lv[k]? = some (i, .ref x)) (kk : sm_V X Q nL σ (pc + 2) lv (.ref x :: st)) : sm_V X Q nL σ pc lv st := by
  intro H locs ls hP hS hL
  exact lv_aload C.hx C.hb hd (lv_at hL k hk) (kk H locs ls hP hS hL)
theorem sm_aload_nq (C : sm_Cx X cc nL own fr lo ret) {n : Fin 4} {i : Nat} {r : Option Nat} (k : Nat) (hd : decode cc pc = .ok (.aload_n n, 1)) (hi : (n : Nat) = i) (hk : lv[k]? = some (i, va_rf r)) (kk : sm_V X Q nL σ (pc + 1) lv (va_rf r :: st)) : sm_V X Q nL σ pc lv st := by
  intro H locs ls hP hS hL
  cases r with
  | none => exact lv_aload_nN C.hx C.hb hd hi (lv_at hL k hk) (kk H locs ls hP hS hL)
  | some a => exact lv_aload_n C.hx C.hb hd hi (lv_at hL k hk) (kk H locs ls hP hS hL)
theorem sm_aloadq (C : sm_Cx X cc nL own fr lo ret) {i : Nat} {r : Option Nat} (k : Nat) (hd : decode cc pc = .ok (.aload i, 2)) (hk : lv[k]? = some (i, va_rf r)) (kk : sm_V X Q nL σ (pc + 2) lv (va_rf r :: st)) : sm_V X Q nL σ pc lv st := by
  intro H locs ls hP hS hL
  cases r with
  | none => exact lv_aloadN C.hx C.hb hd (lv_at hL k hk) (kk H locs ls hP hS hL)
  | some a => exact lv_aload C.hx C.hb hd (lv_at hL k hk) (kk H locs ls hP hS hL)
theorem sm_istore_n (C : sm_Cx X cc nL own fr lo ret) {n : Fin 4} {i : Nat} {x : Int32} {lv' : List (Nat × Value)} (hd : decode cc pc = .ok (.istore_n n, 1)) (hi : (n : Nat) = i) (hn : i < nL) (hl : (i, Value.int x) :: lv.filter (fun q => !(q.1 == i) && !(q.1 + 1 == i && q.2.category == 2)) = lv') (kk : sm_V X Q nL σ (pc + 1) lv' st) : sm_V X Q nL σ pc lv (.int x :: st) := by
  intro H locs ls hP hS hL
  exact lv_istore_n C.hx C.hb hd hi hL hn hl fun ls hL => kk H locs ls hP hS hL
theorem sm_istore (C : sm_Cx X cc nL own fr lo ret) {i : Nat} {x : Int32} {lv' : List (Nat × Value)} (hd : decode cc pc = .ok (.istore i, 2)) (hn : i < nL) (hl : (i, Value.int x) :: lv.filter (fun q => !(q.1 == i) && !(q.1 + 1 == i && q.2.category == 2)) = lv') (kk : sm_V X Q nL σ (pc + 2) lv' st) : sm_V X Q nL σ pc lv (.int x :: st) := by
  intro H locs ls hP hS hL
  exact lv_istore C.hx C.hb hd hL hn hl fun ls hL => kk H locs ls hP hS hL
theorem sm_lstore_n (C : sm_Cx X cc nL own fr lo ret) {n : Fin 4} {i : Nat} {x : Int64} {lv' : List (Nat × Value)} (hd : decode cc pc = .ok (.lstore_n n, 1)) (hi : (n : Nat) = i) (hn : i + 1 < nL) (hl : (i, Value.long x) :: lv.filter (fun q => !(q.1 == i) && (!(q.1 == i + 1) && !(q.1 + 1 == i && q.2.category == 2))) = lv') (kk : sm_V X Q nL σ (pc + 1) lv' st) : sm_V X Q nL σ pc lv (.long x :: st) := by
  intro H locs ls hP hS hL
  exact lv_lstore_n C.hx C.hb hd hi hL hn hl fun ls hL => kk H locs ls hP hS hL
theorem sm_lstore (C : sm_Cx X cc nL own fr lo ret) {i : Nat} {x : Int64} {lv' : List (Nat × Value)} (hd : decode cc pc = .ok (.lstore i, 2)) (hn : i + 1 < nL) (hl : (i, Value.long x) :: lv.filter (fun q => !(q.1 == i) && (!(q.1 == i + 1) && !(q.1 + 1 == i && q.2.category == 2))) = lv') (kk : sm_V X Q nL σ (pc + 2) lv' st) : sm_V X Q nL σ pc lv (.long x :: st) := by
  intro H locs ls hP hS hL
  exact lv_lstore C.hx C.hb hd hL hn hl fun ls hL => kk H locs ls hP hS hL
theorem sm_astore_n (C : sm_Cx X cc nL own fr lo ret) {n : Fin 4} {i : Nat} {x : Nat} {lv' : List (Nat × Value)} (hd : decode cc pc = .ok (.astore_n n, 1)) (hi : (n : Nat) = i) (hn : i < nL) (hl : (i, Value.ref x) :: lv.filter (fun q => !(q.1 == i) && !(q.1 + 1 == i && q.2.category == 2)) = lv') (kk : sm_V X Q nL σ (pc + 1) lv' st) : sm_V X Q nL σ pc lv (.ref x :: st) := by
  intro H locs ls hP hS hL
  exact lv_astore_n C.hx C.hb hd hi hL hn hl fun ls hL => kk H locs ls hP hS hL
theorem sm_astore (C : sm_Cx X cc nL own fr lo ret) {i : Nat} {x : Nat} {lv' : List (Nat × Value)} (hd : decode cc pc = .ok (.astore i, 2)) (hn : i < nL) (hl : (i, Value.ref x) :: lv.filter (fun q => !(q.1 == i) && !(q.1 + 1 == i && q.2.category == 2)) = lv') (kk : sm_V X Q nL σ (pc + 2) lv' st) : sm_V X Q nL σ pc lv (.ref x :: st) := by
  intro H locs ls hP hS hL
  exact lv_astore C.hx C.hb hd hL hn hl fun ls hL => kk H locs ls hP hS hL
theorem sm_iinc (C : sm_Cx X cc nL own fr lo ret) {i : Nat} {n : Int} {x : Int32} {lv' : Int32 → List (Nat × Value)} {f : Int32 → Option β} (k : Nat) (hd : decode cc pc = .ok (.iinc i n, 3)) (hk : lv[k]? = some (i, .int x)) (hn : i < nL) (hl : ∀ v : Int32, (i, Value.int v) :: lv.filter (fun q => !(q.1 == i) && !(q.1 + 1 == i && q.2.category == 2)) = lv' v) (h : sm_b (x + Int32.ofInt n) f = some z) (kk : ∀ v, f v = some z → sm_V X Q nL σ (pc + 3) (lv' v) st) : sm_V X Q nL σ pc lv st := by
  intro H locs ls hP hS hL
  exact lv_iinc C.hx C.hb hd hL hk rfl hn (hl _) fun ls hL => kk _ h H locs ls hP hS hL
theorem sm_iadd (C : sm_Cx X cc nL own fr lo ret) {x y : Int32} {f : Int32 → Option β} (hd : decode cc pc = .ok (.iadd, 1))  (h : sm_b (x + y) f = some z) (kk : ∀ v, f v = some z → sm_V X Q nL σ (pc + 1) lv (.int v :: st)) : sm_V X Q nL σ pc lv (.int y :: .int x :: st) := by
  intro H locs ls hP hS hL
  exact lv_iadd C.hx C.hb hd  (kk _ h H locs ls hP hS hL)
theorem sm_isub (C : sm_Cx X cc nL own fr lo ret) {x y : Int32} {f : Int32 → Option β} (hd : decode cc pc = .ok (.isub, 1))  (h : sm_b (x - y) f = some z) (kk : ∀ v, f v = some z → sm_V X Q nL σ (pc + 1) lv (.int v :: st)) : sm_V X Q nL σ pc lv (.int y :: .int x :: st) := by
  intro H locs ls hP hS hL
  exact lv_isub C.hx C.hb hd  (kk _ h H locs ls hP hS hL)
theorem sm_imul (C : sm_Cx X cc nL own fr lo ret) {x y : Int32} {f : Int32 → Option β} (hd : decode cc pc = .ok (.imul, 1))  (h : sm_b (x * y) f = some z) (kk : ∀ v, f v = some z → sm_V X Q nL σ (pc + 1) lv (.int v :: st)) : sm_V X Q nL σ pc lv (.int y :: .int x :: st) := by
  intro H locs ls hP hS hL
  exact lv_imul C.hx C.hb hd  (kk _ h H locs ls hP hS hL)
theorem sm_iand (C : sm_Cx X cc nL own fr lo ret) {x y : Int32} {f : Int32 → Option β} (hd : decode cc pc = .ok (.iand, 1))  (h : sm_b (x &&& y) f = some z) (kk : ∀ v, f v = some z → sm_V X Q nL σ (pc + 1) lv (.int v :: st)) : sm_V X Q nL σ pc lv (.int y :: .int x :: st) := by
  intro H locs ls hP hS hL
  exact lv_iand C.hx C.hb hd  (kk _ h H locs ls hP hS hL)
theorem sm_ior (C : sm_Cx X cc nL own fr lo ret) {x y : Int32} {f : Int32 → Option β} (hd : decode cc pc = .ok (.ior, 1))  (h : sm_b (x ||| y) f = some z) (kk : ∀ v, f v = some z → sm_V X Q nL σ (pc + 1) lv (.int v :: st)) : sm_V X Q nL σ pc lv (.int y :: .int x :: st) := by
  intro H locs ls hP hS hL
  exact lv_ior C.hx C.hb hd  (kk _ h H locs ls hP hS hL)
theorem sm_ixor (C : sm_Cx X cc nL own fr lo ret) {x y : Int32} {f : Int32 → Option β} (hd : decode cc pc = .ok (.ixor, 1))  (h : sm_b (x ^^^ y) f = some z) (kk : ∀ v, f v = some z → sm_V X Q nL σ (pc + 1) lv (.int v :: st)) : sm_V X Q nL σ pc lv (.int y :: .int x :: st) := by
  intro H locs ls hP hS hL
  exact lv_ixor C.hx C.hb hd  (kk _ h H locs ls hP hS hL)
theorem sm_ladd (C : sm_Cx X cc nL own fr lo ret) {x y : Int64} {f : Int64 → Option β} (hd : decode cc pc = .ok (.ladd, 1))  (h : sm_b (x + y) f = some z) (kk : ∀ v, f v = some z → sm_V X Q nL σ (pc + 1) lv (.long v :: st)) : sm_V X Q nL σ pc lv (.long y :: .long x :: st) := by
  intro H locs ls hP hS hL
  exact lv_ladd C.hx C.hb hd  (kk _ h H locs ls hP hS hL)
theorem sm_lsub (C : sm_Cx X cc nL own fr lo ret) {x y : Int64} {f : Int64 → Option β} (hd : decode cc pc = .ok (.lsub, 1))  (h : sm_b (x - y) f = some z) (kk : ∀ v, f v = some z → sm_V X Q nL σ (pc + 1) lv (.long v :: st)) : sm_V X Q nL σ pc lv (.long y :: .long x :: st) := by
  intro H locs ls hP hS hL
  exact lv_lsub C.hx C.hb hd  (kk _ h H locs ls hP hS hL)
theorem sm_lmul (C : sm_Cx X cc nL own fr lo ret) {x y : Int64} {f : Int64 → Option β} (hd : decode cc pc = .ok (.lmul, 1))  (h : sm_b (x * y) f = some z) (kk : ∀ v, f v = some z → sm_V X Q nL σ (pc + 1) lv (.long v :: st)) : sm_V X Q nL σ pc lv (.long y :: .long x :: st) := by
  intro H locs ls hP hS hL
  exact lv_lmul C.hx C.hb hd  (kk _ h H locs ls hP hS hL)
theorem sm_idiv (C : sm_Cx X cc nL own fr lo ret) {x y : Int32} {f : Int32 → Option β} (hd : decode cc pc = .ok (.idiv, 1)) (h : sm_g (!decide (y = 0)) (sm_b (x / y) f) = some z) (kk : ∀ v, f v = some z → sm_V X Q nL σ (pc + 1) lv (.int v :: st)) : sm_V X Q nL σ pc lv (.int y :: .int x :: st) := by
  intro H locs ls hP hS hL
  obtain ⟨h1, h2⟩ := sm_gE h
  exact lv_idiv C.hx C.hb hd (by simpa using h1) (kk _ h2 H locs ls hP hS hL)
theorem sm_irem (C : sm_Cx X cc nL own fr lo ret) {x y : Int32} {f : Int32 → Option β} (hd : decode cc pc = .ok (.irem, 1)) (h : sm_g (!decide (y = 0)) (sm_b (x - x / y * y) f) = some z) (kk : ∀ v, f v = some z → sm_V X Q nL σ (pc + 1) lv (.int v :: st)) : sm_V X Q nL σ pc lv (.int y :: .int x :: st) := by
  intro H locs ls hP hS hL
  obtain ⟨h1, h2⟩ := sm_gE h
  exact lv_irem C.hx C.hb hd (by simpa using h1) (kk _ h2 H locs ls hP hS hL)
theorem sm_ldiv (C : sm_Cx X cc nL own fr lo ret) {x y : Int64} {f : Int64 → Option β} (hd : decode cc pc = .ok (.ldiv, 1)) (h : sm_g (!decide (y = 0)) (sm_b (x / y) f) = some z) (kk : ∀ v, f v = some z → sm_V X Q nL σ (pc + 1) lv (.long v :: st)) : sm_V X Q nL σ pc lv (.long y :: .long x :: st) := by
  intro H locs ls hP hS hL
  obtain ⟨h1, h2⟩ := sm_gE h
  exact lv_ldiv C.hx C.hb hd (by simpa using h1) (kk _ h2 H locs ls hP hS hL)
theorem sm_lrem (C : sm_Cx X cc nL own fr lo ret) {x y : Int64} {f : Int64 → Option β} (hd : decode cc pc = .ok (.lrem, 1)) (h : sm_g (!decide (y = 0)) (sm_b (x - x / y * y) f) = some z) (kk : ∀ v, f v = some z → sm_V X Q nL σ (pc + 1) lv (.long v :: st)) : sm_V X Q nL σ pc lv (.long y :: .long x :: st) := by
  intro H locs ls hP hS hL
  obtain ⟨h1, h2⟩ := sm_gE h
  exact lv_lrem C.hx C.hb hd (by simpa using h1) (kk _ h2 H locs ls hP hS hL)
theorem sm_ineg (C : sm_Cx X cc nL own fr lo ret) {x : Int32} {f : Int32 → Option β} (hd : decode cc pc = .ok (.ineg, 1)) (h : sm_b (-x) f = some z) (kk : ∀ v, f v = some z → sm_V X Q nL σ (pc + 1) lv (.int v :: st)) : sm_V X Q nL σ pc lv (.int x :: st) := by
  intro H locs ls hP hS hL
  exact lv_ineg C.hx C.hb hd (kk _ h H locs ls hP hS hL)
theorem sm_ishl (C : sm_Cx X cc nL own fr lo ret) {x y : Int32} {f : Int32 → Option β} (hd : decode cc pc = .ok (.ishl, 1)) (h : sm_b (x <<< (y &&& 31)) f = some z) (kk : ∀ v, f v = some z → sm_V X Q nL σ (pc + 1) lv (.int v :: st)) : sm_V X Q nL σ pc lv (.int y :: .int x :: st) := by
  intro H locs ls hP hS hL
  exact lv_ishl C.hx C.hb hd (kk _ h H locs ls hP hS hL)
theorem sm_ishr (C : sm_Cx X cc nL own fr lo ret) {x y : Int32} {f : Int32 → Option β} (hd : decode cc pc = .ok (.ishr, 1)) (h : sm_b (x >>> (y &&& 31)) f = some z) (kk : ∀ v, f v = some z → sm_V X Q nL σ (pc + 1) lv (.int v :: st)) : sm_V X Q nL σ pc lv (.int y :: .int x :: st) := by
  intro H locs ls hP hS hL
  exact lv_ishr C.hx C.hb hd (kk _ h H locs ls hP hS hL)
theorem sm_iushr (C : sm_Cx X cc nL own fr lo ret) {x y : Int32} {f : Int32 → Option β} (hd : decode cc pc = .ok (.iushr, 1)) (h : sm_b ((x.toUInt32 >>> (y.toUInt32 &&& Int32.toUInt32 31)).toInt32) f = some z) (kk : ∀ v, f v = some z → sm_V X Q nL σ (pc + 1) lv (.int v :: st)) : sm_V X Q nL σ pc lv (.int y :: .int x :: st) := by
  intro H locs ls hP hS hL
  exact lv_iushr C.hx C.hb hd rfl (kk _ h H locs ls hP hS hL)
theorem sm_i2l (C : sm_Cx X cc nL own fr lo ret) {x : Int32} {f : Int64 → Option β} (hd : decode cc pc = .ok (.i2l, 1)) (h : sm_b (x.toInt64) f = some z) (kk : ∀ v, f v = some z → sm_V X Q nL σ (pc + 1) lv (.long v :: st)) : sm_V X Q nL σ pc lv (.int x :: st) := by
  intro H locs ls hP hS hL
  exact lv_i2l C.hx C.hb hd rfl (kk _ h H locs ls hP hS hL)
theorem sm_l2i (C : sm_Cx X cc nL own fr lo ret) {x : Int64} {f : Int32 → Option β} (hd : decode cc pc = .ok (.l2i, 1)) (h : sm_b (x.toInt32) f = some z) (kk : ∀ v, f v = some z → sm_V X Q nL σ (pc + 1) lv (.int v :: st)) : sm_V X Q nL σ pc lv (.long x :: st) := by
  intro H locs ls hP hS hL
  exact lv_l2i C.hx C.hb hd rfl (kk _ h H locs ls hP hS hL)
theorem sm_i2b (C : sm_Cx X cc nL own fr lo ret) {x : Int32} {f : Int32 → Option β} (hd : decode cc pc = .ok (.i2b, 1)) (h : sm_b (x.toInt8.toInt32) f = some z) (kk : ∀ v, f v = some z → sm_V X Q nL σ (pc + 1) lv (.int v :: st)) : sm_V X Q nL σ pc lv (.int x :: st) := by
  intro H locs ls hP hS hL
  exact lv_i2b C.hx C.hb hd rfl (kk _ h H locs ls hP hS hL)
theorem sm_i2s (C : sm_Cx X cc nL own fr lo ret) {x : Int32} {f : Int32 → Option β} (hd : decode cc pc = .ok (.i2s, 1)) (h : sm_b (x.toInt16.toInt32) f = some z) (kk : ∀ v, f v = some z → sm_V X Q nL σ (pc + 1) lv (.int v :: st)) : sm_V X Q nL σ pc lv (.int x :: st) := by
  intro H locs ls hP hS hL
  exact lv_i2s C.hx C.hb hd rfl (kk _ h H locs ls hP hS hL)
theorem sm_i2c (C : sm_Cx X cc nL own fr lo ret) {x : Int32} {f : Int32 → Option β} (hd : decode cc pc = .ok (.i2c, 1)) (h : sm_b ((x.toUInt32 % 65536).toInt32) f = some z) (kk : ∀ v, f v = some z → sm_V X Q nL σ (pc + 1) lv (.int v :: st)) : sm_V X Q nL σ pc lv (.int x :: st) := by
  intro H locs ls hP hS hL
  exact lv_i2c C.hx C.hb hd rfl (kk _ h H locs ls hP hS hL)
theorem sm_lcmp (C : sm_Cx X cc nL own fr lo ret) {x y : Int64} {f : Int32 → Option β} (hd : decode cc pc = .ok (.lcmp, 1)) (h : sm_b (lg_cmp x y) f = some z) (kk : ∀ v, f v = some z → sm_V X Q nL σ (pc + 1) lv (.int v :: st)) : sm_V X Q nL σ pc lv (.long y :: .long x :: st) := by
  intro H locs ls hP hS hL
  exact W.lcmp C.hx C.hb hd (kk _ h H locs ls hP hS hL)
theorem sm_dup (C : sm_Cx X cc nL own fr lo ret) {a : Value} (hd : decode cc pc = .ok (.dup, 1)) (ha : a.category = 1) (kk : sm_V X Q nL σ (pc + 1) lv (a :: a :: st)) : sm_V X Q nL σ pc lv (a :: st) := by
  intro H locs ls hP hS hL
  exact lv_dup C.hx C.hb hd ha (kk H locs ls hP hS hL)
theorem sm_pop (C : sm_Cx X cc nL own fr lo ret) {a : Value} (hd : decode cc pc = .ok (.pop, 1)) (ha : a.category = 1) (kk : sm_V X Q nL σ (pc + 1) lv st) : sm_V X Q nL σ pc lv (a :: st) := by
  intro H locs ls hP hS hL
  exact lv_pop C.hx C.hb hd ha (kk H locs ls hP hS hL)
theorem sm_dup_x1 (C : sm_Cx X cc nL own fr lo ret) {a b : Value} (hd : decode cc pc = .ok (.dup_x1, 1)) (ha : a.category = 1) (hb : b.category = 1) (kk : sm_V X Q nL σ (pc + 1) lv (a :: b :: a :: st)) : sm_V X Q nL σ pc lv (a :: b :: st) := by
  intro H locs ls hP hS hL
  exact lv_dup_x1 C.hx C.hb hd ha hb (kk H locs ls hP hS hL)
theorem sm_dup2 (C : sm_Cx X cc nL own fr lo ret) {a b : Value} (hd : decode cc pc = .ok (.dup2, 1)) (ha : a.category = 1) (hb : b.category = 1) (kk : sm_V X Q nL σ (pc + 1) lv (a :: b :: a :: b :: st)) : sm_V X Q nL σ pc lv (a :: b :: st) := by
  intro H locs ls hP hS hL
  exact lv_dup2_11 C.hx C.hb hd ha hb (kk H locs ls hP hS hL)
theorem sm_if_eq (C : sm_Cx X cc nL own fr lo ret) {x : Int32} {off : Int} {A B : Option β} (tgt : Nat) (hd : decode cc pc = .ok (.ifCond .eq off, 3)) (ht : (pc : Int) + off = (tgt : Int)) (h : (if x = 0 then A else B) = some z) (kt : A = some z → sm_V X Q nL σ tgt lv st) (kf : B = some z → sm_V X Q nL σ (pc + 3) lv st) : sm_V X Q nL σ pc lv (.int x :: st) := by
  intro H locs ls hP hS hL
  refine lv_if_eq C.hx C.hb hd ht (fun q => ?_) (fun q => ?_)
  · rw [if_pos q] at h
    exact kt h H locs ls hP hS hL
  · rw [if_neg q] at h
    exact kf h H locs ls hP hS hL
theorem sm_icmp_eq (C : sm_Cx X cc nL own fr lo ret) {x y : Int32} {off : Int} {A B : Option β} (tgt : Nat) (hd : decode cc pc = .ok (.if_icmp .eq off, 3)) (ht : (pc : Int) + off = (tgt : Int)) (h : (if x = y then A else B) = some z) (kt : A = some z → sm_V X Q nL σ tgt lv st) (kf : B = some z → sm_V X Q nL σ (pc + 3) lv st) : sm_V X Q nL σ pc lv (.int y :: .int x :: st) := by
  intro H locs ls hP hS hL
  refine lv_icmp_eq C.hx C.hb hd ht (fun q => ?_) (fun q => ?_)
  · rw [if_pos q] at h
    exact kt h H locs ls hP hS hL
  · rw [if_neg q] at h
    exact kf h H locs ls hP hS hL
theorem sm_if_ne (C : sm_Cx X cc nL own fr lo ret) {x : Int32} {off : Int} {A B : Option β} (tgt : Nat) (hd : decode cc pc = .ok (.ifCond .ne off, 3)) (ht : (pc : Int) + off = (tgt : Int)) (h : (if x = 0 then A else B) = some z) (kt : B = some z → sm_V X Q nL σ tgt lv st) (kf : A = some z → sm_V X Q nL σ (pc + 3) lv st) : sm_V X Q nL σ pc lv (.int x :: st) := by
  intro H locs ls hP hS hL
  refine lv_if_ne C.hx C.hb hd ht (fun q => ?_) (fun q => ?_)
  · rw [if_neg q] at h
    exact kt h H locs ls hP hS hL
  · rw [if_pos q] at h
    exact kf h H locs ls hP hS hL
theorem sm_icmp_ne (C : sm_Cx X cc nL own fr lo ret) {x y : Int32} {off : Int} {A B : Option β} (tgt : Nat) (hd : decode cc pc = .ok (.if_icmp .ne off, 3)) (ht : (pc : Int) + off = (tgt : Int)) (h : (if x = y then A else B) = some z) (kt : B = some z → sm_V X Q nL σ tgt lv st) (kf : A = some z → sm_V X Q nL σ (pc + 3) lv st) : sm_V X Q nL σ pc lv (.int y :: .int x :: st) := by
  intro H locs ls hP hS hL
  refine lv_icmp_ne C.hx C.hb hd ht (fun q => ?_) (fun q => ?_)
  · rw [if_neg q] at h
    exact kt h H locs ls hP hS hL
  · rw [if_pos q] at h
    exact kf h H locs ls hP hS hL
theorem sm_if_lt (C : sm_Cx X cc nL own fr lo ret) {x : Int32} {off : Int} {A B : Option β} (tgt : Nat) (hd : decode cc pc = .ok (.ifCond .lt off, 3)) (ht : (pc : Int) + off = (tgt : Int)) (h : (if x < 0 then A else B) = some z) (kt : A = some z → sm_V X Q nL σ tgt lv st) (kf : B = some z → sm_V X Q nL σ (pc + 3) lv st) : sm_V X Q nL σ pc lv (.int x :: st) := by
  intro H locs ls hP hS hL
  refine lv_if_lt C.hx C.hb hd ht (fun q => ?_) (fun q => ?_)
  · rw [if_pos q] at h
    exact kt h H locs ls hP hS hL
  · rw [if_neg q] at h
    exact kf h H locs ls hP hS hL
theorem sm_icmp_lt (C : sm_Cx X cc nL own fr lo ret) {x y : Int32} {off : Int} {A B : Option β} (tgt : Nat) (hd : decode cc pc = .ok (.if_icmp .lt off, 3)) (ht : (pc : Int) + off = (tgt : Int)) (h : (if x < y then A else B) = some z) (kt : A = some z → sm_V X Q nL σ tgt lv st) (kf : B = some z → sm_V X Q nL σ (pc + 3) lv st) : sm_V X Q nL σ pc lv (.int y :: .int x :: st) := by
  intro H locs ls hP hS hL
  refine lv_icmp_lt C.hx C.hb hd ht (fun q => ?_) (fun q => ?_)
  · rw [if_pos q] at h
    exact kt h H locs ls hP hS hL
  · rw [if_neg q] at h
    exact kf h H locs ls hP hS hL
theorem sm_if_ge (C : sm_Cx X cc nL own fr lo ret) {x : Int32} {off : Int} {A B : Option β} (tgt : Nat) (hd : decode cc pc = .ok (.ifCond .ge off, 3)) (ht : (pc : Int) + off = (tgt : Int)) (h : (if 0 ≤ x then A else B) = some z) (kt : A = some z → sm_V X Q nL σ tgt lv st) (kf : B = some z → sm_V X Q nL σ (pc + 3) lv st) : sm_V X Q nL σ pc lv (.int x :: st) := by
  intro H locs ls hP hS hL
  refine lv_if_ge C.hx C.hb hd ht (fun q => ?_) (fun q => ?_)
  · rw [if_pos q] at h
    exact kt h H locs ls hP hS hL
  · rw [if_neg q] at h
    exact kf h H locs ls hP hS hL
theorem sm_icmp_ge (C : sm_Cx X cc nL own fr lo ret) {x y : Int32} {off : Int} {A B : Option β} (tgt : Nat) (hd : decode cc pc = .ok (.if_icmp .ge off, 3)) (ht : (pc : Int) + off = (tgt : Int)) (h : (if y ≤ x then A else B) = some z) (kt : A = some z → sm_V X Q nL σ tgt lv st) (kf : B = some z → sm_V X Q nL σ (pc + 3) lv st) : sm_V X Q nL σ pc lv (.int y :: .int x :: st) := by
  intro H locs ls hP hS hL
  refine lv_icmp_ge C.hx C.hb hd ht (fun q => ?_) (fun q => ?_)
  · rw [if_pos q] at h
    exact kt h H locs ls hP hS hL
  · rw [if_neg q] at h
    exact kf h H locs ls hP hS hL
theorem sm_if_gt (C : sm_Cx X cc nL own fr lo ret) {x : Int32} {off : Int} {A B : Option β} (tgt : Nat) (hd : decode cc pc = .ok (.ifCond .gt off, 3)) (ht : (pc : Int) + off = (tgt : Int)) (h : (if 0 < x then A else B) = some z) (kt : A = some z → sm_V X Q nL σ tgt lv st) (kf : B = some z → sm_V X Q nL σ (pc + 3) lv st) : sm_V X Q nL σ pc lv (.int x :: st) := by
  intro H locs ls hP hS hL
  refine lv_if_gt C.hx C.hb hd ht (fun q => ?_) (fun q => ?_)
  · rw [if_pos q] at h
    exact kt h H locs ls hP hS hL
  · rw [if_neg q] at h
    exact kf h H locs ls hP hS hL
theorem sm_icmp_gt (C : sm_Cx X cc nL own fr lo ret) {x y : Int32} {off : Int} {A B : Option β} (tgt : Nat) (hd : decode cc pc = .ok (.if_icmp .gt off, 3)) (ht : (pc : Int) + off = (tgt : Int)) (h : (if y < x then A else B) = some z) (kt : A = some z → sm_V X Q nL σ tgt lv st) (kf : B = some z → sm_V X Q nL σ (pc + 3) lv st) : sm_V X Q nL σ pc lv (.int y :: .int x :: st) := by
  intro H locs ls hP hS hL
  refine lv_icmp_gt C.hx C.hb hd ht (fun q => ?_) (fun q => ?_)
  · rw [if_pos q] at h
    exact kt h H locs ls hP hS hL
  · rw [if_neg q] at h
    exact kf h H locs ls hP hS hL
theorem sm_if_le (C : sm_Cx X cc nL own fr lo ret) {x : Int32} {off : Int} {A B : Option β} (tgt : Nat) (hd : decode cc pc = .ok (.ifCond .le off, 3)) (ht : (pc : Int) + off = (tgt : Int)) (h : (if x ≤ 0 then A else B) = some z) (kt : A = some z → sm_V X Q nL σ tgt lv st) (kf : B = some z → sm_V X Q nL σ (pc + 3) lv st) : sm_V X Q nL σ pc lv (.int x :: st) := by
  intro H locs ls hP hS hL
  refine lv_if_le C.hx C.hb hd ht (fun q => ?_) (fun q => ?_)
  · rw [if_pos q] at h
    exact kt h H locs ls hP hS hL
  · rw [if_neg q] at h
    exact kf h H locs ls hP hS hL
theorem sm_icmp_le (C : sm_Cx X cc nL own fr lo ret) {x y : Int32} {off : Int} {A B : Option β} (tgt : Nat) (hd : decode cc pc = .ok (.if_icmp .le off, 3)) (ht : (pc : Int) + off = (tgt : Int)) (h : (if x ≤ y then A else B) = some z) (kt : A = some z → sm_V X Q nL σ tgt lv st) (kf : B = some z → sm_V X Q nL σ (pc + 3) lv st) : sm_V X Q nL σ pc lv (.int y :: .int x :: st) := by
  intro H locs ls hP hS hL
  refine lv_icmp_le C.hx C.hb hd ht (fun q => ?_) (fun q => ?_)
  · rw [if_pos q] at h
    exact kt h H locs ls hP hS hL
  · rw [if_neg q] at h
    exact kf h H locs ls hP hS hL
theorem sm_goto (C : sm_Cx X cc nL own fr lo ret) {off : Int} (tgt : Nat) (hd : decode cc pc = .ok (.goto off, 3)) (ht : (pc : Int) + off = (tgt : Int)) (kk : sm_V X Q nL σ tgt lv st) : sm_V X Q nL σ pc lv st := by
  intro H locs ls hP hS hL
  exact lv_goto C.hx C.hb hd ht (kk H locs ls hP hS hL)
theorem sm_ifnull (C : sm_Cx X cc nL own fr lo ret) {r : Option Nat} {off : Int} {A B : Option β} (tgt : Nat) (hd : decode cc pc = .ok (.ifnull off, 3)) (ht : (pc : Int) + off = (tgt : Int)) (h : (if r = none then A else B) = some z) (kt : A = some z → sm_V X Q nL σ tgt lv st) (kf : B = some z → sm_V X Q nL σ (pc + 3) lv st) : sm_V X Q nL σ pc lv (va_rf r :: st) := by
  intro H locs ls hP hS hL
  cases r with
  | none => exact lv_ifnullN C.hx C.hb hd ht (kt (by simpa using h) H locs ls hP hS hL)
  | some a => exact lv_ifnull C.hx C.hb hd (kf (by simpa using h) H locs ls hP hS hL)
theorem sm_ifnonnull (C : sm_Cx X cc nL own fr lo ret) {r : Option Nat} {off : Int} {A B : Option β} (tgt : Nat) (hd : decode cc pc = .ok (.ifnonnull off, 3)) (ht : (pc : Int) + off = (tgt : Int)) (h : (if r = none then A else B) = some z) (kt : A = some z → sm_V X Q nL σ (pc + 3) lv st) (kf : B = some z → sm_V X Q nL σ tgt lv st) : sm_V X Q nL σ pc lv (va_rf r :: st) := by
  intro H locs ls hP hS hL
  cases r with
  | none => exact lv_ifnonnullN C.hx C.hb hd (kt (by simpa using h) H locs ls hP hS hL)
  | some a => exact lv_ifnonnull C.hx C.hb hd ht (kf (by simpa using h) H locs ls hP hS hL)
theorem sm_tswIn (C : sm_Cx X cc nL own fr lo ret) {dflt lo1 hi : Int} {offs : Array Int} {len : Nat} {x : Int32} (off : Int) (tgt : Nat) (hd : decode cc pc = .ok (.tableswitch dflt lo1 hi offs, len)) (hx : ¬ x.toInt < lo1 ∧ ¬ hi < x.toInt ∧ offs[(x.toInt - lo1).toNat]? = some off) (ht : (pc : Int) + off = (tgt : Int)) (kk : sm_V X Q nL σ tgt lv st) : sm_V X Q nL σ pc lv (.int x :: st) := by
  intro H locs ls hP hS hL
  exact lv_tableIn C.hx C.hb hd hx.1 hx.2.1 hx.2.2 ht (kk H locs ls hP hS hL)
theorem sm_tswOut (C : sm_Cx X cc nL own fr lo ret) {dflt lo1 hi : Int} {offs : Array Int} {len : Nat} {x : Int32} (tgt : Nat) (hd : decode cc pc = .ok (.tableswitch dflt lo1 hi offs, len)) (hx : x.toInt < lo1 ∨ hi < x.toInt) (ht : (pc : Int) + dflt = (tgt : Int)) (kk : sm_V X Q nL σ tgt lv st) : sm_V X Q nL σ pc lv (.int x :: st) := by
  intro H locs ls hP hS hL
  exact lv_tableOut C.hx C.hb hd hx ht (kk H locs ls hP hS hL)
theorem sm_lsw (C : sm_Cx X cc nL own fr lo ret) {dflt : Int} {ps : Array (Int × Int)} {len : Nat} {x : Int32} (off : Int) (tgt : Nat) (hd : decode cc pc = .ok (.lookupswitch dflt ps, len)) (hp : (ps.toList.zip (ps.toList.drop 1)).all (fun (a, next) => a.1 < next.1) = true) (ho : Op.lookupswitch.offset ps.toList dflt x.toInt = off) (ht : (pc : Int) + off = (tgt : Int)) (kk : sm_V X Q nL σ tgt lv st) : sm_V X Q nL σ pc lv (.int x :: st) := by
  intro H locs ls hP hS hL
  exact lv_lookup C.hx C.hb hd hp ho ht (kk H locs ls hP hS hL)
theorem sm_get (C : sm_Cx X cc nL own fr lo ret) {C0 : String} {T : u_T} {N ci k : Nat} {fs : List Value} {index : Nat} {v : Value} (j : Nat) (hk : k < sm_N (sm_w X)) (he : sm_sh (sm_w X) k (σ.1 k) (σ.2.1 k) (σ.2.2 k) = .inr (ci, fs)) (hc : (sm_cl (sm_w X))[ci]? = some (C0, T, N)) (hin : ∀ w ∈ u_ws C0 T N, w ∈ sm_G) (hj : j < N) (hl : Cond.fieldLink own index (T j).1 (T j).2.1 (T j).2.2.1 ∈ sm_G) (hv : fs[j]? = some v) (hd : decode cc pc = .ok (.getfield index, 3)) (kk : sm_V X Q nL σ (pc + 3) lv (v :: st)) : sm_V X Q nL σ pc lv (.ref (sm_ad (sm_w X) k) :: st) := by
  intro H locs ls hP hS hL
  have ha := sm_at (w := sm_w X) (σ := σ) hk
  rw [he] at ha
  exact va_get C.hx C.hb C.hts hin C.hown C.hK hP k ha hc j hj (C.hts _ hl) (fun _ h9 => h9) hv hd (kk H locs ls hP hS hL)
theorem sm_put (C : sm_Cx X cc nL own fr lo ret) {C0 : String} {T : u_T} {N ci k : Nat} {fs : List Value} {index : Nat} {σ' : sm_St} {ty0 : Nat → FieldType} {ty : FieldType} {v : Value} (j : Nat) (hk : k < sm_N (sm_w X)) (he : sm_sh (sm_w X) k (σ.1 k) (σ.2.1 k) (σ.2.2 k) = .inr (ci, fs)) (hc : (sm_cl (sm_w X))[ci]? = some (C0, T, N)) (hin : ∀ w ∈ u_ws C0 T N, w ∈ sm_G) (hty : ∀ k, k < N → parseFieldDescriptor (T k).2.2.1 = some (ty0 k)) (hnm : ∀ a, a < N → ∀ b, b < N → a ≠ b → (T a).2.1 ≠ (T b).2.1) (hj : j < N) (hl : Cond.fieldLink own index (T j).1 (T j).2.1 (T j).2.2.1 ∈ sm_G) (hfin : (T j).2.2.2 = false) (hdt : parseFieldDescriptor (T j).2.2.1 = some ty) (hn : narrow ty v = v) (hfit : fits ty v = true) (hlen : j < fs.length) (hs : sm_sh (sm_w X) k (σ'.1 k) (σ'.2.1 k) (σ'.2.2 k) = .inr (ci, fs.set j v)) (ho : ∀ j, j ≠ k → σ'.1 j = σ.1 j ∧ σ'.2.1 j = σ.2.1 j ∧ σ'.2.2 j = σ.2.2 j) (hd : decode cc pc = .ok (.putfield index, 3)) (kk : sm_V X Q nL σ' (pc + 3) lv st) : sm_V X Q nL σ pc lv (v :: .ref (sm_ad (sm_w X) k) :: st) := by
  intro H locs ls hP hS hL
  have ha := sm_at (w := sm_w X) (σ := σ) hk
  rw [he] at ha
  refine va_put C.hx C.hb C.hts hin ty0 hty hnm C.hown C.hK hP C.hD hS k ha hc j hj (C.hts _ hl) (fun _ h9 => h9) hfin hdt hn hfit hlen hd (fun H1 locs1 hP1 _ hS1 => ?_)
  rw [sm_set hk hs ho] at hP1
  exact kk H1 locs1 ls hP1 hS1 hL
theorem sm_iald (C : sm_Cx X cc nL own fr lo ret) {k n t0 : Nat} {cA : ClassId} {i : Int32} {f : Int32 → Option β} (hk : k < sm_N (sm_w X)) (he : sm_sh (sm_w X) k (σ.1 k) (σ.2.1 k) (σ.2.2 k) = .inl (cA, n, .inl (σ.1 k))) (ht : (sm_ty (sm_w X))[t0]? = some (cA, .int)) (hd : decode cc pc = .ok (.iaload, 1)) (h : sm_g (sm_in i n) (sm_b (σ.1 k i.toNatClampNeg) f) = some z) (kk : ∀ v, f v = some z → sm_V X Q nL σ (pc + 1) lv (.int v :: st)) : sm_V X Q nL σ pc lv (.int i :: .ref (sm_ad (sm_w X) k) :: st) := by
  intro H locs ls hP hS hL
  have ha := sm_at (w := sm_w X) (σ := σ) hk
  rw [he] at ha
  obtain ⟨h1, h2⟩ := sm_gE h
  exact va_iald C.hx C.hb C.hK hP k t0 ha ht (sm_inE h1) hd (kk _ h2 H locs ls hP hS hL)
theorem sm_lald (C : sm_Cx X cc nL own fr lo ret) {k n t0 : Nat} {cA : ClassId} {i : Int32} {f : Int64 → Option β} (hk : k < sm_N (sm_w X)) (he : sm_sh (sm_w X) k (σ.1 k) (σ.2.1 k) (σ.2.2 k) = .inl (cA, n, .inr (.inl (σ.2.1 k)))) (ht : (sm_ty (sm_w X))[t0]? = some (cA, .long)) (hd : decode cc pc = .ok (.laload, 1)) (h : sm_g (sm_in i n) (sm_b (σ.2.1 k i.toNatClampNeg) f) = some z) (kk : ∀ v, f v = some z → sm_V X Q nL σ (pc + 1) lv (.long v :: st)) : sm_V X Q nL σ pc lv (.int i :: .ref (sm_ad (sm_w X) k) :: st) := by
  intro H locs ls hP hS hL
  have ha := sm_at (w := sm_w X) (σ := σ) hk
  rw [he] at ha
  obtain ⟨h1, h2⟩ := sm_gE h
  exact va_lald C.hx C.hb C.hK hP k t0 ha ht (sm_inE h1) hd (kk _ h2 H locs ls hP hS hL)
theorem sm_zald (C : sm_Cx X cc nL own fr lo ret) {k n t0 : Nat} {cA : ClassId} {i : Int32} {f : Int32 → Option β} (hk : k < sm_N (sm_w X)) (he : sm_sh (sm_w X) k (σ.1 k) (σ.2.1 k) (σ.2.2 k) = .inl (cA, n, .inl (σ.1 k))) (ht : (sm_ty (sm_w X))[t0]? = some (cA, .boolean)) (hd : decode cc pc = .ok (.baload, 1)) (h : sm_g (sm_in i n) (sm_b (σ.1 k i.toNatClampNeg) f) = some z) (kk : ∀ v, f v = some z → sm_V X Q nL σ (pc + 1) lv (.int v :: st)) : sm_V X Q nL σ pc lv (.int i :: .ref (sm_ad (sm_w X) k) :: st) := by
  intro H locs ls hP hS hL
  have ha := sm_at (w := sm_w X) (σ := σ) hk
  rw [he] at ha
  obtain ⟨h1, h2⟩ := sm_gE h
  exact va_zald C.hx C.hb C.hK hP k t0 ha ht (sm_inE h1) hd (kk _ h2 H locs ls hP hS hL)
theorem sm_iast (C : sm_Cx X cc nL own fr lo ret) {k n t0 : Nat} {cA : ClassId} {i : Int32} {x : Int32} {f : sm_St → Option β} (hk : k < sm_N (sm_w X)) (he : ∀ a b c, sm_sh (sm_w X) k a b c = .inl (cA, n, .inl a)) (ht : (sm_ty (sm_w X))[t0]? = some (cA, .int)) (hd : decode cc pc = .ok (.iastore, 1)) (h : sm_g (sm_in i n) (sm_b (sm_sI σ k i.toNatClampNeg x) f) = some z) (kk : ∀ s, f s = some z → sm_V X Q nL s (pc + 1) lv st) : sm_V X Q nL σ pc lv (.int x :: .int i :: .ref (sm_ad (sm_w X) k) :: st) := by
  intro H locs ls hP hS hL
  have ha := sm_at (w := sm_w X) (σ := σ) hk
  rw [he] at ha
  obtain ⟨h1, h2⟩ := sm_gE h
  refine va_iast C.hx C.hb C.hK hP C.hD hS k t0 ha ht (sm_inE h1) hd (fun H1 locs1 hP1 _ hS1 => ?_)
  rw [sm_set (σ' := sm_sI σ k i.toNatClampNeg x) hk (by rw [he, sm_sIk.1]) sm_sIo] at hP1
  exact kk _ h2 H1 locs1 ls hP1 hS1 hL
theorem sm_zast (C : sm_Cx X cc nL own fr lo ret) {k n t0 : Nat} {cA : ClassId} {i : Int32} {x : Int32} {f : sm_St → Option β} (hk : k < sm_N (sm_w X)) (he : ∀ a b c, sm_sh (sm_w X) k a b c = .inl (cA, n, .inl a)) (ht : (sm_ty (sm_w X))[t0]? = some (cA, .boolean)) (hd : decode cc pc = .ok (.bastore, 1)) (h : sm_g (sm_in i n) (sm_b (sm_sI σ k i.toNatClampNeg (vp_nar .boolean x)) f) = some z) (kk : ∀ s, f s = some z → sm_V X Q nL s (pc + 1) lv st) : sm_V X Q nL σ pc lv (.int x :: .int i :: .ref (sm_ad (sm_w X) k) :: st) := by
  intro H locs ls hP hS hL
  have ha := sm_at (w := sm_w X) (σ := σ) hk
  rw [he] at ha
  obtain ⟨h1, h2⟩ := sm_gE h
  refine va_zast C.hx C.hb C.hK hP C.hD hS k t0 ha ht (sm_inE h1) hd (fun H1 locs1 hP1 _ hS1 => ?_)
  rw [sm_set (σ' := sm_sI σ k i.toNatClampNeg (vp_nar .boolean x)) hk (by rw [he, sm_sIk.1]) sm_sIo] at hP1
  exact kk _ h2 H1 locs1 ls hP1 hS1 hL
theorem sm_last (C : sm_Cx X cc nL own fr lo ret) {k n t0 : Nat} {cA : ClassId} {i : Int32} {x : Int64} {f : sm_St → Option β} (hk : k < sm_N (sm_w X)) (he : ∀ a b c, sm_sh (sm_w X) k a b c = .inl (cA, n, .inr (.inl b))) (ht : (sm_ty (sm_w X))[t0]? = some (cA, .long)) (hd : decode cc pc = .ok (.lastore, 1)) (h : sm_g (sm_in i n) (sm_b (sm_sL σ k i.toNatClampNeg x) f) = some z) (kk : ∀ s, f s = some z → sm_V X Q nL s (pc + 1) lv st) : sm_V X Q nL σ pc lv (.long x :: .int i :: .ref (sm_ad (sm_w X) k) :: st) := by
  intro H locs ls hP hS hL
  have ha := sm_at (w := sm_w X) (σ := σ) hk
  rw [he] at ha
  obtain ⟨h1, h2⟩ := sm_gE h
  refine va_last C.hx C.hb C.hK hP C.hD hS k t0 ha ht (sm_inE h1) hd (fun H1 locs1 hP1 _ hS1 => ?_)
  rw [sm_set (σ' := sm_sL σ k i.toNatClampNeg x) hk (by rw [he, sm_sLk.2.1]) sm_sLo] at hP1
  exact kk _ h2 H1 locs1 ls hP1 hS1 hL
theorem sm_alen (C : sm_Cx X cc nL own fr lo ret) {k n t0 : Nat} {cA : ClassId} {ty : FieldType} {e : (Nat → Int32) ⊕ (Nat → Int64) ⊕ (Nat → UInt32) ⊕ (Nat → UInt64) ⊕ (Nat → Option Nat)} {v : Int32} (hk : k < sm_N (sm_w X)) (he : sm_sh (sm_w X) k (σ.1 k) (σ.2.1 k) (σ.2.2 k) = .inl (cA, n, e)) (ht : (sm_ty (sm_w X))[t0]? = some (cA, ty)) (hv : Int32.ofNat n = v) (hd : decode cc pc = .ok (.arraylength, 1)) (kk : sm_V X Q nL σ (pc + 1) lv (.int v :: st)) : sm_V X Q nL σ pc lv (.ref (sm_ad (sm_w X) k) :: st) := by
  intro H locs ls hP hS hL
  have ha := sm_at (w := sm_w X) (σ := σ) hk
  rw [he] at ha
  exact va_alen C.hx C.hb C.hK hP k t0 ha ht hv hd (kk H locs ls hP hS hL)
theorem sm_aldq (C : sm_Cx X cc nL own fr lo ret) {k n t0 b0 : Nat} {cA : ClassId} {C0 : String} {i : Int32} {x : Option β} (hk : k < sm_N (sm_w X)) (he : sm_sh (sm_w X) k (σ.1 k) (σ.2.1 k) (σ.2.2 k) = .inl (cA, n, .inr (.inr (.inr (.inr (fun j => some (sm_ad (sm_w X) (b0 + j)))))))) (ht : (sm_ty (sm_w X))[t0]? = some (cA, .object C0)) (hd : decode cc pc = .ok (.aaload, 1)) (h : sm_g (sm_in i n) x = some z) (kk : sm_in i n = true → x = some z → sm_V X Q nL σ (pc + 1) lv (.ref (sm_ad (sm_w X) (b0 + i.toNatClampNeg)) :: st)) : sm_V X Q nL σ pc lv (.int i :: .ref (sm_ad (sm_w X) k) :: st) := by
  intro H locs ls hP hS hL
  have ha := sm_at (w := sm_w X) (σ := σ) hk
  rw [he] at ha
  obtain ⟨h1, h2⟩ := sm_gE h
  exact va_aldq C.hx C.hb C.hK hP k t0 ha ht (sm_inE h1) hd (kk h1 h2 H locs ls hP hS hL)
theorem sm_mmax (C : sm_Cx X cc nL own fr lo ret) {index : Nat} {x y : Int32} {f : Int32 → Option β} (hl : Cond.methodLink own index Lib.Math.max.name ∈ sm_G) (h2 : Cond.static Lib.Math.max.name ∈ sm_G) (h3 : Cond.initialized "java/lang/Math" ∈ sm_G) (h4 : Cond.code Lib.Math.max.name Lib.Math.max.code 2 (some .int) ∈ sm_G) (h5 : 1 ≤ fr) (h6 : (st.map fun v => v.category).sum + 13 ≤ lo) (hd : decode cc pc = .ok (.invokestatic index, 3)) (h : sm_b (if x < y then y else x) f = some z) (kk : ∀ v, f v = some z → sm_V X Q nL σ (pc + 3) lv (.int v :: st)) : sm_V X Q nL σ pc lv (.int y :: .int x :: st) := by
  intro H locs ls hP hS hL
  exact va_mmax C.hx C.hb (C.hml.trans hL.1.symm) C.hown (C.hts _ hl) (C.hts _ h2) (C.hts _ h3) (C.hts _ h4) (Nat.le_trans h5 C.hR.1) (Nat.le_trans h6 C.hR.2) C.hcs.1 C.hcs.2 hd (kk _ h H locs ls hP hS hL)
theorem sm_mmin (C : sm_Cx X cc nL own fr lo ret) {index : Nat} {x y : Int32} {f : Int32 → Option β} (hl : Cond.methodLink own index Lib.Math.min.name ∈ sm_G) (h2 : Cond.static Lib.Math.min.name ∈ sm_G) (h3 : Cond.initialized "java/lang/Math" ∈ sm_G) (h4 : Cond.code Lib.Math.min.name Lib.Math.min.code 2 (some .int) ∈ sm_G) (h5 : 1 ≤ fr) (h6 : (st.map fun v => v.category).sum + 13 ≤ lo) (hd : decode cc pc = .ok (.invokestatic index, 3)) (h : sm_b (if y < x then y else x) f = some z) (kk : ∀ v, f v = some z → sm_V X Q nL σ (pc + 3) lv (.int v :: st)) : sm_V X Q nL σ pc lv (.int y :: .int x :: st) := by
  intro H locs ls hP hS hL
  exact va_mmin C.hx C.hb (C.hml.trans hL.1.symm) C.hown (C.hts _ hl) (C.hts _ h2) (C.hts _ h3) (C.hts _ h4) (Nat.le_trans h5 C.hR.1) (Nat.le_trans h6 C.hR.2) C.hcs.1 C.hcs.2 hd (kk _ h H locs ls hP hS hL)
def sm_cpyok (sp dp n : Int32) (n0 n1 : Nat) : Bool := decide (¬ sp < 0 ∧ ¬ dp < 0 ∧ ¬ n < 0 ∧ sp.toNatClampNeg + n.toNatClampNeg ≤ n0 ∧ dp.toNatClampNeg + n.toNatClampNeg ≤ n1)
theorem sm_copyi (C : sm_Cx X cc nL own fr lo ret) {index k k1 n0 n1 t0 : Nat} {cA : ClassId} {sp dp n : Int32} {f : sm_St → Option β} (hk : k < sm_N (sm_w X)) (hk1 : k1 < sm_N (sm_w X)) (he : ∀ a b c, sm_sh (sm_w X) k a b c = .inl (cA, n0, .inl a)) (he1 : ∀ a b c, sm_sh (sm_w X) k1 a b c = .inl (cA, n1, .inl a)) (ht : (sm_ty (sm_w X))[t0]? = some (cA, .int)) (hl : Cond.methodLink own index arraycopyName ∈ sm_G) (h2 : Cond.native arraycopyName ∈ sm_G) (h3 : Cond.static arraycopyName ∈ sm_G) (h4 : Cond.initialized "java/lang/System" ∈ sm_G) (h5 : 1 ≤ fr) (h6 : (st.map fun v => v.category).sum + (nativeFrameWords "java/lang/System" "arraycopy" 5 + 11) ≤ lo) (hd : decode cc pc = .ok (.invokestatic index, 3)) (h : sm_g (sm_cpyok sp dp n n0 n1) (sm_b (sm_cI σ k k1 sp.toNatClampNeg dp.toNatClampNeg n.toNatClampNeg) f) = some z) (kk : ∀ s, f s = some z → sm_V X Q nL s (pc + 3) lv st) : sm_V X Q nL σ pc lv (.int n :: .int dp :: .ref (sm_ad (sm_w X) k1) :: .int sp :: .ref (sm_ad (sm_w X) k) :: st) := by
  intro H locs ls hP hS hL
  have ha := sm_at (w := sm_w X) (σ := σ) hk
  have hb := sm_at (w := sm_w X) (σ := σ) hk1
  rw [he] at ha
  rw [he1] at hb
  obtain ⟨h0, h7⟩ := sm_gE h
  obtain ⟨g1, g2, g3, g4, g5⟩ := of_decide_eq_true (p := ¬ sp < 0 ∧ ¬ dp < 0 ∧ ¬ n < 0 ∧ sp.toNatClampNeg + n.toNatClampNeg ≤ n0 ∧ dp.toNatClampNeg + n.toNatClampNeg ≤ n1) h0
  refine va_copyi C.hx C.hb (C.hml.trans hL.1.symm) C.hown (C.hts _ hl) (C.hts _ h2) (C.hts _ h3) (C.hts _ h4) C.hK hP C.hD hS k k1 t0 t0 ha hb ht ht rfl g1 g2 g3 g4 g5 (fun _ _ => rfl) (Nat.le_trans h5 C.hR.1) (Nat.le_trans h6 C.hR.2) hd (fun H1 locs1 hP1 _ hS1 => ?_)
  rw [sm_set (σ' := sm_cI σ k k1 sp.toNatClampNeg dp.toNatClampNeg n.toNatClampNeg) hk1 (by rw [he1, sm_cIk.1]) sm_cIo] at hP1
  exact kk _ h7 H1 locs1 ls hP1 hS1 hL
theorem sm_copyl (C : sm_Cx X cc nL own fr lo ret) {index k k1 n0 n1 t0 : Nat} {cA : ClassId} {sp dp n : Int32} {f : sm_St → Option β} (hk : k < sm_N (sm_w X)) (hk1 : k1 < sm_N (sm_w X)) (he : ∀ a b c, sm_sh (sm_w X) k a b c = .inl (cA, n0, .inr (.inl b))) (he1 : ∀ a b c, sm_sh (sm_w X) k1 a b c = .inl (cA, n1, .inr (.inl b))) (ht : (sm_ty (sm_w X))[t0]? = some (cA, .long)) (hl : Cond.methodLink own index arraycopyName ∈ sm_G) (h2 : Cond.native arraycopyName ∈ sm_G) (h3 : Cond.static arraycopyName ∈ sm_G) (h4 : Cond.initialized "java/lang/System" ∈ sm_G) (h5 : 1 ≤ fr) (h6 : (st.map fun v => v.category).sum + (nativeFrameWords "java/lang/System" "arraycopy" 5 + 11) ≤ lo) (hd : decode cc pc = .ok (.invokestatic index, 3)) (h : sm_g (sm_cpyok sp dp n n0 n1) (sm_b (sm_cL σ k k1 sp.toNatClampNeg dp.toNatClampNeg n.toNatClampNeg) f) = some z) (kk : ∀ s, f s = some z → sm_V X Q nL s (pc + 3) lv st) : sm_V X Q nL σ pc lv (.int n :: .int dp :: .ref (sm_ad (sm_w X) k1) :: .int sp :: .ref (sm_ad (sm_w X) k) :: st) := by
  intro H locs ls hP hS hL
  have ha := sm_at (w := sm_w X) (σ := σ) hk
  have hb := sm_at (w := sm_w X) (σ := σ) hk1
  rw [he] at ha
  rw [he1] at hb
  obtain ⟨h0, h7⟩ := sm_gE h
  obtain ⟨g1, g2, g3, g4, g5⟩ := of_decide_eq_true (p := ¬ sp < 0 ∧ ¬ dp < 0 ∧ ¬ n < 0 ∧ sp.toNatClampNeg + n.toNatClampNeg ≤ n0 ∧ dp.toNatClampNeg + n.toNatClampNeg ≤ n1) h0
  refine va_copyl C.hx C.hb (C.hml.trans hL.1.symm) C.hown (C.hts _ hl) (C.hts _ h2) (C.hts _ h3) (C.hts _ h4) C.hK hP C.hD hS k k1 t0 t0 ha hb ht ht rfl g1 g2 g3 g4 g5 (fun _ _ => rfl) (Nat.le_trans h5 C.hR.1) (Nat.le_trans h6 C.hR.2) hd (fun H1 locs1 hP1 _ hS1 => ?_)
  rw [sm_set (σ' := sm_cL σ k k1 sp.toNatClampNeg dp.toNatClampNeg n.toNatClampNeg) hk1 (by rw [he1, sm_cLk.2.1]) sm_cLo] at hP1
  exact kk _ h7 H1 locs1 ls hP1 hS1 hL
theorem sm_gcomp (C : sm_Cx X cc nL own fr lo ret) {index : Nat} (hl : Cond.fieldLink own index "java/lang/String" "COMPACT_STRINGS" "Z" ∈ sm_G) (hd : decode cc pc = .ok (.getstatic index, 3)) (kk : sm_V X Q nL σ (pc + 3) lv (.int 1 :: st)) : sm_V X Q nL σ pc lv st := by
  intro H locs ls hP hS hL
  exact va_gets C.hx C.hb (C.hT.2.1.narrow C.hz) hS C.hown (C.hts _ hl) (fun _ h9 => h9) hd (kk H locs ls hP hS hL)
theorem sm_gform (C : sm_Cx X cc nL own fr lo ret) {index : Nat} (hl : Cond.fieldLink own index "jdk/internal/util/Preconditions" "SIOOBE_FORMATTER" "Ljava/util/function/BiFunction;" ∈ sm_G) (hd : decode cc pc = .ok (.getstatic index, 3)) (kk : ∀ r : Option Nat, sm_V X Q nL σ (pc + 3) lv (va_rf r :: st)) : sm_V X Q nL σ pc lv st := by
  intro H locs ls hP hS hL
  rcases C.hT.2.2.1.narrow C.hz with h | ⟨t, h⟩
  · exact va_gets C.hx C.hb h hS C.hown (C.hts _ hl) (fun _ h9 => h9) hd (kk none H locs ls hP hS hL)
  · exact va_gets C.hx C.hb h hS C.hown (C.hts _ hl) (fun _ h9 => h9) hd (kk (some t) H locs ls hP hS hL)
theorem sm_gcoder (C : sm_Cx X cc nL own fr lo ret) {index i : Nat} (hi : i < 3) (hl : Cond.fieldLink own index "java/lang/String" "coder" "B" ∈ sm_G) (hd : decode cc pc = .ok (.getfield index, 3)) (kk : sm_V X Q nL σ (pc + 3) lv (.int 0 :: st)) : sm_V X Q nL σ pc lv (.ref (sm_aK (sm_w X) i) :: st) := by
  intro H locs ls hP hS hL
  exact vk_getf C.hx C.hb (C.hTA.1 i hi).2.1 hS C.hown (C.hts _ hl) (fun _ h9 => h9) hd (kk H locs ls hP hS hL)
theorem sm_gvalue (C : sm_Cx X cc nL own fr lo ret) {index i : Nat} (hi : i < 3) (hl : Cond.fieldLink own index "java/lang/String" "value" "[B" ∈ sm_G) (hd : decode cc pc = .ok (.getfield index, 3)) (kk : sm_V X Q nL σ (pc + 3) lv (.ref (sm_aV (sm_w X) i) :: st)) : sm_V X Q nL σ pc lv (.ref (sm_aK (sm_w X) i) :: st) := by
  intro H locs ls hP hS hL
  exact vk_getf C.hx C.hb (C.hTA.1 i hi).2.2.1 hS C.hown (C.hts _ hl) (fun _ h9 => h9) hd (kk H locs ls hP hS hL)
theorem sm_slen (C : sm_Cx X cc nL own fr lo ret) {i : Nat} {f : Int32 → Option β} (hi : i < 3) (hd : decode cc pc = .ok (.arraylength, 1)) (h : sm_b (Int32.ofNat (sm_len.getD i 0)) f = some z) (kk : ∀ v, f v = some z → sm_V X Q nL σ (pc + 1) lv (.int v :: st)) : sm_V X Q nL σ pc lv (.ref (sm_aV (sm_w X) i) :: st) := by
  intro H locs ls hP hS hL
  exact va_tlen C.hx C.hb (C.hTA.1 i hi).2.2.2 hS rfl hd (kk _ h H locs ls hP hS hL)
theorem sm_sbald (C : sm_Cx X cc nL own fr lo ret) {i : Nat} {j : Int32} {f : Int32 → Option β} (hi : i < 3) (hd : decode cc pc = .ok (.baload, 1)) (h : sm_g (sm_in j (sm_len.getD i 0)) (sm_b ((sm_byt.getD i []).getD j.toNatClampNeg 0) f) = some z) (kk : ∀ v, f v = some z → sm_V X Q nL σ (pc + 1) lv (.int v :: st)) : sm_V X Q nL σ pc lv (.int j :: .ref (sm_aV (sm_w X) i) :: st) := by
  intro H locs ls hP hS hL
  obtain ⟨h1, h2⟩ := sm_gE h
  exact va_tb C.hx C.hb (C.hTA.1 i hi).2.2.2 hS (sm_inE h1) rfl hd (kk _ h2 H locs ls hP hS hL)
end
end
section
/-! CONTRACTS, CALLS, ENDS -/
def sm_QI (X : sm_VC) (R : Int32 × sm_St) : State → Prop := MQ (sm_be X) (va_Qi (fun r (_ : Unit) => r = R.1) (fun _ t => va_P (sm_D (sm_w X)) (sm_cl (sm_w X)) (sm_wd (sm_w X) R.2) t.heap) (sm_fA X)) (sm_as X) (sm_s X) (sm_cs X) (sm_sl X) (sm_fA X)
def sm_QL (X : sm_VC) (R : Int64 × sm_St) : State → Prop := MQ (sm_be X) (va_Ql (fun r (_ : Unit) => r = R.1) (fun _ t => va_P (sm_D (sm_w X)) (sm_cl (sm_w X)) (sm_wd (sm_w X) R.2) t.heap) (sm_fA X)) (sm_as X) (sm_s X) (sm_cs X) (sm_sl X) (sm_fA X)
def sm_QV (X : sm_VC) (R : Unit × sm_St) : State → Prop := MQ (sm_be X) (va_Qv (fun (_ : Unit) => True) (fun _ t => va_P (sm_D (sm_w X)) (sm_cl (sm_w X)) (sm_wd (sm_w X) R.2) t.heap) (sm_fA X)) (sm_as X) (sm_s X) (sm_cs X) (sm_sl X) (sm_fA X)
def sm_rm (fr lo : Nat) : Room := { frames := fr, cells := 0, slots := 0, locals := lo }
def sm_ws (y : MethodName) (bytes : ByteArray) (maxL : Nat) (ret : Option FieldType) : List Cond := .code y bytes maxL ret :: sm_G
def sm_CI (w : sm_WD) (l : Launch) (y : MethodName) (bytes : ByteArray) (maxL : Nat) (ret : Option FieldType) (fr lo : Nat) (av : List Value) (F : sm_St → Option (Int32 × sm_St)) : Prop :=
  ∀ (σ : sm_St) (R : Int32 × sm_St), F σ = some R → ∀ sz : Nat, Met l y (sm_ws y bytes maxL ret) (sm_rm fr lo) (va_Pc av (fun U => U.heap.size = sz ∧ sm_Pre w σ U)) (va_Qi (fun r (_ : Unit) => r = R.1) (fun _ t => va_P (sm_D w) (sm_cl w) (sm_wd w R.2) t.heap) (sm_A w sz)) 0 0 (sm_A w sz)
def sm_CL (w : sm_WD) (l : Launch) (y : MethodName) (bytes : ByteArray) (maxL : Nat) (ret : Option FieldType) (fr lo : Nat) (av : List Value) (F : sm_St → Option (Int64 × sm_St)) : Prop :=
  ∀ (σ : sm_St) (R : Int64 × sm_St), F σ = some R → ∀ sz : Nat, Met l y (sm_ws y bytes maxL ret) (sm_rm fr lo) (va_Pc av (fun U => U.heap.size = sz ∧ sm_Pre w σ U)) (va_Ql (fun r (_ : Unit) => r = R.1) (fun _ t => va_P (sm_D w) (sm_cl w) (sm_wd w R.2) t.heap) (sm_A w sz)) 0 0 (sm_A w sz)
def sm_CV (w : sm_WD) (l : Launch) (y : MethodName) (bytes : ByteArray) (maxL : Nat) (ret : Option FieldType) (fr lo : Nat) (av : List Value) (F : sm_St → Option (Unit × sm_St)) : Prop :=
  ∀ (σ : sm_St) (R : Unit × sm_St), F σ = some R → ∀ sz : Nat, Met l y (sm_ws y bytes maxL ret) (sm_rm fr lo) (va_Pc av (fun U => U.heap.size = sz ∧ sm_Pre w σ U)) (va_Qv (fun (_ : Unit) => True) (fun _ t => va_P (sm_D w) (sm_cl w) (sm_wd w R.2) t.heap) (sm_A w sz)) 0 0 (sm_A w sz)
theorem sm_CI.of {w : sm_WD} {l : Launch} {y : MethodName} {bytes : ByteArray} {maxL : Nat} {ret : Option FieldType} {fr lo : Nat} {av : List Value} {F : sm_St → Option (Int32 × sm_St)} (hy : plainName y.cls = true) (hlen : (lg_sl av).length ≤ maxL)
    (body : ∀ (X : sm_VC) (σ : sm_St) (R : Int32 × sm_St), sm_w X = w → sm_l X = l → sm_Cx X bytes maxL y.cls fr lo ret → F σ = some R → sm_V X (sm_QI X R) maxL σ 0 (lv_args 0 av) []) : sm_CI w l y bytes maxL ret fr lo av F := by
  intro σ R hF sz
  refine Met.ofW (cc := bytes) (maxL := maxL) (ret := ret) hy rfl ?_
  intro p e s m args below meth c s₁ B hml hv
  obtain ⟨rfl, hsz, hP, hK, hI, hT⟩ := hv
  subst hsz
  have hts := atoms_spec (ws := sm_ws y bytes maxL ret) B.pre
  have hown : s.vm.findClass y.cls = some m.cls := findClass_of_methodNamed B.named
  have K := body (p, l, e, sm_rm fr lo, s, m, av.toArray, below, meth, c, w, sm_A w s.heap.size, 0, 0) σ R rfl rfl
    ⟨B.exec, B.bytes, hml, hown, fun w hw => hts w (List.mem_cons_of_mem _ hw), hK, hI, fun q h => h, fun q h => by
      rcases h with ⟨k, h1, h2⟩ | h
      · rw [h2]; exact hI.2.1 k h1
      · exact Nat.le_trans hI.2.2 h, B.notSynchronized, B.returns, ⟨⟨Nat.le_refl _, Nat.le_refl _⟩, Nat.zero_le _, Nat.zero_le _⟩, hT⟩ hF
  rw [lg_entry_eq]
  exact K s.heap [] _ hP va_S.rf (lv_entry av hlen)
theorem sm_CL.of {w : sm_WD} {l : Launch} {y : MethodName} {bytes : ByteArray} {maxL : Nat} {ret : Option FieldType} {fr lo : Nat} {av : List Value} {F : sm_St → Option (Int64 × sm_St)} (hy : plainName y.cls = true) (hlen : (lg_sl av).length ≤ maxL)
    (body : ∀ (X : sm_VC) (σ : sm_St) (R : Int64 × sm_St), sm_w X = w → sm_l X = l → sm_Cx X bytes maxL y.cls fr lo ret → F σ = some R → sm_V X (sm_QL X R) maxL σ 0 (lv_args 0 av) []) : sm_CL w l y bytes maxL ret fr lo av F := by
  intro σ R hF sz
  refine Met.ofW (cc := bytes) (maxL := maxL) (ret := ret) hy rfl ?_
  intro p e s m args below meth c s₁ B hml hv
  obtain ⟨rfl, hsz, hP, hK, hI, hT⟩ := hv
  subst hsz
  have hts := atoms_spec (ws := sm_ws y bytes maxL ret) B.pre
  have hown : s.vm.findClass y.cls = some m.cls := findClass_of_methodNamed B.named
  have K := body (p, l, e, sm_rm fr lo, s, m, av.toArray, below, meth, c, w, sm_A w s.heap.size, 0, 0) σ R rfl rfl
    ⟨B.exec, B.bytes, hml, hown, fun w hw => hts w (List.mem_cons_of_mem _ hw), hK, hI, fun q h => h, fun q h => by
      rcases h with ⟨k, h1, h2⟩ | h
      · rw [h2]; exact hI.2.1 k h1
      · exact Nat.le_trans hI.2.2 h, B.notSynchronized, B.returns, ⟨⟨Nat.le_refl _, Nat.le_refl _⟩, Nat.zero_le _, Nat.zero_le _⟩, hT⟩ hF
  rw [lg_entry_eq]
  exact K s.heap [] _ hP va_S.rf (lv_entry av hlen)
theorem sm_CV.of {w : sm_WD} {l : Launch} {y : MethodName} {bytes : ByteArray} {maxL : Nat} {ret : Option FieldType} {fr lo : Nat} {av : List Value} {F : sm_St → Option (Unit × sm_St)} (hy : plainName y.cls = true) (hlen : (lg_sl av).length ≤ maxL)
    (body : ∀ (X : sm_VC) (σ : sm_St) (R : Unit × sm_St), sm_w X = w → sm_l X = l → sm_Cx X bytes maxL y.cls fr lo ret → F σ = some R → sm_V X (sm_QV X R) maxL σ 0 (lv_args 0 av) []) : sm_CV w l y bytes maxL ret fr lo av F := by
  intro σ R hF sz
  refine Met.ofW (cc := bytes) (maxL := maxL) (ret := ret) hy rfl ?_
  intro p e s m args below meth c s₁ B hml hv
  obtain ⟨rfl, hsz, hP, hK, hI, hT⟩ := hv
  subst hsz
  have hts := atoms_spec (ws := sm_ws y bytes maxL ret) B.pre
  have hown : s.vm.findClass y.cls = some m.cls := findClass_of_methodNamed B.named
  have K := body (p, l, e, sm_rm fr lo, s, m, av.toArray, below, meth, c, w, sm_A w s.heap.size, 0, 0) σ R rfl rfl
    ⟨B.exec, B.bytes, hml, hown, fun w hw => hts w (List.mem_cons_of_mem _ hw), hK, hI, fun q h => h, fun q h => by
      rcases h with ⟨k, h1, h2⟩ | h
      · rw [h2]; exact hI.2.1 k h1
      · exact Nat.le_trans hI.2.2 h, B.notSynchronized, B.returns, ⟨⟨Nat.le_refl _, Nat.le_refl _⟩, Nat.zero_le _, Nat.zero_le _⟩, hT⟩ hF
  rw [lg_entry_eq]
  exact K s.heap [] _ hP va_S.rf (lv_entry av hlen)
theorem sm_blind {w : sm_WD} {σ : sm_St} {av : List Value} {sz : Nat} : FrameBlind (va_Pc av (fun U => U.heap.size = sz ∧ sm_Pre w σ U)) := by
  intro a U g mk q
  obtain ⟨q0, q1, qP, qK, qI, qT⟩ := q
  exact ⟨q0, q1, qP, va_K.moved (u := U) (U := U.calling g mk a) (Vm.Alike.refl U.vm) qK, qI, sm_Str.same (s := U) (U := U.calling g mk a) rfl qT⟩
section
variable {X : sm_VC} {cc : ByteArray} {nL : Nat} {own : String} {fr lo : Nat} {ret : Option FieldType}
theorem sm_pre (C : sm_Cx X cc nL own fr lo ret) {σ : sm_St} {H : Heap} {locs : List Loc} {av : List Value} (hP : va_P (sm_D (sm_w X)) (sm_cl (sm_w X)) (sm_wd (sm_w X) σ) H) (hS : va_S (sm_fA X) (sm_s X).heap H locs) (U : State) (hU : U.heap = H) (hW : (sm_s X).WarmedH U.vm) : va_Pc av (fun U => U.heap.size = H.size ∧ sm_Pre (sm_w X) σ U) av.toArray U := by
  refine ⟨rfl, by rw [hU], by rw [hU]; exact hP, C.hK.moved hW.alike, ⟨C.hI.1, C.hI.2.1, by rw [hU]; exact Nat.le_trans C.hI.2.2 hS.1⟩, ?_⟩
  rw [hU]
  exact (C.hT.warm hW).kept (fun a ha hn => hS.2.1 a ha (fun h => hn (C.hz a h)))
theorem sm_free (C : sm_Cx X cc nL own fr lo ret) {H : Heap} {locs : List Loc} (hS : va_S (sm_fA X) (sm_s X).heap H locs) : ∀ q, sm_A (sm_w X) H.size q → sm_fA X q := by
  intro q h
  rcases h with ⟨k, h1, h2⟩ | h
  · rw [h2]; exact C.hAk k h1
  · exact C.hAz q (Nat.le_trans hS.1 h)
/-- what a call of a method needs of the tables -/
def sm_Mt (y : MethodName) (bytes : ByteArray) (maxL : Nat) (ret : Option FieldType) (n : Nat) : Prop := Cond.code y bytes maxL ret ∈ sm_G ∧ Cond.initialized y.cls ∈ sm_G ∧ (y.cls ≠ "java/lang/invoke/MethodHandle" ∧ y.cls ≠ "java/lang/invoke/VarHandle" ∧ (parseMethodDescriptor y.desc).map (fun d => d.parameters.length) = some n)
theorem sm_goodws {y : MethodName} {bytes : ByteArray} {maxL : Nat} {ret : Option FieldType} (h : Cond.code y bytes maxL ret ∈ sm_G) : GoodIn sm_G (sm_ws y bytes maxL ret) := fun w hw => by
  rcases List.mem_cons.mp hw with rfl | hw
  · exact sm_good _ h
  · exact sm_good _ hw
/-- the receiver: an object of class C0 at cell k -/
def sm_Ob (w : sm_WD) (k : Nat) (C0 : String) : Prop := k < sm_N w ∧ ∀ a b c, ∃ ci fs q, sm_sh w k a b c = .inr (ci, fs) ∧ (sm_cl w)[ci]? = some q ∧ q.1 = C0
theorem sm_obr {w : sm_WD} {k : Nat} {C0 : String} (h : sm_Ob w k C0) {s : State} {H : Heap} {σ : sm_St} {tys : List (ClassId × FieldType)} (hK : va_K (sm_D w) (sm_cl w) tys s) (hP : va_P (sm_D w) (sm_cl w) (sm_wd w σ) H) : ∃ cell : Cell, H[sm_ad w k]? = some cell ∧ cell.vm.isStatics = false ∧ s.vm.findClass C0 = some cell.cls := by
  obtain ⟨hk, h⟩ := h
  obtain ⟨ci, fs, q, h1, h2, rfl⟩ := h (σ.1 k) (σ.2.1 k) (σ.2.2 k)
  have ha := sm_at (w := w) (σ := σ) hk
  rw [h1] at ha
  exact va_recv hK hP h2 ha
end
section
variable {X : sm_VC} {cc : ByteArray} {nL : Nat} {own : String} {fr lo : Nat} {ret : Option FieldType} {Q : State → Prop} {σ : sm_St} {pc : Nat} {lv : List (Nat × Value)} {st : List Value} {β : Type} {z : β}
theorem sm_callVI (C : sm_Cx X cc nL own fr lo ret) {y : MethodName} {bytes : ByteArray} {maxL n index fr1 lo1 : Nat} {ret1 : Option FieldType} {stk : List Value} {k : Nat} {F : sm_St → Option (Int32 × sm_St)} {f : Int32 → sm_St → Option β} (As : List Value) (hM : sm_CI (sm_w X) (sm_l X) y bytes maxL ret1 fr1 lo1 (.ref (sm_ad (sm_w X) k) :: As) F) (hm : sm_Mt y bytes maxL ret1 n) (hl : Cond.methodLink own index y ∈ sm_G) (hin : Cond.instanceMethod y ∈ sm_G) (hse : Cond.selects y.cls y y ∈ sm_G) (hob : sm_Ob (sm_w X) k y.cls) (hn : As.length = n) (hroom : fr1 + 1 ≤ fr ∧ 8 + (maxL + 11) + lo1 ≤ lo) (hstk : stk = As.reverse ++ .ref (sm_ad (sm_w X) k) :: st) (hW : (st.map fun v => v.category).sum ≤ 8) (hd : decode cc pc = .ok (.invokevirtual index, 3)) (h : sm_c (F σ) f = some z) (kk : ∀ r s, f r s = some z → sm_V X Q nL s (pc + 3) lv (.int r :: st)) : sm_V X Q nL σ pc lv stk := by
  intro H locs ls hP hS hL
  subst hstk
  obtain ⟨a, s1, h1, h2⟩ := sm_cE h
  have cw : CallW (sm_R X) (sm_s X) (sm_as X) own y.cls index y bytes maxL ret1 (sm_ws y bytes maxL ret1) (sm_rm fr1 lo1) 0 0 n :=
    ⟨callB_of n C.hts (sm_goodws hm.1) rfl rfl rfl (C.hts _ hm.2.1) (C.hts _ hl) hm.2.2 ⟨Nat.le_trans hroom.1 C.hR.1, Nat.le_trans hroom.2 C.hR.2⟩, C.hts _ hin, C.hts _ hse⟩
  refine va_calli (va_runV (As := As) (rest := st) ⟨C.hx, C.hb, C.hml, C.hown, C.hts⟩ (hM σ (a, s1) h1 H.size) cw ⟨sm_blind, sm_obr hob C.hK hP, fun U hU hW => sm_pre C hP hS U hU hW⟩ rfl hn hL.1 rfl (lv_room (pc := pc) (ls := ls) hW) hd C.hcs) hS (fun q _ h => sm_free C hS q h) (sm_free C hS) (fun r u t H1 locs1 ht hvm hp hB hz1 hk1 hS1 => ?_)
  rw [ht] at hB
  subst hp
  exact kk _ _ h2 H1 locs1 ls hB hS1 hL
theorem sm_callNI (C : sm_Cx X cc nL own fr lo ret) {y : MethodName} {bytes : ByteArray} {maxL n index fr1 lo1 : Nat} {ret1 : Option FieldType} {stk : List Value} {k : Nat} {F : sm_St → Option (Int32 × sm_St)} {f : Int32 → sm_St → Option β} (As : List Value) (hM : sm_CI (sm_w X) (sm_l X) y bytes maxL ret1 fr1 lo1 As F) (hm : sm_Mt y bytes maxL ret1 n) (hl : (own, index, y) ∈ sm_nl) (hin : Cond.static y ∈ sm_G) (hn : As.length = n) (hroom : fr1 + 1 ≤ fr ∧ 8 + (maxL + 11) + lo1 ≤ lo) (hstk : stk = As.reverse ++ st) (hW : (st.map fun v => v.category).sum ≤ 8) (hd : decode cc pc = .ok (.invokestatic index, 3)) (h : sm_c (F σ) f = some z) (kk : ∀ r s, f r s = some z → sm_V X Q nL s (pc + 3) lv (.int r :: st)) : sm_V X Q nL σ pc lv stk := by
  intro H locs ls hP hS hL
  subst hstk
  obtain ⟨a, s1, h1, h2⟩ := sm_cE h
  have cw : va_CN (sm_R X) (sm_s X) (sm_as X) own index y "SmokeGoesTo" bytes maxL ret1 (sm_ws y bytes maxL ret1) (sm_rm fr1 lo1) 0 0 n :=
    va_cnB n C.hts (sm_goodws hm.1) rfl rfl rfl (C.hT.2.2.2.2.1 (own, index, y) hl) (C.hts _ hm.2.1) hm.2.2 ⟨Nat.le_trans hroom.1 C.hR.1, Nat.le_trans hroom.2 C.hR.2⟩
  refine va_calli (va_runSN (As := As) (rest := st) ⟨C.hx, C.hb, C.hml, C.hown, C.hts⟩ (hM σ (a, s1) h1 H.size) ⟨cw, C.hts _ hin, trivial⟩ ⟨sm_blind, fun U hU hW => sm_pre C hP hS U hU hW⟩ rfl hn hL.1 rfl (lv_room (pc := pc) (ls := ls) hW) hd C.hcs) hS (fun q _ h => sm_free C hS q h) (sm_free C hS) (fun r u t H1 locs1 ht hvm hp hB hz1 hk1 hS1 => ?_)
  rw [ht] at hB
  subst hp
  exact kk _ _ h2 H1 locs1 ls hB hS1 hL
theorem sm_callSI (C : sm_Cx X cc nL own fr lo ret) {y : MethodName} {bytes : ByteArray} {maxL n index fr1 lo1 : Nat} {ret1 : Option FieldType} {stk : List Value} {F : sm_St → Option (Int32 × sm_St)} {f : Int32 → sm_St → Option β} (As : List Value) (hM : sm_CI (sm_w X) (sm_l X) y bytes maxL ret1 fr1 lo1 As F) (hm : sm_Mt y bytes maxL ret1 n) (hl : Cond.methodLink own index y ∈ sm_G) (hin : Cond.static y ∈ sm_G) (hn : As.length = n) (hroom : fr1 + 1 ≤ fr ∧ 8 + (maxL + 11) + lo1 ≤ lo) (hstk : stk = As.reverse ++ st) (hW : (st.map fun v => v.category).sum ≤ 8) (hd : decode cc pc = .ok (.invokestatic index, 3)) (h : sm_c (F σ) f = some z) (kk : ∀ r s, f r s = some z → sm_V X Q nL s (pc + 3) lv (.int r :: st)) : sm_V X Q nL σ pc lv stk := by
  intro H locs ls hP hS hL
  subst hstk
  obtain ⟨a, s1, h1, h2⟩ := sm_cE h
  have cw : CallB (sm_R X) (sm_s X) (sm_as X) own index y bytes maxL ret1 (sm_ws y bytes maxL ret1) (sm_rm fr1 lo1) 0 0 n :=
    callB_of n C.hts (sm_goodws hm.1) rfl rfl rfl (C.hts _ hm.2.1) (C.hts _ hl) hm.2.2 ⟨Nat.le_trans hroom.1 C.hR.1, Nat.le_trans hroom.2 C.hR.2⟩
  refine va_calli (va_runS (As := As) (rest := st) ⟨C.hx, C.hb, C.hml, C.hown, C.hts⟩ (hM σ (a, s1) h1 H.size) ⟨cw, C.hts _ hin⟩ ⟨sm_blind, fun U hU hW => sm_pre C hP hS U hU hW⟩ rfl hn hL.1 rfl (lv_room (pc := pc) (ls := ls) hW) hd C.hcs) hS (fun q _ h => sm_free C hS q h) (sm_free C hS) (fun r u t H1 locs1 ht hvm hp hB hz1 hk1 hS1 => ?_)
  rw [ht] at hB
  subst hp
  exact kk _ _ h2 H1 locs1 ls hB hS1 hL
theorem sm_callTI (C : sm_Cx X cc nL own fr lo ret) {y : MethodName} {bytes : ByteArray} {maxL n index fr1 lo1 : Nat} {ret1 : Option FieldType} {stk : List Value} {i : Nat} {F : sm_St → Option (Int32 × sm_St)} {f : Int32 → sm_St → Option β} (As : List Value) (hi : i < 3) (hM : sm_CI (sm_w X) (sm_l X) y bytes maxL ret1 fr1 lo1 (.ref (sm_aK (sm_w X) i) :: As) F) (hm : sm_Mt y bytes maxL ret1 n) (hl : Cond.methodLink own index y ∈ sm_G) (hin : Cond.instanceMethod y ∈ sm_G) (hse : Cond.selects y.cls y y ∈ sm_G) (hob : y.cls = "java/lang/String") (hn : As.length = n) (hroom : fr1 + 1 ≤ fr ∧ 8 + (maxL + 11) + lo1 ≤ lo) (hstk : stk = As.reverse ++ .ref (sm_aK (sm_w X) i) :: st) (hW : (st.map fun v => v.category).sum ≤ 8) (hd : decode cc pc = .ok (.invokevirtual index, 3)) (h : sm_c (F σ) f = some z) (kk : ∀ r s, f r s = some z → sm_V X Q nL s (pc + 3) lv (.int r :: st)) : sm_V X Q nL σ pc lv stk := by
  intro H locs ls hP hS hL
  subst hstk
  obtain ⟨a, s1, h1, h2⟩ := sm_cE h
  have cw : CallW (sm_R X) (sm_s X) (sm_as X) own y.cls index y bytes maxL ret1 (sm_ws y bytes maxL ret1) (sm_rm fr1 lo1) 0 0 n :=
    ⟨callB_of n C.hts (sm_goodws hm.1) rfl rfl rfl (C.hts _ hm.2.1) (C.hts _ hl) hm.2.2 ⟨Nat.le_trans hroom.1 C.hR.1, Nat.le_trans hroom.2 C.hR.2⟩, C.hts _ hin, C.hts _ hse⟩
  refine va_calli (va_runV (As := As) (rest := st) ⟨C.hx, C.hb, C.hml, C.hown, C.hts⟩ (hM σ (a, s1) h1 H.size) cw ⟨sm_blind, by rw [hob]; exact vk_recv C.hTA hi hS, fun U hU hW => sm_pre C hP hS U hU hW⟩ rfl hn hL.1 rfl (lv_room (pc := pc) (ls := ls) hW) hd C.hcs) hS (fun q _ h => sm_free C hS q h) (sm_free C hS) (fun r u t H1 locs1 ht hvm hp hB hz1 hk1 hS1 => ?_)
  rw [ht] at hB
  subst hp
  exact kk _ _ h2 H1 locs1 ls hB hS1 hL
theorem sm_callVL (C : sm_Cx X cc nL own fr lo ret) {y : MethodName} {bytes : ByteArray} {maxL n index fr1 lo1 : Nat} {ret1 : Option FieldType} {stk : List Value} {k : Nat} {F : sm_St → Option (Int64 × sm_St)} {f : Int64 → sm_St → Option β} (As : List Value) (hM : sm_CL (sm_w X) (sm_l X) y bytes maxL ret1 fr1 lo1 (.ref (sm_ad (sm_w X) k) :: As) F) (hm : sm_Mt y bytes maxL ret1 n) (hl : Cond.methodLink own index y ∈ sm_G) (hin : Cond.instanceMethod y ∈ sm_G) (hse : Cond.selects y.cls y y ∈ sm_G) (hob : sm_Ob (sm_w X) k y.cls) (hn : As.length = n) (hroom : fr1 + 1 ≤ fr ∧ 8 + (maxL + 11) + lo1 ≤ lo) (hstk : stk = As.reverse ++ .ref (sm_ad (sm_w X) k) :: st) (hW : (st.map fun v => v.category).sum ≤ 8) (hd : decode cc pc = .ok (.invokevirtual index, 3)) (h : sm_c (F σ) f = some z) (kk : ∀ r s, f r s = some z → sm_V X Q nL s (pc + 3) lv (.long r :: st)) : sm_V X Q nL σ pc lv stk := by
  intro H locs ls hP hS hL
  subst hstk
  obtain ⟨a, s1, h1, h2⟩ := sm_cE h
  have cw : CallW (sm_R X) (sm_s X) (sm_as X) own y.cls index y bytes maxL ret1 (sm_ws y bytes maxL ret1) (sm_rm fr1 lo1) 0 0 n :=
    ⟨callB_of n C.hts (sm_goodws hm.1) rfl rfl rfl (C.hts _ hm.2.1) (C.hts _ hl) hm.2.2 ⟨Nat.le_trans hroom.1 C.hR.1, Nat.le_trans hroom.2 C.hR.2⟩, C.hts _ hin, C.hts _ hse⟩
  refine va_calll (va_runV (As := As) (rest := st) ⟨C.hx, C.hb, C.hml, C.hown, C.hts⟩ (hM σ (a, s1) h1 H.size) cw ⟨sm_blind, sm_obr hob C.hK hP, fun U hU hW => sm_pre C hP hS U hU hW⟩ rfl hn hL.1 rfl (lv_room (pc := pc) (ls := ls) hW) hd C.hcs) hS (fun q _ h => sm_free C hS q h) (sm_free C hS) (fun r u t H1 locs1 ht hvm hp hB hz1 hk1 hS1 => ?_)
  rw [ht] at hB
  subst hp
  exact kk _ _ h2 H1 locs1 ls hB hS1 hL
theorem sm_callNL (C : sm_Cx X cc nL own fr lo ret) {y : MethodName} {bytes : ByteArray} {maxL n index fr1 lo1 : Nat} {ret1 : Option FieldType} {stk : List Value} {k : Nat} {F : sm_St → Option (Int64 × sm_St)} {f : Int64 → sm_St → Option β} (As : List Value) (hM : sm_CL (sm_w X) (sm_l X) y bytes maxL ret1 fr1 lo1 As F) (hm : sm_Mt y bytes maxL ret1 n) (hl : (own, index, y) ∈ sm_nl) (hin : Cond.static y ∈ sm_G) (hn : As.length = n) (hroom : fr1 + 1 ≤ fr ∧ 8 + (maxL + 11) + lo1 ≤ lo) (hstk : stk = As.reverse ++ st) (hW : (st.map fun v => v.category).sum ≤ 8) (hd : decode cc pc = .ok (.invokestatic index, 3)) (h : sm_c (F σ) f = some z) (kk : ∀ r s, f r s = some z → sm_V X Q nL s (pc + 3) lv (.long r :: st)) : sm_V X Q nL σ pc lv stk := by
  intro H locs ls hP hS hL
  subst hstk
  obtain ⟨a, s1, h1, h2⟩ := sm_cE h
  have cw : va_CN (sm_R X) (sm_s X) (sm_as X) own index y "SmokeGoesTo" bytes maxL ret1 (sm_ws y bytes maxL ret1) (sm_rm fr1 lo1) 0 0 n :=
    va_cnB n C.hts (sm_goodws hm.1) rfl rfl rfl (C.hT.2.2.2.2.1 (own, index, y) hl) (C.hts _ hm.2.1) hm.2.2 ⟨Nat.le_trans hroom.1 C.hR.1, Nat.le_trans hroom.2 C.hR.2⟩
  refine va_calll (va_runSN (As := As) (rest := st) ⟨C.hx, C.hb, C.hml, C.hown, C.hts⟩ (hM σ (a, s1) h1 H.size) ⟨cw, C.hts _ hin, trivial⟩ ⟨sm_blind, fun U hU hW => sm_pre C hP hS U hU hW⟩ rfl hn hL.1 rfl (lv_room (pc := pc) (ls := ls) hW) hd C.hcs) hS (fun q _ h => sm_free C hS q h) (sm_free C hS) (fun r u t H1 locs1 ht hvm hp hB hz1 hk1 hS1 => ?_)
  rw [ht] at hB
  subst hp
  exact kk _ _ h2 H1 locs1 ls hB hS1 hL
theorem sm_callSL (C : sm_Cx X cc nL own fr lo ret) {y : MethodName} {bytes : ByteArray} {maxL n index fr1 lo1 : Nat} {ret1 : Option FieldType} {stk : List Value} {F : sm_St → Option (Int64 × sm_St)} {f : Int64 → sm_St → Option β} (As : List Value) (hM : sm_CL (sm_w X) (sm_l X) y bytes maxL ret1 fr1 lo1 As F) (hm : sm_Mt y bytes maxL ret1 n) (hl : Cond.methodLink own index y ∈ sm_G) (hin : Cond.static y ∈ sm_G) (hn : As.length = n) (hroom : fr1 + 1 ≤ fr ∧ 8 + (maxL + 11) + lo1 ≤ lo) (hstk : stk = As.reverse ++ st) (hW : (st.map fun v => v.category).sum ≤ 8) (hd : decode cc pc = .ok (.invokestatic index, 3)) (h : sm_c (F σ) f = some z) (kk : ∀ r s, f r s = some z → sm_V X Q nL s (pc + 3) lv (.long r :: st)) : sm_V X Q nL σ pc lv stk := by
  intro H locs ls hP hS hL
  subst hstk
  obtain ⟨a, s1, h1, h2⟩ := sm_cE h
  have cw : CallB (sm_R X) (sm_s X) (sm_as X) own index y bytes maxL ret1 (sm_ws y bytes maxL ret1) (sm_rm fr1 lo1) 0 0 n :=
    callB_of n C.hts (sm_goodws hm.1) rfl rfl rfl (C.hts _ hm.2.1) (C.hts _ hl) hm.2.2 ⟨Nat.le_trans hroom.1 C.hR.1, Nat.le_trans hroom.2 C.hR.2⟩
  refine va_calll (va_runS (As := As) (rest := st) ⟨C.hx, C.hb, C.hml, C.hown, C.hts⟩ (hM σ (a, s1) h1 H.size) ⟨cw, C.hts _ hin⟩ ⟨sm_blind, fun U hU hW => sm_pre C hP hS U hU hW⟩ rfl hn hL.1 rfl (lv_room (pc := pc) (ls := ls) hW) hd C.hcs) hS (fun q _ h => sm_free C hS q h) (sm_free C hS) (fun r u t H1 locs1 ht hvm hp hB hz1 hk1 hS1 => ?_)
  rw [ht] at hB
  subst hp
  exact kk _ _ h2 H1 locs1 ls hB hS1 hL
theorem sm_callTL (C : sm_Cx X cc nL own fr lo ret) {y : MethodName} {bytes : ByteArray} {maxL n index fr1 lo1 : Nat} {ret1 : Option FieldType} {stk : List Value} {i : Nat} {F : sm_St → Option (Int64 × sm_St)} {f : Int64 → sm_St → Option β} (As : List Value) (hi : i < 3) (hM : sm_CL (sm_w X) (sm_l X) y bytes maxL ret1 fr1 lo1 (.ref (sm_aK (sm_w X) i) :: As) F) (hm : sm_Mt y bytes maxL ret1 n) (hl : Cond.methodLink own index y ∈ sm_G) (hin : Cond.instanceMethod y ∈ sm_G) (hse : Cond.selects y.cls y y ∈ sm_G) (hob : y.cls = "java/lang/String") (hn : As.length = n) (hroom : fr1 + 1 ≤ fr ∧ 8 + (maxL + 11) + lo1 ≤ lo) (hstk : stk = As.reverse ++ .ref (sm_aK (sm_w X) i) :: st) (hW : (st.map fun v => v.category).sum ≤ 8) (hd : decode cc pc = .ok (.invokevirtual index, 3)) (h : sm_c (F σ) f = some z) (kk : ∀ r s, f r s = some z → sm_V X Q nL s (pc + 3) lv (.long r :: st)) : sm_V X Q nL σ pc lv stk := by
  intro H locs ls hP hS hL
  subst hstk
  obtain ⟨a, s1, h1, h2⟩ := sm_cE h
  have cw : CallW (sm_R X) (sm_s X) (sm_as X) own y.cls index y bytes maxL ret1 (sm_ws y bytes maxL ret1) (sm_rm fr1 lo1) 0 0 n :=
    ⟨callB_of n C.hts (sm_goodws hm.1) rfl rfl rfl (C.hts _ hm.2.1) (C.hts _ hl) hm.2.2 ⟨Nat.le_trans hroom.1 C.hR.1, Nat.le_trans hroom.2 C.hR.2⟩, C.hts _ hin, C.hts _ hse⟩
  refine va_calll (va_runV (As := As) (rest := st) ⟨C.hx, C.hb, C.hml, C.hown, C.hts⟩ (hM σ (a, s1) h1 H.size) cw ⟨sm_blind, by rw [hob]; exact vk_recv C.hTA hi hS, fun U hU hW => sm_pre C hP hS U hU hW⟩ rfl hn hL.1 rfl (lv_room (pc := pc) (ls := ls) hW) hd C.hcs) hS (fun q _ h => sm_free C hS q h) (sm_free C hS) (fun r u t H1 locs1 ht hvm hp hB hz1 hk1 hS1 => ?_)
  rw [ht] at hB
  subst hp
  exact kk _ _ h2 H1 locs1 ls hB hS1 hL
theorem sm_callVV (C : sm_Cx X cc nL own fr lo ret) {y : MethodName} {bytes : ByteArray} {maxL n index fr1 lo1 : Nat} {ret1 : Option FieldType} {stk : List Value} {k : Nat} {F : sm_St → Option (Unit × sm_St)} {f : Unit → sm_St → Option β} (As : List Value) (hM : sm_CV (sm_w X) (sm_l X) y bytes maxL ret1 fr1 lo1 (.ref (sm_ad (sm_w X) k) :: As) F) (hm : sm_Mt y bytes maxL ret1 n) (hl : Cond.methodLink own index y ∈ sm_G) (hin : Cond.instanceMethod y ∈ sm_G) (hse : Cond.selects y.cls y y ∈ sm_G) (hob : sm_Ob (sm_w X) k y.cls) (hn : As.length = n) (hroom : fr1 + 1 ≤ fr ∧ 8 + (maxL + 11) + lo1 ≤ lo) (hstk : stk = As.reverse ++ .ref (sm_ad (sm_w X) k) :: st) (hW : (st.map fun v => v.category).sum ≤ 8) (hd : decode cc pc = .ok (.invokevirtual index, 3)) (h : sm_c (F σ) f = some z) (kk : ∀ r s, f r s = some z → sm_V X Q nL s (pc + 3) lv (st)) : sm_V X Q nL σ pc lv stk := by
  intro H locs ls hP hS hL
  subst hstk
  obtain ⟨a, s1, h1, h2⟩ := sm_cE h
  have cw : CallW (sm_R X) (sm_s X) (sm_as X) own y.cls index y bytes maxL ret1 (sm_ws y bytes maxL ret1) (sm_rm fr1 lo1) 0 0 n :=
    ⟨callB_of n C.hts (sm_goodws hm.1) rfl rfl rfl (C.hts _ hm.2.1) (C.hts _ hl) hm.2.2 ⟨Nat.le_trans hroom.1 C.hR.1, Nat.le_trans hroom.2 C.hR.2⟩, C.hts _ hin, C.hts _ hse⟩
  refine va_callv (va_runV (As := As) (rest := st) ⟨C.hx, C.hb, C.hml, C.hown, C.hts⟩ (hM σ (a, s1) h1 H.size) cw ⟨sm_blind, sm_obr hob C.hK hP, fun U hU hW => sm_pre C hP hS U hU hW⟩ rfl hn hL.1 rfl (lv_room (pc := pc) (ls := ls) hW) hd C.hcs) hS (fun q _ h => sm_free C hS q h) (sm_free C hS) (fun u t H1 locs1 ht hvm hp hB hz1 hk1 hS1 => ?_)
  rw [ht] at hB
  skip
  exact kk _ _ h2 H1 locs1 ls hB hS1 hL
theorem sm_callNV (C : sm_Cx X cc nL own fr lo ret) {y : MethodName} {bytes : ByteArray} {maxL n index fr1 lo1 : Nat} {ret1 : Option FieldType} {stk : List Value} {k : Nat} {F : sm_St → Option (Unit × sm_St)} {f : Unit → sm_St → Option β} (As : List Value) (hM : sm_CV (sm_w X) (sm_l X) y bytes maxL ret1 fr1 lo1 As F) (hm : sm_Mt y bytes maxL ret1 n) (hl : (own, index, y) ∈ sm_nl) (hin : Cond.static y ∈ sm_G) (hn : As.length = n) (hroom : fr1 + 1 ≤ fr ∧ 8 + (maxL + 11) + lo1 ≤ lo) (hstk : stk = As.reverse ++ st) (hW : (st.map fun v => v.category).sum ≤ 8) (hd : decode cc pc = .ok (.invokestatic index, 3)) (h : sm_c (F σ) f = some z) (kk : ∀ r s, f r s = some z → sm_V X Q nL s (pc + 3) lv (st)) : sm_V X Q nL σ pc lv stk := by
  intro H locs ls hP hS hL
  subst hstk
  obtain ⟨a, s1, h1, h2⟩ := sm_cE h
  have cw : va_CN (sm_R X) (sm_s X) (sm_as X) own index y "SmokeGoesTo" bytes maxL ret1 (sm_ws y bytes maxL ret1) (sm_rm fr1 lo1) 0 0 n :=
    va_cnB n C.hts (sm_goodws hm.1) rfl rfl rfl (C.hT.2.2.2.2.1 (own, index, y) hl) (C.hts _ hm.2.1) hm.2.2 ⟨Nat.le_trans hroom.1 C.hR.1, Nat.le_trans hroom.2 C.hR.2⟩
  refine va_callv (va_runSN (As := As) (rest := st) ⟨C.hx, C.hb, C.hml, C.hown, C.hts⟩ (hM σ (a, s1) h1 H.size) ⟨cw, C.hts _ hin, trivial⟩ ⟨sm_blind, fun U hU hW => sm_pre C hP hS U hU hW⟩ rfl hn hL.1 rfl (lv_room (pc := pc) (ls := ls) hW) hd C.hcs) hS (fun q _ h => sm_free C hS q h) (sm_free C hS) (fun u t H1 locs1 ht hvm hp hB hz1 hk1 hS1 => ?_)
  rw [ht] at hB
  skip
  exact kk _ _ h2 H1 locs1 ls hB hS1 hL
theorem sm_callSV (C : sm_Cx X cc nL own fr lo ret) {y : MethodName} {bytes : ByteArray} {maxL n index fr1 lo1 : Nat} {ret1 : Option FieldType} {stk : List Value} {F : sm_St → Option (Unit × sm_St)} {f : Unit → sm_St → Option β} (As : List Value) (hM : sm_CV (sm_w X) (sm_l X) y bytes maxL ret1 fr1 lo1 As F) (hm : sm_Mt y bytes maxL ret1 n) (hl : Cond.methodLink own index y ∈ sm_G) (hin : Cond.static y ∈ sm_G) (hn : As.length = n) (hroom : fr1 + 1 ≤ fr ∧ 8 + (maxL + 11) + lo1 ≤ lo) (hstk : stk = As.reverse ++ st) (hW : (st.map fun v => v.category).sum ≤ 8) (hd : decode cc pc = .ok (.invokestatic index, 3)) (h : sm_c (F σ) f = some z) (kk : ∀ r s, f r s = some z → sm_V X Q nL s (pc + 3) lv (st)) : sm_V X Q nL σ pc lv stk := by
  intro H locs ls hP hS hL
  subst hstk
  obtain ⟨a, s1, h1, h2⟩ := sm_cE h
  have cw : CallB (sm_R X) (sm_s X) (sm_as X) own index y bytes maxL ret1 (sm_ws y bytes maxL ret1) (sm_rm fr1 lo1) 0 0 n :=
    callB_of n C.hts (sm_goodws hm.1) rfl rfl rfl (C.hts _ hm.2.1) (C.hts _ hl) hm.2.2 ⟨Nat.le_trans hroom.1 C.hR.1, Nat.le_trans hroom.2 C.hR.2⟩
  refine va_callv (va_runS (As := As) (rest := st) ⟨C.hx, C.hb, C.hml, C.hown, C.hts⟩ (hM σ (a, s1) h1 H.size) ⟨cw, C.hts _ hin⟩ ⟨sm_blind, fun U hU hW => sm_pre C hP hS U hU hW⟩ rfl hn hL.1 rfl (lv_room (pc := pc) (ls := ls) hW) hd C.hcs) hS (fun q _ h => sm_free C hS q h) (sm_free C hS) (fun u t H1 locs1 ht hvm hp hB hz1 hk1 hS1 => ?_)
  rw [ht] at hB
  skip
  exact kk _ _ h2 H1 locs1 ls hB hS1 hL
theorem sm_iret {v : Int32} {R : Int32 × sm_St} (C : sm_Cx X cc nL own fr lo (some .int)) (hd : decode cc pc = .ok (.ireturn, 1)) (h : some (v, σ) = some R) : sm_V X (sm_QI X R) nL σ pc lv [.int v] := by
  intro H locs ls hP hS hL
  cases h
  exact W.iret C.hx C.hb C.hr (fun t ht hW => ⟨⟨v, (), rfl, rfl, by show va_P _ _ _ t.heap; rw [ht]; exact hP⟩, hS.F ht⟩) hS.2.2 hd C.hlk
theorem sm_zret {v : Int32} {ty : FieldType} {R : Int32 × sm_St} (C : sm_Cx X cc nL own fr lo (some ty)) (hd : decode cc pc = .ok (.ireturn, 1)) (h : sm_g (decide (narrow ty (.int v) = .int v)) (some (v, σ)) = some R) : sm_V X (sm_QI X R) nL σ pc lv [.int v] := by
  intro H locs ls hP hS hL
  obtain ⟨h1, h2⟩ := sm_gE h
  cases h2
  exact W.zret C.hx C.hb C.hr (of_decide_eq_true h1) (fun t ht hW => ⟨⟨v, (), rfl, rfl, by show va_P _ _ _ t.heap; rw [ht]; exact hP⟩, hS.F ht⟩) hS.2.2 hd C.hlk
theorem sm_zretK {v : Int32} {ty : FieldType} {R : Int32 × sm_St} (C : sm_Cx X cc nL own fr lo (some ty)) (hn : narrow ty (.int v) = .int v) (hd : decode cc pc = .ok (.ireturn, 1)) (h : some (v, σ) = some R) : sm_V X (sm_QI X R) nL σ pc lv [.int v] := by
  intro H locs ls hP hS hL
  cases h
  exact W.zret C.hx C.hb C.hr hn (fun t ht hW => ⟨⟨v, (), rfl, rfl, by show va_P _ _ _ t.heap; rw [ht]; exact hP⟩, hS.F ht⟩) hS.2.2 hd C.hlk
theorem sm_lret {v : Int64} {R : Int64 × sm_St} (C : sm_Cx X cc nL own fr lo (some .long)) (hd : decode cc pc = .ok (.lreturn, 1)) (h : some (v, σ) = some R) : sm_V X (sm_QL X R) nL σ pc lv [.long v] := by
  intro H locs ls hP hS hL
  cases h
  exact W.lret C.hx C.hb C.hr (fun t ht hW => ⟨⟨v, (), rfl, rfl, by show va_P _ _ _ t.heap; rw [ht]; exact hP⟩, hS.F ht⟩) hS.2.2 hd C.hlk
theorem sm_vret {R : Unit × sm_St} (C : sm_Cx X cc nL own fr lo none) (hd : decode cc pc = .ok (.return_, 1)) (h : some ((), σ) = some R) : sm_V X (sm_QV X R) nL σ pc lv [] := by
  intro H locs ls hP hS hL
  cases h
  exact W.vret C.hx C.hb C.hr (fun t ht hW => ⟨⟨(), rfl, trivial, by show va_P _ _ _ t.heap; rw [ht]; exact hP⟩, hS.F ht⟩) hS.2.2 hd C.hlk
end
end
section
/-! WORDS OF THE TABLES, by their places; names of the methods -/
theorem sm_g0 {w : Cond} {i : Nat} (h : (k2_sels lw_privs)[i]? = some w) (hg : goodWord w = true) : w ∈ sm_G := sm_gin (List.mem_append_left _ (List.mem_of_getElem? h)) hg
theorem sm_g1 {w : Cond} {i : Nat} (h : tables_1_1[i]? = some w) (hg : goodWord w = true) : w ∈ sm_G := sm_gin (List.mem_append_right _ (List.mem_append_left _ (List.mem_of_getElem? h))) hg
theorem sm_g2 {w : Cond} {i : Nat} (h : tables_1_2[i]? = some w) (hg : goodWord w = true) : w ∈ sm_G := sm_gin (List.mem_append_right _ (List.mem_append_right _ (List.mem_append_left _ (List.mem_of_getElem? h)))) hg
theorem sm_g3 {w : Cond} {i : Nat} (h : tables_1_3[i]? = some w) (hg : goodWord w = true) : w ∈ sm_G := sm_gin (List.mem_append_right _ (List.mem_append_right _ (List.mem_append_right _ (List.mem_append_left _ (List.mem_of_getElem? h))))) hg
theorem sm_g4 {w : Cond} {i : Nat} (h : tables_1_4[i]? = some w) (hg : goodWord w = true) : w ∈ sm_G := sm_gin (List.mem_append_right _ (List.mem_append_right _ (List.mem_append_right _ (List.mem_append_right _ (List.mem_append_left _ (List.mem_of_getElem? h)))))) hg
theorem sm_g5 {w : Cond} {i : Nat} (h : tables_1_5[i]? = some w) (hg : goodWord w = true) : w ∈ sm_G := sm_gin (List.mem_append_right _ (List.mem_append_right _ (List.mem_append_right _ (List.mem_append_right _ (List.mem_append_right _ (List.mem_append_left _ (List.mem_of_getElem? h))))))) hg
theorem sm_g6 {w : Cond} {i : Nat} (h : tables_1_6[i]? = some w) (hg : goodWord w = true) : w ∈ sm_G := sm_gin (List.mem_append_right _ (List.mem_append_right _ (List.mem_append_right _ (List.mem_append_right _ (List.mem_append_right _ (List.mem_append_right _ ((List.mem_of_getElem? h)))))))) hg
def yX7_init : MethodName := ⟨"SmokeGoesTo", "<init>", "()V"⟩
def yX7_set : MethodName := ⟨"SmokeGoesTo", "set", "(III)I"⟩
def yX7_setSmoke : MethodName := ⟨"SmokeGoesTo", "setSmoke", "(I)I"⟩
def yX7_isPlace : MethodName := ⟨"SmokeGoesTo", "isPlace", "(I)Z"⟩
def yX7_setLeft : MethodName := ⟨"SmokeGoesTo", "setLeft", "(I)I"⟩
def yX7_setRight : MethodName := ⟨"SmokeGoesTo", "setRight", "(I)I"⟩
def yX7_setTents : MethodName := ⟨"SmokeGoesTo", "setTents", "(I)I"⟩
def yX7_setEddy : MethodName := ⟨"SmokeGoesTo", "setEddy", "(I)I"⟩
def yX7_setNumber : MethodName := ⟨"SmokeGoesTo", "setNumber", "(II)I"⟩
def yX7_setPlace : MethodName := ⟨"SmokeGoesTo", "setPlace", "(II)I"⟩
def yX7_sitter : MethodName := ⟨"SmokeGoesTo", "sitter", "(III)I"⟩
def yX7_told : MethodName := ⟨"SmokeGoesTo", "told", "(II)I"⟩
def yX7_round : MethodName := ⟨"SmokeGoesTo", "round", "(I)I"⟩
def yX7_feed : MethodName := ⟨"SmokeGoesTo", "feed", "(I)I"⟩
def yX7_text : MethodName := ⟨"SmokeGoesTo", "text", "()I"⟩
def yX7_force : MethodName := ⟨"SmokeGoesTo", "force", "(I)I"⟩
def yX7_night : MethodName := ⟨"SmokeGoesTo", "night", "(II)I"⟩
def yX7_isSheet : MethodName := ⟨"SmokeGoesTo", "isSheet", "(I)Z"⟩
def yX7_isNightWhat : MethodName := ⟨"SmokeGoesTo", "isNightWhat", "(I)Z"⟩
def yX7_thinkAsItIs : MethodName := ⟨"SmokeGoesTo", "thinkAsItIs", "()V"⟩
def yX7_sit : MethodName := ⟨"SmokeGoesTo", "sit", "(I)I"⟩
def yX7_refusal : MethodName := ⟨"SmokeGoesTo", "refusal", "(I)I"⟩
def yX7_likely : MethodName := ⟨"SmokeGoesTo", "likely", "(III)J"⟩
def yX7_isPart : MethodName := ⟨"SmokeGoesTo", "isPart", "(I)Z"⟩
def yX7_lowest : MethodName := ⟨"SmokeGoesTo", "lowest", "(JJI)J"⟩
def yX7_commonDivisor : MethodName := ⟨"SmokeGoesTo", "commonDivisor", "(JJ)J"⟩
def yX7_mean : MethodName := ⟨"SmokeGoesTo", "mean", "(III)J"⟩
def yX7_isMeanMinutes : MethodName := ⟨"SmokeGoesTo", "isMeanMinutes", "(I)Z"⟩
def yX7_seat : MethodName := ⟨"SmokeGoesTo", "seat", "(II)I"⟩
def yX7_gap : MethodName := ⟨"SmokeGoesTo", "gap", "(II)I"⟩
def yX7_leastOutside : MethodName := ⟨"SmokeGoesTo", "leastOutside", "(I)I"⟩
def yX7_placeOfBit : MethodName := ⟨"SmokeGoesTo", "placeOfBit", "(II)I"⟩
def yX7_stay : MethodName := ⟨"SmokeGoesTo", "stay", "(I)I"⟩
def yX7_costIf : MethodName := ⟨"SmokeGoesTo", "costIf", "(III)I"⟩
def yX7_eddies : MethodName := ⟨"SmokeGoesTo", "eddies", "(I)I"⟩
def yX7_costIfEddy : MethodName := ⟨"SmokeGoesTo", "costIfEddy", "(I)I"⟩
def yX7_best : MethodName := ⟨"SmokeGoesTo", "best", "(III)I"⟩
def yX7_eyes : MethodName := ⟨"SmokeGoesTo", "eyes", "(III)I"⟩
def yX7_rowsThatFit : MethodName := ⟨"SmokeGoesTo", "rowsThatFit", "(LSmokeGoesTo$Sheet;I)I"⟩
def yX7_rowsOf : MethodName := ⟨"SmokeGoesTo", "rowsOf", "(I)I"⟩
def yX7_fits : MethodName := ⟨"SmokeGoesTo", "fits", "(LSmokeGoesTo$Sheet;IIII)Z"⟩
def yX7_firstThatFits : MethodName := ⟨"SmokeGoesTo", "firstThatFits", "(LSmokeGoesTo$Sheet;I)I"⟩
def yX7_kindsThatFit : MethodName := ⟨"SmokeGoesTo", "kindsThatFit", "(LSmokeGoesTo$Sheet;II)I"⟩
def yX7_film : MethodName := ⟨"SmokeGoesTo", "film", "(II)I"⟩
def yX7_drawn : MethodName := ⟨"SmokeGoesTo", "drawn", "(I)I"⟩
def yX7_chance : MethodName := ⟨"SmokeGoesTo", "chance", "(III)J"⟩
def yX7_image : MethodName := ⟨"SmokeGoesTo", "image", "()I"⟩
def yX7_back : MethodName := ⟨"SmokeGoesTo", "back", "()I"⟩
def yX7_count : MethodName := ⟨"SmokeGoesTo", "count", "(I)I"⟩
def yX7_sheet : MethodName := ⟨"SmokeGoesTo", "sheet", "(III)I"⟩
def yX7_cell : MethodName := ⟨"SmokeGoesTo", "cell", "(III)I"⟩
def yX7_copy : MethodName := ⟨"SmokeGoesTo", "copy", "(IIIII)I"⟩
def yX7_sitters : MethodName := ⟨"SmokeGoesTo", "sitters", "(IIII)I"⟩
def yX7_taken : MethodName := ⟨"SmokeGoesTo", "taken", "(II)I"⟩
def yX0_init : MethodName := ⟨"SmokeGoesTo$Fire", "<init>", "()V"⟩
def yX0_has : MethodName := ⟨"SmokeGoesTo$Fire", "has", "(I)Z"⟩
def yX0_isFreeFor : MethodName := ⟨"SmokeGoesTo$Fire", "isFreeFor", "(II)Z"⟩
def yX0_whoIsOn : MethodName := ⟨"SmokeGoesTo$Fire", "whoIsOn", "(I)I"⟩
def yX0_come : MethodName := ⟨"SmokeGoesTo$Fire", "come", "(III)I"⟩
def yX0_become : MethodName := ⟨"SmokeGoesTo$Fire", "become", "(LSmokeGoesTo$Fire;)V"⟩
def yX0_hasTent : MethodName := ⟨"SmokeGoesTo$Fire", "hasTent", "(I)Z"⟩
def yX4_init : MethodName := ⟨"SmokeGoesTo$Reader", "<init>", "()V"⟩
def yX4_add : MethodName := ⟨"SmokeGoesTo$Reader", "add", "(I)Z"⟩
def yX4_read : MethodName := ⟨"SmokeGoesTo$Reader", "read", "(LSmokeGoesTo$Text;)I"⟩
def yX4_step : MethodName := ⟨"SmokeGoesTo$Reader", "step", "()V"⟩
def yX4_isDigit : MethodName := ⟨"SmokeGoesTo$Reader", "isDigit", "(I)Z"⟩
def yX4_stepNumber : MethodName := ⟨"SmokeGoesTo$Reader", "stepNumber", "()V"⟩
def yX4_isLetter : MethodName := ⟨"SmokeGoesTo$Reader", "isLetter", "(I)Z"⟩
def yX4_stepWord : MethodName := ⟨"SmokeGoesTo$Reader", "stepWord", "()V"⟩
def yX4_isWord : MethodName := ⟨"SmokeGoesTo$Reader", "isWord", "(I)Z"⟩
def yX4_accept : MethodName := ⟨"SmokeGoesTo$Reader", "accept", "(I)Z"⟩
def yX4_readOr : MethodName := ⟨"SmokeGoesTo$Reader", "readOr", "(I)Z"⟩
def yX4_readAnd : MethodName := ⟨"SmokeGoesTo$Reader", "readAnd", "(I)Z"⟩
def yX4_readNot : MethodName := ⟨"SmokeGoesTo$Reader", "readNot", "(I)Z"⟩
def yX4_readSum : MethodName := ⟨"SmokeGoesTo$Reader", "readSum", "(I)Z"⟩
def yX4_readTerm : MethodName := ⟨"SmokeGoesTo$Reader", "readTerm", "(I)Z"⟩
def yX4_readOne : MethodName := ⟨"SmokeGoesTo$Reader", "readOne", "(I)Z"⟩
def yX4_empty : MethodName := ⟨"SmokeGoesTo$Reader", "empty", "()V"⟩
def yX6_init : MethodName := ⟨"SmokeGoesTo$Text", "<init>", "()V"⟩
def yX6_clear : MethodName := ⟨"SmokeGoesTo$Text", "clear", "()V"⟩
def yX6_addOperator : MethodName := ⟨"SmokeGoesTo$Text", "addOperator", "(I)V"⟩
def yX6_addNumber : MethodName := ⟨"SmokeGoesTo$Text", "addNumber", "(I)V"⟩
def yX6_addName : MethodName := ⟨"SmokeGoesTo$Text", "addName", "(I)V"⟩
def yX6_endPart : MethodName := ⟨"SmokeGoesTo$Text", "endPart", "(I)V"⟩
def yX6_value : MethodName := ⟨"SmokeGoesTo$Text", "value", "(I[I[I)I"⟩
def yX6_joined : MethodName := ⟨"SmokeGoesTo$Text", "joined", "(III)I"⟩
def yX5_init : MethodName := ⟨"SmokeGoesTo$Sheet", "<init>", "()V"⟩
def yX5_isMissing : MethodName := ⟨"SmokeGoesTo$Sheet", "isMissing", "()Z"⟩
def yX5_item : MethodName := ⟨"SmokeGoesTo$Sheet", "item", "(I)I"⟩
def yX5_become : MethodName := ⟨"SmokeGoesTo$Sheet", "become", "(II)V"⟩
def yX5_put : MethodName := ⟨"SmokeGoesTo$Sheet", "put", "(II)V"⟩
def yX5_holds : MethodName := ⟨"SmokeGoesTo$Sheet", "holds", "(II)Z"⟩
def yX2_init : MethodName := ⟨"SmokeGoesTo$Night", "<init>", "()V"⟩
def yX2_takeWinds : MethodName := ⟨"SmokeGoesTo$Night", "takeWinds", "(LSmokeGoesTo$Sheet;)V"⟩
def yX2_begin : MethodName := ⟨"SmokeGoesTo$Night", "begin", "(LSmokeGoesTo$Fire;)V"⟩
def yX2_run : MethodName := ⟨"SmokeGoesTo$Night", "run", "(LSmokeGoesTo$Text;)V"⟩
def yX2_turn : MethodName := ⟨"SmokeGoesTo$Night", "turn", "(I)V"⟩
def yX2_feel : MethodName := ⟨"SmokeGoesTo$Night", "feel", "(IZI)V"⟩
def yX2_price : MethodName := ⟨"SmokeGoesTo$Night", "price", "(III)I"⟩
def yX2_rise : MethodName := ⟨"SmokeGoesTo$Night", "rise", "(III)V"⟩
def yX2_ofAll : MethodName := ⟨"SmokeGoesTo$Night", "ofAll", "(I)I"⟩
def yX2_costOfAll : MethodName := ⟨"SmokeGoesTo$Night", "costOfAll", "()I"⟩
def yX2_sum : MethodName := ⟨"SmokeGoesTo$Night", "sum", "([I)I"⟩
def yX2_upsOfAll : MethodName := ⟨"SmokeGoesTo$Night", "upsOfAll", "()I"⟩
def yX2_ofOne : MethodName := ⟨"SmokeGoesTo$Night", "ofOne", "(II)I"⟩
def yX2_takeRow : MethodName := ⟨"SmokeGoesTo$Night", "takeRow", "(II)V"⟩
def yX2_digits : MethodName := ⟨"SmokeGoesTo$Night", "digits", "()I"⟩
def yX2_drawWinds : MethodName := ⟨"SmokeGoesTo$Night", "drawWinds", "(III)V"⟩
def yX3_init : MethodName := ⟨"SmokeGoesTo$Odds", "<init>", "()V"⟩
def yX3_spread : MethodName := ⟨"SmokeGoesTo$Odds", "spread", "(LSmokeGoesTo$Fire;I)V"⟩
def yX3_pass : MethodName := ⟨"SmokeGoesTo$Odds", "pass", "(II)V"⟩
def yX1_exists : MethodName := ⟨"SmokeGoesTo$Kind", "exists", "(I)Z"⟩
def yX1_goes : MethodName := ⟨"SmokeGoesTo$Kind", "goes", "(III)I"⟩
def yX1_getsUp : MethodName := ⟨"SmokeGoesTo$Kind", "getsUp", "(III)Z"⟩
def yX1_bears : MethodName := ⟨"SmokeGoesTo$Kind", "bears", "(III)I"⟩
def yX1_isUnder : MethodName := ⟨"SmokeGoesTo$Kind", "isUnder", "(II)Z"⟩
def yX1_above : MethodName := ⟨"SmokeGoesTo$Kind", "above", "(I)I"⟩
def yX8_init : MethodName := ⟨"SmokeGoesToModel", "<init>", "()V"⟩
def yX8_spell : MethodName := ⟨"SmokeGoesToModel", "spell", "(IIIIIIIII)V"⟩
def yX8_set : MethodName := ⟨"SmokeGoesToModel", "set", "(III)I"⟩
def yX8_in : MethodName := ⟨"SmokeGoesToModel", "in", "(JJJ)Z"⟩
def yX8_isSitter : MethodName := ⟨"SmokeGoesToModel", "isSitter", "(I)Z"⟩
def yX8_onPlace : MethodName := ⟨"SmokeGoesToModel", "onPlace", "(II)I"⟩
def yX8_sitter : MethodName := ⟨"SmokeGoesToModel", "sitter", "(III)I"⟩
def yX8_isPlace : MethodName := ⟨"SmokeGoesToModel", "isPlace", "(I)Z"⟩
def yX8_told : MethodName := ⟨"SmokeGoesToModel", "told", "(II)I"⟩
def yX8_goesTo : MethodName := ⟨"SmokeGoesToModel", "goesTo", "(III)I"⟩
def yX8_round : MethodName := ⟨"SmokeGoesToModel", "round", "(I)I"⟩
def yX8_getsUp : MethodName := ⟨"SmokeGoesToModel", "getsUp", "(II)Z"⟩
def yX8_feed : MethodName := ⟨"SmokeGoesToModel", "feed", "(I)I"⟩
def yX8_text : MethodName := ⟨"SmokeGoesToModel", "text", "()I"⟩
def yX8_read : MethodName := ⟨"SmokeGoesToModel", "read", "(II)I"⟩
def yX8_next : MethodName := ⟨"SmokeGoesToModel", "next", "()V"⟩
def yX8_byteAt : MethodName := ⟨"SmokeGoesToModel", "byteAt", "(I)I"⟩
def yX8_isWord : MethodName := ⟨"SmokeGoesToModel", "isWord", "(IIIIIIII)Z"⟩
def yX8_isLetter : MethodName := ⟨"SmokeGoesToModel", "isLetter", "(II)Z"⟩
def yX8_part : MethodName := ⟨"SmokeGoesToModel", "part", "(Z)I"⟩
def yX8_fail : MethodName := ⟨"SmokeGoesToModel", "fail", "()V"⟩
def yX8_either : MethodName := ⟨"SmokeGoesToModel", "either", "()I"⟩
def yX8_both : MethodName := ⟨"SmokeGoesToModel", "both", "()I"⟩
def yX8_not : MethodName := ⟨"SmokeGoesToModel", "not", "()I"⟩
def yX8_opens : MethodName := ⟨"SmokeGoesToModel", "opens", "()Z"⟩
def yX8_added : MethodName := ⟨"SmokeGoesToModel", "added", "()I"⟩
def yX8_term : MethodName := ⟨"SmokeGoesToModel", "term", "()I"⟩
def yX8_atom : MethodName := ⟨"SmokeGoesToModel", "atom", "()I"⟩
def yX8_isSign : MethodName := ⟨"SmokeGoesToModel", "isSign", "(I)Z"⟩
def yX8_name : MethodName := ⟨"SmokeGoesToModel", "name", "()I"⟩
def yX8_force : MethodName := ⟨"SmokeGoesToModel", "force", "(I)I"⟩
def yX8_night : MethodName := ⟨"SmokeGoesToModel", "night", "(II)I"⟩
def yX8_isSheet : MethodName := ⟨"SmokeGoesToModel", "isSheet", "(I)Z"⟩
def yX8_layAside : MethodName := ⟨"SmokeGoesToModel", "layAside", "()V"⟩
def yX8_nights : MethodName := ⟨"SmokeGoesToModel", "nights", "(I)V"⟩
def yX8_begins : MethodName := ⟨"SmokeGoesToModel", "begins", "()V"⟩
def yX8_windOf : MethodName := ⟨"SmokeGoesToModel", "windOf", "(I)I"⟩
def yX8_passes : MethodName := ⟨"SmokeGoesToModel", "passes", "(II)V"⟩
def yX8_turns : MethodName := ⟨"SmokeGoesToModel", "turns", "(I)V"⟩
def yX8_bearsOf : MethodName := ⟨"SmokeGoesToModel", "bearsOf", "(III)I"⟩
def yX8_says : MethodName := ⟨"SmokeGoesToModel", "says", "(IIII)I"⟩
def yX8_within : MethodName := ⟨"SmokeGoesToModel", "within", "(III)I"⟩
def yX8_firstFree : MethodName := ⟨"SmokeGoesToModel", "firstFree", "(II)I"⟩
def yX8_sumOf : MethodName := ⟨"SmokeGoesToModel", "sumOf", "([I)I"⟩
def yX8_takeBack : MethodName := ⟨"SmokeGoesToModel", "takeBack", "()V"⟩
def yX8_sit : MethodName := ⟨"SmokeGoesToModel", "sit", "(I)I"⟩
def yX8_likely : MethodName := ⟨"SmokeGoesToModel", "likely", "(III)J"⟩
def yX8_spreads : MethodName := ⟨"SmokeGoesToModel", "spreads", "(I)V"⟩
def yX8_lowest : MethodName := ⟨"SmokeGoesToModel", "lowest", "(JJI)J"⟩
def yX8_mean : MethodName := ⟨"SmokeGoesToModel", "mean", "(III)J"⟩
def yX8_seat : MethodName := ⟨"SmokeGoesToModel", "seat", "(II)I"⟩
def yX8_gap : MethodName := ⟨"SmokeGoesToModel", "gap", "(II)I"⟩
def yX8_seatsFrom : MethodName := ⟨"SmokeGoesToModel", "seatsFrom", "(IIJ)V"⟩
def yX8_stay : MethodName := ⟨"SmokeGoesToModel", "stay", "(I)I"⟩
def yX8_costOf : MethodName := ⟨"SmokeGoesToModel", "costOf", "(I)I"⟩
def yX8_eddies : MethodName := ⟨"SmokeGoesToModel", "eddies", "(I)I"⟩
def yX8_best : MethodName := ⟨"SmokeGoesToModel", "best", "(III)I"⟩
def yX8_eyes : MethodName := ⟨"SmokeGoesToModel", "eyes", "(III)I"⟩
def yX8_rowsOf : MethodName := ⟨"SmokeGoesToModel", "rowsOf", "(II)V"⟩
def yX8_film : MethodName := ⟨"SmokeGoesToModel", "film", "(II)I"⟩
def yX8_sheet : MethodName := ⟨"SmokeGoesToModel", "sheet", "(III)I"⟩
def yX8_drawn : MethodName := ⟨"SmokeGoesToModel", "drawn", "(I)I"⟩
def yX8_draws : MethodName := ⟨"SmokeGoesToModel", "draws", "(I)I"⟩
def yX8_chance : MethodName := ⟨"SmokeGoesToModel", "chance", "(III)J"⟩
def yX8_image : MethodName := ⟨"SmokeGoesToModel", "image", "()I"⟩
def yX8_back : MethodName := ⟨"SmokeGoesToModel", "back", "()I"⟩
def yX8_count : MethodName := ⟨"SmokeGoesToModel", "count", "(I)I"⟩
def yX8_cell : MethodName := ⟨"SmokeGoesToModel", "cell", "(III)I"⟩
def yX8_copy : MethodName := ⟨"SmokeGoesToModel", "copy", "(IIIII)I"⟩
def yX8_sitters : MethodName := ⟨"SmokeGoesToModel", "sitters", "(IIII)I"⟩
def yX8_taken : MethodName := ⟨"SmokeGoesToModel", "taken", "(II)I"⟩
def yX8_over : MethodName := ⟨"SmokeGoesToModel", "over", "(I)I"⟩
def yJ0_length_8abf5 : MethodName := ⟨"java/lang/String", "length", "()I"⟩
def yJ0_coder_7d493 : MethodName := ⟨"java/lang/String", "coder", "()B"⟩
def yJ0_charAt_5068e : MethodName := ⟨"java/lang/String", "charAt", "(I)C"⟩
def yJ0_isLatin1_aae02 : MethodName := ⟨"java/lang/String", "isLatin1", "()Z"⟩
def yJ1_charAt_3b067 : MethodName := ⟨"java/lang/StringLatin1", "charAt", "([BI)C"⟩
def yJ0_checkIndex_df160 : MethodName := ⟨"java/lang/String", "checkIndex", "(II)V"⟩
def yJ3_checkIndex_8e157 : MethodName := ⟨"jdk/internal/util/Preconditions", "checkIndex", "(IILjava/util/function/BiFunction;)I"⟩
def yJ7_fill_53178 : MethodName := ⟨"java/util/Arrays", "fill", "([II)V"⟩
def yJ7_fill_d0a16 : MethodName := ⟨"java/util/Arrays", "fill", "([JJ)V"⟩
def yJ0_indexOf_0f7a4 : MethodName := ⟨"java/lang/String", "indexOf", "(I)I"⟩
def yJ0_indexOf_7cf53 : MethodName := ⟨"java/lang/String", "indexOf", "(II)I"⟩
def yJ1_indexOf_4cfef : MethodName := ⟨"java/lang/StringLatin1", "indexOf", "([BIII)I"⟩
def yJ1_canEncode_9a6ad : MethodName := ⟨"java/lang/StringLatin1", "canEncode", "(I)Z"⟩
def yJ1_indexOfChar_4cfef : MethodName := ⟨"java/lang/StringLatin1", "indexOfChar", "([BIII)I"⟩
set_option maxRecDepth 100000 in
theorem gc_X7_init : Cond.code yX7_init prog_1_method_1_code 2 none ∈ sm_G := sm_g1 (i := 22) rfl rfl
set_option maxRecDepth 100000 in
theorem gi_X7_init : Cond.instanceMethod yX7_init ∈ sm_G := sm_g1 (i := 21) rfl rfl
set_option maxRecDepth 100000 in
theorem gc_X7_set : Cond.code yX7_set prog_1_method_2_code 4 (some .int) ∈ sm_G := sm_g2 (i := 216) rfl rfl
set_option maxRecDepth 100000 in
theorem gi_X7_set : Cond.instanceMethod yX7_set ∈ sm_G := sm_g2 (i := 214) rfl rfl
set_option maxRecDepth 100000 in
theorem ge_X7_set : Cond.selects "SmokeGoesTo" yX7_set yX7_set ∈ sm_G := sm_g2 (i := 215) rfl rfl
set_option maxRecDepth 100000 in
theorem gc_X7_setSmoke : Cond.code yX7_setSmoke prog_1_method_3_code 3 (some .int) ∈ sm_G := sm_g2 (i := 220) rfl rfl
set_option maxRecDepth 100000 in
theorem gi_X7_setSmoke : Cond.instanceMethod yX7_setSmoke ∈ sm_G := sm_g2 (i := 219) rfl rfl
set_option maxRecDepth 100000 in
theorem ge_X7_setSmoke : Cond.selects "SmokeGoesTo" yX7_setSmoke yX7_setSmoke ∈ sm_G := sm_g0 (i := 11) rfl rfl
set_option maxRecDepth 100000 in
theorem gc_X7_isPlace : Cond.code yX7_isPlace prog_1_method_47_code 1 (some .boolean) ∈ sm_G := sm_g2 (i := 223) rfl rfl
set_option maxRecDepth 100000 in
theorem gs_X7_isPlace : Cond.static yX7_isPlace ∈ sm_G := sm_g2 (i := 222) rfl rfl
set_option maxRecDepth 100000 in
theorem gc_X7_setLeft : Cond.code yX7_setLeft prog_1_method_4_code 3 (some .int) ∈ sm_G := sm_g2 (i := 227) rfl rfl
set_option maxRecDepth 100000 in
theorem gi_X7_setLeft : Cond.instanceMethod yX7_setLeft ∈ sm_G := sm_g2 (i := 226) rfl rfl
set_option maxRecDepth 100000 in
theorem ge_X7_setLeft : Cond.selects "SmokeGoesTo" yX7_setLeft yX7_setLeft ∈ sm_G := sm_g0 (i := 12) rfl rfl
set_option maxRecDepth 100000 in
theorem gc_X7_setRight : Cond.code yX7_setRight prog_1_method_5_code 3 (some .int) ∈ sm_G := sm_g2 (i := 231) rfl rfl
set_option maxRecDepth 100000 in
theorem gi_X7_setRight : Cond.instanceMethod yX7_setRight ∈ sm_G := sm_g2 (i := 230) rfl rfl
set_option maxRecDepth 100000 in
theorem ge_X7_setRight : Cond.selects "SmokeGoesTo" yX7_setRight yX7_setRight ∈ sm_G := sm_g0 (i := 13) rfl rfl
set_option maxRecDepth 100000 in
theorem gc_X7_setTents : Cond.code yX7_setTents prog_1_method_6_code 3 (some .int) ∈ sm_G := sm_g2 (i := 235) rfl rfl
set_option maxRecDepth 100000 in
theorem gi_X7_setTents : Cond.instanceMethod yX7_setTents ∈ sm_G := sm_g2 (i := 234) rfl rfl
set_option maxRecDepth 100000 in
theorem ge_X7_setTents : Cond.selects "SmokeGoesTo" yX7_setTents yX7_setTents ∈ sm_G := sm_g0 (i := 14) rfl rfl
set_option maxRecDepth 100000 in
theorem gc_X7_setEddy : Cond.code yX7_setEddy prog_1_method_7_code 3 (some .int) ∈ sm_G := sm_g2 (i := 239) rfl rfl
set_option maxRecDepth 100000 in
theorem gi_X7_setEddy : Cond.instanceMethod yX7_setEddy ∈ sm_G := sm_g2 (i := 238) rfl rfl
set_option maxRecDepth 100000 in
theorem ge_X7_setEddy : Cond.selects "SmokeGoesTo" yX7_setEddy yX7_setEddy ∈ sm_G := sm_g0 (i := 15) rfl rfl
set_option maxRecDepth 100000 in
theorem gc_X7_setNumber : Cond.code yX7_setNumber prog_1_method_8_code 4 (some .int) ∈ sm_G := sm_g3 (i := 3) rfl rfl
set_option maxRecDepth 100000 in
theorem gi_X7_setNumber : Cond.instanceMethod yX7_setNumber ∈ sm_G := sm_g3 (i := 2) rfl rfl
set_option maxRecDepth 100000 in
theorem ge_X7_setNumber : Cond.selects "SmokeGoesTo" yX7_setNumber yX7_setNumber ∈ sm_G := sm_g0 (i := 16) rfl rfl
set_option maxRecDepth 100000 in
theorem gc_X7_setPlace : Cond.code yX7_setPlace prog_1_method_9_code 4 (some .int) ∈ sm_G := sm_g3 (i := 11) rfl rfl
set_option maxRecDepth 100000 in
theorem gi_X7_setPlace : Cond.instanceMethod yX7_setPlace ∈ sm_G := sm_g3 (i := 10) rfl rfl
set_option maxRecDepth 100000 in
theorem ge_X7_setPlace : Cond.selects "SmokeGoesTo" yX7_setPlace yX7_setPlace ∈ sm_G := sm_g0 (i := 17) rfl rfl
set_option maxRecDepth 100000 in
theorem gc_X7_sitter : Cond.code yX7_sitter prog_1_method_10_code 4 (some .int) ∈ sm_G := sm_g3 (i := 23) rfl rfl
set_option maxRecDepth 100000 in
theorem gi_X7_sitter : Cond.instanceMethod yX7_sitter ∈ sm_G := sm_g3 (i := 21) rfl rfl
set_option maxRecDepth 100000 in
theorem ge_X7_sitter : Cond.selects "SmokeGoesTo" yX7_sitter yX7_sitter ∈ sm_G := sm_g3 (i := 22) rfl rfl
set_option maxRecDepth 100000 in
theorem gc_X7_told : Cond.code yX7_told prog_1_method_11_code 4 (some .int) ∈ sm_G := sm_g3 (i := 35) rfl rfl
set_option maxRecDepth 100000 in
theorem gi_X7_told : Cond.instanceMethod yX7_told ∈ sm_G := sm_g3 (i := 33) rfl rfl
set_option maxRecDepth 100000 in
theorem ge_X7_told : Cond.selects "SmokeGoesTo" yX7_told yX7_told ∈ sm_G := sm_g3 (i := 34) rfl rfl
set_option maxRecDepth 100000 in
theorem gc_X7_round : Cond.code yX7_round prog_1_method_52_code 1 (some .int) ∈ sm_G := sm_g3 (i := 41) rfl rfl
set_option maxRecDepth 100000 in
theorem gs_X7_round : Cond.static yX7_round ∈ sm_G := sm_g3 (i := 40) rfl rfl
set_option maxRecDepth 100000 in
theorem gc_X7_feed : Cond.code yX7_feed prog_1_method_12_code 2 (some .int) ∈ sm_G := sm_g3 (i := 48) rfl rfl
set_option maxRecDepth 100000 in
theorem gi_X7_feed : Cond.instanceMethod yX7_feed ∈ sm_G := sm_g3 (i := 46) rfl rfl
set_option maxRecDepth 100000 in
theorem ge_X7_feed : Cond.selects "SmokeGoesTo" yX7_feed yX7_feed ∈ sm_G := sm_g3 (i := 47) rfl rfl
set_option maxRecDepth 100000 in
theorem gc_X7_text : Cond.code yX7_text prog_1_method_13_code 2 (some .int) ∈ sm_G := sm_g3 (i := 52) rfl rfl
set_option maxRecDepth 100000 in
theorem gi_X7_text : Cond.instanceMethod yX7_text ∈ sm_G := sm_g3 (i := 50) rfl rfl
set_option maxRecDepth 100000 in
theorem ge_X7_text : Cond.selects "SmokeGoesTo" yX7_text yX7_text ∈ sm_G := sm_g3 (i := 51) rfl rfl
set_option maxRecDepth 100000 in
theorem gc_X7_force : Cond.code yX7_force prog_1_method_14_code 3 (some .int) ∈ sm_G := sm_g3 (i := 56) rfl rfl
set_option maxRecDepth 100000 in
theorem gi_X7_force : Cond.instanceMethod yX7_force ∈ sm_G := sm_g3 (i := 54) rfl rfl
set_option maxRecDepth 100000 in
theorem ge_X7_force : Cond.selects "SmokeGoesTo" yX7_force yX7_force ∈ sm_G := sm_g3 (i := 55) rfl rfl
set_option maxRecDepth 100000 in
theorem gc_X7_night : Cond.code yX7_night prog_1_method_15_code 3 (some .int) ∈ sm_G := sm_g3 (i := 60) rfl rfl
set_option maxRecDepth 100000 in
theorem gi_X7_night : Cond.instanceMethod yX7_night ∈ sm_G := sm_g3 (i := 58) rfl rfl
set_option maxRecDepth 100000 in
theorem ge_X7_night : Cond.selects "SmokeGoesTo" yX7_night yX7_night ∈ sm_G := sm_g3 (i := 59) rfl rfl
set_option maxRecDepth 100000 in
theorem gc_X7_isSheet : Cond.code yX7_isSheet prog_1_method_49_code 1 (some .boolean) ∈ sm_G := sm_g3 (i := 63) rfl rfl
set_option maxRecDepth 100000 in
theorem gs_X7_isSheet : Cond.static yX7_isSheet ∈ sm_G := sm_g3 (i := 62) rfl rfl
set_option maxRecDepth 100000 in
theorem gc_X7_isNightWhat : Cond.code yX7_isNightWhat prog_1_method_16_code 2 (some .boolean) ∈ sm_G := sm_g3 (i := 67) rfl rfl
set_option maxRecDepth 100000 in
theorem gi_X7_isNightWhat : Cond.instanceMethod yX7_isNightWhat ∈ sm_G := sm_g3 (i := 66) rfl rfl
set_option maxRecDepth 100000 in
theorem ge_X7_isNightWhat : Cond.selects "SmokeGoesTo" yX7_isNightWhat yX7_isNightWhat ∈ sm_G := sm_g0 (i := 18) rfl rfl
set_option maxRecDepth 100000 in
theorem gc_X7_thinkAsItIs : Cond.code yX7_thinkAsItIs prog_1_method_18_code 1 none ∈ sm_G := sm_g3 (i := 83) rfl rfl
set_option maxRecDepth 100000 in
theorem gi_X7_thinkAsItIs : Cond.instanceMethod yX7_thinkAsItIs ∈ sm_G := sm_g3 (i := 82) rfl rfl
set_option maxRecDepth 100000 in
theorem ge_X7_thinkAsItIs : Cond.selects "SmokeGoesTo" yX7_thinkAsItIs yX7_thinkAsItIs ∈ sm_G := sm_g0 (i := 19) rfl rfl
set_option maxRecDepth 100000 in
theorem gc_X7_sit : Cond.code yX7_sit prog_1_method_17_code 3 (some .int) ∈ sm_G := sm_g3 (i := 160) rfl rfl
set_option maxRecDepth 100000 in
theorem gi_X7_sit : Cond.instanceMethod yX7_sit ∈ sm_G := sm_g3 (i := 158) rfl rfl
set_option maxRecDepth 100000 in
theorem ge_X7_sit : Cond.selects "SmokeGoesTo" yX7_sit yX7_sit ∈ sm_G := sm_g3 (i := 159) rfl rfl
set_option maxRecDepth 100000 in
theorem gc_X7_refusal : Cond.code yX7_refusal prog_1_method_51_code 2 (some .int) ∈ sm_G := sm_g3 (i := 164) rfl rfl
set_option maxRecDepth 100000 in
theorem gi_X7_refusal : Cond.instanceMethod yX7_refusal ∈ sm_G := sm_g3 (i := 163) rfl rfl
set_option maxRecDepth 100000 in
theorem ge_X7_refusal : Cond.selects "SmokeGoesTo" yX7_refusal yX7_refusal ∈ sm_G := sm_g0 (i := 24) rfl rfl
set_option maxRecDepth 100000 in
theorem gc_X7_likely : Cond.code yX7_likely prog_1_method_19_code 4 (some .long) ∈ sm_G := sm_g3 (i := 170) rfl rfl
set_option maxRecDepth 100000 in
theorem gi_X7_likely : Cond.instanceMethod yX7_likely ∈ sm_G := sm_g3 (i := 168) rfl rfl
set_option maxRecDepth 100000 in
theorem ge_X7_likely : Cond.selects "SmokeGoesTo" yX7_likely yX7_likely ∈ sm_G := sm_g3 (i := 169) rfl rfl
set_option maxRecDepth 100000 in
theorem gc_X7_isPart : Cond.code yX7_isPart prog_1_method_48_code 1 (some .boolean) ∈ sm_G := sm_g3 (i := 173) rfl rfl
set_option maxRecDepth 100000 in
theorem gs_X7_isPart : Cond.static yX7_isPart ∈ sm_G := sm_g3 (i := 172) rfl rfl
set_option maxRecDepth 100000 in
theorem gc_X7_lowest : Cond.code yX7_lowest prog_1_method_53_code 7 (some .long) ∈ sm_G := sm_g3 (i := 191) rfl rfl
set_option maxRecDepth 100000 in
theorem gs_X7_lowest : Cond.static yX7_lowest ∈ sm_G := sm_g3 (i := 190) rfl rfl
set_option maxRecDepth 100000 in
theorem gc_X7_commonDivisor : Cond.code yX7_commonDivisor prog_1_method_54_code 11 (some .long) ∈ sm_G := sm_g3 (i := 194) rfl rfl
set_option maxRecDepth 100000 in
theorem gs_X7_commonDivisor : Cond.static yX7_commonDivisor ∈ sm_G := sm_g3 (i := 193) rfl rfl
set_option maxRecDepth 100000 in
theorem gc_X7_mean : Cond.code yX7_mean prog_1_method_20_code 4 (some .long) ∈ sm_G := sm_g3 (i := 198) rfl rfl
set_option maxRecDepth 100000 in
theorem gi_X7_mean : Cond.instanceMethod yX7_mean ∈ sm_G := sm_g3 (i := 196) rfl rfl
set_option maxRecDepth 100000 in
theorem ge_X7_mean : Cond.selects "SmokeGoesTo" yX7_mean yX7_mean ∈ sm_G := sm_g3 (i := 197) rfl rfl
set_option maxRecDepth 100000 in
theorem gc_X7_isMeanMinutes : Cond.code yX7_isMeanMinutes prog_1_method_50_code 1 (some .boolean) ∈ sm_G := sm_g3 (i := 201) rfl rfl
set_option maxRecDepth 100000 in
theorem gs_X7_isMeanMinutes : Cond.static yX7_isMeanMinutes ∈ sm_G := sm_g3 (i := 200) rfl rfl
set_option maxRecDepth 100000 in
theorem gc_X7_seat : Cond.code yX7_seat prog_1_method_21_code 5 (some .int) ∈ sm_G := sm_g3 (i := 205) rfl rfl
set_option maxRecDepth 100000 in
theorem gi_X7_seat : Cond.instanceMethod yX7_seat ∈ sm_G := sm_g3 (i := 203) rfl rfl
set_option maxRecDepth 100000 in
theorem ge_X7_seat : Cond.selects "SmokeGoesTo" yX7_seat yX7_seat ∈ sm_G := sm_g3 (i := 204) rfl rfl
set_option maxRecDepth 100000 in
theorem gc_X7_gap : Cond.code yX7_gap prog_1_method_22_code 5 (some .int) ∈ sm_G := sm_g3 (i := 210) rfl rfl
set_option maxRecDepth 100000 in
theorem gi_X7_gap : Cond.instanceMethod yX7_gap ∈ sm_G := sm_g3 (i := 208) rfl rfl
set_option maxRecDepth 100000 in
theorem ge_X7_gap : Cond.selects "SmokeGoesTo" yX7_gap yX7_gap ∈ sm_G := sm_g3 (i := 209) rfl rfl
set_option maxRecDepth 100000 in
theorem gc_X7_leastOutside : Cond.code yX7_leastOutside prog_1_method_23_code 8 (some .int) ∈ sm_G := sm_g3 (i := 214) rfl rfl
set_option maxRecDepth 100000 in
theorem gi_X7_leastOutside : Cond.instanceMethod yX7_leastOutside ∈ sm_G := sm_g3 (i := 213) rfl rfl
set_option maxRecDepth 100000 in
theorem ge_X7_leastOutside : Cond.selects "SmokeGoesTo" yX7_leastOutside yX7_leastOutside ∈ sm_G := sm_g0 (i := 26) rfl rfl
set_option maxRecDepth 100000 in
theorem gc_X7_placeOfBit : Cond.code yX7_placeOfBit prog_1_method_24_code 4 (some .int) ∈ sm_G := sm_g3 (i := 218) rfl rfl
set_option maxRecDepth 100000 in
theorem gs_X7_placeOfBit : Cond.static yX7_placeOfBit ∈ sm_G := sm_g3 (i := 217) rfl rfl
set_option maxRecDepth 100000 in
theorem gc_X7_stay : Cond.code yX7_stay prog_1_method_25_code 6 (some .int) ∈ sm_G := sm_g3 (i := 222) rfl rfl
set_option maxRecDepth 100000 in
theorem gi_X7_stay : Cond.instanceMethod yX7_stay ∈ sm_G := sm_g3 (i := 220) rfl rfl
set_option maxRecDepth 100000 in
theorem ge_X7_stay : Cond.selects "SmokeGoesTo" yX7_stay yX7_stay ∈ sm_G := sm_g3 (i := 221) rfl rfl
set_option maxRecDepth 100000 in
theorem gc_X7_costIf : Cond.code yX7_costIf prog_1_method_29_code 4 (some .int) ∈ sm_G := sm_g3 (i := 226) rfl rfl
set_option maxRecDepth 100000 in
theorem gi_X7_costIf : Cond.instanceMethod yX7_costIf ∈ sm_G := sm_g3 (i := 225) rfl rfl
set_option maxRecDepth 100000 in
theorem ge_X7_costIf : Cond.selects "SmokeGoesTo" yX7_costIf yX7_costIf ∈ sm_G := sm_g0 (i := 27) rfl rfl
set_option maxRecDepth 100000 in
theorem gc_X7_eddies : Cond.code yX7_eddies prog_1_method_26_code 2 (some .int) ∈ sm_G := sm_g3 (i := 230) rfl rfl
set_option maxRecDepth 100000 in
theorem gi_X7_eddies : Cond.instanceMethod yX7_eddies ∈ sm_G := sm_g3 (i := 228) rfl rfl
set_option maxRecDepth 100000 in
theorem ge_X7_eddies : Cond.selects "SmokeGoesTo" yX7_eddies yX7_eddies ∈ sm_G := sm_g3 (i := 229) rfl rfl
set_option maxRecDepth 100000 in
theorem gc_X7_costIfEddy : Cond.code yX7_costIfEddy prog_1_method_27_code 2 (some .int) ∈ sm_G := sm_g3 (i := 235) rfl rfl
set_option maxRecDepth 100000 in
theorem gi_X7_costIfEddy : Cond.instanceMethod yX7_costIfEddy ∈ sm_G := sm_g3 (i := 234) rfl rfl
set_option maxRecDepth 100000 in
theorem ge_X7_costIfEddy : Cond.selects "SmokeGoesTo" yX7_costIfEddy yX7_costIfEddy ∈ sm_G := sm_g0 (i := 28) rfl rfl
set_option maxRecDepth 100000 in
theorem gc_X7_best : Cond.code yX7_best prog_1_method_28_code 8 (some .int) ∈ sm_G := sm_g3 (i := 239) rfl rfl
set_option maxRecDepth 100000 in
theorem gi_X7_best : Cond.instanceMethod yX7_best ∈ sm_G := sm_g3 (i := 237) rfl rfl
set_option maxRecDepth 100000 in
theorem ge_X7_best : Cond.selects "SmokeGoesTo" yX7_best yX7_best ∈ sm_G := sm_g3 (i := 238) rfl rfl
set_option maxRecDepth 100000 in
theorem gc_X7_eyes : Cond.code yX7_eyes prog_1_method_30_code 5 (some .int) ∈ sm_G := sm_g4 (i := 3) rfl rfl
set_option maxRecDepth 100000 in
theorem gi_X7_eyes : Cond.instanceMethod yX7_eyes ∈ sm_G := sm_g4 (i := 1) rfl rfl
set_option maxRecDepth 100000 in
theorem ge_X7_eyes : Cond.selects "SmokeGoesTo" yX7_eyes yX7_eyes ∈ sm_G := sm_g4 (i := 2) rfl rfl
set_option maxRecDepth 100000 in
theorem gc_X7_rowsThatFit : Cond.code yX7_rowsThatFit prog_1_method_31_code 6 (some .int) ∈ sm_G := sm_g4 (i := 7) rfl rfl
set_option maxRecDepth 100000 in
theorem gi_X7_rowsThatFit : Cond.instanceMethod yX7_rowsThatFit ∈ sm_G := sm_g4 (i := 6) rfl rfl
set_option maxRecDepth 100000 in
theorem ge_X7_rowsThatFit : Cond.selects "SmokeGoesTo" yX7_rowsThatFit yX7_rowsThatFit ∈ sm_G := sm_g0 (i := 29) rfl rfl
set_option maxRecDepth 100000 in
theorem gc_X7_rowsOf : Cond.code yX7_rowsOf prog_1_method_34_code 3 (some .int) ∈ sm_G := sm_g4 (i := 10) rfl rfl
set_option maxRecDepth 100000 in
theorem gs_X7_rowsOf : Cond.static yX7_rowsOf ∈ sm_G := sm_g4 (i := 9) rfl rfl
set_option maxRecDepth 100000 in
theorem gc_X7_fits : Cond.code yX7_fits prog_1_method_35_code 7 (some .boolean) ∈ sm_G := sm_g4 (i := 14) rfl rfl
set_option maxRecDepth 100000 in
theorem gi_X7_fits : Cond.instanceMethod yX7_fits ∈ sm_G := sm_g4 (i := 13) rfl rfl
set_option maxRecDepth 100000 in
theorem ge_X7_fits : Cond.selects "SmokeGoesTo" yX7_fits yX7_fits ∈ sm_G := sm_g0 (i := 30) rfl rfl
set_option maxRecDepth 100000 in
theorem gc_X7_firstThatFits : Cond.code yX7_firstThatFits prog_1_method_32_code 5 (some .int) ∈ sm_G := sm_g4 (i := 23) rfl rfl
set_option maxRecDepth 100000 in
theorem gi_X7_firstThatFits : Cond.instanceMethod yX7_firstThatFits ∈ sm_G := sm_g4 (i := 22) rfl rfl
set_option maxRecDepth 100000 in
theorem ge_X7_firstThatFits : Cond.selects "SmokeGoesTo" yX7_firstThatFits yX7_firstThatFits ∈ sm_G := sm_g0 (i := 31) rfl rfl
set_option maxRecDepth 100000 in
theorem gc_X7_kindsThatFit : Cond.code yX7_kindsThatFit prog_1_method_33_code 8 (some .int) ∈ sm_G := sm_g4 (i := 31) rfl rfl
set_option maxRecDepth 100000 in
theorem gi_X7_kindsThatFit : Cond.instanceMethod yX7_kindsThatFit ∈ sm_G := sm_g4 (i := 30) rfl rfl
set_option maxRecDepth 100000 in
theorem ge_X7_kindsThatFit : Cond.selects "SmokeGoesTo" yX7_kindsThatFit yX7_kindsThatFit ∈ sm_G := sm_g0 (i := 32) rfl rfl
set_option maxRecDepth 100000 in
theorem gc_X7_film : Cond.code yX7_film prog_1_method_36_code 4 (some .int) ∈ sm_G := sm_g4 (i := 35) rfl rfl
set_option maxRecDepth 100000 in
theorem gi_X7_film : Cond.instanceMethod yX7_film ∈ sm_G := sm_g4 (i := 33) rfl rfl
set_option maxRecDepth 100000 in
theorem ge_X7_film : Cond.selects "SmokeGoesTo" yX7_film yX7_film ∈ sm_G := sm_g4 (i := 34) rfl rfl
set_option maxRecDepth 100000 in
theorem gc_X7_drawn : Cond.code yX7_drawn prog_1_method_37_code 2 (some .int) ∈ sm_G := sm_g4 (i := 48) rfl rfl
set_option maxRecDepth 100000 in
theorem gi_X7_drawn : Cond.instanceMethod yX7_drawn ∈ sm_G := sm_g4 (i := 46) rfl rfl
set_option maxRecDepth 100000 in
theorem ge_X7_drawn : Cond.selects "SmokeGoesTo" yX7_drawn yX7_drawn ∈ sm_G := sm_g4 (i := 47) rfl rfl
set_option maxRecDepth 100000 in
theorem gc_X7_chance : Cond.code yX7_chance prog_1_method_38_code 6 (some .long) ∈ sm_G := sm_g4 (i := 57) rfl rfl
set_option maxRecDepth 100000 in
theorem gi_X7_chance : Cond.instanceMethod yX7_chance ∈ sm_G := sm_g4 (i := 55) rfl rfl
set_option maxRecDepth 100000 in
theorem ge_X7_chance : Cond.selects "SmokeGoesTo" yX7_chance yX7_chance ∈ sm_G := sm_g4 (i := 56) rfl rfl
set_option maxRecDepth 100000 in
theorem gc_X7_image : Cond.code yX7_image prog_1_method_39_code 1 (some .int) ∈ sm_G := sm_g4 (i := 62) rfl rfl
set_option maxRecDepth 100000 in
theorem gi_X7_image : Cond.instanceMethod yX7_image ∈ sm_G := sm_g4 (i := 60) rfl rfl
set_option maxRecDepth 100000 in
theorem ge_X7_image : Cond.selects "SmokeGoesTo" yX7_image yX7_image ∈ sm_G := sm_g4 (i := 61) rfl rfl
set_option maxRecDepth 100000 in
theorem gc_X7_back : Cond.code yX7_back prog_1_method_40_code 1 (some .int) ∈ sm_G := sm_g4 (i := 67) rfl rfl
set_option maxRecDepth 100000 in
theorem gi_X7_back : Cond.instanceMethod yX7_back ∈ sm_G := sm_g4 (i := 65) rfl rfl
set_option maxRecDepth 100000 in
theorem ge_X7_back : Cond.selects "SmokeGoesTo" yX7_back yX7_back ∈ sm_G := sm_g4 (i := 66) rfl rfl
set_option maxRecDepth 100000 in
theorem gc_X7_count : Cond.code yX7_count prog_1_method_41_code 2 (some .int) ∈ sm_G := sm_g4 (i := 71) rfl rfl
set_option maxRecDepth 100000 in
theorem gi_X7_count : Cond.instanceMethod yX7_count ∈ sm_G := sm_g4 (i := 69) rfl rfl
set_option maxRecDepth 100000 in
theorem ge_X7_count : Cond.selects "SmokeGoesTo" yX7_count yX7_count ∈ sm_G := sm_g4 (i := 70) rfl rfl
set_option maxRecDepth 100000 in
theorem gc_X7_sheet : Cond.code yX7_sheet prog_1_method_42_code 4 (some .int) ∈ sm_G := sm_g4 (i := 75) rfl rfl
set_option maxRecDepth 100000 in
theorem gi_X7_sheet : Cond.instanceMethod yX7_sheet ∈ sm_G := sm_g4 (i := 73) rfl rfl
set_option maxRecDepth 100000 in
theorem ge_X7_sheet : Cond.selects "SmokeGoesTo" yX7_sheet yX7_sheet ∈ sm_G := sm_g4 (i := 74) rfl rfl
set_option maxRecDepth 100000 in
theorem gc_X7_cell : Cond.code yX7_cell prog_1_method_43_code 5 (some .int) ∈ sm_G := sm_g4 (i := 79) rfl rfl
set_option maxRecDepth 100000 in
theorem gi_X7_cell : Cond.instanceMethod yX7_cell ∈ sm_G := sm_g4 (i := 77) rfl rfl
set_option maxRecDepth 100000 in
theorem ge_X7_cell : Cond.selects "SmokeGoesTo" yX7_cell yX7_cell ∈ sm_G := sm_g4 (i := 78) rfl rfl
set_option maxRecDepth 100000 in
theorem gc_X7_copy : Cond.code yX7_copy prog_1_method_44_code 8 (some .int) ∈ sm_G := sm_g4 (i := 83) rfl rfl
set_option maxRecDepth 100000 in
theorem gi_X7_copy : Cond.instanceMethod yX7_copy ∈ sm_G := sm_g4 (i := 81) rfl rfl
set_option maxRecDepth 100000 in
theorem ge_X7_copy : Cond.selects "SmokeGoesTo" yX7_copy yX7_copy ∈ sm_G := sm_g4 (i := 82) rfl rfl
set_option maxRecDepth 100000 in
theorem gc_X7_sitters : Cond.code yX7_sitters prog_1_method_45_code 9 (some .int) ∈ sm_G := sm_g4 (i := 91) rfl rfl
set_option maxRecDepth 100000 in
theorem gi_X7_sitters : Cond.instanceMethod yX7_sitters ∈ sm_G := sm_g4 (i := 89) rfl rfl
set_option maxRecDepth 100000 in
theorem ge_X7_sitters : Cond.selects "SmokeGoesTo" yX7_sitters yX7_sitters ∈ sm_G := sm_g4 (i := 90) rfl rfl
set_option maxRecDepth 100000 in
theorem gc_X7_taken : Cond.code yX7_taken prog_1_method_46_code 3 (some .int) ∈ sm_G := sm_g4 (i := 95) rfl rfl
set_option maxRecDepth 100000 in
theorem gi_X7_taken : Cond.instanceMethod yX7_taken ∈ sm_G := sm_g4 (i := 93) rfl rfl
set_option maxRecDepth 100000 in
theorem ge_X7_taken : Cond.selects "SmokeGoesTo" yX7_taken yX7_taken ∈ sm_G := sm_g4 (i := 94) rfl rfl
set_option maxRecDepth 100000 in
theorem gc_X0_init : Cond.code yX0_init prog_2_method_1_code 1 none ∈ sm_G := sm_g1 (i := 30) rfl rfl
set_option maxRecDepth 100000 in
theorem gi_X0_init : Cond.instanceMethod yX0_init ∈ sm_G := sm_g1 (i := 29) rfl rfl
set_option maxRecDepth 100000 in
theorem gc_X0_has : Cond.code yX0_has prog_2_method_3_code 2 (some .boolean) ∈ sm_G := sm_g3 (i := 7) rfl rfl
set_option maxRecDepth 100000 in
theorem gi_X0_has : Cond.instanceMethod yX0_has ∈ sm_G := sm_g3 (i := 5) rfl rfl
set_option maxRecDepth 100000 in
theorem ge_X0_has : Cond.selects "SmokeGoesTo$Fire" yX0_has yX0_has ∈ sm_G := sm_g3 (i := 6) rfl rfl
set_option maxRecDepth 100000 in
theorem gc_X0_isFreeFor : Cond.code yX0_isFreeFor prog_2_method_6_code 4 (some .boolean) ∈ sm_G := sm_g3 (i := 15) rfl rfl
set_option maxRecDepth 100000 in
theorem gi_X0_isFreeFor : Cond.instanceMethod yX0_isFreeFor ∈ sm_G := sm_g3 (i := 13) rfl rfl
set_option maxRecDepth 100000 in
theorem ge_X0_isFreeFor : Cond.selects "SmokeGoesTo$Fire" yX0_isFreeFor yX0_isFreeFor ∈ sm_G := sm_g3 (i := 14) rfl rfl
set_option maxRecDepth 100000 in
theorem gc_X0_whoIsOn : Cond.code yX0_whoIsOn prog_2_method_5_code 3 (some .int) ∈ sm_G := sm_g3 (i := 19) rfl rfl
set_option maxRecDepth 100000 in
theorem gi_X0_whoIsOn : Cond.instanceMethod yX0_whoIsOn ∈ sm_G := sm_g3 (i := 17) rfl rfl
set_option maxRecDepth 100000 in
theorem ge_X0_whoIsOn : Cond.selects "SmokeGoesTo$Fire" yX0_whoIsOn yX0_whoIsOn ∈ sm_G := sm_g3 (i := 18) rfl rfl
set_option maxRecDepth 100000 in
theorem gc_X0_come : Cond.code yX0_come prog_2_method_7_code 4 (some .int) ∈ sm_G := sm_g3 (i := 27) rfl rfl
set_option maxRecDepth 100000 in
theorem gi_X0_come : Cond.instanceMethod yX0_come ∈ sm_G := sm_g3 (i := 25) rfl rfl
set_option maxRecDepth 100000 in
theorem ge_X0_come : Cond.selects "SmokeGoesTo$Fire" yX0_come yX0_come ∈ sm_G := sm_g3 (i := 26) rfl rfl
set_option maxRecDepth 100000 in
theorem gc_X0_become : Cond.code yX0_become prog_2_method_2_code 2 none ∈ sm_G := sm_g3 (i := 91) rfl rfl
set_option maxRecDepth 100000 in
theorem gi_X0_become : Cond.instanceMethod yX0_become ∈ sm_G := sm_g3 (i := 89) rfl rfl
set_option maxRecDepth 100000 in
theorem ge_X0_become : Cond.selects "SmokeGoesTo$Fire" yX0_become yX0_become ∈ sm_G := sm_g3 (i := 90) rfl rfl
set_option maxRecDepth 100000 in
theorem gc_X0_hasTent : Cond.code yX0_hasTent prog_2_method_4_code 2 (some .boolean) ∈ sm_G := sm_g3 (i := 108) rfl rfl
set_option maxRecDepth 100000 in
theorem gi_X0_hasTent : Cond.instanceMethod yX0_hasTent ∈ sm_G := sm_g3 (i := 106) rfl rfl
set_option maxRecDepth 100000 in
theorem ge_X0_hasTent : Cond.selects "SmokeGoesTo$Fire" yX0_hasTent yX0_hasTent ∈ sm_G := sm_g3 (i := 107) rfl rfl
set_option maxRecDepth 100000 in
theorem gc_X4_init : Cond.code yX4_init prog_6_method_1_code 1 none ∈ sm_G := sm_g1 (i := 87) rfl rfl
set_option maxRecDepth 100000 in
theorem gi_X4_init : Cond.instanceMethod yX4_init ∈ sm_G := sm_g1 (i := 86) rfl rfl
set_option maxRecDepth 100000 in
theorem gc_X4_add : Cond.code yX4_add prog_6_method_2_code 2 (some .boolean) ∈ sm_G := sm_g2 (i := 39) rfl rfl
set_option maxRecDepth 100000 in
theorem gi_X4_add : Cond.instanceMethod yX4_add ∈ sm_G := sm_g2 (i := 37) rfl rfl
set_option maxRecDepth 100000 in
theorem ge_X4_add : Cond.selects "SmokeGoesTo$Reader" yX4_add yX4_add ∈ sm_G := sm_g2 (i := 38) rfl rfl
set_option maxRecDepth 100000 in
theorem gc_X4_read : Cond.code yX4_read prog_6_method_4_code 3 (some .int) ∈ sm_G := sm_g2 (i := 43) rfl rfl
set_option maxRecDepth 100000 in
theorem gi_X4_read : Cond.instanceMethod yX4_read ∈ sm_G := sm_g2 (i := 41) rfl rfl
set_option maxRecDepth 100000 in
theorem ge_X4_read : Cond.selects "SmokeGoesTo$Reader" yX4_read yX4_read ∈ sm_G := sm_g2 (i := 42) rfl rfl
set_option maxRecDepth 100000 in
theorem gc_X4_step : Cond.code yX4_step prog_6_method_12_code 1 none ∈ sm_G := sm_g2 (i := 54) rfl rfl
set_option maxRecDepth 100000 in
theorem gi_X4_step : Cond.instanceMethod yX4_step ∈ sm_G := sm_g2 (i := 53) rfl rfl
set_option maxRecDepth 100000 in
theorem ge_X4_step : Cond.selects "SmokeGoesTo$Reader" yX4_step yX4_step ∈ sm_G := sm_g0 (i := 0) rfl rfl
set_option maxRecDepth 100000 in
theorem gc_X4_isDigit : Cond.code yX4_isDigit prog_6_method_16_code 1 (some .boolean) ∈ sm_G := sm_g2 (i := 57) rfl rfl
set_option maxRecDepth 100000 in
theorem gs_X4_isDigit : Cond.static yX4_isDigit ∈ sm_G := sm_g2 (i := 56) rfl rfl
set_option maxRecDepth 100000 in
theorem gc_X4_stepNumber : Cond.code yX4_stepNumber prog_6_method_13_code 1 none ∈ sm_G := sm_g2 (i := 61) rfl rfl
set_option maxRecDepth 100000 in
theorem gi_X4_stepNumber : Cond.instanceMethod yX4_stepNumber ∈ sm_G := sm_g2 (i := 60) rfl rfl
set_option maxRecDepth 100000 in
theorem ge_X4_stepNumber : Cond.selects "SmokeGoesTo$Reader" yX4_stepNumber yX4_stepNumber ∈ sm_G := sm_g0 (i := 1) rfl rfl
set_option maxRecDepth 100000 in
theorem gc_X4_isLetter : Cond.code yX4_isLetter prog_6_method_17_code 1 (some .boolean) ∈ sm_G := sm_g2 (i := 64) rfl rfl
set_option maxRecDepth 100000 in
theorem gs_X4_isLetter : Cond.static yX4_isLetter ∈ sm_G := sm_g2 (i := 63) rfl rfl
set_option maxRecDepth 100000 in
theorem gc_X4_stepWord : Cond.code yX4_stepWord prog_6_method_14_code 2 none ∈ sm_G := sm_g2 (i := 68) rfl rfl
set_option maxRecDepth 100000 in
theorem gi_X4_stepWord : Cond.instanceMethod yX4_stepWord ∈ sm_G := sm_g2 (i := 67) rfl rfl
set_option maxRecDepth 100000 in
theorem ge_X4_stepWord : Cond.selects "SmokeGoesTo$Reader" yX4_stepWord yX4_stepWord ∈ sm_G := sm_g0 (i := 2) rfl rfl
set_option maxRecDepth 100000 in
theorem gc_X4_isWord : Cond.code yX4_isWord prog_6_method_15_code 4 (some .boolean) ∈ sm_G := sm_g2 (i := 72) rfl rfl
set_option maxRecDepth 100000 in
theorem gi_X4_isWord : Cond.instanceMethod yX4_isWord ∈ sm_G := sm_g2 (i := 71) rfl rfl
set_option maxRecDepth 100000 in
theorem ge_X4_isWord : Cond.selects "SmokeGoesTo$Reader" yX4_isWord yX4_isWord ∈ sm_G := sm_g0 (i := 3) rfl rfl
set_option maxRecDepth 100000 in
theorem gc_X4_accept : Cond.code yX4_accept prog_6_method_5_code 2 (some .boolean) ∈ sm_G := sm_g2 (i := 138) rfl rfl
set_option maxRecDepth 100000 in
theorem gi_X4_accept : Cond.instanceMethod yX4_accept ∈ sm_G := sm_g2 (i := 137) rfl rfl
set_option maxRecDepth 100000 in
theorem ge_X4_accept : Cond.selects "SmokeGoesTo$Reader" yX4_accept yX4_accept ∈ sm_G := sm_g0 (i := 4) rfl rfl
set_option maxRecDepth 100000 in
theorem gc_X4_readOr : Cond.code yX4_readOr prog_6_method_6_code 3 (some .boolean) ∈ sm_G := sm_g2 (i := 142) rfl rfl
set_option maxRecDepth 100000 in
theorem gi_X4_readOr : Cond.instanceMethod yX4_readOr ∈ sm_G := sm_g2 (i := 141) rfl rfl
set_option maxRecDepth 100000 in
theorem ge_X4_readOr : Cond.selects "SmokeGoesTo$Reader" yX4_readOr yX4_readOr ∈ sm_G := sm_g0 (i := 5) rfl rfl
set_option maxRecDepth 100000 in
theorem gc_X4_readAnd : Cond.code yX4_readAnd prog_6_method_7_code 3 (some .boolean) ∈ sm_G := sm_g2 (i := 146) rfl rfl
set_option maxRecDepth 100000 in
theorem gi_X4_readAnd : Cond.instanceMethod yX4_readAnd ∈ sm_G := sm_g2 (i := 145) rfl rfl
set_option maxRecDepth 100000 in
theorem ge_X4_readAnd : Cond.selects "SmokeGoesTo$Reader" yX4_readAnd yX4_readAnd ∈ sm_G := sm_g0 (i := 6) rfl rfl
set_option maxRecDepth 100000 in
theorem gc_X4_readNot : Cond.code yX4_readNot prog_6_method_8_code 3 (some .boolean) ∈ sm_G := sm_g2 (i := 150) rfl rfl
set_option maxRecDepth 100000 in
theorem gi_X4_readNot : Cond.instanceMethod yX4_readNot ∈ sm_G := sm_g2 (i := 149) rfl rfl
set_option maxRecDepth 100000 in
theorem ge_X4_readNot : Cond.selects "SmokeGoesTo$Reader" yX4_readNot yX4_readNot ∈ sm_G := sm_g0 (i := 7) rfl rfl
set_option maxRecDepth 100000 in
theorem gc_X4_readSum : Cond.code yX4_readSum prog_6_method_9_code 4 (some .boolean) ∈ sm_G := sm_g2 (i := 162) rfl rfl
set_option maxRecDepth 100000 in
theorem gi_X4_readSum : Cond.instanceMethod yX4_readSum ∈ sm_G := sm_g2 (i := 161) rfl rfl
set_option maxRecDepth 100000 in
theorem ge_X4_readSum : Cond.selects "SmokeGoesTo$Reader" yX4_readSum yX4_readSum ∈ sm_G := sm_g0 (i := 8) rfl rfl
set_option maxRecDepth 100000 in
theorem gc_X4_readTerm : Cond.code yX4_readTerm prog_6_method_10_code 3 (some .boolean) ∈ sm_G := sm_g2 (i := 166) rfl rfl
set_option maxRecDepth 100000 in
theorem gi_X4_readTerm : Cond.instanceMethod yX4_readTerm ∈ sm_G := sm_g2 (i := 165) rfl rfl
set_option maxRecDepth 100000 in
theorem ge_X4_readTerm : Cond.selects "SmokeGoesTo$Reader" yX4_readTerm yX4_readTerm ∈ sm_G := sm_g0 (i := 9) rfl rfl
set_option maxRecDepth 100000 in
theorem gc_X4_readOne : Cond.code yX4_readOne prog_6_method_11_code 2 (some .boolean) ∈ sm_G := sm_g2 (i := 170) rfl rfl
set_option maxRecDepth 100000 in
theorem gi_X4_readOne : Cond.instanceMethod yX4_readOne ∈ sm_G := sm_g2 (i := 169) rfl rfl
set_option maxRecDepth 100000 in
theorem ge_X4_readOne : Cond.selects "SmokeGoesTo$Reader" yX4_readOne yX4_readOne ∈ sm_G := sm_g0 (i := 10) rfl rfl
set_option maxRecDepth 100000 in
theorem gc_X4_empty : Cond.code yX4_empty prog_6_method_3_code 1 none ∈ sm_G := sm_g2 (i := 183) rfl rfl
set_option maxRecDepth 100000 in
theorem gi_X4_empty : Cond.instanceMethod yX4_empty ∈ sm_G := sm_g2 (i := 181) rfl rfl
set_option maxRecDepth 100000 in
theorem ge_X4_empty : Cond.selects "SmokeGoesTo$Reader" yX4_empty yX4_empty ∈ sm_G := sm_g2 (i := 182) rfl rfl
set_option maxRecDepth 100000 in
theorem gc_X6_init : Cond.code yX6_init prog_8_method_1_code 1 none ∈ sm_G := sm_g1 (i := 196) rfl rfl
set_option maxRecDepth 100000 in
theorem gi_X6_init : Cond.instanceMethod yX6_init ∈ sm_G := sm_g1 (i := 195) rfl rfl
set_option maxRecDepth 100000 in
theorem gc_X6_clear : Cond.code yX6_clear prog_8_method_2_code 1 none ∈ sm_G := sm_g2 (i := 47) rfl rfl
set_option maxRecDepth 100000 in
theorem gi_X6_clear : Cond.instanceMethod yX6_clear ∈ sm_G := sm_g2 (i := 45) rfl rfl
set_option maxRecDepth 100000 in
theorem ge_X6_clear : Cond.selects "SmokeGoesTo$Text" yX6_clear yX6_clear ∈ sm_G := sm_g2 (i := 46) rfl rfl
set_option maxRecDepth 100000 in
theorem gc_X6_addOperator : Cond.code yX6_addOperator prog_8_method_5_code 2 none ∈ sm_G := sm_g2 (i := 154) rfl rfl
set_option maxRecDepth 100000 in
theorem gi_X6_addOperator : Cond.instanceMethod yX6_addOperator ∈ sm_G := sm_g2 (i := 152) rfl rfl
set_option maxRecDepth 100000 in
theorem ge_X6_addOperator : Cond.selects "SmokeGoesTo$Text" yX6_addOperator yX6_addOperator ∈ sm_G := sm_g2 (i := 153) rfl rfl
set_option maxRecDepth 100000 in
theorem gc_X6_addNumber : Cond.code yX6_addNumber prog_8_method_3_code 2 none ∈ sm_G := sm_g2 (i := 158) rfl rfl
set_option maxRecDepth 100000 in
theorem gi_X6_addNumber : Cond.instanceMethod yX6_addNumber ∈ sm_G := sm_g2 (i := 156) rfl rfl
set_option maxRecDepth 100000 in
theorem ge_X6_addNumber : Cond.selects "SmokeGoesTo$Text" yX6_addNumber yX6_addNumber ∈ sm_G := sm_g2 (i := 157) rfl rfl
set_option maxRecDepth 100000 in
theorem gc_X6_addName : Cond.code yX6_addName prog_8_method_4_code 2 none ∈ sm_G := sm_g2 (i := 175) rfl rfl
set_option maxRecDepth 100000 in
theorem gi_X6_addName : Cond.instanceMethod yX6_addName ∈ sm_G := sm_g2 (i := 173) rfl rfl
set_option maxRecDepth 100000 in
theorem ge_X6_addName : Cond.selects "SmokeGoesTo$Text" yX6_addName yX6_addName ∈ sm_G := sm_g2 (i := 174) rfl rfl
set_option maxRecDepth 100000 in
theorem gc_X6_endPart : Cond.code yX6_endPart prog_8_method_6_code 2 none ∈ sm_G := sm_g2 (i := 179) rfl rfl
set_option maxRecDepth 100000 in
theorem gi_X6_endPart : Cond.instanceMethod yX6_endPart ∈ sm_G := sm_g2 (i := 177) rfl rfl
set_option maxRecDepth 100000 in
theorem ge_X6_endPart : Cond.selects "SmokeGoesTo$Text" yX6_endPart yX6_endPart ∈ sm_G := sm_g2 (i := 178) rfl rfl
set_option maxRecDepth 100000 in
theorem gc_X6_value : Cond.code yX6_value prog_8_method_7_code 8 (some .int) ∈ sm_G := sm_g3 (i := 121) rfl rfl
set_option maxRecDepth 100000 in
theorem gi_X6_value : Cond.instanceMethod yX6_value ∈ sm_G := sm_g3 (i := 119) rfl rfl
set_option maxRecDepth 100000 in
theorem ge_X6_value : Cond.selects "SmokeGoesTo$Text" yX6_value yX6_value ∈ sm_G := sm_g3 (i := 120) rfl rfl
set_option maxRecDepth 100000 in
theorem gc_X6_joined : Cond.code yX6_joined prog_8_method_8_code 3 (some .int) ∈ sm_G := sm_g3 (i := 124) rfl rfl
set_option maxRecDepth 100000 in
theorem gs_X6_joined : Cond.static yX6_joined ∈ sm_G := sm_g3 (i := 123) rfl rfl
set_option maxRecDepth 100000 in
theorem gc_X5_init : Cond.code yX5_init prog_7_method_1_code 1 none ∈ sm_G := sm_g1 (i := 211) rfl rfl
set_option maxRecDepth 100000 in
theorem gi_X5_init : Cond.instanceMethod yX5_init ∈ sm_G := sm_g1 (i := 210) rfl rfl
set_option maxRecDepth 100000 in
theorem gc_X5_isMissing : Cond.code yX5_isMissing prog_7_method_3_code 1 (some .boolean) ∈ sm_G := sm_g3 (i := 71) rfl rfl
set_option maxRecDepth 100000 in
theorem gi_X5_isMissing : Cond.instanceMethod yX5_isMissing ∈ sm_G := sm_g3 (i := 69) rfl rfl
set_option maxRecDepth 100000 in
theorem ge_X5_isMissing : Cond.selects "SmokeGoesTo$Sheet" yX5_isMissing yX5_isMissing ∈ sm_G := sm_g3 (i := 70) rfl rfl
set_option maxRecDepth 100000 in
theorem gc_X5_item : Cond.code yX5_item prog_7_method_5_code 2 (some .int) ∈ sm_G := sm_g3 (i := 79) rfl rfl
set_option maxRecDepth 100000 in
theorem gi_X5_item : Cond.instanceMethod yX5_item ∈ sm_G := sm_g3 (i := 77) rfl rfl
set_option maxRecDepth 100000 in
theorem ge_X5_item : Cond.selects "SmokeGoesTo$Sheet" yX5_item yX5_item ∈ sm_G := sm_g3 (i := 78) rfl rfl
set_option maxRecDepth 100000 in
theorem gc_X5_become : Cond.code yX5_become prog_7_method_2_code 3 none ∈ sm_G := sm_g4 (i := 39) rfl rfl
set_option maxRecDepth 100000 in
theorem gi_X5_become : Cond.instanceMethod yX5_become ∈ sm_G := sm_g4 (i := 37) rfl rfl
set_option maxRecDepth 100000 in
theorem ge_X5_become : Cond.selects "SmokeGoesTo$Sheet" yX5_become yX5_become ∈ sm_G := sm_g4 (i := 38) rfl rfl
set_option maxRecDepth 100000 in
theorem gc_X5_put : Cond.code yX5_put prog_7_method_6_code 3 none ∈ sm_G := sm_g4 (i := 44) rfl rfl
set_option maxRecDepth 100000 in
theorem gi_X5_put : Cond.instanceMethod yX5_put ∈ sm_G := sm_g4 (i := 42) rfl rfl
set_option maxRecDepth 100000 in
theorem ge_X5_put : Cond.selects "SmokeGoesTo$Sheet" yX5_put yX5_put ∈ sm_G := sm_g4 (i := 43) rfl rfl
set_option maxRecDepth 100000 in
theorem gc_X5_holds : Cond.code yX5_holds prog_7_method_4_code 3 (some .boolean) ∈ sm_G := sm_g4 (i := 87) rfl rfl
set_option maxRecDepth 100000 in
theorem gi_X5_holds : Cond.instanceMethod yX5_holds ∈ sm_G := sm_g4 (i := 85) rfl rfl
set_option maxRecDepth 100000 in
theorem ge_X5_holds : Cond.selects "SmokeGoesTo$Sheet" yX5_holds yX5_holds ∈ sm_G := sm_g4 (i := 86) rfl rfl
set_option maxRecDepth 100000 in
theorem gc_X2_init : Cond.code yX2_init prog_4_method_1_code 1 none ∈ sm_G := sm_g1 (i := 120) rfl rfl
set_option maxRecDepth 100000 in
theorem gi_X2_init : Cond.instanceMethod yX2_init ∈ sm_G := sm_g1 (i := 119) rfl rfl
set_option maxRecDepth 100000 in
theorem gc_X2_takeWinds : Cond.code yX2_takeWinds prog_4_method_2_code 4 none ∈ sm_G := sm_g3 (i := 75) rfl rfl
set_option maxRecDepth 100000 in
theorem gi_X2_takeWinds : Cond.instanceMethod yX2_takeWinds ∈ sm_G := sm_g3 (i := 73) rfl rfl
set_option maxRecDepth 100000 in
theorem ge_X2_takeWinds : Cond.selects "SmokeGoesTo$Night" yX2_takeWinds yX2_takeWinds ∈ sm_G := sm_g3 (i := 74) rfl rfl
set_option maxRecDepth 100000 in
theorem gc_X2_begin : Cond.code yX2_begin prog_4_method_6_code 2 none ∈ sm_G := sm_g3 (i := 87) rfl rfl
set_option maxRecDepth 100000 in
theorem gi_X2_begin : Cond.instanceMethod yX2_begin ∈ sm_G := sm_g3 (i := 85) rfl rfl
set_option maxRecDepth 100000 in
theorem ge_X2_begin : Cond.selects "SmokeGoesTo$Night" yX2_begin yX2_begin ∈ sm_G := sm_g3 (i := 86) rfl rfl
set_option maxRecDepth 100000 in
theorem gc_X2_run : Cond.code yX2_run prog_4_method_7_code 5 none ∈ sm_G := sm_g3 (i := 99) rfl rfl
set_option maxRecDepth 100000 in
theorem gi_X2_run : Cond.instanceMethod yX2_run ∈ sm_G := sm_g3 (i := 97) rfl rfl
set_option maxRecDepth 100000 in
theorem ge_X2_run : Cond.selects "SmokeGoesTo$Night" yX2_run yX2_run ∈ sm_G := sm_g3 (i := 98) rfl rfl
set_option maxRecDepth 100000 in
theorem gc_X2_turn : Cond.code yX2_turn prog_4_method_8_code 3 none ∈ sm_G := sm_g3 (i := 103) rfl rfl
set_option maxRecDepth 100000 in
theorem gi_X2_turn : Cond.instanceMethod yX2_turn ∈ sm_G := sm_g3 (i := 102) rfl rfl
set_option maxRecDepth 100000 in
theorem ge_X2_turn : Cond.selects "SmokeGoesTo$Night" yX2_turn yX2_turn ∈ sm_G := sm_g0 (i := 20) rfl rfl
set_option maxRecDepth 100000 in
theorem gc_X2_feel : Cond.code yX2_feel prog_4_method_9_code 4 none ∈ sm_G := sm_g3 (i := 113) rfl rfl
set_option maxRecDepth 100000 in
theorem gi_X2_feel : Cond.instanceMethod yX2_feel ∈ sm_G := sm_g3 (i := 112) rfl rfl
set_option maxRecDepth 100000 in
theorem ge_X2_feel : Cond.selects "SmokeGoesTo$Night" yX2_feel yX2_feel ∈ sm_G := sm_g0 (i := 21) rfl rfl
set_option maxRecDepth 100000 in
theorem gc_X2_price : Cond.code yX2_price prog_4_method_11_code 4 (some .int) ∈ sm_G := sm_g3 (i := 117) rfl rfl
set_option maxRecDepth 100000 in
theorem gi_X2_price : Cond.instanceMethod yX2_price ∈ sm_G := sm_g3 (i := 116) rfl rfl
set_option maxRecDepth 100000 in
theorem ge_X2_price : Cond.selects "SmokeGoesTo$Night" yX2_price yX2_price ∈ sm_G := sm_g0 (i := 22) rfl rfl
set_option maxRecDepth 100000 in
theorem gc_X2_rise : Cond.code yX2_rise prog_4_method_10_code 6 none ∈ sm_G := sm_g3 (i := 135) rfl rfl
set_option maxRecDepth 100000 in
theorem gi_X2_rise : Cond.instanceMethod yX2_rise ∈ sm_G := sm_g3 (i := 134) rfl rfl
set_option maxRecDepth 100000 in
theorem ge_X2_rise : Cond.selects "SmokeGoesTo$Night" yX2_rise yX2_rise ∈ sm_G := sm_g0 (i := 23) rfl rfl
set_option maxRecDepth 100000 in
theorem gc_X2_ofAll : Cond.code yX2_ofAll prog_4_method_12_code 2 (some .int) ∈ sm_G := sm_g3 (i := 141) rfl rfl
set_option maxRecDepth 100000 in
theorem gi_X2_ofAll : Cond.instanceMethod yX2_ofAll ∈ sm_G := sm_g3 (i := 139) rfl rfl
set_option maxRecDepth 100000 in
theorem ge_X2_ofAll : Cond.selects "SmokeGoesTo$Night" yX2_ofAll yX2_ofAll ∈ sm_G := sm_g3 (i := 140) rfl rfl
set_option maxRecDepth 100000 in
theorem gc_X2_costOfAll : Cond.code yX2_costOfAll prog_4_method_14_code 1 (some .int) ∈ sm_G := sm_g3 (i := 145) rfl rfl
set_option maxRecDepth 100000 in
theorem gi_X2_costOfAll : Cond.instanceMethod yX2_costOfAll ∈ sm_G := sm_g3 (i := 143) rfl rfl
set_option maxRecDepth 100000 in
theorem ge_X2_costOfAll : Cond.selects "SmokeGoesTo$Night" yX2_costOfAll yX2_costOfAll ∈ sm_G := sm_g3 (i := 144) rfl rfl
set_option maxRecDepth 100000 in
theorem gc_X2_sum : Cond.code yX2_sum prog_4_method_16_code 3 (some .int) ∈ sm_G := sm_g3 (i := 148) rfl rfl
set_option maxRecDepth 100000 in
theorem gs_X2_sum : Cond.static yX2_sum ∈ sm_G := sm_g3 (i := 147) rfl rfl
set_option maxRecDepth 100000 in
theorem gc_X2_upsOfAll : Cond.code yX2_upsOfAll prog_4_method_15_code 1 (some .int) ∈ sm_G := sm_g3 (i := 152) rfl rfl
set_option maxRecDepth 100000 in
theorem gi_X2_upsOfAll : Cond.instanceMethod yX2_upsOfAll ∈ sm_G := sm_g3 (i := 150) rfl rfl
set_option maxRecDepth 100000 in
theorem ge_X2_upsOfAll : Cond.selects "SmokeGoesTo$Night" yX2_upsOfAll yX2_upsOfAll ∈ sm_G := sm_g3 (i := 151) rfl rfl
set_option maxRecDepth 100000 in
theorem gc_X2_ofOne : Cond.code yX2_ofOne prog_4_method_13_code 3 (some .int) ∈ sm_G := sm_g3 (i := 156) rfl rfl
set_option maxRecDepth 100000 in
theorem gi_X2_ofOne : Cond.instanceMethod yX2_ofOne ∈ sm_G := sm_g3 (i := 154) rfl rfl
set_option maxRecDepth 100000 in
theorem ge_X2_ofOne : Cond.selects "SmokeGoesTo$Night" yX2_ofOne yX2_ofOne ∈ sm_G := sm_g3 (i := 155) rfl rfl
set_option maxRecDepth 100000 in
theorem gc_X2_takeRow : Cond.code yX2_takeRow prog_4_method_3_code 5 none ∈ sm_G := sm_g4 (i := 18) rfl rfl
set_option maxRecDepth 100000 in
theorem gi_X2_takeRow : Cond.instanceMethod yX2_takeRow ∈ sm_G := sm_g4 (i := 16) rfl rfl
set_option maxRecDepth 100000 in
theorem ge_X2_takeRow : Cond.selects "SmokeGoesTo$Night" yX2_takeRow yX2_takeRow ∈ sm_G := sm_g4 (i := 17) rfl rfl
set_option maxRecDepth 100000 in
theorem gc_X2_digits : Cond.code yX2_digits prog_4_method_5_code 3 (some .int) ∈ sm_G := sm_g4 (i := 27) rfl rfl
set_option maxRecDepth 100000 in
theorem gi_X2_digits : Cond.instanceMethod yX2_digits ∈ sm_G := sm_g4 (i := 25) rfl rfl
set_option maxRecDepth 100000 in
theorem ge_X2_digits : Cond.selects "SmokeGoesTo$Night" yX2_digits yX2_digits ∈ sm_G := sm_g4 (i := 26) rfl rfl
set_option maxRecDepth 100000 in
theorem gc_X2_drawWinds : Cond.code yX2_drawWinds prog_4_method_4_code 7 none ∈ sm_G := sm_g4 (i := 52) rfl rfl
set_option maxRecDepth 100000 in
theorem gi_X2_drawWinds : Cond.instanceMethod yX2_drawWinds ∈ sm_G := sm_g4 (i := 50) rfl rfl
set_option maxRecDepth 100000 in
theorem ge_X2_drawWinds : Cond.selects "SmokeGoesTo$Night" yX2_drawWinds yX2_drawWinds ∈ sm_G := sm_g4 (i := 51) rfl rfl
set_option maxRecDepth 100000 in
theorem gc_X3_init : Cond.code yX3_init prog_5_method_1_code 1 none ∈ sm_G := sm_g1 (i := 174) rfl rfl
set_option maxRecDepth 100000 in
theorem gi_X3_init : Cond.instanceMethod yX3_init ∈ sm_G := sm_g1 (i := 173) rfl rfl
set_option maxRecDepth 100000 in
theorem gc_X3_spread : Cond.code yX3_spread prog_5_method_2_code 4 none ∈ sm_G := sm_g3 (i := 178) rfl rfl
set_option maxRecDepth 100000 in
theorem gi_X3_spread : Cond.instanceMethod yX3_spread ∈ sm_G := sm_g3 (i := 176) rfl rfl
set_option maxRecDepth 100000 in
theorem ge_X3_spread : Cond.selects "SmokeGoesTo$Odds" yX3_spread yX3_spread ∈ sm_G := sm_g3 (i := 177) rfl rfl
set_option maxRecDepth 100000 in
theorem gc_X3_pass : Cond.code yX3_pass prog_5_method_3_code 4 none ∈ sm_G := sm_g3 (i := 186) rfl rfl
set_option maxRecDepth 100000 in
theorem gi_X3_pass : Cond.instanceMethod yX3_pass ∈ sm_G := sm_g3 (i := 185) rfl rfl
set_option maxRecDepth 100000 in
theorem ge_X3_pass : Cond.selects "SmokeGoesTo$Odds" yX3_pass yX3_pass ∈ sm_G := sm_g0 (i := 25) rfl rfl
set_option maxRecDepth 100000 in
theorem gc_X1_exists : Cond.code yX1_exists prog_3_method_2_code 1 (some .boolean) ∈ sm_G := sm_g3 (i := 30) rfl rfl
set_option maxRecDepth 100000 in
theorem gs_X1_exists : Cond.static yX1_exists ∈ sm_G := sm_g3 (i := 29) rfl rfl
set_option maxRecDepth 100000 in
theorem gc_X1_goes : Cond.code yX1_goes prog_3_method_6_code 3 (some .int) ∈ sm_G := sm_g3 (i := 38) rfl rfl
set_option maxRecDepth 100000 in
theorem gs_X1_goes : Cond.static yX1_goes ∈ sm_G := sm_g3 (i := 37) rfl rfl
set_option maxRecDepth 100000 in
theorem gc_X1_getsUp : Cond.code yX1_getsUp prog_3_method_5_code 3 (some .boolean) ∈ sm_G := sm_g3 (i := 44) rfl rfl
set_option maxRecDepth 100000 in
theorem gs_X1_getsUp : Cond.static yX1_getsUp ∈ sm_G := sm_g3 (i := 43) rfl rfl
set_option maxRecDepth 100000 in
theorem gc_X1_bears : Cond.code yX1_bears prog_3_method_7_code 3 (some .int) ∈ sm_G := sm_g3 (i := 129) rfl rfl
set_option maxRecDepth 100000 in
theorem gs_X1_bears : Cond.static yX1_bears ∈ sm_G := sm_g3 (i := 128) rfl rfl
set_option maxRecDepth 100000 in
theorem gc_X1_isUnder : Cond.code yX1_isUnder prog_3_method_3_code 4 (some .boolean) ∈ sm_G := sm_g4 (i := 99) rfl rfl
set_option maxRecDepth 100000 in
theorem gs_X1_isUnder : Cond.static yX1_isUnder ∈ sm_G := sm_g4 (i := 98) rfl rfl
set_option maxRecDepth 100000 in
theorem gc_X1_above : Cond.code yX1_above prog_3_method_4_code 1 (some .int) ∈ sm_G := sm_g4 (i := 102) rfl rfl
set_option maxRecDepth 100000 in
theorem gs_X1_above : Cond.static yX1_above ∈ sm_G := sm_g4 (i := 101) rfl rfl
set_option maxRecDepth 100000 in
theorem gc_X8_init : Cond.code yX8_init prog_10_method_5_code 1 none ∈ sm_G := sm_g4 (i := 107) rfl rfl
set_option maxRecDepth 100000 in
theorem gi_X8_init : Cond.instanceMethod yX8_init ∈ sm_G := sm_g4 (i := 106) rfl rfl
set_option maxRecDepth 100000 in
theorem gc_X8_spell : Cond.code yX8_spell prog_10_method_6_code 10 none ∈ sm_G := sm_g4 (i := 112) rfl rfl
set_option maxRecDepth 100000 in
theorem gi_X8_spell : Cond.instanceMethod yX8_spell ∈ sm_G := sm_g4 (i := 111) rfl rfl
set_option maxRecDepth 100000 in
theorem ge_X8_spell : Cond.selects "SmokeGoesToModel" yX8_spell yX8_spell ∈ sm_G := sm_g0 (i := 33) rfl rfl
set_option maxRecDepth 100000 in
theorem gc_X8_set : Cond.code yX8_set prog_10_method_10_code 6 (some .int) ∈ sm_G := sm_g5 (i := 48) rfl rfl
set_option maxRecDepth 100000 in
theorem gi_X8_set : Cond.instanceMethod yX8_set ∈ sm_G := sm_g5 (i := 46) rfl rfl
set_option maxRecDepth 100000 in
theorem ge_X8_set : Cond.selects "SmokeGoesToModel" yX8_set yX8_set ∈ sm_G := sm_g5 (i := 47) rfl rfl
set_option maxRecDepth 100000 in
theorem gc_X8_in : Cond.code yX8_in prog_10_method_2_code 6 (some .boolean) ∈ sm_G := sm_g5 (i := 52) rfl rfl
set_option maxRecDepth 100000 in
theorem gs_X8_in : Cond.static yX8_in ∈ sm_G := sm_g5 (i := 51) rfl rfl
set_option maxRecDepth 100000 in
theorem gc_X8_isSitter : Cond.code yX8_isSitter prog_10_method_7_code 2 (some .boolean) ∈ sm_G := sm_g5 (i := 56) rfl rfl
set_option maxRecDepth 100000 in
theorem gi_X8_isSitter : Cond.instanceMethod yX8_isSitter ∈ sm_G := sm_g5 (i := 55) rfl rfl
set_option maxRecDepth 100000 in
theorem ge_X8_isSitter : Cond.selects "SmokeGoesToModel" yX8_isSitter yX8_isSitter ∈ sm_G := sm_g0 (i := 34) rfl rfl
set_option maxRecDepth 100000 in
theorem gc_X8_onPlace : Cond.code yX8_onPlace prog_10_method_9_code 4 (some .int) ∈ sm_G := sm_g5 (i := 60) rfl rfl
set_option maxRecDepth 100000 in
theorem gi_X8_onPlace : Cond.instanceMethod yX8_onPlace ∈ sm_G := sm_g5 (i := 59) rfl rfl
set_option maxRecDepth 100000 in
theorem ge_X8_onPlace : Cond.selects "SmokeGoesToModel" yX8_onPlace yX8_onPlace ∈ sm_G := sm_g0 (i := 35) rfl rfl
set_option maxRecDepth 100000 in
theorem gc_X8_sitter : Cond.code yX8_sitter prog_10_method_11_code 4 (some .int) ∈ sm_G := sm_g5 (i := 64) rfl rfl
set_option maxRecDepth 100000 in
theorem gi_X8_sitter : Cond.instanceMethod yX8_sitter ∈ sm_G := sm_g5 (i := 62) rfl rfl
set_option maxRecDepth 100000 in
theorem ge_X8_sitter : Cond.selects "SmokeGoesToModel" yX8_sitter yX8_sitter ∈ sm_G := sm_g5 (i := 63) rfl rfl
set_option maxRecDepth 100000 in
theorem gc_X8_isPlace : Cond.code yX8_isPlace prog_10_method_8_code 1 (some .boolean) ∈ sm_G := sm_g5 (i := 69) rfl rfl
set_option maxRecDepth 100000 in
theorem gs_X8_isPlace : Cond.static yX8_isPlace ∈ sm_G := sm_g5 (i := 68) rfl rfl
set_option maxRecDepth 100000 in
theorem gc_X8_told : Cond.code yX8_told prog_10_method_14_code 3 (some .int) ∈ sm_G := sm_g5 (i := 74) rfl rfl
set_option maxRecDepth 100000 in
theorem gi_X8_told : Cond.instanceMethod yX8_told ∈ sm_G := sm_g5 (i := 72) rfl rfl
set_option maxRecDepth 100000 in
theorem ge_X8_told : Cond.selects "SmokeGoesToModel" yX8_told yX8_told ∈ sm_G := sm_g5 (i := 73) rfl rfl
set_option maxRecDepth 100000 in
theorem gc_X8_goesTo : Cond.code yX8_goesTo prog_10_method_13_code 5 (some .int) ∈ sm_G := sm_g5 (i := 78) rfl rfl
set_option maxRecDepth 100000 in
theorem gi_X8_goesTo : Cond.instanceMethod yX8_goesTo ∈ sm_G := sm_g5 (i := 77) rfl rfl
set_option maxRecDepth 100000 in
theorem ge_X8_goesTo : Cond.selects "SmokeGoesToModel" yX8_goesTo yX8_goesTo ∈ sm_G := sm_g0 (i := 36) rfl rfl
set_option maxRecDepth 100000 in
theorem gc_X8_round : Cond.code yX8_round prog_10_method_4_code 1 (some .int) ∈ sm_G := sm_g5 (i := 81) rfl rfl
set_option maxRecDepth 100000 in
theorem gs_X8_round : Cond.static yX8_round ∈ sm_G := sm_g5 (i := 80) rfl rfl
set_option maxRecDepth 100000 in
theorem gc_X8_getsUp : Cond.code yX8_getsUp prog_10_method_12_code 4 (some .boolean) ∈ sm_G := sm_g5 (i := 85) rfl rfl
set_option maxRecDepth 100000 in
theorem gi_X8_getsUp : Cond.instanceMethod yX8_getsUp ∈ sm_G := sm_g5 (i := 84) rfl rfl
set_option maxRecDepth 100000 in
theorem ge_X8_getsUp : Cond.selects "SmokeGoesToModel" yX8_getsUp yX8_getsUp ∈ sm_G := sm_g0 (i := 37) rfl rfl
set_option maxRecDepth 100000 in
theorem gc_X8_feed : Cond.code yX8_feed prog_10_method_15_code 2 (some .int) ∈ sm_G := sm_g5 (i := 89) rfl rfl
set_option maxRecDepth 100000 in
theorem gi_X8_feed : Cond.instanceMethod yX8_feed ∈ sm_G := sm_g5 (i := 87) rfl rfl
set_option maxRecDepth 100000 in
theorem ge_X8_feed : Cond.selects "SmokeGoesToModel" yX8_feed yX8_feed ∈ sm_G := sm_g5 (i := 88) rfl rfl
set_option maxRecDepth 100000 in
theorem gc_X8_text : Cond.code yX8_text prog_10_method_32_code 2 (some .int) ∈ sm_G := sm_g5 (i := 94) rfl rfl
set_option maxRecDepth 100000 in
theorem gi_X8_text : Cond.instanceMethod yX8_text ∈ sm_G := sm_g5 (i := 92) rfl rfl
set_option maxRecDepth 100000 in
theorem ge_X8_text : Cond.selects "SmokeGoesToModel" yX8_text yX8_text ∈ sm_G := sm_g5 (i := 93) rfl rfl
set_option maxRecDepth 100000 in
theorem gc_X8_read : Cond.code yX8_read prog_10_method_31_code 6 (some .int) ∈ sm_G := sm_g5 (i := 98) rfl rfl
set_option maxRecDepth 100000 in
theorem gi_X8_read : Cond.instanceMethod yX8_read ∈ sm_G := sm_g5 (i := 97) rfl rfl
set_option maxRecDepth 100000 in
theorem ge_X8_read : Cond.selects "SmokeGoesToModel" yX8_read yX8_read ∈ sm_G := sm_g0 (i := 38) rfl rfl
set_option maxRecDepth 100000 in
theorem gc_X8_next : Cond.code yX8_next prog_10_method_17_code 3 none ∈ sm_G := sm_g5 (i := 102) rfl rfl
set_option maxRecDepth 100000 in
theorem gi_X8_next : Cond.instanceMethod yX8_next ∈ sm_G := sm_g5 (i := 101) rfl rfl
set_option maxRecDepth 100000 in
theorem ge_X8_next : Cond.selects "SmokeGoesToModel" yX8_next yX8_next ∈ sm_G := sm_g0 (i := 39) rfl rfl
set_option maxRecDepth 100000 in
theorem gc_X8_byteAt : Cond.code yX8_byteAt prog_10_method_16_code 2 (some .int) ∈ sm_G := sm_g5 (i := 106) rfl rfl
set_option maxRecDepth 100000 in
theorem gi_X8_byteAt : Cond.instanceMethod yX8_byteAt ∈ sm_G := sm_g5 (i := 105) rfl rfl
set_option maxRecDepth 100000 in
theorem ge_X8_byteAt : Cond.selects "SmokeGoesToModel" yX8_byteAt yX8_byteAt ∈ sm_G := sm_g0 (i := 40) rfl rfl
set_option maxRecDepth 100000 in
theorem gc_X8_isWord : Cond.code yX8_isWord prog_10_method_20_code 9 (some .boolean) ∈ sm_G := sm_g5 (i := 115) rfl rfl
set_option maxRecDepth 100000 in
theorem gi_X8_isWord : Cond.instanceMethod yX8_isWord ∈ sm_G := sm_g5 (i := 114) rfl rfl
set_option maxRecDepth 100000 in
theorem ge_X8_isWord : Cond.selects "SmokeGoesToModel" yX8_isWord yX8_isWord ∈ sm_G := sm_g0 (i := 41) rfl rfl
set_option maxRecDepth 100000 in
theorem gc_X8_isLetter : Cond.code yX8_isLetter prog_10_method_19_code 3 (some .boolean) ∈ sm_G := sm_g5 (i := 119) rfl rfl
set_option maxRecDepth 100000 in
theorem gi_X8_isLetter : Cond.instanceMethod yX8_isLetter ∈ sm_G := sm_g5 (i := 118) rfl rfl
set_option maxRecDepth 100000 in
theorem ge_X8_isLetter : Cond.selects "SmokeGoesToModel" yX8_isLetter yX8_isLetter ∈ sm_G := sm_g0 (i := 42) rfl rfl
set_option maxRecDepth 100000 in
theorem gc_X8_part : Cond.code yX8_part prog_10_method_30_code 3 (some .int) ∈ sm_G := sm_g5 (i := 123) rfl rfl
set_option maxRecDepth 100000 in
theorem gi_X8_part : Cond.instanceMethod yX8_part ∈ sm_G := sm_g5 (i := 122) rfl rfl
set_option maxRecDepth 100000 in
theorem ge_X8_part : Cond.selects "SmokeGoesToModel" yX8_part yX8_part ∈ sm_G := sm_g0 (i := 43) rfl rfl
set_option maxRecDepth 100000 in
theorem gc_X8_fail : Cond.code yX8_fail prog_10_method_18_code 1 none ∈ sm_G := sm_g5 (i := 127) rfl rfl
set_option maxRecDepth 100000 in
theorem gi_X8_fail : Cond.instanceMethod yX8_fail ∈ sm_G := sm_g5 (i := 126) rfl rfl
set_option maxRecDepth 100000 in
theorem ge_X8_fail : Cond.selects "SmokeGoesToModel" yX8_fail yX8_fail ∈ sm_G := sm_g0 (i := 44) rfl rfl
set_option maxRecDepth 100000 in
theorem gc_X8_either : Cond.code yX8_either prog_10_method_29_code 3 (some .int) ∈ sm_G := sm_g5 (i := 131) rfl rfl
set_option maxRecDepth 100000 in
theorem gi_X8_either : Cond.instanceMethod yX8_either ∈ sm_G := sm_g5 (i := 130) rfl rfl
set_option maxRecDepth 100000 in
theorem ge_X8_either : Cond.selects "SmokeGoesToModel" yX8_either yX8_either ∈ sm_G := sm_g0 (i := 45) rfl rfl
set_option maxRecDepth 100000 in
theorem gc_X8_both : Cond.code yX8_both prog_10_method_28_code 3 (some .int) ∈ sm_G := sm_g5 (i := 135) rfl rfl
set_option maxRecDepth 100000 in
theorem gi_X8_both : Cond.instanceMethod yX8_both ∈ sm_G := sm_g5 (i := 134) rfl rfl
set_option maxRecDepth 100000 in
theorem ge_X8_both : Cond.selects "SmokeGoesToModel" yX8_both yX8_both ∈ sm_G := sm_g0 (i := 46) rfl rfl
set_option maxRecDepth 100000 in
theorem gc_X8_not : Cond.code yX8_not prog_10_method_27_code 4 (some .int) ∈ sm_G := sm_g5 (i := 139) rfl rfl
set_option maxRecDepth 100000 in
theorem gi_X8_not : Cond.instanceMethod yX8_not ∈ sm_G := sm_g5 (i := 138) rfl rfl
set_option maxRecDepth 100000 in
theorem ge_X8_not : Cond.selects "SmokeGoesToModel" yX8_not yX8_not ∈ sm_G := sm_g0 (i := 47) rfl rfl
set_option maxRecDepth 100000 in
theorem gc_X8_opens : Cond.code yX8_opens prog_10_method_22_code 1 (some .boolean) ∈ sm_G := sm_g5 (i := 143) rfl rfl
set_option maxRecDepth 100000 in
theorem gi_X8_opens : Cond.instanceMethod yX8_opens ∈ sm_G := sm_g5 (i := 142) rfl rfl
set_option maxRecDepth 100000 in
theorem ge_X8_opens : Cond.selects "SmokeGoesToModel" yX8_opens yX8_opens ∈ sm_G := sm_g0 (i := 48) rfl rfl
set_option maxRecDepth 100000 in
theorem gc_X8_added : Cond.code yX8_added prog_10_method_26_code 4 (some .int) ∈ sm_G := sm_g5 (i := 147) rfl rfl
set_option maxRecDepth 100000 in
theorem gi_X8_added : Cond.instanceMethod yX8_added ∈ sm_G := sm_g5 (i := 146) rfl rfl
set_option maxRecDepth 100000 in
theorem ge_X8_added : Cond.selects "SmokeGoesToModel" yX8_added yX8_added ∈ sm_G := sm_g0 (i := 49) rfl rfl
set_option maxRecDepth 100000 in
theorem gc_X8_term : Cond.code yX8_term prog_10_method_25_code 2 (some .int) ∈ sm_G := sm_g5 (i := 151) rfl rfl
set_option maxRecDepth 100000 in
theorem gi_X8_term : Cond.instanceMethod yX8_term ∈ sm_G := sm_g5 (i := 150) rfl rfl
set_option maxRecDepth 100000 in
theorem ge_X8_term : Cond.selects "SmokeGoesToModel" yX8_term yX8_term ∈ sm_G := sm_g0 (i := 50) rfl rfl
set_option maxRecDepth 100000 in
theorem gc_X8_atom : Cond.code yX8_atom prog_10_method_24_code 2 (some .int) ∈ sm_G := sm_g5 (i := 155) rfl rfl
set_option maxRecDepth 100000 in
theorem gi_X8_atom : Cond.instanceMethod yX8_atom ∈ sm_G := sm_g5 (i := 154) rfl rfl
set_option maxRecDepth 100000 in
theorem ge_X8_atom : Cond.selects "SmokeGoesToModel" yX8_atom yX8_atom ∈ sm_G := sm_g0 (i := 51) rfl rfl
set_option maxRecDepth 100000 in
theorem gc_X8_isSign : Cond.code yX8_isSign prog_10_method_21_code 2 (some .boolean) ∈ sm_G := sm_g5 (i := 159) rfl rfl
set_option maxRecDepth 100000 in
theorem gi_X8_isSign : Cond.instanceMethod yX8_isSign ∈ sm_G := sm_g5 (i := 158) rfl rfl
set_option maxRecDepth 100000 in
theorem ge_X8_isSign : Cond.selects "SmokeGoesToModel" yX8_isSign yX8_isSign ∈ sm_G := sm_g0 (i := 52) rfl rfl
set_option maxRecDepth 100000 in
theorem gc_X8_name : Cond.code yX8_name prog_10_method_23_code 1 (some .int) ∈ sm_G := sm_g5 (i := 163) rfl rfl
set_option maxRecDepth 100000 in
theorem gi_X8_name : Cond.instanceMethod yX8_name ∈ sm_G := sm_g5 (i := 162) rfl rfl
set_option maxRecDepth 100000 in
theorem ge_X8_name : Cond.selects "SmokeGoesToModel" yX8_name yX8_name ∈ sm_G := sm_g0 (i := 53) rfl rfl
set_option maxRecDepth 100000 in
theorem gc_X8_force : Cond.code yX8_force prog_10_method_33_code 3 (some .int) ∈ sm_G := sm_g5 (i := 169) rfl rfl
set_option maxRecDepth 100000 in
theorem gi_X8_force : Cond.instanceMethod yX8_force ∈ sm_G := sm_g5 (i := 167) rfl rfl
set_option maxRecDepth 100000 in
theorem ge_X8_force : Cond.selects "SmokeGoesToModel" yX8_force yX8_force ∈ sm_G := sm_g5 (i := 168) rfl rfl
set_option maxRecDepth 100000 in
theorem gc_X8_night : Cond.code yX8_night prog_10_method_46_code 5 (some .int) ∈ sm_G := sm_g5 (i := 173) rfl rfl
set_option maxRecDepth 100000 in
theorem gi_X8_night : Cond.instanceMethod yX8_night ∈ sm_G := sm_g5 (i := 171) rfl rfl
set_option maxRecDepth 100000 in
theorem ge_X8_night : Cond.selects "SmokeGoesToModel" yX8_night yX8_night ∈ sm_G := sm_g5 (i := 172) rfl rfl
set_option maxRecDepth 100000 in
theorem gc_X8_isSheet : Cond.code yX8_isSheet prog_10_method_67_code 1 (some .boolean) ∈ sm_G := sm_g5 (i := 176) rfl rfl
set_option maxRecDepth 100000 in
theorem gs_X8_isSheet : Cond.static yX8_isSheet ∈ sm_G := sm_g5 (i := 175) rfl rfl
set_option maxRecDepth 100000 in
theorem gc_X8_layAside : Cond.code yX8_layAside prog_10_method_40_code 2 none ∈ sm_G := sm_g5 (i := 182) rfl rfl
set_option maxRecDepth 100000 in
theorem gi_X8_layAside : Cond.instanceMethod yX8_layAside ∈ sm_G := sm_g5 (i := 181) rfl rfl
set_option maxRecDepth 100000 in
theorem ge_X8_layAside : Cond.selects "SmokeGoesToModel" yX8_layAside yX8_layAside ∈ sm_G := sm_g0 (i := 54) rfl rfl
set_option maxRecDepth 100000 in
theorem gc_X8_nights : Cond.code yX8_nights prog_10_method_43_code 3 none ∈ sm_G := sm_g5 (i := 186) rfl rfl
set_option maxRecDepth 100000 in
theorem gi_X8_nights : Cond.instanceMethod yX8_nights ∈ sm_G := sm_g5 (i := 185) rfl rfl
set_option maxRecDepth 100000 in
theorem ge_X8_nights : Cond.selects "SmokeGoesToModel" yX8_nights yX8_nights ∈ sm_G := sm_g0 (i := 55) rfl rfl
set_option maxRecDepth 100000 in
theorem gc_X8_begins : Cond.code yX8_begins prog_10_method_36_code 2 none ∈ sm_G := sm_g5 (i := 190) rfl rfl
set_option maxRecDepth 100000 in
theorem gi_X8_begins : Cond.instanceMethod yX8_begins ∈ sm_G := sm_g5 (i := 189) rfl rfl
set_option maxRecDepth 100000 in
theorem ge_X8_begins : Cond.selects "SmokeGoesToModel" yX8_begins yX8_begins ∈ sm_G := sm_g0 (i := 56) rfl rfl
set_option maxRecDepth 100000 in
theorem gc_X8_windOf : Cond.code yX8_windOf prog_10_method_42_code 1 (some .int) ∈ sm_G := sm_g5 (i := 193) rfl rfl
set_option maxRecDepth 100000 in
theorem gs_X8_windOf : Cond.static yX8_windOf ∈ sm_G := sm_g5 (i := 192) rfl rfl
set_option maxRecDepth 100000 in
theorem gc_X8_passes : Cond.code yX8_passes prog_10_method_39_code 6 none ∈ sm_G := sm_g5 (i := 197) rfl rfl
set_option maxRecDepth 100000 in
theorem gi_X8_passes : Cond.instanceMethod yX8_passes ∈ sm_G := sm_g5 (i := 196) rfl rfl
set_option maxRecDepth 100000 in
theorem ge_X8_passes : Cond.selects "SmokeGoesToModel" yX8_passes yX8_passes ∈ sm_G := sm_g0 (i := 57) rfl rfl
set_option maxRecDepth 100000 in
theorem gc_X8_turns : Cond.code yX8_turns prog_10_method_37_code 4 none ∈ sm_G := sm_g5 (i := 201) rfl rfl
set_option maxRecDepth 100000 in
theorem gi_X8_turns : Cond.instanceMethod yX8_turns ∈ sm_G := sm_g5 (i := 200) rfl rfl
set_option maxRecDepth 100000 in
theorem ge_X8_turns : Cond.selects "SmokeGoesToModel" yX8_turns yX8_turns ∈ sm_G := sm_g0 (i := 58) rfl rfl
set_option maxRecDepth 100000 in
theorem gc_X8_bearsOf : Cond.code yX8_bearsOf prog_10_method_35_code 7 (some .int) ∈ sm_G := sm_g5 (i := 205) rfl rfl
set_option maxRecDepth 100000 in
theorem gi_X8_bearsOf : Cond.instanceMethod yX8_bearsOf ∈ sm_G := sm_g5 (i := 204) rfl rfl
set_option maxRecDepth 100000 in
theorem ge_X8_bearsOf : Cond.selects "SmokeGoesToModel" yX8_bearsOf yX8_bearsOf ∈ sm_G := sm_g0 (i := 59) rfl rfl
set_option maxRecDepth 100000 in
theorem gc_X8_says : Cond.code yX8_says prog_10_method_34_code 5 (some .int) ∈ sm_G := sm_g5 (i := 209) rfl rfl
set_option maxRecDepth 100000 in
theorem gi_X8_says : Cond.instanceMethod yX8_says ∈ sm_G := sm_g5 (i := 208) rfl rfl
set_option maxRecDepth 100000 in
theorem ge_X8_says : Cond.selects "SmokeGoesToModel" yX8_says yX8_says ∈ sm_G := sm_g0 (i := 60) rfl rfl
set_option maxRecDepth 100000 in
theorem gc_X8_within : Cond.code yX8_within prog_10_method_3_code 3 (some .int) ∈ sm_G := sm_g5 (i := 212) rfl rfl
set_option maxRecDepth 100000 in
theorem gs_X8_within : Cond.static yX8_within ∈ sm_G := sm_g5 (i := 211) rfl rfl
set_option maxRecDepth 100000 in
theorem gc_X8_firstFree : Cond.code yX8_firstFree prog_10_method_38_code 4 (some .int) ∈ sm_G := sm_g5 (i := 216) rfl rfl
set_option maxRecDepth 100000 in
theorem gi_X8_firstFree : Cond.instanceMethod yX8_firstFree ∈ sm_G := sm_g5 (i := 215) rfl rfl
set_option maxRecDepth 100000 in
theorem ge_X8_firstFree : Cond.selects "SmokeGoesToModel" yX8_firstFree yX8_firstFree ∈ sm_G := sm_g0 (i := 61) rfl rfl
set_option maxRecDepth 100000 in
theorem gc_X8_sumOf : Cond.code yX8_sumOf prog_10_method_44_code 4 (some .int) ∈ sm_G := sm_g5 (i := 220) rfl rfl
set_option maxRecDepth 100000 in
theorem gi_X8_sumOf : Cond.instanceMethod yX8_sumOf ∈ sm_G := sm_g5 (i := 219) rfl rfl
set_option maxRecDepth 100000 in
theorem ge_X8_sumOf : Cond.selects "SmokeGoesToModel" yX8_sumOf yX8_sumOf ∈ sm_G := sm_g0 (i := 62) rfl rfl
set_option maxRecDepth 100000 in
theorem gc_X8_takeBack : Cond.code yX8_takeBack prog_10_method_41_code 2 none ∈ sm_G := sm_g5 (i := 224) rfl rfl
set_option maxRecDepth 100000 in
theorem gi_X8_takeBack : Cond.instanceMethod yX8_takeBack ∈ sm_G := sm_g5 (i := 223) rfl rfl
set_option maxRecDepth 100000 in
theorem ge_X8_takeBack : Cond.selects "SmokeGoesToModel" yX8_takeBack yX8_takeBack ∈ sm_G := sm_g0 (i := 63) rfl rfl
set_option maxRecDepth 100000 in
theorem gc_X8_sit : Cond.code yX8_sit prog_10_method_47_code 2 (some .int) ∈ sm_G := sm_g5 (i := 228) rfl rfl
set_option maxRecDepth 100000 in
theorem gi_X8_sit : Cond.instanceMethod yX8_sit ∈ sm_G := sm_g5 (i := 226) rfl rfl
set_option maxRecDepth 100000 in
theorem ge_X8_sit : Cond.selects "SmokeGoesToModel" yX8_sit yX8_sit ∈ sm_G := sm_g5 (i := 227) rfl rfl
set_option maxRecDepth 100000 in
theorem gc_X8_likely : Cond.code yX8_likely prog_10_method_50_code 4 (some .long) ∈ sm_G := sm_g5 (i := 232) rfl rfl
set_option maxRecDepth 100000 in
theorem gi_X8_likely : Cond.instanceMethod yX8_likely ∈ sm_G := sm_g5 (i := 230) rfl rfl
set_option maxRecDepth 100000 in
theorem ge_X8_likely : Cond.selects "SmokeGoesToModel" yX8_likely yX8_likely ∈ sm_G := sm_g5 (i := 231) rfl rfl
set_option maxRecDepth 100000 in
theorem gc_X8_spreads : Cond.code yX8_spreads prog_10_method_48_code 4 none ∈ sm_G := sm_g5 (i := 238) rfl rfl
set_option maxRecDepth 100000 in
theorem gi_X8_spreads : Cond.instanceMethod yX8_spreads ∈ sm_G := sm_g5 (i := 237) rfl rfl
set_option maxRecDepth 100000 in
theorem ge_X8_spreads : Cond.selects "SmokeGoesToModel" yX8_spreads yX8_spreads ∈ sm_G := sm_g0 (i := 64) rfl rfl
set_option maxRecDepth 100000 in
theorem gc_X8_lowest : Cond.code yX8_lowest prog_10_method_49_code 11 (some .long) ∈ sm_G := sm_g6 (i := 2) rfl rfl
set_option maxRecDepth 100000 in
theorem gs_X8_lowest : Cond.static yX8_lowest ∈ sm_G := sm_g6 (i := 1) rfl rfl
set_option maxRecDepth 100000 in
theorem gc_X8_mean : Cond.code yX8_mean prog_10_method_51_code 4 (some .long) ∈ sm_G := sm_g6 (i := 6) rfl rfl
set_option maxRecDepth 100000 in
theorem gi_X8_mean : Cond.instanceMethod yX8_mean ∈ sm_G := sm_g6 (i := 4) rfl rfl
set_option maxRecDepth 100000 in
theorem ge_X8_mean : Cond.selects "SmokeGoesToModel" yX8_mean yX8_mean ∈ sm_G := sm_g6 (i := 5) rfl rfl
set_option maxRecDepth 100000 in
theorem gc_X8_seat : Cond.code yX8_seat prog_10_method_52_code 6 (some .int) ∈ sm_G := sm_g6 (i := 10) rfl rfl
set_option maxRecDepth 100000 in
theorem gi_X8_seat : Cond.instanceMethod yX8_seat ∈ sm_G := sm_g6 (i := 8) rfl rfl
set_option maxRecDepth 100000 in
theorem ge_X8_seat : Cond.selects "SmokeGoesToModel" yX8_seat yX8_seat ∈ sm_G := sm_g6 (i := 9) rfl rfl
set_option maxRecDepth 100000 in
theorem gc_X8_gap : Cond.code yX8_gap prog_10_method_54_code 3 (some .int) ∈ sm_G := sm_g6 (i := 14) rfl rfl
set_option maxRecDepth 100000 in
theorem gi_X8_gap : Cond.instanceMethod yX8_gap ∈ sm_G := sm_g6 (i := 12) rfl rfl
set_option maxRecDepth 100000 in
theorem ge_X8_gap : Cond.selects "SmokeGoesToModel" yX8_gap yX8_gap ∈ sm_G := sm_g6 (i := 13) rfl rfl
set_option maxRecDepth 100000 in
theorem gc_X8_seatsFrom : Cond.code yX8_seatsFrom prog_10_method_53_code 6 none ∈ sm_G := sm_g6 (i := 18) rfl rfl
set_option maxRecDepth 100000 in
theorem gi_X8_seatsFrom : Cond.instanceMethod yX8_seatsFrom ∈ sm_G := sm_g6 (i := 17) rfl rfl
set_option maxRecDepth 100000 in
theorem ge_X8_seatsFrom : Cond.selects "SmokeGoesToModel" yX8_seatsFrom yX8_seatsFrom ∈ sm_G := sm_g0 (i := 65) rfl rfl
set_option maxRecDepth 100000 in
theorem gc_X8_stay : Cond.code yX8_stay prog_10_method_55_code 6 (some .int) ∈ sm_G := sm_g6 (i := 22) rfl rfl
set_option maxRecDepth 100000 in
theorem gi_X8_stay : Cond.instanceMethod yX8_stay ∈ sm_G := sm_g6 (i := 20) rfl rfl
set_option maxRecDepth 100000 in
theorem ge_X8_stay : Cond.selects "SmokeGoesToModel" yX8_stay yX8_stay ∈ sm_G := sm_g6 (i := 21) rfl rfl
set_option maxRecDepth 100000 in
theorem gc_X8_costOf : Cond.code yX8_costOf prog_10_method_45_code 2 (some .int) ∈ sm_G := sm_g6 (i := 26) rfl rfl
set_option maxRecDepth 100000 in
theorem gi_X8_costOf : Cond.instanceMethod yX8_costOf ∈ sm_G := sm_g6 (i := 25) rfl rfl
set_option maxRecDepth 100000 in
theorem ge_X8_costOf : Cond.selects "SmokeGoesToModel" yX8_costOf yX8_costOf ∈ sm_G := sm_g0 (i := 66) rfl rfl
set_option maxRecDepth 100000 in
theorem gc_X8_eddies : Cond.code yX8_eddies prog_10_method_56_code 5 (some .int) ∈ sm_G := sm_g6 (i := 30) rfl rfl
set_option maxRecDepth 100000 in
theorem gi_X8_eddies : Cond.instanceMethod yX8_eddies ∈ sm_G := sm_g6 (i := 28) rfl rfl
set_option maxRecDepth 100000 in
theorem ge_X8_eddies : Cond.selects "SmokeGoesToModel" yX8_eddies yX8_eddies ∈ sm_G := sm_g6 (i := 29) rfl rfl
set_option maxRecDepth 100000 in
theorem gc_X8_best : Cond.code yX8_best prog_10_method_57_code 8 (some .int) ∈ sm_G := sm_g6 (i := 35) rfl rfl
set_option maxRecDepth 100000 in
theorem gi_X8_best : Cond.instanceMethod yX8_best ∈ sm_G := sm_g6 (i := 33) rfl rfl
set_option maxRecDepth 100000 in
theorem ge_X8_best : Cond.selects "SmokeGoesToModel" yX8_best yX8_best ∈ sm_G := sm_g6 (i := 34) rfl rfl
set_option maxRecDepth 100000 in
theorem gc_X8_eyes : Cond.code yX8_eyes prog_10_method_59_code 7 (some .int) ∈ sm_G := sm_g6 (i := 39) rfl rfl
set_option maxRecDepth 100000 in
theorem gi_X8_eyes : Cond.instanceMethod yX8_eyes ∈ sm_G := sm_g6 (i := 37) rfl rfl
set_option maxRecDepth 100000 in
theorem ge_X8_eyes : Cond.selects "SmokeGoesToModel" yX8_eyes yX8_eyes ∈ sm_G := sm_g6 (i := 38) rfl rfl
set_option maxRecDepth 100000 in
theorem gc_X8_rowsOf : Cond.code yX8_rowsOf prog_10_method_58_code 9 none ∈ sm_G := sm_g6 (i := 45) rfl rfl
set_option maxRecDepth 100000 in
theorem gi_X8_rowsOf : Cond.instanceMethod yX8_rowsOf ∈ sm_G := sm_g6 (i := 44) rfl rfl
set_option maxRecDepth 100000 in
theorem ge_X8_rowsOf : Cond.selects "SmokeGoesToModel" yX8_rowsOf yX8_rowsOf ∈ sm_G := sm_g0 (i := 67) rfl rfl
set_option maxRecDepth 100000 in
theorem gc_X8_film : Cond.code yX8_film prog_10_method_60_code 4 (some .int) ∈ sm_G := sm_g6 (i := 49) rfl rfl
set_option maxRecDepth 100000 in
theorem gi_X8_film : Cond.instanceMethod yX8_film ∈ sm_G := sm_g6 (i := 47) rfl rfl
set_option maxRecDepth 100000 in
theorem ge_X8_film : Cond.selects "SmokeGoesToModel" yX8_film yX8_film ∈ sm_G := sm_g6 (i := 48) rfl rfl
set_option maxRecDepth 100000 in
theorem gc_X8_sheet : Cond.code yX8_sheet prog_10_method_68_code 5 (some .int) ∈ sm_G := sm_g6 (i := 53) rfl rfl
set_option maxRecDepth 100000 in
theorem gi_X8_sheet : Cond.instanceMethod yX8_sheet ∈ sm_G := sm_g6 (i := 51) rfl rfl
set_option maxRecDepth 100000 in
theorem ge_X8_sheet : Cond.selects "SmokeGoesToModel" yX8_sheet yX8_sheet ∈ sm_G := sm_g6 (i := 52) rfl rfl
set_option maxRecDepth 100000 in
theorem gc_X8_drawn : Cond.code yX8_drawn prog_10_method_62_code 2 (some .int) ∈ sm_G := sm_g6 (i := 58) rfl rfl
set_option maxRecDepth 100000 in
theorem gi_X8_drawn : Cond.instanceMethod yX8_drawn ∈ sm_G := sm_g6 (i := 56) rfl rfl
set_option maxRecDepth 100000 in
theorem ge_X8_drawn : Cond.selects "SmokeGoesToModel" yX8_drawn yX8_drawn ∈ sm_G := sm_g6 (i := 57) rfl rfl
set_option maxRecDepth 100000 in
theorem gc_X8_draws : Cond.code yX8_draws prog_10_method_61_code 5 (some .int) ∈ sm_G := sm_g6 (i := 62) rfl rfl
set_option maxRecDepth 100000 in
theorem gi_X8_draws : Cond.instanceMethod yX8_draws ∈ sm_G := sm_g6 (i := 61) rfl rfl
set_option maxRecDepth 100000 in
theorem ge_X8_draws : Cond.selects "SmokeGoesToModel" yX8_draws yX8_draws ∈ sm_G := sm_g0 (i := 68) rfl rfl
set_option maxRecDepth 100000 in
theorem gc_X8_chance : Cond.code yX8_chance prog_10_method_63_code 7 (some .long) ∈ sm_G := sm_g6 (i := 67) rfl rfl
set_option maxRecDepth 100000 in
theorem gi_X8_chance : Cond.instanceMethod yX8_chance ∈ sm_G := sm_g6 (i := 65) rfl rfl
set_option maxRecDepth 100000 in
theorem ge_X8_chance : Cond.selects "SmokeGoesToModel" yX8_chance yX8_chance ∈ sm_G := sm_g6 (i := 66) rfl rfl
set_option maxRecDepth 100000 in
theorem gc_X8_image : Cond.code yX8_image prog_10_method_64_code 2 (some .int) ∈ sm_G := sm_g6 (i := 72) rfl rfl
set_option maxRecDepth 100000 in
theorem gi_X8_image : Cond.instanceMethod yX8_image ∈ sm_G := sm_g6 (i := 70) rfl rfl
set_option maxRecDepth 100000 in
theorem ge_X8_image : Cond.selects "SmokeGoesToModel" yX8_image yX8_image ∈ sm_G := sm_g6 (i := 71) rfl rfl
set_option maxRecDepth 100000 in
theorem gc_X8_back : Cond.code yX8_back prog_10_method_65_code 2 (some .int) ∈ sm_G := sm_g6 (i := 76) rfl rfl
set_option maxRecDepth 100000 in
theorem gi_X8_back : Cond.instanceMethod yX8_back ∈ sm_G := sm_g6 (i := 74) rfl rfl
set_option maxRecDepth 100000 in
theorem ge_X8_back : Cond.selects "SmokeGoesToModel" yX8_back yX8_back ∈ sm_G := sm_g6 (i := 75) rfl rfl
set_option maxRecDepth 100000 in
theorem gc_X8_count : Cond.code yX8_count prog_10_method_66_code 2 (some .int) ∈ sm_G := sm_g6 (i := 80) rfl rfl
set_option maxRecDepth 100000 in
theorem gi_X8_count : Cond.instanceMethod yX8_count ∈ sm_G := sm_g6 (i := 78) rfl rfl
set_option maxRecDepth 100000 in
theorem ge_X8_count : Cond.selects "SmokeGoesToModel" yX8_count yX8_count ∈ sm_G := sm_g6 (i := 79) rfl rfl
set_option maxRecDepth 100000 in
theorem gc_X8_cell : Cond.code yX8_cell prog_10_method_69_code 4 (some .int) ∈ sm_G := sm_g6 (i := 85) rfl rfl
set_option maxRecDepth 100000 in
theorem gi_X8_cell : Cond.instanceMethod yX8_cell ∈ sm_G := sm_g6 (i := 83) rfl rfl
set_option maxRecDepth 100000 in
theorem ge_X8_cell : Cond.selects "SmokeGoesToModel" yX8_cell yX8_cell ∈ sm_G := sm_g6 (i := 84) rfl rfl
set_option maxRecDepth 100000 in
theorem gc_X8_copy : Cond.code yX8_copy prog_10_method_70_code 9 (some .int) ∈ sm_G := sm_g6 (i := 89) rfl rfl
set_option maxRecDepth 100000 in
theorem gi_X8_copy : Cond.instanceMethod yX8_copy ∈ sm_G := sm_g6 (i := 87) rfl rfl
set_option maxRecDepth 100000 in
theorem ge_X8_copy : Cond.selects "SmokeGoesToModel" yX8_copy yX8_copy ∈ sm_G := sm_g6 (i := 88) rfl rfl
set_option maxRecDepth 100000 in
theorem gc_X8_sitters : Cond.code yX8_sitters prog_10_method_71_code 8 (some .int) ∈ sm_G := sm_g6 (i := 93) rfl rfl
set_option maxRecDepth 100000 in
theorem gi_X8_sitters : Cond.instanceMethod yX8_sitters ∈ sm_G := sm_g6 (i := 91) rfl rfl
set_option maxRecDepth 100000 in
theorem ge_X8_sitters : Cond.selects "SmokeGoesToModel" yX8_sitters yX8_sitters ∈ sm_G := sm_g6 (i := 92) rfl rfl
set_option maxRecDepth 100000 in
theorem gc_X8_taken : Cond.code yX8_taken prog_10_method_73_code 4 (some .int) ∈ sm_G := sm_g6 (i := 98) rfl rfl
set_option maxRecDepth 100000 in
theorem gi_X8_taken : Cond.instanceMethod yX8_taken ∈ sm_G := sm_g6 (i := 96) rfl rfl
set_option maxRecDepth 100000 in
theorem ge_X8_taken : Cond.selects "SmokeGoesToModel" yX8_taken yX8_taken ∈ sm_G := sm_g6 (i := 97) rfl rfl
set_option maxRecDepth 100000 in
theorem gc_X8_over : Cond.code yX8_over prog_10_method_72_code 1 (some .int) ∈ sm_G := sm_g6 (i := 101) rfl rfl
set_option maxRecDepth 100000 in
theorem gs_X8_over : Cond.static yX8_over ∈ sm_G := sm_g6 (i := 100) rfl rfl
set_option maxRecDepth 100000 in
theorem gc_J0_length_8abf5 : Cond.code yJ0_length_8abf5 prog_13_method_54_code 1 (some .int) ∈ sm_G := sm_g1 (i := 231) rfl rfl
set_option maxRecDepth 100000 in
theorem gi_J0_length_8abf5 : Cond.instanceMethod yJ0_length_8abf5 ∈ sm_G := sm_g1 (i := 229) rfl rfl
set_option maxRecDepth 100000 in
theorem ge_J0_length_8abf5 : Cond.selects "java/lang/String" yJ0_length_8abf5 yJ0_length_8abf5 ∈ sm_G := sm_g1 (i := 230) rfl rfl
set_option maxRecDepth 100000 in
theorem gc_J0_coder_7d493 : Cond.code yJ0_coder_7d493 prog_13_method_152_code 1 (some .byte) ∈ sm_G := sm_g1 (i := 235) rfl rfl
set_option maxRecDepth 100000 in
theorem gi_J0_coder_7d493 : Cond.instanceMethod yJ0_coder_7d493 ∈ sm_G := sm_g1 (i := 233) rfl rfl
set_option maxRecDepth 100000 in
theorem ge_J0_coder_7d493 : Cond.selects "java/lang/String" yJ0_coder_7d493 yJ0_coder_7d493 ∈ sm_G := sm_g1 (i := 234) rfl rfl
set_option maxRecDepth 100000 in
theorem gc_J0_charAt_5068e : Cond.code yJ0_charAt_5068e prog_13_method_56_code 2 (some .char) ∈ sm_G := sm_g2 (i := 1) rfl rfl
set_option maxRecDepth 100000 in
theorem gi_J0_charAt_5068e : Cond.instanceMethod yJ0_charAt_5068e ∈ sm_G := sm_g1 (i := 239) rfl rfl
set_option maxRecDepth 100000 in
theorem ge_J0_charAt_5068e : Cond.selects "java/lang/String" yJ0_charAt_5068e yJ0_charAt_5068e ∈ sm_G := sm_g2 (i := 0) rfl rfl
set_option maxRecDepth 100000 in
theorem gc_J0_isLatin1_aae02 : Cond.code yJ0_isLatin1_aae02 prog_13_method_154_code 1 (some .boolean) ∈ sm_G := sm_g2 (i := 5) rfl rfl
set_option maxRecDepth 100000 in
theorem gi_J0_isLatin1_aae02 : Cond.instanceMethod yJ0_isLatin1_aae02 ∈ sm_G := sm_g2 (i := 3) rfl rfl
set_option maxRecDepth 100000 in
theorem ge_J0_isLatin1_aae02 : Cond.selects "java/lang/String" yJ0_isLatin1_aae02 yJ0_isLatin1_aae02 ∈ sm_G := sm_g2 (i := 4) rfl rfl
set_option maxRecDepth 100000 in
theorem gc_J1_charAt_3b067 : Cond.code yJ1_charAt_3b067 prog_14_method_2_code 2 (some .char) ∈ sm_G := sm_g2 (i := 8) rfl rfl
set_option maxRecDepth 100000 in
theorem gs_J1_charAt_3b067 : Cond.static yJ1_charAt_3b067 ∈ sm_G := sm_g2 (i := 7) rfl rfl
set_option maxRecDepth 100000 in
theorem gc_J0_checkIndex_df160 : Cond.code yJ0_checkIndex_df160 prog_13_method_155_code 2 none ∈ sm_G := sm_g2 (i := 11) rfl rfl
set_option maxRecDepth 100000 in
theorem gs_J0_checkIndex_df160 : Cond.static yJ0_checkIndex_df160 ∈ sm_G := sm_g2 (i := 10) rfl rfl
set_option maxRecDepth 100000 in
theorem gc_J3_checkIndex_8e157 : Cond.code yJ3_checkIndex_8e157 prog_18_method_11_code 3 (some .int) ∈ sm_G := sm_g2 (i := 16) rfl rfl
set_option maxRecDepth 100000 in
theorem gs_J3_checkIndex_8e157 : Cond.static yJ3_checkIndex_8e157 ∈ sm_G := sm_g2 (i := 15) rfl rfl
set_option maxRecDepth 100000 in
theorem gc_J7_fill_53178 : Cond.code yJ7_fill_53178 prog_17_method_103_code 4 none ∈ sm_G := sm_g2 (i := 50) rfl rfl
set_option maxRecDepth 100000 in
theorem gs_J7_fill_53178 : Cond.static yJ7_fill_53178 ∈ sm_G := sm_g2 (i := 49) rfl rfl
set_option maxRecDepth 100000 in
theorem gc_J7_fill_d0a16 : Cond.code yJ7_fill_d0a16 prog_17_method_101_code 5 none ∈ sm_G := sm_g3 (i := 181) rfl rfl
set_option maxRecDepth 100000 in
theorem gs_J7_fill_d0a16 : Cond.static yJ7_fill_d0a16 ∈ sm_G := sm_g3 (i := 180) rfl rfl
set_option maxRecDepth 100000 in
theorem gc_J0_indexOf_0f7a4 : Cond.code yJ0_indexOf_0f7a4 prog_13_method_79_code 2 (some .int) ∈ sm_G := sm_g2 (i := 79) rfl rfl
set_option maxRecDepth 100000 in
theorem gi_J0_indexOf_0f7a4 : Cond.instanceMethod yJ0_indexOf_0f7a4 ∈ sm_G := sm_g2 (i := 77) rfl rfl
set_option maxRecDepth 100000 in
theorem ge_J0_indexOf_0f7a4 : Cond.selects "java/lang/String" yJ0_indexOf_0f7a4 yJ0_indexOf_0f7a4 ∈ sm_G := sm_g2 (i := 78) rfl rfl
set_option maxRecDepth 100000 in
theorem gc_J0_indexOf_7cf53 : Cond.code yJ0_indexOf_7cf53 prog_13_method_80_code 3 (some .int) ∈ sm_G := sm_g2 (i := 83) rfl rfl
set_option maxRecDepth 100000 in
theorem gi_J0_indexOf_7cf53 : Cond.instanceMethod yJ0_indexOf_7cf53 ∈ sm_G := sm_g2 (i := 81) rfl rfl
set_option maxRecDepth 100000 in
theorem ge_J0_indexOf_7cf53 : Cond.selects "java/lang/String" yJ0_indexOf_7cf53 yJ0_indexOf_7cf53 ∈ sm_G := sm_g2 (i := 82) rfl rfl
set_option maxRecDepth 100000 in
theorem gc_J1_indexOf_4cfef : Cond.code yJ1_indexOf_4cfef prog_14_method_22_code 4 (some .int) ∈ sm_G := sm_g2 (i := 87) rfl rfl
set_option maxRecDepth 100000 in
theorem gs_J1_indexOf_4cfef : Cond.static yJ1_indexOf_4cfef ∈ sm_G := sm_g2 (i := 86) rfl rfl
set_option maxRecDepth 100000 in
theorem gc_J1_canEncode_9a6ad : Cond.code yJ1_canEncode_9a6ad prog_14_method_4_code 1 (some .boolean) ∈ sm_G := sm_g2 (i := 90) rfl rfl
set_option maxRecDepth 100000 in
theorem gs_J1_canEncode_9a6ad : Cond.static yJ1_canEncode_9a6ad ∈ sm_G := sm_g2 (i := 89) rfl rfl
set_option maxRecDepth 100000 in
theorem gc_J1_indexOfChar_4cfef : Cond.code yJ1_indexOfChar_4cfef prog_14_method_23_code 6 (some .int) ∈ sm_G := sm_g2 (i := 99) rfl rfl
set_option maxRecDepth 100000 in
theorem gs_J1_indexOfChar_4cfef : Cond.static yJ1_indexOfChar_4cfef ∈ sm_G := sm_g2 (i := 98) rfl rfl
set_option maxRecDepth 100000 in
theorem gn_Law : Cond.initialized "SmokeGoesToLaw" ∈ sm_G := sm_g1 (i := 0) rfl rfl
set_option maxRecDepth 100000 in
theorem gn_S : Cond.initialized "SmokeGoesTo" ∈ sm_G := sm_g1 (i := 1) rfl rfl
set_option maxRecDepth 100000 in
theorem gn_Fire : Cond.initialized "SmokeGoesTo$Fire" ∈ sm_G := sm_g1 (i := 2) rfl rfl
set_option maxRecDepth 100000 in
theorem gn_Reader : Cond.initialized "SmokeGoesTo$Reader" ∈ sm_G := sm_g1 (i := 3) rfl rfl
set_option maxRecDepth 100000 in
theorem gn_Night : Cond.initialized "SmokeGoesTo$Night" ∈ sm_G := sm_g1 (i := 4) rfl rfl
set_option maxRecDepth 100000 in
theorem gn_Odds : Cond.initialized "SmokeGoesTo$Odds" ∈ sm_G := sm_g1 (i := 5) rfl rfl
set_option maxRecDepth 100000 in
theorem gn_Text : Cond.initialized "SmokeGoesTo$Text" ∈ sm_G := sm_g1 (i := 6) rfl rfl
set_option maxRecDepth 100000 in
theorem gn_Sheet : Cond.initialized "SmokeGoesTo$Sheet" ∈ sm_G := sm_g1 (i := 7) rfl rfl
set_option maxRecDepth 100000 in
theorem gn_String : Cond.initialized "java/lang/String" ∈ sm_G := sm_g1 (i := 8) rfl rfl
set_option maxRecDepth 100000 in
theorem gn_Latin : Cond.initialized "java/lang/StringLatin1" ∈ sm_G := sm_g1 (i := 9) rfl rfl
set_option maxRecDepth 100000 in
theorem gn_Pre : Cond.initialized "jdk/internal/util/Preconditions" ∈ sm_G := sm_g1 (i := 10) rfl rfl
set_option maxRecDepth 100000 in
theorem gn_Utf : Cond.initialized "java/lang/StringUTF16" ∈ sm_G := sm_g1 (i := 11) rfl rfl
set_option maxRecDepth 100000 in
theorem gn_Arrays : Cond.initialized "java/util/Arrays" ∈ sm_G := sm_g1 (i := 12) rfl rfl
set_option maxRecDepth 100000 in
theorem gn_Math : Cond.initialized "java/lang/Math" ∈ sm_G := sm_g1 (i := 13) rfl rfl
set_option maxRecDepth 100000 in
theorem gn_Char : Cond.initialized "java/lang/Character" ∈ sm_G := sm_g1 (i := 14) rfl rfl
set_option maxRecDepth 100000 in
theorem gn_M : Cond.initialized "SmokeGoesToModel" ∈ sm_G := sm_g1 (i := 15) rfl rfl
set_option maxRecDepth 100000 in
theorem gn_Kind : Cond.initialized "SmokeGoesTo$Kind" ∈ sm_G := sm_g1 (i := 16) rfl rfl
set_option maxRecDepth 100000 in
theorem gn_Sys : Cond.initialized "java/lang/System" ∈ sm_G := sm_g1 (i := 17) rfl rfl
set_option maxRecDepth 100000 in
theorem gl_Law_9 : Cond.methodLink "SmokeGoesToLaw" 9 yX7_init ∈ sm_G := sm_g1 (i := 20) rfl rfl
set_option maxRecDepth 100000 in
theorem gl_S_3 : Cond.methodLink "SmokeGoesTo" 3 Lib.objectInit ∈ sm_G := sm_g1 (i := 23) rfl rfl
set_option maxRecDepth 100000 in
theorem gl_Fire_3 : Cond.methodLink "SmokeGoesTo$Fire" 3 Lib.objectInit ∈ sm_G := sm_g1 (i := 31) rfl rfl
set_option maxRecDepth 100000 in
theorem gl_Reader_7 : Cond.methodLink "SmokeGoesTo$Reader" 7 Lib.objectInit ∈ sm_G := sm_g1 (i := 88) rfl rfl
set_option maxRecDepth 100000 in
theorem gl_Night_3 : Cond.methodLink "SmokeGoesTo$Night" 3 Lib.objectInit ∈ sm_G := sm_g1 (i := 121) rfl rfl
set_option maxRecDepth 100000 in
theorem gl_Odds_3 : Cond.methodLink "SmokeGoesTo$Odds" 3 Lib.objectInit ∈ sm_G := sm_g1 (i := 175) rfl rfl
set_option maxRecDepth 100000 in
theorem gl_Text_3 : Cond.methodLink "SmokeGoesTo$Text" 3 Lib.objectInit ∈ sm_G := sm_g1 (i := 197) rfl rfl
set_option maxRecDepth 100000 in
theorem gl_Sheet_3 : Cond.methodLink "SmokeGoesTo$Sheet" 3 Lib.objectInit ∈ sm_G := sm_g1 (i := 212) rfl rfl
set_option maxRecDepth 100000 in
theorem gl_S_64 : Cond.methodLink "SmokeGoesTo" 64 yJ0_length_8abf5 ∈ sm_G := sm_g1 (i := 228) rfl rfl
set_option maxRecDepth 100000 in
theorem gl_String_335 : Cond.methodLink "java/lang/String" 335 yJ0_coder_7d493 ∈ sm_G := sm_g1 (i := 232) rfl rfl
set_option maxRecDepth 100000 in
theorem gl_S_70 : Cond.methodLink "SmokeGoesTo" 70 yJ0_charAt_5068e ∈ sm_G := sm_g1 (i := 238) rfl rfl
set_option maxRecDepth 100000 in
theorem gl_String_492 : Cond.methodLink "java/lang/String" 492 yJ0_isLatin1_aae02 ∈ sm_G := sm_g2 (i := 2) rfl rfl
set_option maxRecDepth 100000 in
theorem gl_String_495 : Cond.methodLink "java/lang/String" 495 yJ1_charAt_3b067 ∈ sm_G := sm_g2 (i := 6) rfl rfl
set_option maxRecDepth 100000 in
theorem gl_Latin_9 : Cond.methodLink "java/lang/StringLatin1" 9 yJ0_checkIndex_df160 ∈ sm_G := sm_g2 (i := 9) rfl rfl
set_option maxRecDepth 100000 in
theorem gl_String_1059 : Cond.methodLink "java/lang/String" 1059 yJ3_checkIndex_8e157 ∈ sm_G := sm_g2 (i := 14) rfl rfl
set_option maxRecDepth 100000 in
theorem gl_S_74 : Cond.methodLink "SmokeGoesTo" 74 yX4_add ∈ sm_G := sm_g2 (i := 36) rfl rfl
set_option maxRecDepth 100000 in
theorem gl_S_78 : Cond.methodLink "SmokeGoesTo" 78 yX4_read ∈ sm_G := sm_g2 (i := 40) rfl rfl
set_option maxRecDepth 100000 in
theorem gl_Reader_37 : Cond.methodLink "SmokeGoesTo$Reader" 37 yX6_clear ∈ sm_G := sm_g2 (i := 44) rfl rfl
set_option maxRecDepth 100000 in
theorem gl_Text_22 : Cond.methodLink "SmokeGoesTo$Text" 22 yJ7_fill_53178 ∈ sm_G := sm_g2 (i := 48) rfl rfl
set_option maxRecDepth 100000 in
theorem gl_Reader_40 : Cond.methodLink "SmokeGoesTo$Reader" 40 yX4_step ∈ sm_G := sm_g2 (i := 51) rfl rfl
set_option maxRecDepth 100000 in
theorem gl_Reader_78 : Cond.methodLink "SmokeGoesTo$Reader" 78 yX4_isDigit ∈ sm_G := sm_g2 (i := 55) rfl rfl
set_option maxRecDepth 100000 in
theorem gl_Reader_81 : Cond.methodLink "SmokeGoesTo$Reader" 81 yX4_stepNumber ∈ sm_G := sm_g2 (i := 58) rfl rfl
set_option maxRecDepth 100000 in
theorem gl_Reader_84 : Cond.methodLink "SmokeGoesTo$Reader" 84 yX4_isLetter ∈ sm_G := sm_g2 (i := 62) rfl rfl
set_option maxRecDepth 100000 in
theorem gl_Reader_87 : Cond.methodLink "SmokeGoesTo$Reader" 87 yX4_stepWord ∈ sm_G := sm_g2 (i := 65) rfl rfl
set_option maxRecDepth 100000 in
theorem gl_Reader_98 : Cond.methodLink "SmokeGoesTo$Reader" 98 yX4_isWord ∈ sm_G := sm_g2 (i := 69) rfl rfl
set_option maxRecDepth 100000 in
theorem gl_Reader_103 : Cond.methodLink "SmokeGoesTo$Reader" 103 yJ0_charAt_5068e ∈ sm_G := sm_g2 (i := 74) rfl rfl
set_option maxRecDepth 100000 in
theorem gl_Reader_92 : Cond.methodLink "SmokeGoesTo$Reader" 92 yJ0_indexOf_0f7a4 ∈ sm_G := sm_g2 (i := 76) rfl rfl
set_option maxRecDepth 100000 in
theorem gl_String_633 : Cond.methodLink "java/lang/String" 633 yJ0_indexOf_7cf53 ∈ sm_G := sm_g2 (i := 80) rfl rfl
set_option maxRecDepth 100000 in
theorem gl_String_505 : Cond.methodLink "java/lang/String" 505 yJ0_length_8abf5 ∈ sm_G := sm_g2 (i := 84) rfl rfl
set_option maxRecDepth 100000 in
theorem gl_String_637 : Cond.methodLink "java/lang/String" 637 yJ1_indexOf_4cfef ∈ sm_G := sm_g2 (i := 85) rfl rfl
set_option maxRecDepth 100000 in
theorem gl_Latin_88 : Cond.methodLink "java/lang/StringLatin1" 88 yJ1_canEncode_9a6ad ∈ sm_G := sm_g2 (i := 88) rfl rfl
set_option maxRecDepth 100000 in
theorem gl_Latin_92 : Cond.methodLink "java/lang/StringLatin1" 92 Lib.Math.max.name ∈ sm_G := sm_g2 (i := 91) rfl rfl
set_option maxRecDepth 100000 in
theorem gl_Latin_38 : Cond.methodLink "java/lang/StringLatin1" 38 Lib.Math.min.name ∈ sm_G := sm_g2 (i := 94) rfl rfl
set_option maxRecDepth 100000 in
theorem gl_Latin_95 : Cond.methodLink "java/lang/StringLatin1" 95 yJ1_indexOfChar_4cfef ∈ sm_G := sm_g2 (i := 97) rfl rfl
set_option maxRecDepth 100000 in
theorem gl_Reader_43 : Cond.methodLink "SmokeGoesTo$Reader" 43 yX4_accept ∈ sm_G := sm_g2 (i := 135) rfl rfl
set_option maxRecDepth 100000 in
theorem gl_Reader_47 : Cond.methodLink "SmokeGoesTo$Reader" 47 yX4_readOr ∈ sm_G := sm_g2 (i := 139) rfl rfl
set_option maxRecDepth 100000 in
theorem gl_Reader_54 : Cond.methodLink "SmokeGoesTo$Reader" 54 yX4_readAnd ∈ sm_G := sm_g2 (i := 143) rfl rfl
set_option maxRecDepth 100000 in
theorem gl_Reader_60 : Cond.methodLink "SmokeGoesTo$Reader" 60 yX4_readNot ∈ sm_G := sm_g2 (i := 147) rfl rfl
set_option maxRecDepth 100000 in
theorem gl_Reader_57 : Cond.methodLink "SmokeGoesTo$Reader" 57 yX6_addOperator ∈ sm_G := sm_g2 (i := 151) rfl rfl
set_option maxRecDepth 100000 in
theorem gl_Text_28 : Cond.methodLink "SmokeGoesTo$Text" 28 yX6_addNumber ∈ sm_G := sm_g2 (i := 155) rfl rfl
set_option maxRecDepth 100000 in
theorem gl_Reader_63 : Cond.methodLink "SmokeGoesTo$Reader" 63 yX4_readSum ∈ sm_G := sm_g2 (i := 159) rfl rfl
set_option maxRecDepth 100000 in
theorem gl_Reader_66 : Cond.methodLink "SmokeGoesTo$Reader" 66 yX4_readTerm ∈ sm_G := sm_g2 (i := 163) rfl rfl
set_option maxRecDepth 100000 in
theorem gl_Reader_69 : Cond.methodLink "SmokeGoesTo$Reader" 69 yX4_readOne ∈ sm_G := sm_g2 (i := 167) rfl rfl
set_option maxRecDepth 100000 in
theorem gl_Reader_72 : Cond.methodLink "SmokeGoesTo$Reader" 72 yX6_addNumber ∈ sm_G := sm_g2 (i := 171) rfl rfl
set_option maxRecDepth 100000 in
theorem gl_Reader_75 : Cond.methodLink "SmokeGoesTo$Reader" 75 yX6_addName ∈ sm_G := sm_g2 (i := 172) rfl rfl
set_option maxRecDepth 100000 in
theorem gl_Reader_50 : Cond.methodLink "SmokeGoesTo$Reader" 50 yX6_endPart ∈ sm_G := sm_g2 (i := 176) rfl rfl
set_option maxRecDepth 100000 in
theorem gl_S_82 : Cond.methodLink "SmokeGoesTo" 82 yX4_empty ∈ sm_G := sm_g2 (i := 180) rfl rfl
set_option maxRecDepth 100000 in
theorem gl_Law_13 : Cond.methodLink "SmokeGoesToLaw" 13 yX7_set ∈ sm_G := sm_g2 (i := 213) rfl rfl
set_option maxRecDepth 100000 in
theorem gl_S_85 : Cond.methodLink "SmokeGoesTo" 85 yX7_setSmoke ∈ sm_G := sm_g2 (i := 217) rfl rfl
set_option maxRecDepth 100000 in
theorem gl_S_108 : Cond.methodLink "SmokeGoesTo" 108 yX7_isPlace ∈ sm_G := sm_g2 (i := 221) rfl rfl
set_option maxRecDepth 100000 in
theorem gl_S_89 : Cond.methodLink "SmokeGoesTo" 89 yX7_setLeft ∈ sm_G := sm_g2 (i := 224) rfl rfl
set_option maxRecDepth 100000 in
theorem gl_S_92 : Cond.methodLink "SmokeGoesTo" 92 yX7_setRight ∈ sm_G := sm_g2 (i := 228) rfl rfl
set_option maxRecDepth 100000 in
theorem gl_S_95 : Cond.methodLink "SmokeGoesTo" 95 yX7_setTents ∈ sm_G := sm_g2 (i := 232) rfl rfl
set_option maxRecDepth 100000 in
theorem gl_S_98 : Cond.methodLink "SmokeGoesTo" 98 yX7_setEddy ∈ sm_G := sm_g2 (i := 236) rfl rfl
set_option maxRecDepth 100000 in
theorem gl_S_101 : Cond.methodLink "SmokeGoesTo" 101 yX7_setNumber ∈ sm_G := sm_g3 (i := 0) rfl rfl
set_option maxRecDepth 100000 in
theorem gl_S_126 : Cond.methodLink "SmokeGoesTo" 126 yX0_has ∈ sm_G := sm_g3 (i := 4) rfl rfl
set_option maxRecDepth 100000 in
theorem gl_S_105 : Cond.methodLink "SmokeGoesTo" 105 yX7_setPlace ∈ sm_G := sm_g3 (i := 8) rfl rfl
set_option maxRecDepth 100000 in
theorem gl_S_133 : Cond.methodLink "SmokeGoesTo" 133 yX0_isFreeFor ∈ sm_G := sm_g3 (i := 12) rfl rfl
set_option maxRecDepth 100000 in
theorem gl_Fire_49 : Cond.methodLink "SmokeGoesTo$Fire" 49 yX0_whoIsOn ∈ sm_G := sm_g3 (i := 16) rfl rfl
set_option maxRecDepth 100000 in
theorem gl_Law_18 : Cond.methodLink "SmokeGoesToLaw" 18 yX7_sitter ∈ sm_G := sm_g3 (i := 20) rfl rfl
set_option maxRecDepth 100000 in
theorem gl_S_140 : Cond.methodLink "SmokeGoesTo" 140 yX0_come ∈ sm_G := sm_g3 (i := 24) rfl rfl
set_option maxRecDepth 100000 in
theorem gl_Fire_53 : Cond.methodLink "SmokeGoesTo$Fire" 53 yX1_exists ∈ sm_G := sm_g3 (i := 28) rfl rfl
set_option maxRecDepth 100000 in
theorem gl_Law_22 : Cond.methodLink "SmokeGoesToLaw" 22 yX7_told ∈ sm_G := sm_g3 (i := 32) rfl rfl
set_option maxRecDepth 100000 in
theorem gl_S_147 : Cond.methodLink "SmokeGoesTo" 147 yX1_goes ∈ sm_G := sm_g3 (i := 36) rfl rfl
set_option maxRecDepth 100000 in
theorem gl_S_152 : Cond.methodLink "SmokeGoesTo" 152 yX1_getsUp ∈ sm_G := sm_g3 (i := 42) rfl rfl
set_option maxRecDepth 100000 in
theorem gl_Law_27 : Cond.methodLink "SmokeGoesToLaw" 27 yX7_feed ∈ sm_G := sm_g3 (i := 45) rfl rfl
set_option maxRecDepth 100000 in
theorem gl_Law_32 : Cond.methodLink "SmokeGoesToLaw" 32 yX7_text ∈ sm_G := sm_g3 (i := 49) rfl rfl
set_option maxRecDepth 100000 in
theorem gl_Law_37 : Cond.methodLink "SmokeGoesToLaw" 37 yX7_force ∈ sm_G := sm_g3 (i := 53) rfl rfl
set_option maxRecDepth 100000 in
theorem gl_Law_41 : Cond.methodLink "SmokeGoesToLaw" 41 yX7_night ∈ sm_G := sm_g3 (i := 57) rfl rfl
set_option maxRecDepth 100000 in
theorem gl_S_162 : Cond.methodLink "SmokeGoesTo" 162 yX7_isSheet ∈ sm_G := sm_g3 (i := 61) rfl rfl
set_option maxRecDepth 100000 in
theorem gl_S_165 : Cond.methodLink "SmokeGoesTo" 165 yX7_isNightWhat ∈ sm_G := sm_g3 (i := 64) rfl rfl
set_option maxRecDepth 100000 in
theorem gl_S_168 : Cond.methodLink "SmokeGoesTo" 168 yX5_isMissing ∈ sm_G := sm_g3 (i := 68) rfl rfl
set_option maxRecDepth 100000 in
theorem gl_S_172 : Cond.methodLink "SmokeGoesTo" 172 yX2_takeWinds ∈ sm_G := sm_g3 (i := 72) rfl rfl
set_option maxRecDepth 100000 in
theorem gl_Night_67 : Cond.methodLink "SmokeGoesTo$Night" 67 yX5_item ∈ sm_G := sm_g3 (i := 76) rfl rfl
set_option maxRecDepth 100000 in
theorem gl_S_176 : Cond.methodLink "SmokeGoesTo" 176 yX7_thinkAsItIs ∈ sm_G := sm_g3 (i := 80) rfl rfl
set_option maxRecDepth 100000 in
theorem gl_S_200 : Cond.methodLink "SmokeGoesTo" 200 yX2_begin ∈ sm_G := sm_g3 (i := 84) rfl rfl
set_option maxRecDepth 100000 in
theorem gl_Night_72 : Cond.methodLink "SmokeGoesTo$Night" 72 yX0_become ∈ sm_G := sm_g3 (i := 88) rfl rfl
set_option maxRecDepth 100000 in
theorem gl_Fire_43 : Cond.methodLink "SmokeGoesTo$Fire" 43 arraycopyName ∈ sm_G := sm_g3 (i := 92) rfl rfl
set_option maxRecDepth 100000 in
theorem gl_Night_76 : Cond.methodLink "SmokeGoesTo$Night" 76 yJ7_fill_53178 ∈ sm_G := sm_g3 (i := 95) rfl rfl
set_option maxRecDepth 100000 in
theorem gl_S_204 : Cond.methodLink "SmokeGoesTo" 204 yX2_run ∈ sm_G := sm_g3 (i := 96) rfl rfl
set_option maxRecDepth 100000 in
theorem gl_Night_82 : Cond.methodLink "SmokeGoesTo$Night" 82 yX2_turn ∈ sm_G := sm_g3 (i := 100) rfl rfl
set_option maxRecDepth 100000 in
theorem gl_Night_89 : Cond.methodLink "SmokeGoesTo$Night" 89 yX0_hasTent ∈ sm_G := sm_g3 (i := 105) rfl rfl
set_option maxRecDepth 100000 in
theorem gl_Night_93 : Cond.methodLink "SmokeGoesTo$Night" 93 yX0_whoIsOn ∈ sm_G := sm_g3 (i := 109) rfl rfl
set_option maxRecDepth 100000 in
theorem gl_Night_97 : Cond.methodLink "SmokeGoesTo$Night" 97 yX2_feel ∈ sm_G := sm_g3 (i := 110) rfl rfl
set_option maxRecDepth 100000 in
theorem gl_Night_126 : Cond.methodLink "SmokeGoesTo$Night" 126 yX2_price ∈ sm_G := sm_g3 (i := 114) rfl rfl
set_option maxRecDepth 100000 in
theorem gl_Night_146 : Cond.methodLink "SmokeGoesTo$Night" 146 yX6_value ∈ sm_G := sm_g3 (i := 118) rfl rfl
set_option maxRecDepth 100000 in
theorem gl_Text_34 : Cond.methodLink "SmokeGoesTo$Text" 34 yX6_joined ∈ sm_G := sm_g3 (i := 122) rfl rfl
set_option maxRecDepth 100000 in
theorem gl_Night_150 : Cond.methodLink "SmokeGoesTo$Night" 150 Lib.Math.min.name ∈ sm_G := sm_g3 (i := 125) rfl rfl
set_option maxRecDepth 100000 in
theorem gl_Night_130 : Cond.methodLink "SmokeGoesTo$Night" 130 Lib.Math.max.name ∈ sm_G := sm_g3 (i := 126) rfl rfl
set_option maxRecDepth 100000 in
theorem gl_Night_136 : Cond.methodLink "SmokeGoesTo$Night" 136 yX1_bears ∈ sm_G := sm_g3 (i := 127) rfl rfl
set_option maxRecDepth 100000 in
theorem gl_Kind_18 : Cond.methodLink "SmokeGoesTo$Kind" 18 Lib.Math.max.name ∈ sm_G := sm_g3 (i := 130) rfl rfl
set_option maxRecDepth 100000 in
theorem gl_Night_107 : Cond.methodLink "SmokeGoesTo$Night" 107 yX1_getsUp ∈ sm_G := sm_g3 (i := 131) rfl rfl
set_option maxRecDepth 100000 in
theorem gl_Night_113 : Cond.methodLink "SmokeGoesTo$Night" 113 yX2_rise ∈ sm_G := sm_g3 (i := 132) rfl rfl
set_option maxRecDepth 100000 in
theorem gl_Night_139 : Cond.methodLink "SmokeGoesTo$Night" 139 yX1_goes ∈ sm_G := sm_g3 (i := 136) rfl rfl
set_option maxRecDepth 100000 in
theorem gl_Night_142 : Cond.methodLink "SmokeGoesTo$Night" 142 yX0_isFreeFor ∈ sm_G := sm_g3 (i := 137) rfl rfl
set_option maxRecDepth 100000 in
theorem gl_S_179 : Cond.methodLink "SmokeGoesTo" 179 yX2_ofAll ∈ sm_G := sm_g3 (i := 138) rfl rfl
set_option maxRecDepth 100000 in
theorem gl_Night_153 : Cond.methodLink "SmokeGoesTo$Night" 153 yX2_costOfAll ∈ sm_G := sm_g3 (i := 142) rfl rfl
set_option maxRecDepth 100000 in
theorem gl_Night_160 : Cond.methodLink "SmokeGoesTo$Night" 160 yX2_sum ∈ sm_G := sm_g3 (i := 146) rfl rfl
set_option maxRecDepth 100000 in
theorem gl_Night_157 : Cond.methodLink "SmokeGoesTo$Night" 157 yX2_upsOfAll ∈ sm_G := sm_g3 (i := 149) rfl rfl
set_option maxRecDepth 100000 in
theorem gl_S_182 : Cond.methodLink "SmokeGoesTo" 182 yX2_ofOne ∈ sm_G := sm_g3 (i := 153) rfl rfl
set_option maxRecDepth 100000 in
theorem gl_Law_45 : Cond.methodLink "SmokeGoesToLaw" 45 yX7_sit ∈ sm_G := sm_g3 (i := 157) rfl rfl
set_option maxRecDepth 100000 in
theorem gl_S_185 : Cond.methodLink "SmokeGoesTo" 185 yX7_refusal ∈ sm_G := sm_g3 (i := 161) rfl rfl
set_option maxRecDepth 100000 in
theorem gl_S_191 : Cond.methodLink "SmokeGoesTo" 191 arraycopyName ∈ sm_G := sm_g3 (i := 165) rfl rfl
set_option maxRecDepth 100000 in
theorem gl_S_197 : Cond.methodLink "SmokeGoesTo" 197 yX2_costOfAll ∈ sm_G := sm_g3 (i := 166) rfl rfl
set_option maxRecDepth 100000 in
theorem gl_Law_49 : Cond.methodLink "SmokeGoesToLaw" 49 yX7_likely ∈ sm_G := sm_g3 (i := 167) rfl rfl
set_option maxRecDepth 100000 in
theorem gl_S_208 : Cond.methodLink "SmokeGoesTo" 208 yX7_isPart ∈ sm_G := sm_g3 (i := 171) rfl rfl
set_option maxRecDepth 100000 in
theorem gl_S_213 : Cond.methodLink "SmokeGoesTo" 213 yX3_spread ∈ sm_G := sm_g3 (i := 175) rfl rfl
set_option maxRecDepth 100000 in
theorem gl_Odds_25 : Cond.methodLink "SmokeGoesTo$Odds" 25 yJ7_fill_d0a16 ∈ sm_G := sm_g3 (i := 179) rfl rfl
set_option maxRecDepth 100000 in
theorem gl_Odds_47 : Cond.methodLink "SmokeGoesTo$Odds" 47 yX3_pass ∈ sm_G := sm_g3 (i := 183) rfl rfl
set_option maxRecDepth 100000 in
theorem gl_Odds_53 : Cond.methodLink "SmokeGoesTo$Odds" 53 arraycopyName ∈ sm_G := sm_g3 (i := 187) rfl rfl
set_option maxRecDepth 100000 in
theorem gl_S_225 : Cond.methodLink "SmokeGoesTo" 225 yX7_lowest ∈ sm_G := sm_g3 (i := 189) rfl rfl
set_option maxRecDepth 100000 in
theorem gl_S_321 : Cond.methodLink "SmokeGoesTo" 321 yX7_commonDivisor ∈ sm_G := sm_g3 (i := 192) rfl rfl
set_option maxRecDepth 100000 in
theorem gl_Law_54 : Cond.methodLink "SmokeGoesToLaw" 54 yX7_mean ∈ sm_G := sm_g3 (i := 195) rfl rfl
set_option maxRecDepth 100000 in
theorem gl_S_229 : Cond.methodLink "SmokeGoesTo" 229 yX7_isMeanMinutes ∈ sm_G := sm_g3 (i := 199) rfl rfl
set_option maxRecDepth 100000 in
theorem gl_Law_58 : Cond.methodLink "SmokeGoesToLaw" 58 yX7_seat ∈ sm_G := sm_g3 (i := 202) rfl rfl
set_option maxRecDepth 100000 in
theorem gl_S_235 : Cond.methodLink "SmokeGoesTo" 235 yX0_hasTent ∈ sm_G := sm_g3 (i := 206) rfl rfl
set_option maxRecDepth 100000 in
theorem gl_Law_62 : Cond.methodLink "SmokeGoesToLaw" 62 yX7_gap ∈ sm_G := sm_g3 (i := 207) rfl rfl
set_option maxRecDepth 100000 in
theorem gl_S_239 : Cond.methodLink "SmokeGoesTo" 239 yX7_leastOutside ∈ sm_G := sm_g3 (i := 211) rfl rfl
set_option maxRecDepth 100000 in
theorem gl_S_242 : Cond.methodLink "SmokeGoesTo" 242 yX7_placeOfBit ∈ sm_G := sm_g3 (i := 216) rfl rfl
set_option maxRecDepth 100000 in
theorem gl_Law_66 : Cond.methodLink "SmokeGoesToLaw" 66 yX7_stay ∈ sm_G := sm_g3 (i := 219) rfl rfl
set_option maxRecDepth 100000 in
theorem gl_S_249 : Cond.methodLink "SmokeGoesTo" 249 yX7_costIf ∈ sm_G := sm_g3 (i := 223) rfl rfl
set_option maxRecDepth 100000 in
theorem gl_Law_70 : Cond.methodLink "SmokeGoesToLaw" 70 yX7_eddies ∈ sm_G := sm_g3 (i := 227) rfl rfl
set_option maxRecDepth 100000 in
theorem gl_S_253 : Cond.methodLink "SmokeGoesTo" 253 yX7_costIfEddy ∈ sm_G := sm_g3 (i := 232) rfl rfl
set_option maxRecDepth 100000 in
theorem gl_Law_74 : Cond.methodLink "SmokeGoesToLaw" 74 yX7_best ∈ sm_G := sm_g3 (i := 236) rfl rfl
set_option maxRecDepth 100000 in
theorem gl_Law_78 : Cond.methodLink "SmokeGoesToLaw" 78 yX7_eyes ∈ sm_G := sm_g4 (i := 0) rfl rfl
set_option maxRecDepth 100000 in
theorem gl_S_260 : Cond.methodLink "SmokeGoesTo" 260 yX7_rowsThatFit ∈ sm_G := sm_g4 (i := 4) rfl rfl
set_option maxRecDepth 100000 in
theorem gl_S_271 : Cond.methodLink "SmokeGoesTo" 271 yX7_rowsOf ∈ sm_G := sm_g4 (i := 8) rfl rfl
set_option maxRecDepth 100000 in
theorem gl_S_274 : Cond.methodLink "SmokeGoesTo" 274 yX7_fits ∈ sm_G := sm_g4 (i := 11) rfl rfl
set_option maxRecDepth 100000 in
theorem gl_S_281 : Cond.methodLink "SmokeGoesTo" 281 yX2_takeRow ∈ sm_G := sm_g4 (i := 15) rfl rfl
set_option maxRecDepth 100000 in
theorem gl_S_288 : Cond.methodLink "SmokeGoesTo" 288 yX5_item ∈ sm_G := sm_g4 (i := 19) rfl rfl
set_option maxRecDepth 100000 in
theorem gl_S_264 : Cond.methodLink "SmokeGoesTo" 264 yX7_firstThatFits ∈ sm_G := sm_g4 (i := 20) rfl rfl
set_option maxRecDepth 100000 in
theorem gl_S_278 : Cond.methodLink "SmokeGoesTo" 278 yX2_digits ∈ sm_G := sm_g4 (i := 24) rfl rfl
set_option maxRecDepth 100000 in
theorem gl_S_267 : Cond.methodLink "SmokeGoesTo" 267 yX7_kindsThatFit ∈ sm_G := sm_g4 (i := 28) rfl rfl
set_option maxRecDepth 100000 in
theorem gl_Law_82 : Cond.methodLink "SmokeGoesToLaw" 82 yX7_film ∈ sm_G := sm_g4 (i := 32) rfl rfl
set_option maxRecDepth 100000 in
theorem gl_S_291 : Cond.methodLink "SmokeGoesTo" 291 yX5_become ∈ sm_G := sm_g4 (i := 36) rfl rfl
set_option maxRecDepth 100000 in
theorem gl_Sheet_22 : Cond.methodLink "SmokeGoesTo$Sheet" 22 yJ7_fill_53178 ∈ sm_G := sm_g4 (i := 40) rfl rfl
set_option maxRecDepth 100000 in
theorem gl_S_294 : Cond.methodLink "SmokeGoesTo" 294 yX5_put ∈ sm_G := sm_g4 (i := 41) rfl rfl
set_option maxRecDepth 100000 in
theorem gl_Law_86 : Cond.methodLink "SmokeGoesToLaw" 86 yX7_drawn ∈ sm_G := sm_g4 (i := 45) rfl rfl
set_option maxRecDepth 100000 in
theorem gl_S_297 : Cond.methodLink "SmokeGoesTo" 297 yX2_drawWinds ∈ sm_G := sm_g4 (i := 49) rfl rfl
set_option maxRecDepth 100000 in
theorem gl_Law_90 : Cond.methodLink "SmokeGoesToLaw" 90 yX7_chance ∈ sm_G := sm_g4 (i := 54) rfl rfl
set_option maxRecDepth 100000 in
theorem gl_S_301 : Cond.methodLink "SmokeGoesTo" 301 yX2_upsOfAll ∈ sm_G := sm_g4 (i := 58) rfl rfl
set_option maxRecDepth 100000 in
theorem gl_Law_94 : Cond.methodLink "SmokeGoesToLaw" 94 yX7_image ∈ sm_G := sm_g4 (i := 59) rfl rfl
set_option maxRecDepth 100000 in
theorem gl_S_304 : Cond.methodLink "SmokeGoesTo" 304 yX0_become ∈ sm_G := sm_g4 (i := 63) rfl rfl
set_option maxRecDepth 100000 in
theorem gl_Law_98 : Cond.methodLink "SmokeGoesToLaw" 98 yX7_back ∈ sm_G := sm_g4 (i := 64) rfl rfl
set_option maxRecDepth 100000 in
theorem gl_Law_102 : Cond.methodLink "SmokeGoesToLaw" 102 yX7_count ∈ sm_G := sm_g4 (i := 68) rfl rfl
set_option maxRecDepth 100000 in
theorem gl_Law_106 : Cond.methodLink "SmokeGoesToLaw" 106 yX7_sheet ∈ sm_G := sm_g4 (i := 72) rfl rfl
set_option maxRecDepth 100000 in
theorem gl_Law_110 : Cond.methodLink "SmokeGoesToLaw" 110 yX7_cell ∈ sm_G := sm_g4 (i := 76) rfl rfl
set_option maxRecDepth 100000 in
theorem gl_Law_114 : Cond.methodLink "SmokeGoesToLaw" 114 yX7_copy ∈ sm_G := sm_g4 (i := 80) rfl rfl
set_option maxRecDepth 100000 in
theorem gl_S_309 : Cond.methodLink "SmokeGoesTo" 309 yX5_holds ∈ sm_G := sm_g4 (i := 84) rfl rfl
set_option maxRecDepth 100000 in
theorem gl_Law_119 : Cond.methodLink "SmokeGoesToLaw" 119 yX7_sitters ∈ sm_G := sm_g4 (i := 88) rfl rfl
set_option maxRecDepth 100000 in
theorem gl_Law_124 : Cond.methodLink "SmokeGoesToLaw" 124 yX7_taken ∈ sm_G := sm_g4 (i := 92) rfl rfl
set_option maxRecDepth 100000 in
theorem gl_S_315 : Cond.methodLink "SmokeGoesTo" 315 yX1_exists ∈ sm_G := sm_g4 (i := 96) rfl rfl
set_option maxRecDepth 100000 in
theorem gl_S_318 : Cond.methodLink "SmokeGoesTo" 318 yX1_isUnder ∈ sm_G := sm_g4 (i := 97) rfl rfl
set_option maxRecDepth 100000 in
theorem gl_Kind_9 : Cond.methodLink "SmokeGoesTo$Kind" 9 yX1_above ∈ sm_G := sm_g4 (i := 100) rfl rfl
set_option maxRecDepth 100000 in
theorem gl_Law_12 : Cond.methodLink "SmokeGoesToLaw" 12 yX8_init ∈ sm_G := sm_g4 (i := 105) rfl rfl
set_option maxRecDepth 100000 in
theorem gl_M_7 : Cond.methodLink "SmokeGoesToModel" 7 Lib.objectInit ∈ sm_G := sm_g4 (i := 108) rfl rfl
set_option maxRecDepth 100000 in
theorem gl_M_94 : Cond.methodLink "SmokeGoesToModel" 94 yX8_spell ∈ sm_G := sm_g4 (i := 109) rfl rfl
set_option maxRecDepth 100000 in
theorem gl_Law_17 : Cond.methodLink "SmokeGoesToLaw" 17 yX8_set ∈ sm_G := sm_g5 (i := 45) rfl rfl
set_option maxRecDepth 100000 in
theorem gl_M_104 : Cond.methodLink "SmokeGoesToModel" 104 yX8_in ∈ sm_G := sm_g5 (i := 50) rfl rfl
set_option maxRecDepth 100000 in
theorem gl_M_112 : Cond.methodLink "SmokeGoesToModel" 112 yX8_isSitter ∈ sm_G := sm_g5 (i := 53) rfl rfl
set_option maxRecDepth 100000 in
theorem gl_M_116 : Cond.methodLink "SmokeGoesToModel" 116 yX8_onPlace ∈ sm_G := sm_g5 (i := 57) rfl rfl
set_option maxRecDepth 100000 in
theorem gl_Law_21 : Cond.methodLink "SmokeGoesToLaw" 21 yX8_sitter ∈ sm_G := sm_g5 (i := 61) rfl rfl
set_option maxRecDepth 100000 in
theorem gl_M_133 : Cond.methodLink "SmokeGoesToModel" 133 yX8_isPlace ∈ sm_G := sm_g5 (i := 67) rfl rfl
set_option maxRecDepth 100000 in
theorem gl_Law_26 : Cond.methodLink "SmokeGoesToLaw" 26 yX8_told ∈ sm_G := sm_g5 (i := 71) rfl rfl
set_option maxRecDepth 100000 in
theorem gl_M_140 : Cond.methodLink "SmokeGoesToModel" 140 yX8_goesTo ∈ sm_G := sm_g5 (i := 75) rfl rfl
set_option maxRecDepth 100000 in
theorem gl_M_136 : Cond.methodLink "SmokeGoesToModel" 136 yX8_round ∈ sm_G := sm_g5 (i := 79) rfl rfl
set_option maxRecDepth 100000 in
theorem gl_M_144 : Cond.methodLink "SmokeGoesToModel" 144 yX8_getsUp ∈ sm_G := sm_g5 (i := 82) rfl rfl
set_option maxRecDepth 100000 in
theorem gl_Law_31 : Cond.methodLink "SmokeGoesToLaw" 31 yX8_feed ∈ sm_G := sm_g5 (i := 86) rfl rfl
set_option maxRecDepth 100000 in
theorem gl_Law_36 : Cond.methodLink "SmokeGoesToLaw" 36 yX8_text ∈ sm_G := sm_g5 (i := 91) rfl rfl
set_option maxRecDepth 100000 in
theorem gl_M_263 : Cond.methodLink "SmokeGoesToModel" 263 yX8_read ∈ sm_G := sm_g5 (i := 95) rfl rfl
set_option maxRecDepth 100000 in
theorem gl_M_201 : Cond.methodLink "SmokeGoesToModel" 201 yX8_next ∈ sm_G := sm_g5 (i := 99) rfl rfl
set_option maxRecDepth 100000 in
theorem gl_M_162 : Cond.methodLink "SmokeGoesToModel" 162 yX8_byteAt ∈ sm_G := sm_g5 (i := 103) rfl rfl
set_option maxRecDepth 100000 in
theorem gl_M_204 : Cond.methodLink "SmokeGoesToModel" 204 yX8_isWord ∈ sm_G := sm_g5 (i := 112) rfl rfl
set_option maxRecDepth 100000 in
theorem gl_M_192 : Cond.methodLink "SmokeGoesToModel" 192 yX8_isLetter ∈ sm_G := sm_g5 (i := 116) rfl rfl
set_option maxRecDepth 100000 in
theorem gl_M_259 : Cond.methodLink "SmokeGoesToModel" 259 yX8_part ∈ sm_G := sm_g5 (i := 120) rfl rfl
set_option maxRecDepth 100000 in
theorem gl_M_198 : Cond.methodLink "SmokeGoesToModel" 198 yX8_fail ∈ sm_G := sm_g5 (i := 124) rfl rfl
set_option maxRecDepth 100000 in
theorem gl_M_237 : Cond.methodLink "SmokeGoesToModel" 237 yX8_either ∈ sm_G := sm_g5 (i := 128) rfl rfl
set_option maxRecDepth 100000 in
theorem gl_M_256 : Cond.methodLink "SmokeGoesToModel" 256 yX8_both ∈ sm_G := sm_g5 (i := 132) rfl rfl
set_option maxRecDepth 100000 in
theorem gl_M_248 : Cond.methodLink "SmokeGoesToModel" 248 yX8_not ∈ sm_G := sm_g5 (i := 136) rfl rfl
set_option maxRecDepth 100000 in
theorem gl_M_229 : Cond.methodLink "SmokeGoesToModel" 229 yX8_opens ∈ sm_G := sm_g5 (i := 140) rfl rfl
set_option maxRecDepth 100000 in
theorem gl_M_251 : Cond.methodLink "SmokeGoesToModel" 251 yX8_added ∈ sm_G := sm_g5 (i := 144) rfl rfl
set_option maxRecDepth 100000 in
theorem gl_M_243 : Cond.methodLink "SmokeGoesToModel" 243 yX8_term ∈ sm_G := sm_g5 (i := 148) rfl rfl
set_option maxRecDepth 100000 in
theorem gl_M_233 : Cond.methodLink "SmokeGoesToModel" 233 yX8_atom ∈ sm_G := sm_g5 (i := 152) rfl rfl
set_option maxRecDepth 100000 in
theorem gl_M_226 : Cond.methodLink "SmokeGoesToModel" 226 yX8_isSign ∈ sm_G := sm_g5 (i := 156) rfl rfl
set_option maxRecDepth 100000 in
theorem gl_M_240 : Cond.methodLink "SmokeGoesToModel" 240 yX8_name ∈ sm_G := sm_g5 (i := 160) rfl rfl
set_option maxRecDepth 100000 in
theorem gl_Law_40 : Cond.methodLink "SmokeGoesToLaw" 40 yX8_force ∈ sm_G := sm_g5 (i := 166) rfl rfl
set_option maxRecDepth 100000 in
theorem gl_Law_44 : Cond.methodLink "SmokeGoesToLaw" 44 yX8_night ∈ sm_G := sm_g5 (i := 170) rfl rfl
set_option maxRecDepth 100000 in
theorem gl_M_315 : Cond.methodLink "SmokeGoesToModel" 315 yX8_isSheet ∈ sm_G := sm_g5 (i := 174) rfl rfl
set_option maxRecDepth 100000 in
theorem gl_M_302 : Cond.methodLink "SmokeGoesToModel" 302 yX8_layAside ∈ sm_G := sm_g5 (i := 179) rfl rfl
set_option maxRecDepth 100000 in
theorem gl_M_305 : Cond.methodLink "SmokeGoesToModel" 305 yX8_nights ∈ sm_G := sm_g5 (i := 183) rfl rfl
set_option maxRecDepth 100000 in
theorem gl_M_292 : Cond.methodLink "SmokeGoesToModel" 292 yX8_begins ∈ sm_G := sm_g5 (i := 187) rfl rfl
set_option maxRecDepth 100000 in
theorem gl_M_295 : Cond.methodLink "SmokeGoesToModel" 295 yX8_windOf ∈ sm_G := sm_g5 (i := 191) rfl rfl
set_option maxRecDepth 100000 in
theorem gl_M_298 : Cond.methodLink "SmokeGoesToModel" 298 yX8_passes ∈ sm_G := sm_g5 (i := 194) rfl rfl
set_option maxRecDepth 100000 in
theorem gl_M_282 : Cond.methodLink "SmokeGoesToModel" 282 yX8_turns ∈ sm_G := sm_g5 (i := 198) rfl rfl
set_option maxRecDepth 100000 in
theorem gl_M_286 : Cond.methodLink "SmokeGoesToModel" 286 yX8_bearsOf ∈ sm_G := sm_g5 (i := 202) rfl rfl
set_option maxRecDepth 100000 in
theorem gl_M_272 : Cond.methodLink "SmokeGoesToModel" 272 yX8_says ∈ sm_G := sm_g5 (i := 206) rfl rfl
set_option maxRecDepth 100000 in
theorem gl_M_269 : Cond.methodLink "SmokeGoesToModel" 269 yX8_within ∈ sm_G := sm_g5 (i := 210) rfl rfl
set_option maxRecDepth 100000 in
theorem gl_M_289 : Cond.methodLink "SmokeGoesToModel" 289 yX8_firstFree ∈ sm_G := sm_g5 (i := 213) rfl rfl
set_option maxRecDepth 100000 in
theorem gl_M_311 : Cond.methodLink "SmokeGoesToModel" 311 yX8_sumOf ∈ sm_G := sm_g5 (i := 217) rfl rfl
set_option maxRecDepth 100000 in
theorem gl_M_308 : Cond.methodLink "SmokeGoesToModel" 308 yX8_takeBack ∈ sm_G := sm_g5 (i := 221) rfl rfl
set_option maxRecDepth 100000 in
theorem gl_Law_48 : Cond.methodLink "SmokeGoesToLaw" 48 yX8_sit ∈ sm_G := sm_g5 (i := 225) rfl rfl
set_option maxRecDepth 100000 in
theorem gl_Law_53 : Cond.methodLink "SmokeGoesToLaw" 53 yX8_likely ∈ sm_G := sm_g5 (i := 229) rfl rfl
set_option maxRecDepth 100000 in
theorem gl_M_331 : Cond.methodLink "SmokeGoesToModel" 331 yX8_spreads ∈ sm_G := sm_g5 (i := 235) rfl rfl
set_option maxRecDepth 100000 in
theorem gl_M_334 : Cond.methodLink "SmokeGoesToModel" 334 yX8_lowest ∈ sm_G := sm_g6 (i := 0) rfl rfl
set_option maxRecDepth 100000 in
theorem gl_Law_57 : Cond.methodLink "SmokeGoesToLaw" 57 yX8_mean ∈ sm_G := sm_g6 (i := 3) rfl rfl
set_option maxRecDepth 100000 in
theorem gl_Law_61 : Cond.methodLink "SmokeGoesToLaw" 61 yX8_seat ∈ sm_G := sm_g6 (i := 7) rfl rfl
set_option maxRecDepth 100000 in
theorem gl_Law_65 : Cond.methodLink "SmokeGoesToLaw" 65 yX8_gap ∈ sm_G := sm_g6 (i := 11) rfl rfl
set_option maxRecDepth 100000 in
theorem gl_M_344 : Cond.methodLink "SmokeGoesToModel" 344 yX8_seatsFrom ∈ sm_G := sm_g6 (i := 15) rfl rfl
set_option maxRecDepth 100000 in
theorem gl_Law_69 : Cond.methodLink "SmokeGoesToLaw" 69 yX8_stay ∈ sm_G := sm_g6 (i := 19) rfl rfl
set_option maxRecDepth 100000 in
theorem gl_M_348 : Cond.methodLink "SmokeGoesToModel" 348 yX8_costOf ∈ sm_G := sm_g6 (i := 23) rfl rfl
set_option maxRecDepth 100000 in
theorem gl_Law_73 : Cond.methodLink "SmokeGoesToLaw" 73 yX8_eddies ∈ sm_G := sm_g6 (i := 27) rfl rfl
set_option maxRecDepth 100000 in
theorem gl_Law_77 : Cond.methodLink "SmokeGoesToLaw" 77 yX8_best ∈ sm_G := sm_g6 (i := 32) rfl rfl
set_option maxRecDepth 100000 in
theorem gl_Law_81 : Cond.methodLink "SmokeGoesToLaw" 81 yX8_eyes ∈ sm_G := sm_g6 (i := 36) rfl rfl
set_option maxRecDepth 100000 in
theorem gl_M_362 : Cond.methodLink "SmokeGoesToModel" 362 yX8_rowsOf ∈ sm_G := sm_g6 (i := 42) rfl rfl
set_option maxRecDepth 100000 in
theorem gl_Law_85 : Cond.methodLink "SmokeGoesToLaw" 85 yX8_film ∈ sm_G := sm_g6 (i := 46) rfl rfl
set_option maxRecDepth 100000 in
theorem gl_M_365 : Cond.methodLink "SmokeGoesToModel" 365 yX8_sheet ∈ sm_G := sm_g6 (i := 50) rfl rfl
set_option maxRecDepth 100000 in
theorem gl_Law_89 : Cond.methodLink "SmokeGoesToLaw" 89 yX8_drawn ∈ sm_G := sm_g6 (i := 55) rfl rfl
set_option maxRecDepth 100000 in
theorem gl_M_369 : Cond.methodLink "SmokeGoesToModel" 369 yX8_draws ∈ sm_G := sm_g6 (i := 59) rfl rfl
set_option maxRecDepth 100000 in
theorem gl_Law_93 : Cond.methodLink "SmokeGoesToLaw" 93 yX8_chance ∈ sm_G := sm_g6 (i := 64) rfl rfl
set_option maxRecDepth 100000 in
theorem gl_Law_97 : Cond.methodLink "SmokeGoesToLaw" 97 yX8_image ∈ sm_G := sm_g6 (i := 69) rfl rfl
set_option maxRecDepth 100000 in
theorem gl_Law_101 : Cond.methodLink "SmokeGoesToLaw" 101 yX8_back ∈ sm_G := sm_g6 (i := 73) rfl rfl
set_option maxRecDepth 100000 in
theorem gl_Law_105 : Cond.methodLink "SmokeGoesToLaw" 105 yX8_count ∈ sm_G := sm_g6 (i := 77) rfl rfl
set_option maxRecDepth 100000 in
theorem gl_Law_109 : Cond.methodLink "SmokeGoesToLaw" 109 yX8_sheet ∈ sm_G := sm_g6 (i := 81) rfl rfl
set_option maxRecDepth 100000 in
theorem gl_Law_113 : Cond.methodLink "SmokeGoesToLaw" 113 yX8_cell ∈ sm_G := sm_g6 (i := 82) rfl rfl
set_option maxRecDepth 100000 in
theorem gl_Law_118 : Cond.methodLink "SmokeGoesToLaw" 118 yX8_copy ∈ sm_G := sm_g6 (i := 86) rfl rfl
set_option maxRecDepth 100000 in
theorem gl_Law_123 : Cond.methodLink "SmokeGoesToLaw" 123 yX8_sitters ∈ sm_G := sm_g6 (i := 90) rfl rfl
set_option maxRecDepth 100000 in
theorem gl_M_379 : Cond.methodLink "SmokeGoesToModel" 379 yX8_sitter ∈ sm_G := sm_g6 (i := 94) rfl rfl
set_option maxRecDepth 100000 in
theorem gl_Law_127 : Cond.methodLink "SmokeGoesToLaw" 127 yX8_taken ∈ sm_G := sm_g6 (i := 95) rfl rfl
set_option maxRecDepth 100000 in
theorem gl_M_382 : Cond.methodLink "SmokeGoesToModel" 382 yX8_over ∈ sm_G := sm_g6 (i := 99) rfl rfl
set_option maxRecDepth 100000 in
theorem gf_Fire_9 : Cond.fieldLink "SmokeGoesTo$Fire" 9 "SmokeGoesTo$Fire" "smoke" "I" ∈ sm_G := sm_g1 (i := 32) rfl rfl
set_option maxRecDepth 100000 in
theorem gf_Odds_31 : Cond.fieldLink "SmokeGoesTo$Odds" 31 "SmokeGoesTo$Fire" "smoke" "I" ∈ sm_G := sm_g1 (i := 33) rfl rfl
set_option maxRecDepth 100000 in
theorem gf_S_111 : Cond.fieldLink "SmokeGoesTo" 111 "SmokeGoesTo$Fire" "smoke" "I" ∈ sm_G := sm_g1 (i := 34) rfl rfl
set_option maxRecDepth 100000 in
theorem gf_Night_86 : Cond.fieldLink "SmokeGoesTo$Night" 86 "SmokeGoesTo$Fire" "smoke" "I" ∈ sm_G := sm_g1 (i := 35) rfl rfl
set_option maxRecDepth 100000 in
theorem gf_Fire_15 : Cond.fieldLink "SmokeGoesTo$Fire" 15 "SmokeGoesTo$Fire" "left" "I" ∈ sm_G := sm_g1 (i := 36) rfl rfl
set_option maxRecDepth 100000 in
theorem gf_Odds_41 : Cond.fieldLink "SmokeGoesTo$Odds" 41 "SmokeGoesTo$Fire" "left" "I" ∈ sm_G := sm_g1 (i := 37) rfl rfl
set_option maxRecDepth 100000 in
theorem gf_S_117 : Cond.fieldLink "SmokeGoesTo" 117 "SmokeGoesTo$Fire" "left" "I" ∈ sm_G := sm_g1 (i := 38) rfl rfl
set_option maxRecDepth 100000 in
theorem gf_Fire_18 : Cond.fieldLink "SmokeGoesTo$Fire" 18 "SmokeGoesTo$Fire" "right" "I" ∈ sm_G := sm_g1 (i := 39) rfl rfl
set_option maxRecDepth 100000 in
theorem gf_Odds_44 : Cond.fieldLink "SmokeGoesTo$Odds" 44 "SmokeGoesTo$Fire" "right" "I" ∈ sm_G := sm_g1 (i := 40) rfl rfl
set_option maxRecDepth 100000 in
theorem gf_S_114 : Cond.fieldLink "SmokeGoesTo" 114 "SmokeGoesTo$Fire" "right" "I" ∈ sm_G := sm_g1 (i := 41) rfl rfl
set_option maxRecDepth 100000 in
theorem gf_Fire_21 : Cond.fieldLink "SmokeGoesTo$Fire" 21 "SmokeGoesTo$Fire" "tents" "I" ∈ sm_G := sm_g1 (i := 42) rfl rfl
set_option maxRecDepth 100000 in
theorem gf_S_120 : Cond.fieldLink "SmokeGoesTo" 120 "SmokeGoesTo$Fire" "tents" "I" ∈ sm_G := sm_g1 (i := 43) rfl rfl
set_option maxRecDepth 100000 in
theorem gf_Fire_24 : Cond.fieldLink "SmokeGoesTo$Fire" 24 "SmokeGoesTo$Fire" "eddy" "I" ∈ sm_G := sm_g1 (i := 44) rfl rfl
set_option maxRecDepth 100000 in
theorem gf_S_123 : Cond.fieldLink "SmokeGoesTo" 123 "SmokeGoesTo$Fire" "eddy" "I" ∈ sm_G := sm_g1 (i := 45) rfl rfl
set_option maxRecDepth 100000 in
theorem gf_Night_120 : Cond.fieldLink "SmokeGoesTo$Night" 120 "SmokeGoesTo$Fire" "eddy" "I" ∈ sm_G := sm_g1 (i := 46) rfl rfl
set_option maxRecDepth 100000 in
theorem gf_Fire_27 : Cond.fieldLink "SmokeGoesTo$Fire" 27 "SmokeGoesTo$Fire" "rule" "I" ∈ sm_G := sm_g1 (i := 47) rfl rfl
set_option maxRecDepth 100000 in
theorem gf_S_159 : Cond.fieldLink "SmokeGoesTo" 159 "SmokeGoesTo$Fire" "rule" "I" ∈ sm_G := sm_g1 (i := 48) rfl rfl
set_option maxRecDepth 100000 in
theorem gf_Fire_30 : Cond.fieldLink "SmokeGoesTo$Fire" 30 "SmokeGoesTo$Fire" "size" "I" ∈ sm_G := sm_g1 (i := 49) rfl rfl
set_option maxRecDepth 100000 in
theorem gf_Night_96 : Cond.fieldLink "SmokeGoesTo$Night" 96 "SmokeGoesTo$Fire" "size" "I" ∈ sm_G := sm_g1 (i := 50) rfl rfl
set_option maxRecDepth 100000 in
theorem gf_S_238 : Cond.fieldLink "SmokeGoesTo" 238 "SmokeGoesTo$Fire" "size" "I" ∈ sm_G := sm_g1 (i := 51) rfl rfl
set_option maxRecDepth 100000 in
theorem gf_Fire_33 : Cond.fieldLink "SmokeGoesTo$Fire" 33 "SmokeGoesTo$Fire" "kinds" "[I" ∈ sm_G := sm_g1 (i := 52) rfl rfl
set_option maxRecDepth 100000 in
theorem gf_Night_101 : Cond.fieldLink "SmokeGoesTo$Night" 101 "SmokeGoesTo$Fire" "kinds" "[I" ∈ sm_G := sm_g1 (i := 53) rfl rfl
set_option maxRecDepth 100000 in
theorem gf_S_144 : Cond.fieldLink "SmokeGoesTo" 144 "SmokeGoesTo$Fire" "kinds" "[I" ∈ sm_G := sm_g1 (i := 54) rfl rfl
set_option maxRecDepth 100000 in
theorem gf_Fire_37 : Cond.fieldLink "SmokeGoesTo$Fire" 37 "SmokeGoesTo$Fire" "numbers" "[I" ∈ sm_G := sm_g1 (i := 55) rfl rfl
set_option maxRecDepth 100000 in
theorem gf_Night_104 : Cond.fieldLink "SmokeGoesTo$Night" 104 "SmokeGoesTo$Fire" "numbers" "[I" ∈ sm_G := sm_g1 (i := 56) rfl rfl
set_option maxRecDepth 100000 in
theorem gf_S_129 : Cond.fieldLink "SmokeGoesTo" 129 "SmokeGoesTo$Fire" "numbers" "[I" ∈ sm_G := sm_g1 (i := 57) rfl rfl
set_option maxRecDepth 100000 in
theorem gf_Fire_40 : Cond.fieldLink "SmokeGoesTo$Fire" 40 "SmokeGoesTo$Fire" "places" "[I" ∈ sm_G := sm_g1 (i := 58) rfl rfl
set_option maxRecDepth 100000 in
theorem gf_Night_123 : Cond.fieldLink "SmokeGoesTo$Night" 123 "SmokeGoesTo$Fire" "places" "[I" ∈ sm_G := sm_g1 (i := 59) rfl rfl
set_option maxRecDepth 100000 in
theorem gf_S_137 : Cond.fieldLink "SmokeGoesTo" 137 "SmokeGoesTo$Fire" "places" "[I" ∈ sm_G := sm_g1 (i := 60) rfl rfl
set_option maxRecDepth 100000 in
theorem gf_Reader_13 : Cond.fieldLink "SmokeGoesTo$Reader" 13 "SmokeGoesTo$Reader" "size" "I" ∈ sm_G := sm_g1 (i := 89) rfl rfl
set_option maxRecDepth 100000 in
theorem gf_S_156 : Cond.fieldLink "SmokeGoesTo" 156 "SmokeGoesTo$Reader" "size" "I" ∈ sm_G := sm_g1 (i := 90) rfl rfl
set_option maxRecDepth 100000 in
theorem gf_Reader_17 : Cond.fieldLink "SmokeGoesTo$Reader" 17 "SmokeGoesTo$Reader" "tape" "[I" ∈ sm_G := sm_g1 (i := 91) rfl rfl
set_option maxRecDepth 100000 in
theorem gf_Reader_21 : Cond.fieldLink "SmokeGoesTo$Reader" 21 "SmokeGoesTo$Reader" "token" "I" ∈ sm_G := sm_g1 (i := 92) rfl rfl
set_option maxRecDepth 100000 in
theorem gf_Reader_24 : Cond.fieldLink "SmokeGoesTo$Reader" 24 "SmokeGoesTo$Reader" "tokenStart" "I" ∈ sm_G := sm_g1 (i := 93) rfl rfl
set_option maxRecDepth 100000 in
theorem gf_Reader_27 : Cond.fieldLink "SmokeGoesTo$Reader" 27 "SmokeGoesTo$Reader" "next" "I" ∈ sm_G := sm_g1 (i := 94) rfl rfl
set_option maxRecDepth 100000 in
theorem gf_Reader_30 : Cond.fieldLink "SmokeGoesTo$Reader" 30 "SmokeGoesTo$Reader" "number" "I" ∈ sm_G := sm_g1 (i := 95) rfl rfl
set_option maxRecDepth 100000 in
theorem gf_Reader_33 : Cond.fieldLink "SmokeGoesTo$Reader" 33 "SmokeGoesTo$Reader" "out" "LSmokeGoesTo$Text;" ∈ sm_G := sm_g1 (i := 96) rfl rfl
set_option maxRecDepth 100000 in
theorem gf_Night_12 : Cond.fieldLink "SmokeGoesTo$Night" 12 "SmokeGoesTo$Night" "now" "LSmokeGoesTo$Fire;" ∈ sm_G := sm_g1 (i := 124) rfl rfl
set_option maxRecDepth 100000 in
theorem gf_S_188 : Cond.fieldLink "SmokeGoesTo" 188 "SmokeGoesTo$Night" "now" "LSmokeGoesTo$Fire;" ∈ sm_G := sm_g1 (i := 125) rfl rfl
set_option maxRecDepth 100000 in
theorem gf_Night_18 : Cond.fieldLink "SmokeGoesTo$Night" 18 "SmokeGoesTo$Night" "costs" "[I" ∈ sm_G := sm_g1 (i := 126) rfl rfl
set_option maxRecDepth 100000 in
theorem gf_S_256 : Cond.fieldLink "SmokeGoesTo" 256 "SmokeGoesTo$Night" "costs" "[I" ∈ sm_G := sm_g1 (i := 127) rfl rfl
set_option maxRecDepth 100000 in
theorem gf_Night_22 : Cond.fieldLink "SmokeGoesTo$Night" 22 "SmokeGoesTo$Night" "smoked" "[I" ∈ sm_G := sm_g1 (i := 128) rfl rfl
set_option maxRecDepth 100000 in
theorem gf_S_285 : Cond.fieldLink "SmokeGoesTo" 285 "SmokeGoesTo$Night" "smoked" "[I" ∈ sm_G := sm_g1 (i := 129) rfl rfl
set_option maxRecDepth 100000 in
theorem gf_Night_25 : Cond.fieldLink "SmokeGoesTo$Night" 25 "SmokeGoesTo$Night" "winds" "[I" ∈ sm_G := sm_g1 (i := 130) rfl rfl
set_option maxRecDepth 100000 in
theorem gf_Night_28 : Cond.fieldLink "SmokeGoesTo$Night" 28 "SmokeGoesTo$Night" "longest" "[I" ∈ sm_G := sm_g1 (i := 131) rfl rfl
set_option maxRecDepth 100000 in
theorem gf_Night_31 : Cond.fieldLink "SmokeGoesTo$Night" 31 "SmokeGoesTo$Night" "ups" "[I" ∈ sm_G := sm_g1 (i := 132) rfl rfl
set_option maxRecDepth 100000 in
theorem gf_Night_34 : Cond.fieldLink "SmokeGoesTo$Night" 34 "SmokeGoesTo$Night" "longs" "[I" ∈ sm_G := sm_g1 (i := 133) rfl rfl
set_option maxRecDepth 100000 in
theorem gf_Night_39 : Cond.fieldLink "SmokeGoesTo$Night" 39 "SmokeGoesTo$Night" "names" "[I" ∈ sm_G := sm_g1 (i := 134) rfl rfl
set_option maxRecDepth 100000 in
theorem gf_Night_42 : Cond.fieldLink "SmokeGoesTo$Night" 42 "SmokeGoesTo$Night" "stack" "[I" ∈ sm_G := sm_g1 (i := 135) rfl rfl
set_option maxRecDepth 100000 in
theorem gf_Night_45 : Cond.fieldLink "SmokeGoesTo$Night" 45 "SmokeGoesTo$Night" "minutes" "I" ∈ sm_G := sm_g1 (i := 136) rfl rfl
set_option maxRecDepth 100000 in
theorem gf_Night_49 : Cond.fieldLink "SmokeGoesTo$Night" 49 "SmokeGoesTo$Night" "needless" "I" ∈ sm_G := sm_g1 (i := 137) rfl rfl
set_option maxRecDepth 100000 in
theorem gf_Night_52 : Cond.fieldLink "SmokeGoesTo$Night" 52 "SmokeGoesTo$Night" "riser" "I" ∈ sm_G := sm_g1 (i := 138) rfl rfl
set_option maxRecDepth 100000 in
theorem gf_Night_55 : Cond.fieldLink "SmokeGoesTo$Night" 55 "SmokeGoesTo$Night" "leftPlace" "I" ∈ sm_G := sm_g1 (i := 139) rfl rfl
set_option maxRecDepth 100000 in
theorem gf_Night_58 : Cond.fieldLink "SmokeGoesTo$Night" 58 "SmokeGoesTo$Night" "rule" "LSmokeGoesTo$Text;" ∈ sm_G := sm_g1 (i := 140) rfl rfl
set_option maxRecDepth 100000 in
theorem gf_Odds_9 : Cond.fieldLink "SmokeGoesTo$Odds" 9 "SmokeGoesTo$Odds" "at" "[J" ∈ sm_G := sm_g1 (i := 176) rfl rfl
set_option maxRecDepth 100000 in
theorem gf_S_217 : Cond.fieldLink "SmokeGoesTo" 217 "SmokeGoesTo$Odds" "at" "[J" ∈ sm_G := sm_g1 (i := 177) rfl rfl
set_option maxRecDepth 100000 in
theorem gf_Odds_15 : Cond.fieldLink "SmokeGoesTo$Odds" 15 "SmokeGoesTo$Odds" "together" "[J" ∈ sm_G := sm_g1 (i := 178) rfl rfl
set_option maxRecDepth 100000 in
theorem gf_S_232 : Cond.fieldLink "SmokeGoesTo" 232 "SmokeGoesTo$Odds" "together" "[J" ∈ sm_G := sm_g1 (i := 179) rfl rfl
set_option maxRecDepth 100000 in
theorem gf_Odds_18 : Cond.fieldLink "SmokeGoesTo$Odds" 18 "SmokeGoesTo$Odds" "below" "J" ∈ sm_G := sm_g1 (i := 180) rfl rfl
set_option maxRecDepth 100000 in
theorem gf_S_221 : Cond.fieldLink "SmokeGoesTo" 221 "SmokeGoesTo$Odds" "below" "J" ∈ sm_G := sm_g1 (i := 181) rfl rfl
set_option maxRecDepth 100000 in
theorem gf_Odds_22 : Cond.fieldLink "SmokeGoesTo$Odds" 22 "SmokeGoesTo$Odds" "ahead" "[J" ∈ sm_G := sm_g1 (i := 182) rfl rfl
set_option maxRecDepth 100000 in
theorem gf_Text_9 : Cond.fieldLink "SmokeGoesTo$Text" 9 "SmokeGoesTo$Text" "code" "[I" ∈ sm_G := sm_g1 (i := 198) rfl rfl
set_option maxRecDepth 100000 in
theorem gf_Text_15 : Cond.fieldLink "SmokeGoesTo$Text" 15 "SmokeGoesTo$Text" "ends" "[I" ∈ sm_G := sm_g1 (i := 199) rfl rfl
set_option maxRecDepth 100000 in
theorem gf_Text_18 : Cond.fieldLink "SmokeGoesTo$Text" 18 "SmokeGoesTo$Text" "size" "I" ∈ sm_G := sm_g1 (i := 200) rfl rfl
set_option maxRecDepth 100000 in
theorem gf_Sheet_9 : Cond.fieldLink "SmokeGoesTo$Sheet" 9 "SmokeGoesTo$Sheet" "sort" "I" ∈ sm_G := sm_g1 (i := 213) rfl rfl
set_option maxRecDepth 100000 in
theorem gf_S_306 : Cond.fieldLink "SmokeGoesTo" 306 "SmokeGoesTo$Sheet" "sort" "I" ∈ sm_G := sm_g1 (i := 214) rfl rfl
set_option maxRecDepth 100000 in
theorem gf_Sheet_15 : Cond.fieldLink "SmokeGoesTo$Sheet" 15 "SmokeGoesTo$Sheet" "size" "I" ∈ sm_G := sm_g1 (i := 215) rfl rfl
set_option maxRecDepth 100000 in
theorem gf_Night_62 : Cond.fieldLink "SmokeGoesTo$Night" 62 "SmokeGoesTo$Sheet" "size" "I" ∈ sm_G := sm_g1 (i := 216) rfl rfl
set_option maxRecDepth 100000 in
theorem gf_S_259 : Cond.fieldLink "SmokeGoesTo" 259 "SmokeGoesTo$Sheet" "size" "I" ∈ sm_G := sm_g1 (i := 217) rfl rfl
set_option maxRecDepth 100000 in
theorem gf_Sheet_18 : Cond.fieldLink "SmokeGoesTo$Sheet" 18 "SmokeGoesTo$Sheet" "items" "[I" ∈ sm_G := sm_g1 (i := 218) rfl rfl
set_option maxRecDepth 100000 in
theorem gf_S_312 : Cond.fieldLink "SmokeGoesTo" 312 "SmokeGoesTo$Sheet" "items" "[I" ∈ sm_G := sm_g1 (i := 219) rfl rfl
set_option maxRecDepth 100000 in
theorem gf_String_38 : Cond.fieldLink "java/lang/String" 38 "java/lang/String" "COMPACT_STRINGS" "Z" ∈ sm_G := sm_g1 (i := 236) rfl rfl
set_option maxRecDepth 100000 in
theorem gf_String_1053 : Cond.fieldLink "java/lang/String" 1053 "jdk/internal/util/Preconditions" "SIOOBE_FORMATTER" "Ljava/util/function/BiFunction;" ∈ sm_G := sm_g2 (i := 12) rfl rfl
set_option maxRecDepth 100000 in
theorem gf_S_12 : Cond.fieldLink "SmokeGoesTo" 12 "SmokeGoesTo" "fire" "LSmokeGoesTo$Fire;" ∈ sm_G := sm_g2 (i := 184) rfl rfl
set_option maxRecDepth 100000 in
theorem gf_S_16 : Cond.fieldLink "SmokeGoesTo" 16 "SmokeGoesTo" "kept" "LSmokeGoesTo$Fire;" ∈ sm_G := sm_g2 (i := 185) rfl rfl
set_option maxRecDepth 100000 in
theorem gf_S_19 : Cond.fieldLink "SmokeGoesTo" 19 "SmokeGoesTo" "hasImage" "Z" ∈ sm_G := sm_g2 (i := 186) rfl rfl
set_option maxRecDepth 100000 in
theorem gf_S_26 : Cond.fieldLink "SmokeGoesTo" 26 "SmokeGoesTo" "reader" "LSmokeGoesTo$Reader;" ∈ sm_G := sm_g2 (i := 187) rfl rfl
set_option maxRecDepth 100000 in
theorem gf_S_32 : Cond.fieldLink "SmokeGoesTo" 32 "SmokeGoesTo" "texts" "[LSmokeGoesTo$Text;" ∈ sm_G := sm_g2 (i := 188) rfl rfl
set_option maxRecDepth 100000 in
theorem gf_S_36 : Cond.fieldLink "SmokeGoesTo" 36 "SmokeGoesTo" "textCount" "I" ∈ sm_G := sm_g2 (i := 189) rfl rfl
set_option maxRecDepth 100000 in
theorem gf_S_42 : Cond.fieldLink "SmokeGoesTo" 42 "SmokeGoesTo" "sheets" "[LSmokeGoesTo$Sheet;" ∈ sm_G := sm_g2 (i := 190) rfl rfl
set_option maxRecDepth 100000 in
theorem gf_S_49 : Cond.fieldLink "SmokeGoesTo" 49 "SmokeGoesTo" "thought" "LSmokeGoesTo$Night;" ∈ sm_G := sm_g2 (i := 191) rfl rfl
set_option maxRecDepth 100000 in
theorem gf_S_56 : Cond.fieldLink "SmokeGoesTo" 56 "SmokeGoesTo" "odds" "LSmokeGoesTo$Odds;" ∈ sm_G := sm_g2 (i := 192) rfl rfl
set_option maxRecDepth 100000 in
theorem gf_M_13 : Cond.fieldLink "SmokeGoesToModel" 13 "SmokeGoesToModel" "texts" "[I" ∈ sm_G := sm_g4 (i := 113) rfl rfl
set_option maxRecDepth 100000 in
theorem gf_M_17 : Cond.fieldLink "SmokeGoesToModel" 17 "SmokeGoesToModel" "textSize" "[I" ∈ sm_G := sm_g4 (i := 114) rfl rfl
set_option maxRecDepth 100000 in
theorem gf_M_98 : Cond.fieldLink "SmokeGoesToModel" 98 "SmokeGoesToModel" "textCount" "I" ∈ sm_G := sm_g4 (i := 115) rfl rfl
set_option maxRecDepth 100000 in
theorem gf_M_266 : Cond.fieldLink "SmokeGoesToModel" 266 "SmokeGoesToModel" "rule" "I" ∈ sm_G := sm_g4 (i := 116) rfl rfl
set_option maxRecDepth 100000 in
theorem gf_M_20 : Cond.fieldLink "SmokeGoesToModel" 20 "SmokeGoesToModel" "tape" "[I" ∈ sm_G := sm_g4 (i := 117) rfl rfl
set_option maxRecDepth 100000 in
theorem gf_M_150 : Cond.fieldLink "SmokeGoesToModel" 150 "SmokeGoesToModel" "taped" "I" ∈ sm_G := sm_g4 (i := 118) rfl rfl
set_option maxRecDepth 100000 in
theorem gf_M_120 : Cond.fieldLink "SmokeGoesToModel" 120 "SmokeGoesToModel" "smoke" "I" ∈ sm_G := sm_g4 (i := 119) rfl rfl
set_option maxRecDepth 100000 in
theorem gf_M_23 : Cond.fieldLink "SmokeGoesToModel" 23 "SmokeGoesToModel" "left" "I" ∈ sm_G := sm_g4 (i := 120) rfl rfl
set_option maxRecDepth 100000 in
theorem gf_M_26 : Cond.fieldLink "SmokeGoesToModel" 26 "SmokeGoesToModel" "right" "I" ∈ sm_G := sm_g4 (i := 121) rfl rfl
set_option maxRecDepth 100000 in
theorem gf_M_123 : Cond.fieldLink "SmokeGoesToModel" 123 "SmokeGoesToModel" "tents" "I" ∈ sm_G := sm_g4 (i := 122) rfl rfl
set_option maxRecDepth 100000 in
theorem gf_M_126 : Cond.fieldLink "SmokeGoesToModel" 126 "SmokeGoesToModel" "eddy" "I" ∈ sm_G := sm_g4 (i := 123) rfl rfl
set_option maxRecDepth 100000 in
theorem gf_M_29 : Cond.fieldLink "SmokeGoesToModel" 29 "SmokeGoesToModel" "kinds" "[I" ∈ sm_G := sm_g4 (i := 124) rfl rfl
set_option maxRecDepth 100000 in
theorem gf_M_32 : Cond.fieldLink "SmokeGoesToModel" 32 "SmokeGoesToModel" "numbers" "[I" ∈ sm_G := sm_g4 (i := 125) rfl rfl
set_option maxRecDepth 100000 in
theorem gf_M_35 : Cond.fieldLink "SmokeGoesToModel" 35 "SmokeGoesToModel" "places" "[I" ∈ sm_G := sm_g4 (i := 126) rfl rfl
set_option maxRecDepth 100000 in
theorem gf_M_101 : Cond.fieldLink "SmokeGoesToModel" 101 "SmokeGoesToModel" "sitterMany" "I" ∈ sm_G := sm_g4 (i := 127) rfl rfl
set_option maxRecDepth 100000 in
theorem gf_M_208 : Cond.fieldLink "SmokeGoesToModel" 208 "SmokeGoesToModel" "ofPlace" "I" ∈ sm_G := sm_g4 (i := 128) rfl rfl
set_option maxRecDepth 100000 in
theorem gf_M_211 : Cond.fieldLink "SmokeGoesToModel" 211 "SmokeGoesToModel" "ofSmoke" "I" ∈ sm_G := sm_g4 (i := 129) rfl rfl
set_option maxRecDepth 100000 in
theorem gf_M_214 : Cond.fieldLink "SmokeGoesToModel" 214 "SmokeGoesToModel" "ofMinute" "I" ∈ sm_G := sm_g4 (i := 130) rfl rfl
set_option maxRecDepth 100000 in
theorem gf_M_217 : Cond.fieldLink "SmokeGoesToModel" 217 "SmokeGoesToModel" "ofLong" "I" ∈ sm_G := sm_g4 (i := 131) rfl rfl
set_option maxRecDepth 100000 in
theorem gf_M_220 : Cond.fieldLink "SmokeGoesToModel" 220 "SmokeGoesToModel" "ofNumber" "I" ∈ sm_G := sm_g4 (i := 132) rfl rfl
set_option maxRecDepth 100000 in
theorem gf_M_223 : Cond.fieldLink "SmokeGoesToModel" 223 "SmokeGoesToModel" "ofSitter" "I" ∈ sm_G := sm_g4 (i := 133) rfl rfl
set_option maxRecDepth 100000 in
theorem gf_M_156 : Cond.fieldLink "SmokeGoesToModel" 156 "SmokeGoesToModel" "from" "I" ∈ sm_G := sm_g4 (i := 134) rfl rfl
set_option maxRecDepth 100000 in
theorem gf_M_153 : Cond.fieldLink "SmokeGoesToModel" 153 "SmokeGoesToModel" "size" "I" ∈ sm_G := sm_g4 (i := 135) rfl rfl
set_option maxRecDepth 100000 in
theorem gf_M_159 : Cond.fieldLink "SmokeGoesToModel" 159 "SmokeGoesToModel" "here" "I" ∈ sm_G := sm_g4 (i := 136) rfl rfl
set_option maxRecDepth 100000 in
theorem gf_M_168 : Cond.fieldLink "SmokeGoesToModel" 168 "SmokeGoesToModel" "token" "I" ∈ sm_G := sm_g4 (i := 137) rfl rfl
set_option maxRecDepth 100000 in
theorem gf_M_165 : Cond.fieldLink "SmokeGoesToModel" 165 "SmokeGoesToModel" "tokenAt" "I" ∈ sm_G := sm_g4 (i := 138) rfl rfl
set_option maxRecDepth 100000 in
theorem gf_M_179 : Cond.fieldLink "SmokeGoesToModel" 179 "SmokeGoesToModel" "tokenWorth" "J" ∈ sm_G := sm_g4 (i := 139) rfl rfl
set_option maxRecDepth 100000 in
theorem gf_M_195 : Cond.fieldLink "SmokeGoesToModel" 195 "SmokeGoesToModel" "open" "I" ∈ sm_G := sm_g4 (i := 140) rfl rfl
set_option maxRecDepth 100000 in
theorem gf_M_185 : Cond.fieldLink "SmokeGoesToModel" 185 "SmokeGoesToModel" "bad" "Z" ∈ sm_G := sm_g4 (i := 141) rfl rfl
set_option maxRecDepth 100000 in
theorem gf_M_189 : Cond.fieldLink "SmokeGoesToModel" 189 "SmokeGoesToModel" "fault" "I" ∈ sm_G := sm_g4 (i := 142) rfl rfl
set_option maxRecDepth 100000 in
theorem gf_M_38 : Cond.fieldLink "SmokeGoesToModel" 38 "SmokeGoesToModel" "longNow" "[I" ∈ sm_G := sm_g4 (i := 143) rfl rfl
set_option maxRecDepth 100000 in
theorem gf_M_41 : Cond.fieldLink "SmokeGoesToModel" 41 "SmokeGoesToModel" "costs" "[I" ∈ sm_G := sm_g4 (i := 144) rfl rfl
set_option maxRecDepth 100000 in
theorem gf_M_44 : Cond.fieldLink "SmokeGoesToModel" 44 "SmokeGoesToModel" "smoked" "[I" ∈ sm_G := sm_g4 (i := 145) rfl rfl
set_option maxRecDepth 100000 in
theorem gf_M_47 : Cond.fieldLink "SmokeGoesToModel" 47 "SmokeGoesToModel" "longest" "[I" ∈ sm_G := sm_g4 (i := 146) rfl rfl
set_option maxRecDepth 100000 in
theorem gf_M_50 : Cond.fieldLink "SmokeGoesToModel" 50 "SmokeGoesToModel" "risen" "[I" ∈ sm_G := sm_g4 (i := 147) rfl rfl
set_option maxRecDepth 100000 in
theorem gf_M_53 : Cond.fieldLink "SmokeGoesToModel" 53 "SmokeGoesToModel" "leftPlace" "[I" ∈ sm_G := sm_g4 (i := 148) rfl rfl
set_option maxRecDepth 100000 in
theorem gf_M_276 : Cond.fieldLink "SmokeGoesToModel" 276 "SmokeGoesToModel" "upNow" "I" ∈ sm_G := sm_g4 (i := 149) rfl rfl
set_option maxRecDepth 100000 in
theorem gf_M_279 : Cond.fieldLink "SmokeGoesToModel" 279 "SmokeGoesToModel" "needless" "I" ∈ sm_G := sm_g4 (i := 150) rfl rfl
set_option maxRecDepth 100000 in
theorem gf_M_56 : Cond.fieldLink "SmokeGoesToModel" 56 "SmokeGoesToModel" "aside" "[I" ∈ sm_G := sm_g4 (i := 151) rfl rfl
set_option maxRecDepth 100000 in
theorem gf_M_59 : Cond.fieldLink "SmokeGoesToModel" 59 "SmokeGoesToModel" "parts" "[J" ∈ sm_G := sm_g4 (i := 152) rfl rfl
set_option maxRecDepth 100000 in
theorem gf_M_63 : Cond.fieldLink "SmokeGoesToModel" 63 "SmokeGoesToModel" "then" "[J" ∈ sm_G := sm_g4 (i := 153) rfl rfl
set_option maxRecDepth 100000 in
theorem gf_M_66 : Cond.fieldLink "SmokeGoesToModel" 66 "SmokeGoesToModel" "means" "[J" ∈ sm_G := sm_g4 (i := 154) rfl rfl
set_option maxRecDepth 100000 in
theorem gf_M_322 : Cond.fieldLink "SmokeGoesToModel" 322 "SmokeGoesToModel" "below" "J" ∈ sm_G := sm_g4 (i := 155) rfl rfl
set_option maxRecDepth 100000 in
theorem gf_M_69 : Cond.fieldLink "SmokeGoesToModel" 69 "SmokeGoesToModel" "seats" "[I" ∈ sm_G := sm_g4 (i := 156) rfl rfl
set_option maxRecDepth 100000 in
theorem gf_M_72 : Cond.fieldLink "SmokeGoesToModel" 72 "SmokeGoesToModel" "bestSeats" "[I" ∈ sm_G := sm_g4 (i := 157) rfl rfl
set_option maxRecDepth 100000 in
theorem gf_M_341 : Cond.fieldLink "SmokeGoesToModel" 341 "SmokeGoesToModel" "bestSum" "J" ∈ sm_G := sm_g4 (i := 158) rfl rfl
set_option maxRecDepth 100000 in
theorem gf_M_338 : Cond.fieldLink "SmokeGoesToModel" 338 "SmokeGoesToModel" "isFound" "Z" ∈ sm_G := sm_g4 (i := 159) rfl rfl
set_option maxRecDepth 100000 in
theorem gf_M_352 : Cond.fieldLink "SmokeGoesToModel" 352 "SmokeGoesToModel" "rowsMany" "I" ∈ sm_G := sm_g4 (i := 160) rfl rfl
set_option maxRecDepth 100000 in
theorem gf_M_355 : Cond.fieldLink "SmokeGoesToModel" 355 "SmokeGoesToModel" "rowsFirst" "I" ∈ sm_G := sm_g4 (i := 161) rfl rfl
set_option maxRecDepth 100000 in
theorem gf_M_75 : Cond.fieldLink "SmokeGoesToModel" 75 "SmokeGoesToModel" "kept" "[I" ∈ sm_G := sm_g4 (i := 162) rfl rfl
set_option maxRecDepth 100000 in
theorem gf_M_78 : Cond.fieldLink "SmokeGoesToModel" 78 "SmokeGoesToModel" "manyKept" "I" ∈ sm_G := sm_g4 (i := 163) rfl rfl
set_option maxRecDepth 100000 in
theorem gf_M_374 : Cond.fieldLink "SmokeGoesToModel" 374 "SmokeGoesToModel" "ruleKept" "I" ∈ sm_G := sm_g4 (i := 164) rfl rfl
set_option maxRecDepth 100000 in
theorem gf_M_81 : Cond.fieldLink "SmokeGoesToModel" 81 "SmokeGoesToModel" "isThere" "[Z" ∈ sm_G := sm_g4 (i := 165) rfl rfl
set_option maxRecDepth 100000 in
theorem gf_M_85 : Cond.fieldLink "SmokeGoesToModel" 85 "SmokeGoesToModel" "sorts" "[I" ∈ sm_G := sm_g4 (i := 166) rfl rfl
set_option maxRecDepth 100000 in
theorem gf_M_88 : Cond.fieldLink "SmokeGoesToModel" 88 "SmokeGoesToModel" "sheetSize" "[I" ∈ sm_G := sm_g4 (i := 167) rfl rfl
set_option maxRecDepth 100000 in
theorem gf_M_91 : Cond.fieldLink "SmokeGoesToModel" 91 "SmokeGoesToModel" "items" "[I" ∈ sm_G := sm_g4 (i := 168) rfl rfl
set_option maxRecDepth 100000 in
theorem gf_String_9 : Cond.fieldLink "java/lang/String" 9 "java/lang/String" "value" "[B" ∈ sm_G := sm_g6 (i := 102) rfl rfl
set_option maxRecDepth 100000 in
theorem gf_String_15 : Cond.fieldLink "java/lang/String" 15 "java/lang/String" "coder" "B" ∈ sm_G := sm_g6 (i := 103) rfl rfl
theorem gl_S_11 : ("SmokeGoesTo", 11, yX0_init) ∈ sm_nl := List.mem_of_getElem? (i := 0) rfl
theorem gl_S_25 : ("SmokeGoesTo", 25, yX4_init) ∈ sm_nl := List.mem_of_getElem? (i := 1) rfl
theorem gl_S_48 : ("SmokeGoesTo", 48, yX2_init) ∈ sm_nl := List.mem_of_getElem? (i := 2) rfl
theorem gl_Night_11 : ("SmokeGoesTo$Night", 11, yX0_init) ∈ sm_nl := List.mem_of_getElem? (i := 3) rfl
theorem gl_S_55 : ("SmokeGoesTo", 55, yX3_init) ∈ sm_nl := List.mem_of_getElem? (i := 4) rfl
theorem gl_S_60 : ("SmokeGoesTo", 60, yX6_init) ∈ sm_nl := List.mem_of_getElem? (i := 5) rfl
theorem gl_S_61 : ("SmokeGoesTo", 61, yX5_init) ∈ sm_nl := List.mem_of_getElem? (i := 6) rfl
theorem gl_Fire_59 : ("SmokeGoesTo$Fire", 59, yX7_isPlace) ∈ sm_nl := List.mem_of_getElem? (i := 7) rfl
theorem gl_Kind_15 : ("SmokeGoesTo$Kind", 15, yX7_round) ∈ sm_nl := List.mem_of_getElem? (i := 8) rfl
theorem gl_Night_117 : ("SmokeGoesTo$Night", 117, yX7_round) ∈ sm_nl := List.mem_of_getElem? (i := 9) rfl
theorem gl_Odds_37 : ("SmokeGoesTo$Odds", 37, yX7_round) ∈ sm_nl := List.mem_of_getElem? (i := 10) rfl
set_option maxRecDepth 100000 in
theorem gk_S_252 : Cond.constant "SmokeGoesTo" 252 (-100000) ∈ sm_G := sm_g3 (i := 231) rfl rfl
set_option maxRecDepth 100000 in
theorem gk_Night_71 : Cond.constant "SmokeGoesTo$Night" 71 (1103515245) ∈ sm_G := sm_g4 (i := 53) rfl rfl
set_option maxRecDepth 100000 in
theorem gk_M_351 : Cond.constant "SmokeGoesToModel" 351 (-100000) ∈ sm_G := sm_g6 (i := 31) rfl rfl
set_option maxRecDepth 100000 in
theorem gk_M_368 : Cond.constant "SmokeGoesToModel" 368 (1103515245) ∈ sm_G := sm_g6 (i := 63) rfl rfl
set_option maxRecDepth 100000 in
theorem gk_S_211 : Cond.constantLong "SmokeGoesTo" 211 (-4611686018427387904) ∈ sm_G := sm_g3 (i := 174) rfl rfl
set_option maxRecDepth 100000 in
theorem gk_Odds_51 : Cond.constantLong "SmokeGoesTo$Odds" 51 (100) ∈ sm_G := sm_g3 (i := 188) rfl rfl
set_option maxRecDepth 100000 in
theorem gk_S_247 : Cond.constantLong "SmokeGoesTo" 247 (9223372036854775807) ∈ sm_G := sm_g3 (i := 215) rfl rfl
set_option maxRecDepth 100000 in
theorem gk_M_110 : Cond.constantLong "SmokeGoesToModel" 110 (6) ∈ sm_G := sm_g5 (i := 49) rfl rfl
set_option maxRecDepth 100000 in
theorem gk_M_129 : Cond.constantLong "SmokeGoesToModel" 129 (5) ∈ sm_G := sm_g5 (i := 65) rfl rfl
set_option maxRecDepth 100000 in
theorem gk_M_131 : Cond.constantLong "SmokeGoesToModel" 131 (9) ∈ sm_G := sm_g5 (i := 66) rfl rfl
set_option maxRecDepth 100000 in
theorem gk_M_108 : Cond.constantLong "SmokeGoesToModel" 108 (7) ∈ sm_G := sm_g5 (i := 70) rfl rfl
set_option maxRecDepth 100000 in
theorem gk_M_148 : Cond.constantLong "SmokeGoesToModel" 148 (255) ∈ sm_G := sm_g5 (i := 90) rfl rfl
set_option maxRecDepth 100000 in
theorem gk_M_171 : Cond.constantLong "SmokeGoesToModel" 171 (97) ∈ sm_G := sm_g5 (i := 107) rfl rfl
set_option maxRecDepth 100000 in
theorem gk_M_173 : Cond.constantLong "SmokeGoesToModel" 173 (122) ∈ sm_G := sm_g5 (i := 108) rfl rfl
set_option maxRecDepth 100000 in
theorem gk_M_175 : Cond.constantLong "SmokeGoesToModel" 175 (48) ∈ sm_G := sm_g5 (i := 109) rfl rfl
set_option maxRecDepth 100000 in
theorem gk_M_177 : Cond.constantLong "SmokeGoesToModel" 177 (57) ∈ sm_G := sm_g5 (i := 110) rfl rfl
set_option maxRecDepth 100000 in
theorem gk_M_183 : Cond.constantLong "SmokeGoesToModel" 183 (10) ∈ sm_G := sm_g5 (i := 111) rfl rfl
set_option maxRecDepth 100000 in
theorem gk_M_246 : Cond.constantLong "SmokeGoesToModel" 246 (43) ∈ sm_G := sm_g5 (i := 164) rfl rfl
set_option maxRecDepth 100000 in
theorem gk_M_254 : Cond.constantLong "SmokeGoesToModel" 254 (60) ∈ sm_G := sm_g5 (i := 165) rfl rfl
set_option maxRecDepth 100000 in
theorem gk_M_318 : Cond.constantLong "SmokeGoesToModel" 318 (3) ∈ sm_G := sm_g5 (i := 177) rfl rfl
set_option maxRecDepth 100000 in
theorem gk_M_320 : Cond.constantLong "SmokeGoesToModel" 320 (59) ∈ sm_G := sm_g5 (i := 178) rfl rfl
set_option maxRecDepth 100000 in
theorem gk_M_327 : Cond.constantLong "SmokeGoesToModel" 327 (8) ∈ sm_G := sm_g5 (i := 233) rfl rfl
set_option maxRecDepth 100000 in
theorem gk_M_329 : Cond.constantLong "SmokeGoesToModel" 329 (-4611686018427387904) ∈ sm_G := sm_g5 (i := 234) rfl rfl
set_option maxRecDepth 100000 in
theorem gk_M_325 : Cond.constantLong "SmokeGoesToModel" 325 (100) ∈ sm_G := sm_g5 (i := 239) rfl rfl
set_option maxRecDepth 100000 in
theorem gk_M_358 : Cond.constantLong "SmokeGoesToModel" 358 (-2) ∈ sm_G := sm_g6 (i := 40) rfl rfl
set_option maxRecDepth 100000 in
theorem gk_M_360 : Cond.constantLong "SmokeGoesToModel" 360 (-1) ∈ sm_G := sm_g6 (i := 41) rfl rfl
set_option maxRecDepth 100000 in
theorem gk_M_377 : Cond.constantLong "SmokeGoesToModel" 377 (2) ∈ sm_G := sm_g6 (i := 54) rfl rfl
set_option maxRecDepth 100000 in
theorem gk_M_372 : Cond.constantLong "SmokeGoesToModel" 372 (20) ∈ sm_G := sm_g6 (i := 68) rfl rfl
set_option maxRecDepth 100000 in
theorem gx_Law_7 : Cond.classLink "SmokeGoesToLaw" 7 "SmokeGoesTo" ∈ sm_G := sm_g1 (i := 18) rfl rfl
set_option maxRecDepth 100000 in
theorem gx_S_9 : Cond.classLink "SmokeGoesTo" 9 "SmokeGoesTo$Fire" ∈ sm_G := sm_g1 (i := 26) rfl rfl
set_option maxRecDepth 100000 in
theorem gx_S_23 : Cond.classLink "SmokeGoesTo" 23 "SmokeGoesTo$Reader" ∈ sm_G := sm_g1 (i := 83) rfl rfl
set_option maxRecDepth 100000 in
theorem gx_S_30 : Cond.classLink "SmokeGoesTo" 30 "SmokeGoesTo$Text" ∈ sm_G := sm_g1 (i := 112) rfl rfl
set_option maxRecDepth 100000 in
theorem gx_S_40 : Cond.classLink "SmokeGoesTo" 40 "SmokeGoesTo$Sheet" ∈ sm_G := sm_g1 (i := 114) rfl rfl
set_option maxRecDepth 100000 in
theorem gx_S_46 : Cond.classLink "SmokeGoesTo" 46 "SmokeGoesTo$Night" ∈ sm_G := sm_g1 (i := 116) rfl rfl
set_option maxRecDepth 100000 in
theorem gx_Night_9 : Cond.classLink "SmokeGoesTo$Night" 9 "SmokeGoesTo$Fire" ∈ sm_G := sm_g1 (i := 122) rfl rfl
set_option maxRecDepth 100000 in
theorem gx_S_53 : Cond.classLink "SmokeGoesTo" 53 "SmokeGoesTo$Odds" ∈ sm_G := sm_g1 (i := 170) rfl rfl
set_option maxRecDepth 100000 in
theorem gx_Law_10 : Cond.classLink "SmokeGoesToLaw" 10 "SmokeGoesToModel" ∈ sm_G := sm_g4 (i := 103) rfl rfl
set_option maxRecDepth 100000 in
theorem gt_S : Cond.instantiable "SmokeGoesTo" 9 ∈ sm_G := sm_g1 (i := 19) rfl rfl
set_option maxRecDepth 100000 in
theorem gt_Fire : Cond.instantiable "SmokeGoesTo$Fire" 10 ∈ sm_G := sm_g1 (i := 27) rfl rfl
set_option maxRecDepth 100000 in
theorem gt_Reader : Cond.instantiable "SmokeGoesTo$Reader" 7 ∈ sm_G := sm_g1 (i := 84) rfl rfl
set_option maxRecDepth 100000 in
theorem gt_Night : Cond.instantiable "SmokeGoesTo$Night" 14 ∈ sm_G := sm_g1 (i := 117) rfl rfl
set_option maxRecDepth 100000 in
theorem gt_Odds : Cond.instantiable "SmokeGoesTo$Odds" 4 ∈ sm_G := sm_g1 (i := 171) rfl rfl
set_option maxRecDepth 100000 in
theorem gt_Text : Cond.instantiable "SmokeGoesTo$Text" 3 ∈ sm_G := sm_g1 (i := 193) rfl rfl
set_option maxRecDepth 100000 in
theorem gt_Sheet : Cond.instantiable "SmokeGoesTo$Sheet" 3 ∈ sm_G := sm_g1 (i := 208) rfl rfl
set_option maxRecDepth 100000 in
theorem gt_M : Cond.instantiable "SmokeGoesToModel" 57 ∈ sm_G := sm_g4 (i := 104) rfl rfl
set_option maxRecDepth 100000 in
theorem gs_max : Cond.static Lib.Math.max.name ∈ sm_G := sm_g2 (i := 92) rfl rfl
set_option maxRecDepth 100000 in
theorem gc_max : Cond.code Lib.Math.max.name Lib.Math.max.code 2 (some .int) ∈ sm_G := sm_g2 (i := 93) rfl rfl
set_option maxRecDepth 100000 in
theorem gs_min : Cond.static Lib.Math.min.name ∈ sm_G := sm_g2 (i := 95) rfl rfl
set_option maxRecDepth 100000 in
theorem gc_min : Cond.code Lib.Math.min.name Lib.Math.min.code 2 (some .int) ∈ sm_G := sm_g2 (i := 96) rfl rfl
set_option maxRecDepth 100000 in
theorem gs_copy : Cond.static arraycopyName ∈ sm_G := sm_g3 (i := 93) rfl rfl
set_option maxRecDepth 100000 in
theorem gq_copy : Cond.native arraycopyName ∈ sm_G := sm_g3 (i := 94) rfl rfl
set_option maxRecDepth 100000 in
theorem gi_objinit : Cond.instanceMethod Lib.objectInit ∈ sm_G := sm_g1 (i := 24) rfl rfl
set_option maxRecDepth 100000 in
theorem gc_objinit : Cond.code Lib.objectInit ⟨#[0xb1]⟩ 1 none ∈ sm_G := sm_g1 (i := 25) rfl rfl
set_option maxRecDepth 100000 in
theorem ga_int : Cond.arrayClass .int ∈ sm_G := sm_g1 (i := 82) rfl rfl
set_option maxRecDepth 100000 in
theorem ga_long : Cond.arrayClass .long ∈ sm_G := sm_g1 (i := 192) rfl rfl
set_option maxRecDepth 100000 in
theorem ga_byte : Cond.arrayClass .byte ∈ sm_G := sm_g2 (i := 212) rfl rfl
set_option maxRecDepth 100000 in
theorem ga_boolean : Cond.arrayClass .boolean ∈ sm_G := sm_g5 (i := 44) rfl rfl
theorem gm_X7_init : sm_Mt yX7_init prog_1_method_1_code 2 none 0 := ⟨gc_X7_init, gn_S, by decide +kernel⟩
theorem gm_X7_set : sm_Mt yX7_set prog_1_method_2_code 4 (some .int) 3 := ⟨gc_X7_set, gn_S, by decide +kernel⟩
theorem gm_X7_setSmoke : sm_Mt yX7_setSmoke prog_1_method_3_code 3 (some .int) 1 := ⟨gc_X7_setSmoke, gn_S, by decide +kernel⟩
theorem gm_X7_isPlace : sm_Mt yX7_isPlace prog_1_method_47_code 1 (some .boolean) 1 := ⟨gc_X7_isPlace, gn_S, by decide +kernel⟩
theorem gm_X7_setLeft : sm_Mt yX7_setLeft prog_1_method_4_code 3 (some .int) 1 := ⟨gc_X7_setLeft, gn_S, by decide +kernel⟩
theorem gm_X7_setRight : sm_Mt yX7_setRight prog_1_method_5_code 3 (some .int) 1 := ⟨gc_X7_setRight, gn_S, by decide +kernel⟩
theorem gm_X7_setTents : sm_Mt yX7_setTents prog_1_method_6_code 3 (some .int) 1 := ⟨gc_X7_setTents, gn_S, by decide +kernel⟩
theorem gm_X7_setEddy : sm_Mt yX7_setEddy prog_1_method_7_code 3 (some .int) 1 := ⟨gc_X7_setEddy, gn_S, by decide +kernel⟩
theorem gm_X7_setNumber : sm_Mt yX7_setNumber prog_1_method_8_code 4 (some .int) 2 := ⟨gc_X7_setNumber, gn_S, by decide +kernel⟩
theorem gm_X7_setPlace : sm_Mt yX7_setPlace prog_1_method_9_code 4 (some .int) 2 := ⟨gc_X7_setPlace, gn_S, by decide +kernel⟩
theorem gm_X7_sitter : sm_Mt yX7_sitter prog_1_method_10_code 4 (some .int) 3 := ⟨gc_X7_sitter, gn_S, by decide +kernel⟩
theorem gm_X7_told : sm_Mt yX7_told prog_1_method_11_code 4 (some .int) 2 := ⟨gc_X7_told, gn_S, by decide +kernel⟩
theorem gm_X7_round : sm_Mt yX7_round prog_1_method_52_code 1 (some .int) 1 := ⟨gc_X7_round, gn_S, by decide +kernel⟩
theorem gm_X7_feed : sm_Mt yX7_feed prog_1_method_12_code 2 (some .int) 1 := ⟨gc_X7_feed, gn_S, by decide +kernel⟩
theorem gm_X7_text : sm_Mt yX7_text prog_1_method_13_code 2 (some .int) 0 := ⟨gc_X7_text, gn_S, by decide +kernel⟩
theorem gm_X7_force : sm_Mt yX7_force prog_1_method_14_code 3 (some .int) 1 := ⟨gc_X7_force, gn_S, by decide +kernel⟩
theorem gm_X7_night : sm_Mt yX7_night prog_1_method_15_code 3 (some .int) 2 := ⟨gc_X7_night, gn_S, by decide +kernel⟩
theorem gm_X7_isSheet : sm_Mt yX7_isSheet prog_1_method_49_code 1 (some .boolean) 1 := ⟨gc_X7_isSheet, gn_S, by decide +kernel⟩
theorem gm_X7_isNightWhat : sm_Mt yX7_isNightWhat prog_1_method_16_code 2 (some .boolean) 1 := ⟨gc_X7_isNightWhat, gn_S, by decide +kernel⟩
theorem gm_X7_thinkAsItIs : sm_Mt yX7_thinkAsItIs prog_1_method_18_code 1 none 0 := ⟨gc_X7_thinkAsItIs, gn_S, by decide +kernel⟩
theorem gm_X7_sit : sm_Mt yX7_sit prog_1_method_17_code 3 (some .int) 1 := ⟨gc_X7_sit, gn_S, by decide +kernel⟩
theorem gm_X7_refusal : sm_Mt yX7_refusal prog_1_method_51_code 2 (some .int) 1 := ⟨gc_X7_refusal, gn_S, by decide +kernel⟩
theorem gm_X7_likely : sm_Mt yX7_likely prog_1_method_19_code 4 (some .long) 3 := ⟨gc_X7_likely, gn_S, by decide +kernel⟩
theorem gm_X7_isPart : sm_Mt yX7_isPart prog_1_method_48_code 1 (some .boolean) 1 := ⟨gc_X7_isPart, gn_S, by decide +kernel⟩
theorem gm_X7_lowest : sm_Mt yX7_lowest prog_1_method_53_code 7 (some .long) 3 := ⟨gc_X7_lowest, gn_S, by decide +kernel⟩
theorem gm_X7_commonDivisor : sm_Mt yX7_commonDivisor prog_1_method_54_code 11 (some .long) 2 := ⟨gc_X7_commonDivisor, gn_S, by decide +kernel⟩
theorem gm_X7_mean : sm_Mt yX7_mean prog_1_method_20_code 4 (some .long) 3 := ⟨gc_X7_mean, gn_S, by decide +kernel⟩
theorem gm_X7_isMeanMinutes : sm_Mt yX7_isMeanMinutes prog_1_method_50_code 1 (some .boolean) 1 := ⟨gc_X7_isMeanMinutes, gn_S, by decide +kernel⟩
theorem gm_X7_seat : sm_Mt yX7_seat prog_1_method_21_code 5 (some .int) 2 := ⟨gc_X7_seat, gn_S, by decide +kernel⟩
theorem gm_X7_gap : sm_Mt yX7_gap prog_1_method_22_code 5 (some .int) 2 := ⟨gc_X7_gap, gn_S, by decide +kernel⟩
theorem gm_X7_leastOutside : sm_Mt yX7_leastOutside prog_1_method_23_code 8 (some .int) 1 := ⟨gc_X7_leastOutside, gn_S, by decide +kernel⟩
theorem gm_X7_placeOfBit : sm_Mt yX7_placeOfBit prog_1_method_24_code 4 (some .int) 2 := ⟨gc_X7_placeOfBit, gn_S, by decide +kernel⟩
theorem gm_X7_stay : sm_Mt yX7_stay prog_1_method_25_code 6 (some .int) 1 := ⟨gc_X7_stay, gn_S, by decide +kernel⟩
theorem gm_X7_costIf : sm_Mt yX7_costIf prog_1_method_29_code 4 (some .int) 3 := ⟨gc_X7_costIf, gn_S, by decide +kernel⟩
theorem gm_X7_eddies : sm_Mt yX7_eddies prog_1_method_26_code 2 (some .int) 1 := ⟨gc_X7_eddies, gn_S, by decide +kernel⟩
theorem gm_X7_costIfEddy : sm_Mt yX7_costIfEddy prog_1_method_27_code 2 (some .int) 1 := ⟨gc_X7_costIfEddy, gn_S, by decide +kernel⟩
theorem gm_X7_best : sm_Mt yX7_best prog_1_method_28_code 8 (some .int) 3 := ⟨gc_X7_best, gn_S, by decide +kernel⟩
theorem gm_X7_eyes : sm_Mt yX7_eyes prog_1_method_30_code 5 (some .int) 3 := ⟨gc_X7_eyes, gn_S, by decide +kernel⟩
theorem gm_X7_rowsThatFit : sm_Mt yX7_rowsThatFit prog_1_method_31_code 6 (some .int) 2 := ⟨gc_X7_rowsThatFit, gn_S, by decide +kernel⟩
theorem gm_X7_rowsOf : sm_Mt yX7_rowsOf prog_1_method_34_code 3 (some .int) 1 := ⟨gc_X7_rowsOf, gn_S, by decide +kernel⟩
theorem gm_X7_fits : sm_Mt yX7_fits prog_1_method_35_code 7 (some .boolean) 5 := ⟨gc_X7_fits, gn_S, by decide +kernel⟩
theorem gm_X7_firstThatFits : sm_Mt yX7_firstThatFits prog_1_method_32_code 5 (some .int) 2 := ⟨gc_X7_firstThatFits, gn_S, by decide +kernel⟩
theorem gm_X7_kindsThatFit : sm_Mt yX7_kindsThatFit prog_1_method_33_code 8 (some .int) 3 := ⟨gc_X7_kindsThatFit, gn_S, by decide +kernel⟩
theorem gm_X7_film : sm_Mt yX7_film prog_1_method_36_code 4 (some .int) 2 := ⟨gc_X7_film, gn_S, by decide +kernel⟩
theorem gm_X7_drawn : sm_Mt yX7_drawn prog_1_method_37_code 2 (some .int) 1 := ⟨gc_X7_drawn, gn_S, by decide +kernel⟩
theorem gm_X7_chance : sm_Mt yX7_chance prog_1_method_38_code 6 (some .long) 3 := ⟨gc_X7_chance, gn_S, by decide +kernel⟩
theorem gm_X7_image : sm_Mt yX7_image prog_1_method_39_code 1 (some .int) 0 := ⟨gc_X7_image, gn_S, by decide +kernel⟩
theorem gm_X7_back : sm_Mt yX7_back prog_1_method_40_code 1 (some .int) 0 := ⟨gc_X7_back, gn_S, by decide +kernel⟩
theorem gm_X7_count : sm_Mt yX7_count prog_1_method_41_code 2 (some .int) 1 := ⟨gc_X7_count, gn_S, by decide +kernel⟩
theorem gm_X7_sheet : sm_Mt yX7_sheet prog_1_method_42_code 4 (some .int) 3 := ⟨gc_X7_sheet, gn_S, by decide +kernel⟩
theorem gm_X7_cell : sm_Mt yX7_cell prog_1_method_43_code 5 (some .int) 3 := ⟨gc_X7_cell, gn_S, by decide +kernel⟩
theorem gm_X7_copy : sm_Mt yX7_copy prog_1_method_44_code 8 (some .int) 5 := ⟨gc_X7_copy, gn_S, by decide +kernel⟩
theorem gm_X7_sitters : sm_Mt yX7_sitters prog_1_method_45_code 9 (some .int) 4 := ⟨gc_X7_sitters, gn_S, by decide +kernel⟩
theorem gm_X7_taken : sm_Mt yX7_taken prog_1_method_46_code 3 (some .int) 2 := ⟨gc_X7_taken, gn_S, by decide +kernel⟩
theorem gm_X0_init : sm_Mt yX0_init prog_2_method_1_code 1 none 0 := ⟨gc_X0_init, gn_Fire, by decide +kernel⟩
theorem gm_X0_has : sm_Mt yX0_has prog_2_method_3_code 2 (some .boolean) 1 := ⟨gc_X0_has, gn_Fire, by decide +kernel⟩
theorem gm_X0_isFreeFor : sm_Mt yX0_isFreeFor prog_2_method_6_code 4 (some .boolean) 2 := ⟨gc_X0_isFreeFor, gn_Fire, by decide +kernel⟩
theorem gm_X0_whoIsOn : sm_Mt yX0_whoIsOn prog_2_method_5_code 3 (some .int) 1 := ⟨gc_X0_whoIsOn, gn_Fire, by decide +kernel⟩
theorem gm_X0_come : sm_Mt yX0_come prog_2_method_7_code 4 (some .int) 3 := ⟨gc_X0_come, gn_Fire, by decide +kernel⟩
theorem gm_X0_become : sm_Mt yX0_become prog_2_method_2_code 2 none 1 := ⟨gc_X0_become, gn_Fire, by decide +kernel⟩
theorem gm_X0_hasTent : sm_Mt yX0_hasTent prog_2_method_4_code 2 (some .boolean) 1 := ⟨gc_X0_hasTent, gn_Fire, by decide +kernel⟩
theorem gm_X4_init : sm_Mt yX4_init prog_6_method_1_code 1 none 0 := ⟨gc_X4_init, gn_Reader, by decide +kernel⟩
theorem gm_X4_add : sm_Mt yX4_add prog_6_method_2_code 2 (some .boolean) 1 := ⟨gc_X4_add, gn_Reader, by decide +kernel⟩
theorem gm_X4_read : sm_Mt yX4_read prog_6_method_4_code 3 (some .int) 1 := ⟨gc_X4_read, gn_Reader, by decide +kernel⟩
theorem gm_X4_step : sm_Mt yX4_step prog_6_method_12_code 1 none 0 := ⟨gc_X4_step, gn_Reader, by decide +kernel⟩
theorem gm_X4_isDigit : sm_Mt yX4_isDigit prog_6_method_16_code 1 (some .boolean) 1 := ⟨gc_X4_isDigit, gn_Reader, by decide +kernel⟩
theorem gm_X4_stepNumber : sm_Mt yX4_stepNumber prog_6_method_13_code 1 none 0 := ⟨gc_X4_stepNumber, gn_Reader, by decide +kernel⟩
theorem gm_X4_isLetter : sm_Mt yX4_isLetter prog_6_method_17_code 1 (some .boolean) 1 := ⟨gc_X4_isLetter, gn_Reader, by decide +kernel⟩
theorem gm_X4_stepWord : sm_Mt yX4_stepWord prog_6_method_14_code 2 none 0 := ⟨gc_X4_stepWord, gn_Reader, by decide +kernel⟩
theorem gm_X4_isWord : sm_Mt yX4_isWord prog_6_method_15_code 4 (some .boolean) 1 := ⟨gc_X4_isWord, gn_Reader, by decide +kernel⟩
theorem gm_X4_accept : sm_Mt yX4_accept prog_6_method_5_code 2 (some .boolean) 1 := ⟨gc_X4_accept, gn_Reader, by decide +kernel⟩
theorem gm_X4_readOr : sm_Mt yX4_readOr prog_6_method_6_code 3 (some .boolean) 1 := ⟨gc_X4_readOr, gn_Reader, by decide +kernel⟩
theorem gm_X4_readAnd : sm_Mt yX4_readAnd prog_6_method_7_code 3 (some .boolean) 1 := ⟨gc_X4_readAnd, gn_Reader, by decide +kernel⟩
theorem gm_X4_readNot : sm_Mt yX4_readNot prog_6_method_8_code 3 (some .boolean) 1 := ⟨gc_X4_readNot, gn_Reader, by decide +kernel⟩
theorem gm_X4_readSum : sm_Mt yX4_readSum prog_6_method_9_code 4 (some .boolean) 1 := ⟨gc_X4_readSum, gn_Reader, by decide +kernel⟩
theorem gm_X4_readTerm : sm_Mt yX4_readTerm prog_6_method_10_code 3 (some .boolean) 1 := ⟨gc_X4_readTerm, gn_Reader, by decide +kernel⟩
theorem gm_X4_readOne : sm_Mt yX4_readOne prog_6_method_11_code 2 (some .boolean) 1 := ⟨gc_X4_readOne, gn_Reader, by decide +kernel⟩
theorem gm_X4_empty : sm_Mt yX4_empty prog_6_method_3_code 1 none 0 := ⟨gc_X4_empty, gn_Reader, by decide +kernel⟩
theorem gm_X6_init : sm_Mt yX6_init prog_8_method_1_code 1 none 0 := ⟨gc_X6_init, gn_Text, by decide +kernel⟩
theorem gm_X6_clear : sm_Mt yX6_clear prog_8_method_2_code 1 none 0 := ⟨gc_X6_clear, gn_Text, by decide +kernel⟩
theorem gm_X6_addOperator : sm_Mt yX6_addOperator prog_8_method_5_code 2 none 1 := ⟨gc_X6_addOperator, gn_Text, by decide +kernel⟩
theorem gm_X6_addNumber : sm_Mt yX6_addNumber prog_8_method_3_code 2 none 1 := ⟨gc_X6_addNumber, gn_Text, by decide +kernel⟩
theorem gm_X6_addName : sm_Mt yX6_addName prog_8_method_4_code 2 none 1 := ⟨gc_X6_addName, gn_Text, by decide +kernel⟩
theorem gm_X6_endPart : sm_Mt yX6_endPart prog_8_method_6_code 2 none 1 := ⟨gc_X6_endPart, gn_Text, by decide +kernel⟩
theorem gm_X6_value : sm_Mt yX6_value prog_8_method_7_code 8 (some .int) 3 := ⟨gc_X6_value, gn_Text, by decide +kernel⟩
theorem gm_X6_joined : sm_Mt yX6_joined prog_8_method_8_code 3 (some .int) 3 := ⟨gc_X6_joined, gn_Text, by decide +kernel⟩
theorem gm_X5_init : sm_Mt yX5_init prog_7_method_1_code 1 none 0 := ⟨gc_X5_init, gn_Sheet, by decide +kernel⟩
theorem gm_X5_isMissing : sm_Mt yX5_isMissing prog_7_method_3_code 1 (some .boolean) 0 := ⟨gc_X5_isMissing, gn_Sheet, by decide +kernel⟩
theorem gm_X5_item : sm_Mt yX5_item prog_7_method_5_code 2 (some .int) 1 := ⟨gc_X5_item, gn_Sheet, by decide +kernel⟩
theorem gm_X5_become : sm_Mt yX5_become prog_7_method_2_code 3 none 2 := ⟨gc_X5_become, gn_Sheet, by decide +kernel⟩
theorem gm_X5_put : sm_Mt yX5_put prog_7_method_6_code 3 none 2 := ⟨gc_X5_put, gn_Sheet, by decide +kernel⟩
theorem gm_X5_holds : sm_Mt yX5_holds prog_7_method_4_code 3 (some .boolean) 2 := ⟨gc_X5_holds, gn_Sheet, by decide +kernel⟩
theorem gm_X2_init : sm_Mt yX2_init prog_4_method_1_code 1 none 0 := ⟨gc_X2_init, gn_Night, by decide +kernel⟩
theorem gm_X2_takeWinds : sm_Mt yX2_takeWinds prog_4_method_2_code 4 none 1 := ⟨gc_X2_takeWinds, gn_Night, by decide +kernel⟩
theorem gm_X2_begin : sm_Mt yX2_begin prog_4_method_6_code 2 none 1 := ⟨gc_X2_begin, gn_Night, by decide +kernel⟩
theorem gm_X2_run : sm_Mt yX2_run prog_4_method_7_code 5 none 1 := ⟨gc_X2_run, gn_Night, by decide +kernel⟩
theorem gm_X2_turn : sm_Mt yX2_turn prog_4_method_8_code 3 none 1 := ⟨gc_X2_turn, gn_Night, by decide +kernel⟩
theorem gm_X2_feel : sm_Mt yX2_feel prog_4_method_9_code 4 none 3 := ⟨gc_X2_feel, gn_Night, by decide +kernel⟩
theorem gm_X2_price : sm_Mt yX2_price prog_4_method_11_code 4 (some .int) 3 := ⟨gc_X2_price, gn_Night, by decide +kernel⟩
theorem gm_X2_rise : sm_Mt yX2_rise prog_4_method_10_code 6 none 3 := ⟨gc_X2_rise, gn_Night, by decide +kernel⟩
theorem gm_X2_ofAll : sm_Mt yX2_ofAll prog_4_method_12_code 2 (some .int) 1 := ⟨gc_X2_ofAll, gn_Night, by decide +kernel⟩
theorem gm_X2_costOfAll : sm_Mt yX2_costOfAll prog_4_method_14_code 1 (some .int) 0 := ⟨gc_X2_costOfAll, gn_Night, by decide +kernel⟩
theorem gm_X2_sum : sm_Mt yX2_sum prog_4_method_16_code 3 (some .int) 1 := ⟨gc_X2_sum, gn_Night, by decide +kernel⟩
theorem gm_X2_upsOfAll : sm_Mt yX2_upsOfAll prog_4_method_15_code 1 (some .int) 0 := ⟨gc_X2_upsOfAll, gn_Night, by decide +kernel⟩
theorem gm_X2_ofOne : sm_Mt yX2_ofOne prog_4_method_13_code 3 (some .int) 2 := ⟨gc_X2_ofOne, gn_Night, by decide +kernel⟩
theorem gm_X2_takeRow : sm_Mt yX2_takeRow prog_4_method_3_code 5 none 2 := ⟨gc_X2_takeRow, gn_Night, by decide +kernel⟩
theorem gm_X2_digits : sm_Mt yX2_digits prog_4_method_5_code 3 (some .int) 0 := ⟨gc_X2_digits, gn_Night, by decide +kernel⟩
theorem gm_X2_drawWinds : sm_Mt yX2_drawWinds prog_4_method_4_code 7 none 3 := ⟨gc_X2_drawWinds, gn_Night, by decide +kernel⟩
theorem gm_X3_init : sm_Mt yX3_init prog_5_method_1_code 1 none 0 := ⟨gc_X3_init, gn_Odds, by decide +kernel⟩
theorem gm_X3_spread : sm_Mt yX3_spread prog_5_method_2_code 4 none 2 := ⟨gc_X3_spread, gn_Odds, by decide +kernel⟩
theorem gm_X3_pass : sm_Mt yX3_pass prog_5_method_3_code 4 none 2 := ⟨gc_X3_pass, gn_Odds, by decide +kernel⟩
theorem gm_X1_exists : sm_Mt yX1_exists prog_3_method_2_code 1 (some .boolean) 1 := ⟨gc_X1_exists, gn_Kind, by decide +kernel⟩
theorem gm_X1_goes : sm_Mt yX1_goes prog_3_method_6_code 3 (some .int) 3 := ⟨gc_X1_goes, gn_Kind, by decide +kernel⟩
theorem gm_X1_getsUp : sm_Mt yX1_getsUp prog_3_method_5_code 3 (some .boolean) 3 := ⟨gc_X1_getsUp, gn_Kind, by decide +kernel⟩
theorem gm_X1_bears : sm_Mt yX1_bears prog_3_method_7_code 3 (some .int) 3 := ⟨gc_X1_bears, gn_Kind, by decide +kernel⟩
theorem gm_X1_isUnder : sm_Mt yX1_isUnder prog_3_method_3_code 4 (some .boolean) 2 := ⟨gc_X1_isUnder, gn_Kind, by decide +kernel⟩
theorem gm_X1_above : sm_Mt yX1_above prog_3_method_4_code 1 (some .int) 1 := ⟨gc_X1_above, gn_Kind, by decide +kernel⟩
theorem gm_X8_init : sm_Mt yX8_init prog_10_method_5_code 1 none 0 := ⟨gc_X8_init, gn_M, by decide +kernel⟩
theorem gm_X8_spell : sm_Mt yX8_spell prog_10_method_6_code 10 none 9 := ⟨gc_X8_spell, gn_M, by decide +kernel⟩
theorem gm_X8_set : sm_Mt yX8_set prog_10_method_10_code 6 (some .int) 3 := ⟨gc_X8_set, gn_M, by decide +kernel⟩
theorem gm_X8_in : sm_Mt yX8_in prog_10_method_2_code 6 (some .boolean) 3 := ⟨gc_X8_in, gn_M, by decide +kernel⟩
theorem gm_X8_isSitter : sm_Mt yX8_isSitter prog_10_method_7_code 2 (some .boolean) 1 := ⟨gc_X8_isSitter, gn_M, by decide +kernel⟩
theorem gm_X8_onPlace : sm_Mt yX8_onPlace prog_10_method_9_code 4 (some .int) 2 := ⟨gc_X8_onPlace, gn_M, by decide +kernel⟩
theorem gm_X8_sitter : sm_Mt yX8_sitter prog_10_method_11_code 4 (some .int) 3 := ⟨gc_X8_sitter, gn_M, by decide +kernel⟩
theorem gm_X8_isPlace : sm_Mt yX8_isPlace prog_10_method_8_code 1 (some .boolean) 1 := ⟨gc_X8_isPlace, gn_M, by decide +kernel⟩
theorem gm_X8_told : sm_Mt yX8_told prog_10_method_14_code 3 (some .int) 2 := ⟨gc_X8_told, gn_M, by decide +kernel⟩
theorem gm_X8_goesTo : sm_Mt yX8_goesTo prog_10_method_13_code 5 (some .int) 3 := ⟨gc_X8_goesTo, gn_M, by decide +kernel⟩
theorem gm_X8_round : sm_Mt yX8_round prog_10_method_4_code 1 (some .int) 1 := ⟨gc_X8_round, gn_M, by decide +kernel⟩
theorem gm_X8_getsUp : sm_Mt yX8_getsUp prog_10_method_12_code 4 (some .boolean) 2 := ⟨gc_X8_getsUp, gn_M, by decide +kernel⟩
theorem gm_X8_feed : sm_Mt yX8_feed prog_10_method_15_code 2 (some .int) 1 := ⟨gc_X8_feed, gn_M, by decide +kernel⟩
theorem gm_X8_text : sm_Mt yX8_text prog_10_method_32_code 2 (some .int) 0 := ⟨gc_X8_text, gn_M, by decide +kernel⟩
theorem gm_X8_read : sm_Mt yX8_read prog_10_method_31_code 6 (some .int) 2 := ⟨gc_X8_read, gn_M, by decide +kernel⟩
theorem gm_X8_next : sm_Mt yX8_next prog_10_method_17_code 3 none 0 := ⟨gc_X8_next, gn_M, by decide +kernel⟩
theorem gm_X8_byteAt : sm_Mt yX8_byteAt prog_10_method_16_code 2 (some .int) 1 := ⟨gc_X8_byteAt, gn_M, by decide +kernel⟩
theorem gm_X8_isWord : sm_Mt yX8_isWord prog_10_method_20_code 9 (some .boolean) 8 := ⟨gc_X8_isWord, gn_M, by decide +kernel⟩
theorem gm_X8_isLetter : sm_Mt yX8_isLetter prog_10_method_19_code 3 (some .boolean) 2 := ⟨gc_X8_isLetter, gn_M, by decide +kernel⟩
theorem gm_X8_part : sm_Mt yX8_part prog_10_method_30_code 3 (some .int) 1 := ⟨gc_X8_part, gn_M, by decide +kernel⟩
theorem gm_X8_fail : sm_Mt yX8_fail prog_10_method_18_code 1 none 0 := ⟨gc_X8_fail, gn_M, by decide +kernel⟩
theorem gm_X8_either : sm_Mt yX8_either prog_10_method_29_code 3 (some .int) 0 := ⟨gc_X8_either, gn_M, by decide +kernel⟩
theorem gm_X8_both : sm_Mt yX8_both prog_10_method_28_code 3 (some .int) 0 := ⟨gc_X8_both, gn_M, by decide +kernel⟩
theorem gm_X8_not : sm_Mt yX8_not prog_10_method_27_code 4 (some .int) 0 := ⟨gc_X8_not, gn_M, by decide +kernel⟩
theorem gm_X8_opens : sm_Mt yX8_opens prog_10_method_22_code 1 (some .boolean) 0 := ⟨gc_X8_opens, gn_M, by decide +kernel⟩
theorem gm_X8_added : sm_Mt yX8_added prog_10_method_26_code 4 (some .int) 0 := ⟨gc_X8_added, gn_M, by decide +kernel⟩
theorem gm_X8_term : sm_Mt yX8_term prog_10_method_25_code 2 (some .int) 0 := ⟨gc_X8_term, gn_M, by decide +kernel⟩
theorem gm_X8_atom : sm_Mt yX8_atom prog_10_method_24_code 2 (some .int) 0 := ⟨gc_X8_atom, gn_M, by decide +kernel⟩
theorem gm_X8_isSign : sm_Mt yX8_isSign prog_10_method_21_code 2 (some .boolean) 1 := ⟨gc_X8_isSign, gn_M, by decide +kernel⟩
theorem gm_X8_name : sm_Mt yX8_name prog_10_method_23_code 1 (some .int) 0 := ⟨gc_X8_name, gn_M, by decide +kernel⟩
theorem gm_X8_force : sm_Mt yX8_force prog_10_method_33_code 3 (some .int) 1 := ⟨gc_X8_force, gn_M, by decide +kernel⟩
theorem gm_X8_night : sm_Mt yX8_night prog_10_method_46_code 5 (some .int) 2 := ⟨gc_X8_night, gn_M, by decide +kernel⟩
theorem gm_X8_isSheet : sm_Mt yX8_isSheet prog_10_method_67_code 1 (some .boolean) 1 := ⟨gc_X8_isSheet, gn_M, by decide +kernel⟩
theorem gm_X8_layAside : sm_Mt yX8_layAside prog_10_method_40_code 2 none 0 := ⟨gc_X8_layAside, gn_M, by decide +kernel⟩
theorem gm_X8_nights : sm_Mt yX8_nights prog_10_method_43_code 3 none 1 := ⟨gc_X8_nights, gn_M, by decide +kernel⟩
theorem gm_X8_begins : sm_Mt yX8_begins prog_10_method_36_code 2 none 0 := ⟨gc_X8_begins, gn_M, by decide +kernel⟩
theorem gm_X8_windOf : sm_Mt yX8_windOf prog_10_method_42_code 1 (some .int) 1 := ⟨gc_X8_windOf, gn_M, by decide +kernel⟩
theorem gm_X8_passes : sm_Mt yX8_passes prog_10_method_39_code 6 none 2 := ⟨gc_X8_passes, gn_M, by decide +kernel⟩
theorem gm_X8_turns : sm_Mt yX8_turns prog_10_method_37_code 4 none 1 := ⟨gc_X8_turns, gn_M, by decide +kernel⟩
theorem gm_X8_bearsOf : sm_Mt yX8_bearsOf prog_10_method_35_code 7 (some .int) 3 := ⟨gc_X8_bearsOf, gn_M, by decide +kernel⟩
theorem gm_X8_says : sm_Mt yX8_says prog_10_method_34_code 5 (some .int) 4 := ⟨gc_X8_says, gn_M, by decide +kernel⟩
theorem gm_X8_within : sm_Mt yX8_within prog_10_method_3_code 3 (some .int) 3 := ⟨gc_X8_within, gn_M, by decide +kernel⟩
theorem gm_X8_firstFree : sm_Mt yX8_firstFree prog_10_method_38_code 4 (some .int) 2 := ⟨gc_X8_firstFree, gn_M, by decide +kernel⟩
theorem gm_X8_sumOf : sm_Mt yX8_sumOf prog_10_method_44_code 4 (some .int) 1 := ⟨gc_X8_sumOf, gn_M, by decide +kernel⟩
theorem gm_X8_takeBack : sm_Mt yX8_takeBack prog_10_method_41_code 2 none 0 := ⟨gc_X8_takeBack, gn_M, by decide +kernel⟩
theorem gm_X8_sit : sm_Mt yX8_sit prog_10_method_47_code 2 (some .int) 1 := ⟨gc_X8_sit, gn_M, by decide +kernel⟩
theorem gm_X8_likely : sm_Mt yX8_likely prog_10_method_50_code 4 (some .long) 3 := ⟨gc_X8_likely, gn_M, by decide +kernel⟩
theorem gm_X8_spreads : sm_Mt yX8_spreads prog_10_method_48_code 4 none 1 := ⟨gc_X8_spreads, gn_M, by decide +kernel⟩
theorem gm_X8_lowest : sm_Mt yX8_lowest prog_10_method_49_code 11 (some .long) 3 := ⟨gc_X8_lowest, gn_M, by decide +kernel⟩
theorem gm_X8_mean : sm_Mt yX8_mean prog_10_method_51_code 4 (some .long) 3 := ⟨gc_X8_mean, gn_M, by decide +kernel⟩
theorem gm_X8_seat : sm_Mt yX8_seat prog_10_method_52_code 6 (some .int) 2 := ⟨gc_X8_seat, gn_M, by decide +kernel⟩
theorem gm_X8_gap : sm_Mt yX8_gap prog_10_method_54_code 3 (some .int) 2 := ⟨gc_X8_gap, gn_M, by decide +kernel⟩
theorem gm_X8_seatsFrom : sm_Mt yX8_seatsFrom prog_10_method_53_code 6 none 3 := ⟨gc_X8_seatsFrom, gn_M, by decide +kernel⟩
theorem gm_X8_stay : sm_Mt yX8_stay prog_10_method_55_code 6 (some .int) 1 := ⟨gc_X8_stay, gn_M, by decide +kernel⟩
theorem gm_X8_costOf : sm_Mt yX8_costOf prog_10_method_45_code 2 (some .int) 1 := ⟨gc_X8_costOf, gn_M, by decide +kernel⟩
theorem gm_X8_eddies : sm_Mt yX8_eddies prog_10_method_56_code 5 (some .int) 1 := ⟨gc_X8_eddies, gn_M, by decide +kernel⟩
theorem gm_X8_best : sm_Mt yX8_best prog_10_method_57_code 8 (some .int) 3 := ⟨gc_X8_best, gn_M, by decide +kernel⟩
theorem gm_X8_eyes : sm_Mt yX8_eyes prog_10_method_59_code 7 (some .int) 3 := ⟨gc_X8_eyes, gn_M, by decide +kernel⟩
theorem gm_X8_rowsOf : sm_Mt yX8_rowsOf prog_10_method_58_code 9 none 2 := ⟨gc_X8_rowsOf, gn_M, by decide +kernel⟩
theorem gm_X8_film : sm_Mt yX8_film prog_10_method_60_code 4 (some .int) 2 := ⟨gc_X8_film, gn_M, by decide +kernel⟩
theorem gm_X8_sheet : sm_Mt yX8_sheet prog_10_method_68_code 5 (some .int) 3 := ⟨gc_X8_sheet, gn_M, by decide +kernel⟩
theorem gm_X8_drawn : sm_Mt yX8_drawn prog_10_method_62_code 2 (some .int) 1 := ⟨gc_X8_drawn, gn_M, by decide +kernel⟩
theorem gm_X8_draws : sm_Mt yX8_draws prog_10_method_61_code 5 (some .int) 1 := ⟨gc_X8_draws, gn_M, by decide +kernel⟩
theorem gm_X8_chance : sm_Mt yX8_chance prog_10_method_63_code 7 (some .long) 3 := ⟨gc_X8_chance, gn_M, by decide +kernel⟩
theorem gm_X8_image : sm_Mt yX8_image prog_10_method_64_code 2 (some .int) 0 := ⟨gc_X8_image, gn_M, by decide +kernel⟩
theorem gm_X8_back : sm_Mt yX8_back prog_10_method_65_code 2 (some .int) 0 := ⟨gc_X8_back, gn_M, by decide +kernel⟩
theorem gm_X8_count : sm_Mt yX8_count prog_10_method_66_code 2 (some .int) 1 := ⟨gc_X8_count, gn_M, by decide +kernel⟩
theorem gm_X8_cell : sm_Mt yX8_cell prog_10_method_69_code 4 (some .int) 3 := ⟨gc_X8_cell, gn_M, by decide +kernel⟩
theorem gm_X8_copy : sm_Mt yX8_copy prog_10_method_70_code 9 (some .int) 5 := ⟨gc_X8_copy, gn_M, by decide +kernel⟩
theorem gm_X8_sitters : sm_Mt yX8_sitters prog_10_method_71_code 8 (some .int) 4 := ⟨gc_X8_sitters, gn_M, by decide +kernel⟩
theorem gm_X8_taken : sm_Mt yX8_taken prog_10_method_73_code 4 (some .int) 2 := ⟨gc_X8_taken, gn_M, by decide +kernel⟩
theorem gm_X8_over : sm_Mt yX8_over prog_10_method_72_code 1 (some .int) 1 := ⟨gc_X8_over, gn_M, by decide +kernel⟩
theorem gm_J0_length_8abf5 : sm_Mt yJ0_length_8abf5 prog_13_method_54_code 1 (some .int) 0 := ⟨gc_J0_length_8abf5, gn_String, by decide +kernel⟩
theorem gm_J0_coder_7d493 : sm_Mt yJ0_coder_7d493 prog_13_method_152_code 1 (some .byte) 0 := ⟨gc_J0_coder_7d493, gn_String, by decide +kernel⟩
theorem gm_J0_charAt_5068e : sm_Mt yJ0_charAt_5068e prog_13_method_56_code 2 (some .char) 1 := ⟨gc_J0_charAt_5068e, gn_String, by decide +kernel⟩
theorem gm_J0_isLatin1_aae02 : sm_Mt yJ0_isLatin1_aae02 prog_13_method_154_code 1 (some .boolean) 0 := ⟨gc_J0_isLatin1_aae02, gn_String, by decide +kernel⟩
theorem gm_J1_charAt_3b067 : sm_Mt yJ1_charAt_3b067 prog_14_method_2_code 2 (some .char) 2 := ⟨gc_J1_charAt_3b067, gn_Latin, by decide +kernel⟩
theorem gm_J0_checkIndex_df160 : sm_Mt yJ0_checkIndex_df160 prog_13_method_155_code 2 none 2 := ⟨gc_J0_checkIndex_df160, gn_String, by decide +kernel⟩
theorem gm_J3_checkIndex_8e157 : sm_Mt yJ3_checkIndex_8e157 prog_18_method_11_code 3 (some .int) 3 := ⟨gc_J3_checkIndex_8e157, gn_Pre, by decide +kernel⟩
theorem gm_J7_fill_53178 : sm_Mt yJ7_fill_53178 prog_17_method_103_code 4 none 2 := ⟨gc_J7_fill_53178, gn_Arrays, by decide +kernel⟩
theorem gm_J7_fill_d0a16 : sm_Mt yJ7_fill_d0a16 prog_17_method_101_code 5 none 2 := ⟨gc_J7_fill_d0a16, gn_Arrays, by decide +kernel⟩
theorem gm_J0_indexOf_0f7a4 : sm_Mt yJ0_indexOf_0f7a4 prog_13_method_79_code 2 (some .int) 1 := ⟨gc_J0_indexOf_0f7a4, gn_String, by decide +kernel⟩
theorem gm_J0_indexOf_7cf53 : sm_Mt yJ0_indexOf_7cf53 prog_13_method_80_code 3 (some .int) 2 := ⟨gc_J0_indexOf_7cf53, gn_String, by decide +kernel⟩
theorem gm_J1_indexOf_4cfef : sm_Mt yJ1_indexOf_4cfef prog_14_method_22_code 4 (some .int) 4 := ⟨gc_J1_indexOf_4cfef, gn_Latin, by decide +kernel⟩
theorem gm_J1_canEncode_9a6ad : sm_Mt yJ1_canEncode_9a6ad prog_14_method_4_code 1 (some .boolean) 1 := ⟨gc_J1_canEncode_9a6ad, gn_Latin, by decide +kernel⟩
theorem gm_J1_indexOfChar_4cfef : sm_Mt yJ1_indexOfChar_4cfef prog_14_method_23_code 6 (some .int) 4 := ⟨gc_J1_indexOfChar_4cfef, gn_Latin, by decide +kernel⟩
end
section
/-! THE TWO WORLDS: cells by number, their shapes, rows for their fields and rows -/
def xo_tag (k : Nat) : Nat := ([0, 1, 1, 1, 10, 10, 10, 10, 10, 10, 10, 10, 10, 2, 10, 12, 3, 3, 3, 3, 3, 3, 10, 10, 10, 10, 10, 10, 10, 10, 10, 10, 10, 10, 13, 4, 4, 4, 4, 10, 10, 10, 10, 5, 10, 10, 10, 10, 10, 10, 10, 10, 6, 11, 11, 11] : List Nat).getD k 99
def xo_len (k : Nat) : Nat := ([0, 0, 0, 0, 5, 5, 5, 5, 5, 5, 5, 5, 5, 0, 160, 6, 0, 0, 0, 0, 0, 0, 160, 160, 160, 160, 160, 160, 3, 3, 3, 3, 3, 3, 4, 0, 0, 0, 0, 40, 40, 40, 40, 0, 5, 5, 40, 5, 5, 5, 6, 160, 0, 8, 8, 8] : List Nat).getD k 0
theorem xo_lt {k t : Nat} (h : xo_tag k = t) (ht : t ≠ 99) : k < 56 := by
  rcases Nat.lt_or_ge k 56 with q | q
  · exact q
  · exfalso
    apply ht
    rw [← h]
    unfold xo_tag
    rw [List.getD_eq_getElem?_getD, List.getElem?_eq_none (by simpa using q)]
    rfl
def Rxo_S : u_T := fun k => match k with
  | 0 => ("SmokeGoesTo", "fire", "LSmokeGoesTo$Fire;", true)
  | 1 => ("SmokeGoesTo", "kept", "LSmokeGoesTo$Fire;", true)
  | 2 => ("SmokeGoesTo", "hasImage", "Z", false)
  | 3 => ("SmokeGoesTo", "reader", "LSmokeGoesTo$Reader;", true)
  | 4 => ("SmokeGoesTo", "texts", "[LSmokeGoesTo$Text;", true)
  | 5 => ("SmokeGoesTo", "textCount", "I", false)
  | 6 => ("SmokeGoesTo", "sheets", "[LSmokeGoesTo$Sheet;", true)
  | 7 => ("SmokeGoesTo", "thought", "LSmokeGoesTo$Night;", true)
  | _ => ("SmokeGoesTo", "odds", "LSmokeGoesTo$Odds;", true)
def yxo_S : Nat → FieldType := fun k => match k with
  | 0 => .object "SmokeGoesTo$Fire"
  | 1 => .object "SmokeGoesTo$Fire"
  | 2 => .boolean
  | 3 => .object "SmokeGoesTo$Reader"
  | 4 => .array (.object "SmokeGoesTo$Text")
  | 5 => .int
  | 6 => .array (.object "SmokeGoesTo$Sheet")
  | 7 => .object "SmokeGoesTo$Night"
  | _ => .object "SmokeGoesTo$Odds"
theorem nxo_S : ∀ a, a < 9 → ∀ b, b < 9 → a ≠ b → (Rxo_S a).2.1 ≠ (Rxo_S b).2.1 := by decide +kernel
theorem kxo_S : ∀ k, k < 9 → parseFieldDescriptor (Rxo_S k).2.2.1 = some (yxo_S k) := by decide +kernel
theorem ixo_S : ∀ w ∈ u_ws "SmokeGoesTo" Rxo_S 9, w ∈ sm_G := by
  have h : ∀ w ∈ u_ws "SmokeGoesTo" Rxo_S 9, w ∈ lw_tbl ∧ goodWord w = true := by decide +kernel
  exact fun w hw => sm_gin (h w hw).1 (h w hw).2
def Rxo_Fire : u_T := fun k => match k with
  | 0 => ("SmokeGoesTo$Fire", "smoke", "I", false)
  | 1 => ("SmokeGoesTo$Fire", "left", "I", false)
  | 2 => ("SmokeGoesTo$Fire", "right", "I", false)
  | 3 => ("SmokeGoesTo$Fire", "tents", "I", false)
  | 4 => ("SmokeGoesTo$Fire", "eddy", "I", false)
  | 5 => ("SmokeGoesTo$Fire", "rule", "I", false)
  | 6 => ("SmokeGoesTo$Fire", "size", "I", false)
  | 7 => ("SmokeGoesTo$Fire", "kinds", "[I", true)
  | 8 => ("SmokeGoesTo$Fire", "numbers", "[I", true)
  | _ => ("SmokeGoesTo$Fire", "places", "[I", true)
def yxo_Fire : Nat → FieldType := fun k => match k with
  | 0 => .int
  | 1 => .int
  | 2 => .int
  | 3 => .int
  | 4 => .int
  | 5 => .int
  | 6 => .int
  | 7 => .array .int
  | 8 => .array .int
  | _ => .array .int
theorem nxo_Fire : ∀ a, a < 10 → ∀ b, b < 10 → a ≠ b → (Rxo_Fire a).2.1 ≠ (Rxo_Fire b).2.1 := by decide +kernel
theorem kxo_Fire : ∀ k, k < 10 → parseFieldDescriptor (Rxo_Fire k).2.2.1 = some (yxo_Fire k) := by decide +kernel
theorem ixo_Fire : ∀ w ∈ u_ws "SmokeGoesTo$Fire" Rxo_Fire 10, w ∈ sm_G := by
  have h : ∀ w ∈ u_ws "SmokeGoesTo$Fire" Rxo_Fire 10, w ∈ lw_tbl ∧ goodWord w = true := by decide +kernel
  exact fun w hw => sm_gin (h w hw).1 (h w hw).2
def Rxo_Reader : u_T := fun k => match k with
  | 0 => ("SmokeGoesTo$Reader", "size", "I", false)
  | 1 => ("SmokeGoesTo$Reader", "tape", "[I", true)
  | 2 => ("SmokeGoesTo$Reader", "token", "I", false)
  | 3 => ("SmokeGoesTo$Reader", "tokenStart", "I", false)
  | 4 => ("SmokeGoesTo$Reader", "next", "I", false)
  | 5 => ("SmokeGoesTo$Reader", "number", "I", false)
  | _ => ("SmokeGoesTo$Reader", "out", "LSmokeGoesTo$Text;", false)
def yxo_Reader : Nat → FieldType := fun k => match k with
  | 0 => .int
  | 1 => .array .int
  | 2 => .int
  | 3 => .int
  | 4 => .int
  | 5 => .int
  | _ => .object "SmokeGoesTo$Text"
theorem nxo_Reader : ∀ a, a < 7 → ∀ b, b < 7 → a ≠ b → (Rxo_Reader a).2.1 ≠ (Rxo_Reader b).2.1 := by decide +kernel
theorem kxo_Reader : ∀ k, k < 7 → parseFieldDescriptor (Rxo_Reader k).2.2.1 = some (yxo_Reader k) := by decide +kernel
theorem ixo_Reader : ∀ w ∈ u_ws "SmokeGoesTo$Reader" Rxo_Reader 7, w ∈ sm_G := by
  have h : ∀ w ∈ u_ws "SmokeGoesTo$Reader" Rxo_Reader 7, w ∈ lw_tbl ∧ goodWord w = true := by decide +kernel
  exact fun w hw => sm_gin (h w hw).1 (h w hw).2
def Rxo_Text : u_T := fun k => match k with
  | 0 => ("SmokeGoesTo$Text", "code", "[I", true)
  | 1 => ("SmokeGoesTo$Text", "ends", "[I", true)
  | _ => ("SmokeGoesTo$Text", "size", "I", false)
def yxo_Text : Nat → FieldType := fun k => match k with
  | 0 => .array .int
  | 1 => .array .int
  | _ => .int
theorem nxo_Text : ∀ a, a < 3 → ∀ b, b < 3 → a ≠ b → (Rxo_Text a).2.1 ≠ (Rxo_Text b).2.1 := by decide +kernel
theorem kxo_Text : ∀ k, k < 3 → parseFieldDescriptor (Rxo_Text k).2.2.1 = some (yxo_Text k) := by decide +kernel
theorem ixo_Text : ∀ w ∈ u_ws "SmokeGoesTo$Text" Rxo_Text 3, w ∈ sm_G := by
  have h : ∀ w ∈ u_ws "SmokeGoesTo$Text" Rxo_Text 3, w ∈ lw_tbl ∧ goodWord w = true := by decide +kernel
  exact fun w hw => sm_gin (h w hw).1 (h w hw).2
def Rxo_Sheet : u_T := fun k => match k with
  | 0 => ("SmokeGoesTo$Sheet", "sort", "I", false)
  | 1 => ("SmokeGoesTo$Sheet", "size", "I", false)
  | _ => ("SmokeGoesTo$Sheet", "items", "[I", true)
def yxo_Sheet : Nat → FieldType := fun k => match k with
  | 0 => .int
  | 1 => .int
  | _ => .array .int
theorem nxo_Sheet : ∀ a, a < 3 → ∀ b, b < 3 → a ≠ b → (Rxo_Sheet a).2.1 ≠ (Rxo_Sheet b).2.1 := by decide +kernel
theorem kxo_Sheet : ∀ k, k < 3 → parseFieldDescriptor (Rxo_Sheet k).2.2.1 = some (yxo_Sheet k) := by decide +kernel
theorem ixo_Sheet : ∀ w ∈ u_ws "SmokeGoesTo$Sheet" Rxo_Sheet 3, w ∈ sm_G := by
  have h : ∀ w ∈ u_ws "SmokeGoesTo$Sheet" Rxo_Sheet 3, w ∈ lw_tbl ∧ goodWord w = true := by decide +kernel
  exact fun w hw => sm_gin (h w hw).1 (h w hw).2
def Rxo_Night : u_T := fun k => match k with
  | 0 => ("SmokeGoesTo$Night", "now", "LSmokeGoesTo$Fire;", true)
  | 1 => ("SmokeGoesTo$Night", "costs", "[I", true)
  | 2 => ("SmokeGoesTo$Night", "smoked", "[I", true)
  | 3 => ("SmokeGoesTo$Night", "winds", "[I", true)
  | 4 => ("SmokeGoesTo$Night", "longest", "[I", true)
  | 5 => ("SmokeGoesTo$Night", "ups", "[I", true)
  | 6 => ("SmokeGoesTo$Night", "longs", "[I", true)
  | 7 => ("SmokeGoesTo$Night", "names", "[I", true)
  | 8 => ("SmokeGoesTo$Night", "stack", "[I", true)
  | 9 => ("SmokeGoesTo$Night", "minutes", "I", false)
  | 10 => ("SmokeGoesTo$Night", "needless", "I", false)
  | 11 => ("SmokeGoesTo$Night", "riser", "I", false)
  | 12 => ("SmokeGoesTo$Night", "leftPlace", "I", false)
  | _ => ("SmokeGoesTo$Night", "rule", "LSmokeGoesTo$Text;", false)
def yxo_Night : Nat → FieldType := fun k => match k with
  | 0 => .object "SmokeGoesTo$Fire"
  | 1 => .array .int
  | 2 => .array .int
  | 3 => .array .int
  | 4 => .array .int
  | 5 => .array .int
  | 6 => .array .int
  | 7 => .array .int
  | 8 => .array .int
  | 9 => .int
  | 10 => .int
  | 11 => .int
  | 12 => .int
  | _ => .object "SmokeGoesTo$Text"
theorem nxo_Night : ∀ a, a < 14 → ∀ b, b < 14 → a ≠ b → (Rxo_Night a).2.1 ≠ (Rxo_Night b).2.1 := by decide +kernel
theorem kxo_Night : ∀ k, k < 14 → parseFieldDescriptor (Rxo_Night k).2.2.1 = some (yxo_Night k) := by decide +kernel
theorem ixo_Night : ∀ w ∈ u_ws "SmokeGoesTo$Night" Rxo_Night 14, w ∈ sm_G := by
  have h : ∀ w ∈ u_ws "SmokeGoesTo$Night" Rxo_Night 14, w ∈ lw_tbl ∧ goodWord w = true := by decide +kernel
  exact fun w hw => sm_gin (h w hw).1 (h w hw).2
def Rxo_Odds : u_T := fun k => match k with
  | 0 => ("SmokeGoesTo$Odds", "at", "[J", true)
  | 1 => ("SmokeGoesTo$Odds", "together", "[J", true)
  | 2 => ("SmokeGoesTo$Odds", "below", "J", false)
  | _ => ("SmokeGoesTo$Odds", "ahead", "[J", true)
def yxo_Odds : Nat → FieldType := fun k => match k with
  | 0 => .array .long
  | 1 => .array .long
  | 2 => .long
  | _ => .array .long
theorem nxo_Odds : ∀ a, a < 4 → ∀ b, b < 4 → a ≠ b → (Rxo_Odds a).2.1 ≠ (Rxo_Odds b).2.1 := by decide +kernel
theorem kxo_Odds : ∀ k, k < 4 → parseFieldDescriptor (Rxo_Odds k).2.2.1 = some (yxo_Odds k) := by decide +kernel
theorem ixo_Odds : ∀ w ∈ u_ws "SmokeGoesTo$Odds" Rxo_Odds 4, w ∈ sm_G := by
  have h : ∀ w ∈ u_ws "SmokeGoesTo$Odds" Rxo_Odds 4, w ∈ lw_tbl ∧ goodWord w = true := by decide +kernel
  exact fun w hw => sm_gin (h w hw).1 (h w hw).2
def xo_cl : List vw_C := [("SmokeGoesTo", Rxo_S, 9), ("SmokeGoesTo$Fire", Rxo_Fire, 10), ("SmokeGoesTo$Reader", Rxo_Reader, 7), ("SmokeGoesTo$Text", Rxo_Text, 3), ("SmokeGoesTo$Sheet", Rxo_Sheet, 3), ("SmokeGoesTo$Night", Rxo_Night, 14), ("SmokeGoesTo$Odds", Rxo_Odds, 4)]
def xo_ty (cA : Nat → ClassId) : List (ClassId × FieldType) := [(cA 0, .int), (cA 1, .long), (cA 2, .object "SmokeGoesTo$Text"), (cA 3, .object "SmokeGoesTo$Sheet")]
def xo_sh (cA : Nat → ClassId) (ad : Nat → Nat) : sm_Sh := fun k a b c => match xo_tag k with
  | 0 => .inr (0, [.ref (ad 1), .ref (ad 2), .int (a 2), .ref (ad 13), .ref (ad 15), .int (a 5), .ref (ad 34), .ref (ad 43), .ref (ad 52)])
  | 1 => .inr (1, [.int (a 0), .int (a 1), .int (a 2), .int (a 3), .int (a 4), .int (a 5), .int (a 6), .ref (ad (k + 3)), .ref (ad (k + 6)), .ref (ad (k + 9))])
  | 2 => .inr (2, [.int (a 0), .ref (ad 14), .int (a 2), .int (a 3), .int (a 4), .int (a 5), va_rf ((c 6).map ad)])
  | 3 => .inr (3, [.ref (ad (k + 6)), .ref (ad (k + 12)), .int (a 2)])
  | 4 => .inr (4, [.int (a 0), .int (a 1), .ref (ad (k + 4))])
  | 5 => .inr (5, [.ref (ad 3), .ref (ad 44), .ref (ad 45), .ref (ad 46), .ref (ad 47), .ref (ad 48), .ref (ad 49), .ref (ad 50), .ref (ad 51), .int (a 9), .int (a 10), .int (a 11), .int (a 12), va_rf ((c 13).map ad)])
  | 6 => .inr (6, [.ref (ad 53), .ref (ad 54), .long (b 2), .ref (ad 55)])
  | 10 => .inl (cA 0, xo_len k, .inl a)
  | 11 => .inl (cA 1, xo_len k, .inr (.inl b))
  | 12 => .inl (cA 2, 6, .inr (.inr (.inr (.inr (fun j => some (ad (16 + j)))))))
  | 13 => .inl (cA 3, 4, .inr (.inr (.inr (.inr (fun j => some (ad (35 + j)))))))
  | _ => .inr (99, [])
theorem xo_sh0 {cA : Nat → ClassId} {ad : Nat → Nat} {k : Nat} (h : xo_tag k = 0) (a : Nat → Int32) (b : Nat → Int64) (c : Nat → Option Nat) : xo_sh cA ad k a b c = .inr (0, [.ref (ad 1), .ref (ad 2), .int (a 2), .ref (ad 13), .ref (ad 15), .int (a 5), .ref (ad 34), .ref (ad 43), .ref (ad 52)]) := by
  unfold xo_sh
  rw [h]
  rfl
theorem xo_sh1 {cA : Nat → ClassId} {ad : Nat → Nat} {k : Nat} (h : xo_tag k = 1) (a : Nat → Int32) (b : Nat → Int64) (c : Nat → Option Nat) : xo_sh cA ad k a b c = .inr (1, [.int (a 0), .int (a 1), .int (a 2), .int (a 3), .int (a 4), .int (a 5), .int (a 6), .ref (ad (k + 3)), .ref (ad (k + 6)), .ref (ad (k + 9))]) := by
  unfold xo_sh
  rw [h]
  rfl
theorem xo_sh2 {cA : Nat → ClassId} {ad : Nat → Nat} {k : Nat} (h : xo_tag k = 2) (a : Nat → Int32) (b : Nat → Int64) (c : Nat → Option Nat) : xo_sh cA ad k a b c = .inr (2, [.int (a 0), .ref (ad 14), .int (a 2), .int (a 3), .int (a 4), .int (a 5), va_rf ((c 6).map ad)]) := by
  unfold xo_sh
  rw [h]
  rfl
theorem xo_sh3 {cA : Nat → ClassId} {ad : Nat → Nat} {k : Nat} (h : xo_tag k = 3) (a : Nat → Int32) (b : Nat → Int64) (c : Nat → Option Nat) : xo_sh cA ad k a b c = .inr (3, [.ref (ad (k + 6)), .ref (ad (k + 12)), .int (a 2)]) := by
  unfold xo_sh
  rw [h]
  rfl
theorem xo_sh4 {cA : Nat → ClassId} {ad : Nat → Nat} {k : Nat} (h : xo_tag k = 4) (a : Nat → Int32) (b : Nat → Int64) (c : Nat → Option Nat) : xo_sh cA ad k a b c = .inr (4, [.int (a 0), .int (a 1), .ref (ad (k + 4))]) := by
  unfold xo_sh
  rw [h]
  rfl
theorem xo_sh5 {cA : Nat → ClassId} {ad : Nat → Nat} {k : Nat} (h : xo_tag k = 5) (a : Nat → Int32) (b : Nat → Int64) (c : Nat → Option Nat) : xo_sh cA ad k a b c = .inr (5, [.ref (ad 3), .ref (ad 44), .ref (ad 45), .ref (ad 46), .ref (ad 47), .ref (ad 48), .ref (ad 49), .ref (ad 50), .ref (ad 51), .int (a 9), .int (a 10), .int (a 11), .int (a 12), va_rf ((c 13).map ad)]) := by
  unfold xo_sh
  rw [h]
  rfl
theorem xo_sh6 {cA : Nat → ClassId} {ad : Nat → Nat} {k : Nat} (h : xo_tag k = 6) (a : Nat → Int32) (b : Nat → Int64) (c : Nat → Option Nat) : xo_sh cA ad k a b c = .inr (6, [.ref (ad 53), .ref (ad 54), .long (b 2), .ref (ad 55)]) := by
  unfold xo_sh
  rw [h]
  rfl
theorem xo_sh10 {cA : Nat → ClassId} {ad : Nat → Nat} {k : Nat} (h : xo_tag k = 10) (a : Nat → Int32) (b : Nat → Int64) (c : Nat → Option Nat) : xo_sh cA ad k a b c = .inl (cA 0, xo_len k, .inl a) := by
  unfold xo_sh
  rw [h]
  rfl
theorem xo_sh11 {cA : Nat → ClassId} {ad : Nat → Nat} {k : Nat} (h : xo_tag k = 11) (a : Nat → Int32) (b : Nat → Int64) (c : Nat → Option Nat) : xo_sh cA ad k a b c = .inl (cA 1, xo_len k, .inr (.inl b)) := by
  unfold xo_sh
  rw [h]
  rfl
theorem xo_sh12 {cA : Nat → ClassId} {ad : Nat → Nat} {k : Nat} (h : xo_tag k = 12) (a : Nat → Int32) (b : Nat → Int64) (c : Nat → Option Nat) : xo_sh cA ad k a b c = .inl (cA 2, 6, .inr (.inr (.inr (.inr (fun j => some (ad (16 + j))))))) := by
  unfold xo_sh
  rw [h]
  rfl
theorem xo_sh13 {cA : Nat → ClassId} {ad : Nat → Nat} {k : Nat} (h : xo_tag k = 13) (a : Nat → Int32) (b : Nat → Int64) (c : Nat → Option Nat) : xo_sh cA ad k a b c = .inl (cA 3, 4, .inr (.inr (.inr (.inr (fun j => some (ad (35 + j))))))) := by
  unfold xo_sh
  rw [h]
  rfl
def xo_is (w : sm_WD) : Prop := ∃ cA : Nat → ClassId, sm_cl w = xo_cl ∧ sm_ty w = xo_ty cA ∧ sm_sh w = xo_sh cA (sm_ad w) ∧ sm_N w = 56
theorem xt_Fire_kinds {k : Nat} (h : xo_tag k = 1) : xo_tag (k + 3) = 10 ∧ xo_len (k + 3) = 5 := by
  have g : ∀ k, k < 56 → xo_tag k = 1 → xo_tag (k + 3) = 10 ∧ xo_len (k + 3) = 5 := by decide +kernel
  exact g k (xo_lt h (by decide)) h
theorem xt_Fire_numbers {k : Nat} (h : xo_tag k = 1) : xo_tag (k + 6) = 10 ∧ xo_len (k + 6) = 5 := by
  have g : ∀ k, k < 56 → xo_tag k = 1 → xo_tag (k + 6) = 10 ∧ xo_len (k + 6) = 5 := by decide +kernel
  exact g k (xo_lt h (by decide)) h
theorem xt_Fire_places {k : Nat} (h : xo_tag k = 1) : xo_tag (k + 9) = 10 ∧ xo_len (k + 9) = 5 := by
  have g : ∀ k, k < 56 → xo_tag k = 1 → xo_tag (k + 9) = 10 ∧ xo_len (k + 9) = 5 := by decide +kernel
  exact g k (xo_lt h (by decide)) h
theorem xt_Text_code {k : Nat} (h : xo_tag k = 3) : xo_tag (k + 6) = 10 ∧ xo_len (k + 6) = 160 := by
  have g : ∀ k, k < 56 → xo_tag k = 3 → xo_tag (k + 6) = 10 ∧ xo_len (k + 6) = 160 := by decide +kernel
  exact g k (xo_lt h (by decide)) h
theorem xt_Text_ends {k : Nat} (h : xo_tag k = 3) : xo_tag (k + 12) = 10 ∧ xo_len (k + 12) = 3 := by
  have g : ∀ k, k < 56 → xo_tag k = 3 → xo_tag (k + 12) = 10 ∧ xo_len (k + 12) = 3 := by decide +kernel
  exact g k (xo_lt h (by decide)) h
theorem xt_Sheet_items {k : Nat} (h : xo_tag k = 4) : xo_tag (k + 4) = 10 ∧ xo_len (k + 4) = 40 := by
  have g : ∀ k, k < 56 → xo_tag k = 4 → xo_tag (k + 4) = 10 ∧ xo_len (k + 4) = 40 := by decide +kernel
  exact g k (xo_lt h (by decide)) h
theorem xt_texts {i : Int32} (h : sm_in i 6 = true) : xo_tag (16 + i.toNatClampNeg) = 3 := by
  have g : ∀ j, j < 6 → xo_tag (16 + j) = 3 := by decide +kernel
  exact g _ (Nat.not_le.mp fun q => sm_inE h (Or.inr q))
theorem xt_sheets {i : Int32} (h : sm_in i 4 = true) : xo_tag (35 + i.toNatClampNeg) = 4 := by
  have g : ∀ j, j < 4 → xo_tag (35 + j) = 4 := by decide +kernel
  exact g _ (Nat.not_le.mp fun q => sm_inE h (Or.inr q))
section
variable {X : sm_VC} {cc : ByteArray} {nL : Nat} {own : String} {fr lo : Nat} {ret : Option FieldType} {Q : State → Prop} {σ : sm_St} {pc : Nat} {lv : List (Nat × Value)} {st : List Value} {β : Type} {z : β}
theorem xob_S {w : sm_WD} {k : Nat} (hw : xo_is w) (hk : xo_tag k = 0) : sm_Ob w k "SmokeGoesTo" := by
  obtain ⟨cA, e1, e2, e3, e4⟩ := hw
  exact ⟨by rw [e4]; exact xo_lt hk (by decide), fun a b c => ⟨_, _, _, by rw [e3]; exact xo_sh0 hk a b c, by rw [e1]; rfl, rfl⟩⟩
theorem xr_S_fire (C : sm_Cx X cc nL own fr lo ret) (hw : xo_is (sm_w X)) {index k : Nat} (hk : xo_tag k = 0) (hl : Cond.fieldLink own index "SmokeGoesTo" "fire" "LSmokeGoesTo$Fire;" ∈ sm_G) (hd : decode cc pc = .ok (.getfield index, 3)) (kk : sm_V X Q nL σ (pc + 3) lv (.ref (sm_ad (sm_w X) 1) :: st)) : sm_V X Q nL σ pc lv (.ref (sm_ad (sm_w X) k) :: st) := by
  obtain ⟨cA, e1, e2, e3, e4⟩ := hw
  exact sm_get C 0 (k := k) (by rw [e4]; exact xo_lt hk (by decide)) (by rw [e3]; exact xo_sh0 hk _ _ _) (by rw [e1]; rfl) ixo_S (by decide) hl rfl hd (kk)
theorem xr_S_kept (C : sm_Cx X cc nL own fr lo ret) (hw : xo_is (sm_w X)) {index k : Nat} (hk : xo_tag k = 0) (hl : Cond.fieldLink own index "SmokeGoesTo" "kept" "LSmokeGoesTo$Fire;" ∈ sm_G) (hd : decode cc pc = .ok (.getfield index, 3)) (kk : sm_V X Q nL σ (pc + 3) lv (.ref (sm_ad (sm_w X) 2) :: st)) : sm_V X Q nL σ pc lv (.ref (sm_ad (sm_w X) k) :: st) := by
  obtain ⟨cA, e1, e2, e3, e4⟩ := hw
  exact sm_get C 1 (k := k) (by rw [e4]; exact xo_lt hk (by decide)) (by rw [e3]; exact xo_sh0 hk _ _ _) (by rw [e1]; rfl) ixo_S (by decide) hl rfl hd (kk)
theorem xr_S_hasImage (C : sm_Cx X cc nL own fr lo ret) (hw : xo_is (sm_w X)) {index k : Nat} (hk : xo_tag k = 0) (hl : Cond.fieldLink own index "SmokeGoesTo" "hasImage" "Z" ∈ sm_G) (hd : decode cc pc = .ok (.getfield index, 3)) {f : Int32 → Option β} (h : sm_b (σ.1 k 2) f = some z) (kk : ∀ v, f v = some z → sm_V X Q nL σ (pc + 3) lv (.int v :: st)) : sm_V X Q nL σ pc lv (.ref (sm_ad (sm_w X) k) :: st) := by
  obtain ⟨cA, e1, e2, e3, e4⟩ := hw
  exact sm_get C 2 (k := k) (by rw [e4]; exact xo_lt hk (by decide)) (by rw [e3]; exact xo_sh0 hk _ _ _) (by rw [e1]; rfl) ixo_S (by decide) hl rfl hd (kk _ h)
theorem xp_S_hasImage (C : sm_Cx X cc nL own fr lo ret) (hw : xo_is (sm_w X)) {index k : Nat} (hk : xo_tag k = 0) (hl : Cond.fieldLink own index "SmokeGoesTo" "hasImage" "Z" ∈ sm_G) (hd : decode cc pc = .ok (.putfield index, 3)) {f : sm_St → Option β} {v : Int32} (hv : v = 0 ∨ v = 1) (h : sm_b (sm_sI σ k 2 v) f = some z) (kk : ∀ s, f s = some z → sm_V X Q nL s (pc + 3) lv st) : sm_V X Q nL σ pc lv (.int v :: .ref (sm_ad (sm_w X) k) :: st) := by
  obtain ⟨cA, e1, e2, e3, e4⟩ := hw
  exact sm_put C 2 (k := k) (σ' := sm_sI σ k 2 v) (by rw [e4]; exact xo_lt hk (by decide)) (by rw [e3]; exact xo_sh0 hk _ _ _) (by rw [e1]; rfl) ixo_S kxo_S nxo_S (by decide) hl rfl rfl (by rcases hv with rfl | rfl <;> rfl) (by rcases hv with rfl | rfl <;> rfl) (Nat.le_of_ble_eq_true rfl) (by rw [e3, xo_sh0 hk, sm_sIk.1]; rfl) sm_sIo hd (kk _ h)
theorem xr_S_reader (C : sm_Cx X cc nL own fr lo ret) (hw : xo_is (sm_w X)) {index k : Nat} (hk : xo_tag k = 0) (hl : Cond.fieldLink own index "SmokeGoesTo" "reader" "LSmokeGoesTo$Reader;" ∈ sm_G) (hd : decode cc pc = .ok (.getfield index, 3)) (kk : sm_V X Q nL σ (pc + 3) lv (.ref (sm_ad (sm_w X) 13) :: st)) : sm_V X Q nL σ pc lv (.ref (sm_ad (sm_w X) k) :: st) := by
  obtain ⟨cA, e1, e2, e3, e4⟩ := hw
  exact sm_get C 3 (k := k) (by rw [e4]; exact xo_lt hk (by decide)) (by rw [e3]; exact xo_sh0 hk _ _ _) (by rw [e1]; rfl) ixo_S (by decide) hl rfl hd (kk)
theorem xr_S_texts (C : sm_Cx X cc nL own fr lo ret) (hw : xo_is (sm_w X)) {index k : Nat} (hk : xo_tag k = 0) (hl : Cond.fieldLink own index "SmokeGoesTo" "texts" "[LSmokeGoesTo$Text;" ∈ sm_G) (hd : decode cc pc = .ok (.getfield index, 3)) (kk : sm_V X Q nL σ (pc + 3) lv (.ref (sm_ad (sm_w X) 15) :: st)) : sm_V X Q nL σ pc lv (.ref (sm_ad (sm_w X) k) :: st) := by
  obtain ⟨cA, e1, e2, e3, e4⟩ := hw
  exact sm_get C 4 (k := k) (by rw [e4]; exact xo_lt hk (by decide)) (by rw [e3]; exact xo_sh0 hk _ _ _) (by rw [e1]; rfl) ixo_S (by decide) hl rfl hd (kk)
theorem xr_S_textCount (C : sm_Cx X cc nL own fr lo ret) (hw : xo_is (sm_w X)) {index k : Nat} (hk : xo_tag k = 0) (hl : Cond.fieldLink own index "SmokeGoesTo" "textCount" "I" ∈ sm_G) (hd : decode cc pc = .ok (.getfield index, 3)) {f : Int32 → Option β} (h : sm_b (σ.1 k 5) f = some z) (kk : ∀ v, f v = some z → sm_V X Q nL σ (pc + 3) lv (.int v :: st)) : sm_V X Q nL σ pc lv (.ref (sm_ad (sm_w X) k) :: st) := by
  obtain ⟨cA, e1, e2, e3, e4⟩ := hw
  exact sm_get C 5 (k := k) (by rw [e4]; exact xo_lt hk (by decide)) (by rw [e3]; exact xo_sh0 hk _ _ _) (by rw [e1]; rfl) ixo_S (by decide) hl rfl hd (kk _ h)
theorem xp_S_textCount (C : sm_Cx X cc nL own fr lo ret) (hw : xo_is (sm_w X)) {index k : Nat} (hk : xo_tag k = 0) (hl : Cond.fieldLink own index "SmokeGoesTo" "textCount" "I" ∈ sm_G) (hd : decode cc pc = .ok (.putfield index, 3)) {f : sm_St → Option β} {v : Int32} (h : sm_b (sm_sI σ k 5 v) f = some z) (kk : ∀ s, f s = some z → sm_V X Q nL s (pc + 3) lv st) : sm_V X Q nL σ pc lv (.int v :: .ref (sm_ad (sm_w X) k) :: st) := by
  obtain ⟨cA, e1, e2, e3, e4⟩ := hw
  exact sm_put C 5 (k := k) (σ' := sm_sI σ k 5 v) (by rw [e4]; exact xo_lt hk (by decide)) (by rw [e3]; exact xo_sh0 hk _ _ _) (by rw [e1]; rfl) ixo_S kxo_S nxo_S (by decide) hl rfl rfl rfl rfl (Nat.le_of_ble_eq_true rfl) (by rw [e3, xo_sh0 hk, sm_sIk.1]; rfl) sm_sIo hd (kk _ h)
theorem xr_S_sheets (C : sm_Cx X cc nL own fr lo ret) (hw : xo_is (sm_w X)) {index k : Nat} (hk : xo_tag k = 0) (hl : Cond.fieldLink own index "SmokeGoesTo" "sheets" "[LSmokeGoesTo$Sheet;" ∈ sm_G) (hd : decode cc pc = .ok (.getfield index, 3)) (kk : sm_V X Q nL σ (pc + 3) lv (.ref (sm_ad (sm_w X) 34) :: st)) : sm_V X Q nL σ pc lv (.ref (sm_ad (sm_w X) k) :: st) := by
  obtain ⟨cA, e1, e2, e3, e4⟩ := hw
  exact sm_get C 6 (k := k) (by rw [e4]; exact xo_lt hk (by decide)) (by rw [e3]; exact xo_sh0 hk _ _ _) (by rw [e1]; rfl) ixo_S (by decide) hl rfl hd (kk)
theorem xr_S_thought (C : sm_Cx X cc nL own fr lo ret) (hw : xo_is (sm_w X)) {index k : Nat} (hk : xo_tag k = 0) (hl : Cond.fieldLink own index "SmokeGoesTo" "thought" "LSmokeGoesTo$Night;" ∈ sm_G) (hd : decode cc pc = .ok (.getfield index, 3)) (kk : sm_V X Q nL σ (pc + 3) lv (.ref (sm_ad (sm_w X) 43) :: st)) : sm_V X Q nL σ pc lv (.ref (sm_ad (sm_w X) k) :: st) := by
  obtain ⟨cA, e1, e2, e3, e4⟩ := hw
  exact sm_get C 7 (k := k) (by rw [e4]; exact xo_lt hk (by decide)) (by rw [e3]; exact xo_sh0 hk _ _ _) (by rw [e1]; rfl) ixo_S (by decide) hl rfl hd (kk)
theorem xr_S_odds (C : sm_Cx X cc nL own fr lo ret) (hw : xo_is (sm_w X)) {index k : Nat} (hk : xo_tag k = 0) (hl : Cond.fieldLink own index "SmokeGoesTo" "odds" "LSmokeGoesTo$Odds;" ∈ sm_G) (hd : decode cc pc = .ok (.getfield index, 3)) (kk : sm_V X Q nL σ (pc + 3) lv (.ref (sm_ad (sm_w X) 52) :: st)) : sm_V X Q nL σ pc lv (.ref (sm_ad (sm_w X) k) :: st) := by
  obtain ⟨cA, e1, e2, e3, e4⟩ := hw
  exact sm_get C 8 (k := k) (by rw [e4]; exact xo_lt hk (by decide)) (by rw [e3]; exact xo_sh0 hk _ _ _) (by rw [e1]; rfl) ixo_S (by decide) hl rfl hd (kk)
theorem xob_Fire {w : sm_WD} {k : Nat} (hw : xo_is w) (hk : xo_tag k = 1) : sm_Ob w k "SmokeGoesTo$Fire" := by
  obtain ⟨cA, e1, e2, e3, e4⟩ := hw
  exact ⟨by rw [e4]; exact xo_lt hk (by decide), fun a b c => ⟨_, _, _, by rw [e3]; exact xo_sh1 hk a b c, by rw [e1]; rfl, rfl⟩⟩
theorem xr_Fire_smoke (C : sm_Cx X cc nL own fr lo ret) (hw : xo_is (sm_w X)) {index k : Nat} (hk : xo_tag k = 1) (hl : Cond.fieldLink own index "SmokeGoesTo$Fire" "smoke" "I" ∈ sm_G) (hd : decode cc pc = .ok (.getfield index, 3)) {f : Int32 → Option β} (h : sm_b (σ.1 k 0) f = some z) (kk : ∀ v, f v = some z → sm_V X Q nL σ (pc + 3) lv (.int v :: st)) : sm_V X Q nL σ pc lv (.ref (sm_ad (sm_w X) k) :: st) := by
  obtain ⟨cA, e1, e2, e3, e4⟩ := hw
  exact sm_get C 0 (k := k) (by rw [e4]; exact xo_lt hk (by decide)) (by rw [e3]; exact xo_sh1 hk _ _ _) (by rw [e1]; rfl) ixo_Fire (by decide) hl rfl hd (kk _ h)
theorem xp_Fire_smoke (C : sm_Cx X cc nL own fr lo ret) (hw : xo_is (sm_w X)) {index k : Nat} (hk : xo_tag k = 1) (hl : Cond.fieldLink own index "SmokeGoesTo$Fire" "smoke" "I" ∈ sm_G) (hd : decode cc pc = .ok (.putfield index, 3)) {f : sm_St → Option β} {v : Int32} (h : sm_b (sm_sI σ k 0 v) f = some z) (kk : ∀ s, f s = some z → sm_V X Q nL s (pc + 3) lv st) : sm_V X Q nL σ pc lv (.int v :: .ref (sm_ad (sm_w X) k) :: st) := by
  obtain ⟨cA, e1, e2, e3, e4⟩ := hw
  exact sm_put C 0 (k := k) (σ' := sm_sI σ k 0 v) (by rw [e4]; exact xo_lt hk (by decide)) (by rw [e3]; exact xo_sh1 hk _ _ _) (by rw [e1]; rfl) ixo_Fire kxo_Fire nxo_Fire (by decide) hl rfl rfl rfl rfl (Nat.le_of_ble_eq_true rfl) (by rw [e3, xo_sh1 hk, sm_sIk.1]; rfl) sm_sIo hd (kk _ h)
theorem xr_Fire_left (C : sm_Cx X cc nL own fr lo ret) (hw : xo_is (sm_w X)) {index k : Nat} (hk : xo_tag k = 1) (hl : Cond.fieldLink own index "SmokeGoesTo$Fire" "left" "I" ∈ sm_G) (hd : decode cc pc = .ok (.getfield index, 3)) {f : Int32 → Option β} (h : sm_b (σ.1 k 1) f = some z) (kk : ∀ v, f v = some z → sm_V X Q nL σ (pc + 3) lv (.int v :: st)) : sm_V X Q nL σ pc lv (.ref (sm_ad (sm_w X) k) :: st) := by
  obtain ⟨cA, e1, e2, e3, e4⟩ := hw
  exact sm_get C 1 (k := k) (by rw [e4]; exact xo_lt hk (by decide)) (by rw [e3]; exact xo_sh1 hk _ _ _) (by rw [e1]; rfl) ixo_Fire (by decide) hl rfl hd (kk _ h)
theorem xp_Fire_left (C : sm_Cx X cc nL own fr lo ret) (hw : xo_is (sm_w X)) {index k : Nat} (hk : xo_tag k = 1) (hl : Cond.fieldLink own index "SmokeGoesTo$Fire" "left" "I" ∈ sm_G) (hd : decode cc pc = .ok (.putfield index, 3)) {f : sm_St → Option β} {v : Int32} (h : sm_b (sm_sI σ k 1 v) f = some z) (kk : ∀ s, f s = some z → sm_V X Q nL s (pc + 3) lv st) : sm_V X Q nL σ pc lv (.int v :: .ref (sm_ad (sm_w X) k) :: st) := by
  obtain ⟨cA, e1, e2, e3, e4⟩ := hw
  exact sm_put C 1 (k := k) (σ' := sm_sI σ k 1 v) (by rw [e4]; exact xo_lt hk (by decide)) (by rw [e3]; exact xo_sh1 hk _ _ _) (by rw [e1]; rfl) ixo_Fire kxo_Fire nxo_Fire (by decide) hl rfl rfl rfl rfl (Nat.le_of_ble_eq_true rfl) (by rw [e3, xo_sh1 hk, sm_sIk.1]; rfl) sm_sIo hd (kk _ h)
theorem xr_Fire_right (C : sm_Cx X cc nL own fr lo ret) (hw : xo_is (sm_w X)) {index k : Nat} (hk : xo_tag k = 1) (hl : Cond.fieldLink own index "SmokeGoesTo$Fire" "right" "I" ∈ sm_G) (hd : decode cc pc = .ok (.getfield index, 3)) {f : Int32 → Option β} (h : sm_b (σ.1 k 2) f = some z) (kk : ∀ v, f v = some z → sm_V X Q nL σ (pc + 3) lv (.int v :: st)) : sm_V X Q nL σ pc lv (.ref (sm_ad (sm_w X) k) :: st) := by
  obtain ⟨cA, e1, e2, e3, e4⟩ := hw
  exact sm_get C 2 (k := k) (by rw [e4]; exact xo_lt hk (by decide)) (by rw [e3]; exact xo_sh1 hk _ _ _) (by rw [e1]; rfl) ixo_Fire (by decide) hl rfl hd (kk _ h)
theorem xp_Fire_right (C : sm_Cx X cc nL own fr lo ret) (hw : xo_is (sm_w X)) {index k : Nat} (hk : xo_tag k = 1) (hl : Cond.fieldLink own index "SmokeGoesTo$Fire" "right" "I" ∈ sm_G) (hd : decode cc pc = .ok (.putfield index, 3)) {f : sm_St → Option β} {v : Int32} (h : sm_b (sm_sI σ k 2 v) f = some z) (kk : ∀ s, f s = some z → sm_V X Q nL s (pc + 3) lv st) : sm_V X Q nL σ pc lv (.int v :: .ref (sm_ad (sm_w X) k) :: st) := by
  obtain ⟨cA, e1, e2, e3, e4⟩ := hw
  exact sm_put C 2 (k := k) (σ' := sm_sI σ k 2 v) (by rw [e4]; exact xo_lt hk (by decide)) (by rw [e3]; exact xo_sh1 hk _ _ _) (by rw [e1]; rfl) ixo_Fire kxo_Fire nxo_Fire (by decide) hl rfl rfl rfl rfl (Nat.le_of_ble_eq_true rfl) (by rw [e3, xo_sh1 hk, sm_sIk.1]; rfl) sm_sIo hd (kk _ h)
theorem xr_Fire_tents (C : sm_Cx X cc nL own fr lo ret) (hw : xo_is (sm_w X)) {index k : Nat} (hk : xo_tag k = 1) (hl : Cond.fieldLink own index "SmokeGoesTo$Fire" "tents" "I" ∈ sm_G) (hd : decode cc pc = .ok (.getfield index, 3)) {f : Int32 → Option β} (h : sm_b (σ.1 k 3) f = some z) (kk : ∀ v, f v = some z → sm_V X Q nL σ (pc + 3) lv (.int v :: st)) : sm_V X Q nL σ pc lv (.ref (sm_ad (sm_w X) k) :: st) := by
  obtain ⟨cA, e1, e2, e3, e4⟩ := hw
  exact sm_get C 3 (k := k) (by rw [e4]; exact xo_lt hk (by decide)) (by rw [e3]; exact xo_sh1 hk _ _ _) (by rw [e1]; rfl) ixo_Fire (by decide) hl rfl hd (kk _ h)
theorem xp_Fire_tents (C : sm_Cx X cc nL own fr lo ret) (hw : xo_is (sm_w X)) {index k : Nat} (hk : xo_tag k = 1) (hl : Cond.fieldLink own index "SmokeGoesTo$Fire" "tents" "I" ∈ sm_G) (hd : decode cc pc = .ok (.putfield index, 3)) {f : sm_St → Option β} {v : Int32} (h : sm_b (sm_sI σ k 3 v) f = some z) (kk : ∀ s, f s = some z → sm_V X Q nL s (pc + 3) lv st) : sm_V X Q nL σ pc lv (.int v :: .ref (sm_ad (sm_w X) k) :: st) := by
  obtain ⟨cA, e1, e2, e3, e4⟩ := hw
  exact sm_put C 3 (k := k) (σ' := sm_sI σ k 3 v) (by rw [e4]; exact xo_lt hk (by decide)) (by rw [e3]; exact xo_sh1 hk _ _ _) (by rw [e1]; rfl) ixo_Fire kxo_Fire nxo_Fire (by decide) hl rfl rfl rfl rfl (Nat.le_of_ble_eq_true rfl) (by rw [e3, xo_sh1 hk, sm_sIk.1]; rfl) sm_sIo hd (kk _ h)
theorem xr_Fire_eddy (C : sm_Cx X cc nL own fr lo ret) (hw : xo_is (sm_w X)) {index k : Nat} (hk : xo_tag k = 1) (hl : Cond.fieldLink own index "SmokeGoesTo$Fire" "eddy" "I" ∈ sm_G) (hd : decode cc pc = .ok (.getfield index, 3)) {f : Int32 → Option β} (h : sm_b (σ.1 k 4) f = some z) (kk : ∀ v, f v = some z → sm_V X Q nL σ (pc + 3) lv (.int v :: st)) : sm_V X Q nL σ pc lv (.ref (sm_ad (sm_w X) k) :: st) := by
  obtain ⟨cA, e1, e2, e3, e4⟩ := hw
  exact sm_get C 4 (k := k) (by rw [e4]; exact xo_lt hk (by decide)) (by rw [e3]; exact xo_sh1 hk _ _ _) (by rw [e1]; rfl) ixo_Fire (by decide) hl rfl hd (kk _ h)
theorem xp_Fire_eddy (C : sm_Cx X cc nL own fr lo ret) (hw : xo_is (sm_w X)) {index k : Nat} (hk : xo_tag k = 1) (hl : Cond.fieldLink own index "SmokeGoesTo$Fire" "eddy" "I" ∈ sm_G) (hd : decode cc pc = .ok (.putfield index, 3)) {f : sm_St → Option β} {v : Int32} (h : sm_b (sm_sI σ k 4 v) f = some z) (kk : ∀ s, f s = some z → sm_V X Q nL s (pc + 3) lv st) : sm_V X Q nL σ pc lv (.int v :: .ref (sm_ad (sm_w X) k) :: st) := by
  obtain ⟨cA, e1, e2, e3, e4⟩ := hw
  exact sm_put C 4 (k := k) (σ' := sm_sI σ k 4 v) (by rw [e4]; exact xo_lt hk (by decide)) (by rw [e3]; exact xo_sh1 hk _ _ _) (by rw [e1]; rfl) ixo_Fire kxo_Fire nxo_Fire (by decide) hl rfl rfl rfl rfl (Nat.le_of_ble_eq_true rfl) (by rw [e3, xo_sh1 hk, sm_sIk.1]; rfl) sm_sIo hd (kk _ h)
theorem xr_Fire_rule (C : sm_Cx X cc nL own fr lo ret) (hw : xo_is (sm_w X)) {index k : Nat} (hk : xo_tag k = 1) (hl : Cond.fieldLink own index "SmokeGoesTo$Fire" "rule" "I" ∈ sm_G) (hd : decode cc pc = .ok (.getfield index, 3)) {f : Int32 → Option β} (h : sm_b (σ.1 k 5) f = some z) (kk : ∀ v, f v = some z → sm_V X Q nL σ (pc + 3) lv (.int v :: st)) : sm_V X Q nL σ pc lv (.ref (sm_ad (sm_w X) k) :: st) := by
  obtain ⟨cA, e1, e2, e3, e4⟩ := hw
  exact sm_get C 5 (k := k) (by rw [e4]; exact xo_lt hk (by decide)) (by rw [e3]; exact xo_sh1 hk _ _ _) (by rw [e1]; rfl) ixo_Fire (by decide) hl rfl hd (kk _ h)
theorem xp_Fire_rule (C : sm_Cx X cc nL own fr lo ret) (hw : xo_is (sm_w X)) {index k : Nat} (hk : xo_tag k = 1) (hl : Cond.fieldLink own index "SmokeGoesTo$Fire" "rule" "I" ∈ sm_G) (hd : decode cc pc = .ok (.putfield index, 3)) {f : sm_St → Option β} {v : Int32} (h : sm_b (sm_sI σ k 5 v) f = some z) (kk : ∀ s, f s = some z → sm_V X Q nL s (pc + 3) lv st) : sm_V X Q nL σ pc lv (.int v :: .ref (sm_ad (sm_w X) k) :: st) := by
  obtain ⟨cA, e1, e2, e3, e4⟩ := hw
  exact sm_put C 5 (k := k) (σ' := sm_sI σ k 5 v) (by rw [e4]; exact xo_lt hk (by decide)) (by rw [e3]; exact xo_sh1 hk _ _ _) (by rw [e1]; rfl) ixo_Fire kxo_Fire nxo_Fire (by decide) hl rfl rfl rfl rfl (Nat.le_of_ble_eq_true rfl) (by rw [e3, xo_sh1 hk, sm_sIk.1]; rfl) sm_sIo hd (kk _ h)
theorem xr_Fire_size (C : sm_Cx X cc nL own fr lo ret) (hw : xo_is (sm_w X)) {index k : Nat} (hk : xo_tag k = 1) (hl : Cond.fieldLink own index "SmokeGoesTo$Fire" "size" "I" ∈ sm_G) (hd : decode cc pc = .ok (.getfield index, 3)) {f : Int32 → Option β} (h : sm_b (σ.1 k 6) f = some z) (kk : ∀ v, f v = some z → sm_V X Q nL σ (pc + 3) lv (.int v :: st)) : sm_V X Q nL σ pc lv (.ref (sm_ad (sm_w X) k) :: st) := by
  obtain ⟨cA, e1, e2, e3, e4⟩ := hw
  exact sm_get C 6 (k := k) (by rw [e4]; exact xo_lt hk (by decide)) (by rw [e3]; exact xo_sh1 hk _ _ _) (by rw [e1]; rfl) ixo_Fire (by decide) hl rfl hd (kk _ h)
theorem xp_Fire_size (C : sm_Cx X cc nL own fr lo ret) (hw : xo_is (sm_w X)) {index k : Nat} (hk : xo_tag k = 1) (hl : Cond.fieldLink own index "SmokeGoesTo$Fire" "size" "I" ∈ sm_G) (hd : decode cc pc = .ok (.putfield index, 3)) {f : sm_St → Option β} {v : Int32} (h : sm_b (sm_sI σ k 6 v) f = some z) (kk : ∀ s, f s = some z → sm_V X Q nL s (pc + 3) lv st) : sm_V X Q nL σ pc lv (.int v :: .ref (sm_ad (sm_w X) k) :: st) := by
  obtain ⟨cA, e1, e2, e3, e4⟩ := hw
  exact sm_put C 6 (k := k) (σ' := sm_sI σ k 6 v) (by rw [e4]; exact xo_lt hk (by decide)) (by rw [e3]; exact xo_sh1 hk _ _ _) (by rw [e1]; rfl) ixo_Fire kxo_Fire nxo_Fire (by decide) hl rfl rfl rfl rfl (Nat.le_of_ble_eq_true rfl) (by rw [e3, xo_sh1 hk, sm_sIk.1]; rfl) sm_sIo hd (kk _ h)
theorem xr_Fire_kinds (C : sm_Cx X cc nL own fr lo ret) (hw : xo_is (sm_w X)) {index k : Nat} (hk : xo_tag k = 1) (hl : Cond.fieldLink own index "SmokeGoesTo$Fire" "kinds" "[I" ∈ sm_G) (hd : decode cc pc = .ok (.getfield index, 3)) (kk : sm_V X Q nL σ (pc + 3) lv (.ref (sm_ad (sm_w X) (k + 3)) :: st)) : sm_V X Q nL σ pc lv (.ref (sm_ad (sm_w X) k) :: st) := by
  obtain ⟨cA, e1, e2, e3, e4⟩ := hw
  exact sm_get C 7 (k := k) (by rw [e4]; exact xo_lt hk (by decide)) (by rw [e3]; exact xo_sh1 hk _ _ _) (by rw [e1]; rfl) ixo_Fire (by decide) hl rfl hd (kk)
theorem xr_Fire_numbers (C : sm_Cx X cc nL own fr lo ret) (hw : xo_is (sm_w X)) {index k : Nat} (hk : xo_tag k = 1) (hl : Cond.fieldLink own index "SmokeGoesTo$Fire" "numbers" "[I" ∈ sm_G) (hd : decode cc pc = .ok (.getfield index, 3)) (kk : sm_V X Q nL σ (pc + 3) lv (.ref (sm_ad (sm_w X) (k + 6)) :: st)) : sm_V X Q nL σ pc lv (.ref (sm_ad (sm_w X) k) :: st) := by
  obtain ⟨cA, e1, e2, e3, e4⟩ := hw
  exact sm_get C 8 (k := k) (by rw [e4]; exact xo_lt hk (by decide)) (by rw [e3]; exact xo_sh1 hk _ _ _) (by rw [e1]; rfl) ixo_Fire (by decide) hl rfl hd (kk)
theorem xr_Fire_places (C : sm_Cx X cc nL own fr lo ret) (hw : xo_is (sm_w X)) {index k : Nat} (hk : xo_tag k = 1) (hl : Cond.fieldLink own index "SmokeGoesTo$Fire" "places" "[I" ∈ sm_G) (hd : decode cc pc = .ok (.getfield index, 3)) (kk : sm_V X Q nL σ (pc + 3) lv (.ref (sm_ad (sm_w X) (k + 9)) :: st)) : sm_V X Q nL σ pc lv (.ref (sm_ad (sm_w X) k) :: st) := by
  obtain ⟨cA, e1, e2, e3, e4⟩ := hw
  exact sm_get C 9 (k := k) (by rw [e4]; exact xo_lt hk (by decide)) (by rw [e3]; exact xo_sh1 hk _ _ _) (by rw [e1]; rfl) ixo_Fire (by decide) hl rfl hd (kk)
theorem xob_Reader {w : sm_WD} {k : Nat} (hw : xo_is w) (hk : xo_tag k = 2) : sm_Ob w k "SmokeGoesTo$Reader" := by
  obtain ⟨cA, e1, e2, e3, e4⟩ := hw
  exact ⟨by rw [e4]; exact xo_lt hk (by decide), fun a b c => ⟨_, _, _, by rw [e3]; exact xo_sh2 hk a b c, by rw [e1]; rfl, rfl⟩⟩
theorem xr_Reader_size (C : sm_Cx X cc nL own fr lo ret) (hw : xo_is (sm_w X)) {index k : Nat} (hk : xo_tag k = 2) (hl : Cond.fieldLink own index "SmokeGoesTo$Reader" "size" "I" ∈ sm_G) (hd : decode cc pc = .ok (.getfield index, 3)) {f : Int32 → Option β} (h : sm_b (σ.1 k 0) f = some z) (kk : ∀ v, f v = some z → sm_V X Q nL σ (pc + 3) lv (.int v :: st)) : sm_V X Q nL σ pc lv (.ref (sm_ad (sm_w X) k) :: st) := by
  obtain ⟨cA, e1, e2, e3, e4⟩ := hw
  exact sm_get C 0 (k := k) (by rw [e4]; exact xo_lt hk (by decide)) (by rw [e3]; exact xo_sh2 hk _ _ _) (by rw [e1]; rfl) ixo_Reader (by decide) hl rfl hd (kk _ h)
theorem xp_Reader_size (C : sm_Cx X cc nL own fr lo ret) (hw : xo_is (sm_w X)) {index k : Nat} (hk : xo_tag k = 2) (hl : Cond.fieldLink own index "SmokeGoesTo$Reader" "size" "I" ∈ sm_G) (hd : decode cc pc = .ok (.putfield index, 3)) {f : sm_St → Option β} {v : Int32} (h : sm_b (sm_sI σ k 0 v) f = some z) (kk : ∀ s, f s = some z → sm_V X Q nL s (pc + 3) lv st) : sm_V X Q nL σ pc lv (.int v :: .ref (sm_ad (sm_w X) k) :: st) := by
  obtain ⟨cA, e1, e2, e3, e4⟩ := hw
  exact sm_put C 0 (k := k) (σ' := sm_sI σ k 0 v) (by rw [e4]; exact xo_lt hk (by decide)) (by rw [e3]; exact xo_sh2 hk _ _ _) (by rw [e1]; rfl) ixo_Reader kxo_Reader nxo_Reader (by decide) hl rfl rfl rfl rfl (Nat.le_of_ble_eq_true rfl) (by rw [e3, xo_sh2 hk, sm_sIk.1]; rfl) sm_sIo hd (kk _ h)
theorem xr_Reader_tape (C : sm_Cx X cc nL own fr lo ret) (hw : xo_is (sm_w X)) {index k : Nat} (hk : xo_tag k = 2) (hl : Cond.fieldLink own index "SmokeGoesTo$Reader" "tape" "[I" ∈ sm_G) (hd : decode cc pc = .ok (.getfield index, 3)) (kk : sm_V X Q nL σ (pc + 3) lv (.ref (sm_ad (sm_w X) 14) :: st)) : sm_V X Q nL σ pc lv (.ref (sm_ad (sm_w X) k) :: st) := by
  obtain ⟨cA, e1, e2, e3, e4⟩ := hw
  exact sm_get C 1 (k := k) (by rw [e4]; exact xo_lt hk (by decide)) (by rw [e3]; exact xo_sh2 hk _ _ _) (by rw [e1]; rfl) ixo_Reader (by decide) hl rfl hd (kk)
theorem xr_Reader_token (C : sm_Cx X cc nL own fr lo ret) (hw : xo_is (sm_w X)) {index k : Nat} (hk : xo_tag k = 2) (hl : Cond.fieldLink own index "SmokeGoesTo$Reader" "token" "I" ∈ sm_G) (hd : decode cc pc = .ok (.getfield index, 3)) {f : Int32 → Option β} (h : sm_b (σ.1 k 2) f = some z) (kk : ∀ v, f v = some z → sm_V X Q nL σ (pc + 3) lv (.int v :: st)) : sm_V X Q nL σ pc lv (.ref (sm_ad (sm_w X) k) :: st) := by
  obtain ⟨cA, e1, e2, e3, e4⟩ := hw
  exact sm_get C 2 (k := k) (by rw [e4]; exact xo_lt hk (by decide)) (by rw [e3]; exact xo_sh2 hk _ _ _) (by rw [e1]; rfl) ixo_Reader (by decide) hl rfl hd (kk _ h)
theorem xp_Reader_token (C : sm_Cx X cc nL own fr lo ret) (hw : xo_is (sm_w X)) {index k : Nat} (hk : xo_tag k = 2) (hl : Cond.fieldLink own index "SmokeGoesTo$Reader" "token" "I" ∈ sm_G) (hd : decode cc pc = .ok (.putfield index, 3)) {f : sm_St → Option β} {v : Int32} (h : sm_b (sm_sI σ k 2 v) f = some z) (kk : ∀ s, f s = some z → sm_V X Q nL s (pc + 3) lv st) : sm_V X Q nL σ pc lv (.int v :: .ref (sm_ad (sm_w X) k) :: st) := by
  obtain ⟨cA, e1, e2, e3, e4⟩ := hw
  exact sm_put C 2 (k := k) (σ' := sm_sI σ k 2 v) (by rw [e4]; exact xo_lt hk (by decide)) (by rw [e3]; exact xo_sh2 hk _ _ _) (by rw [e1]; rfl) ixo_Reader kxo_Reader nxo_Reader (by decide) hl rfl rfl rfl rfl (Nat.le_of_ble_eq_true rfl) (by rw [e3, xo_sh2 hk, sm_sIk.1]; rfl) sm_sIo hd (kk _ h)
theorem xr_Reader_tokenStart (C : sm_Cx X cc nL own fr lo ret) (hw : xo_is (sm_w X)) {index k : Nat} (hk : xo_tag k = 2) (hl : Cond.fieldLink own index "SmokeGoesTo$Reader" "tokenStart" "I" ∈ sm_G) (hd : decode cc pc = .ok (.getfield index, 3)) {f : Int32 → Option β} (h : sm_b (σ.1 k 3) f = some z) (kk : ∀ v, f v = some z → sm_V X Q nL σ (pc + 3) lv (.int v :: st)) : sm_V X Q nL σ pc lv (.ref (sm_ad (sm_w X) k) :: st) := by
  obtain ⟨cA, e1, e2, e3, e4⟩ := hw
  exact sm_get C 3 (k := k) (by rw [e4]; exact xo_lt hk (by decide)) (by rw [e3]; exact xo_sh2 hk _ _ _) (by rw [e1]; rfl) ixo_Reader (by decide) hl rfl hd (kk _ h)
theorem xp_Reader_tokenStart (C : sm_Cx X cc nL own fr lo ret) (hw : xo_is (sm_w X)) {index k : Nat} (hk : xo_tag k = 2) (hl : Cond.fieldLink own index "SmokeGoesTo$Reader" "tokenStart" "I" ∈ sm_G) (hd : decode cc pc = .ok (.putfield index, 3)) {f : sm_St → Option β} {v : Int32} (h : sm_b (sm_sI σ k 3 v) f = some z) (kk : ∀ s, f s = some z → sm_V X Q nL s (pc + 3) lv st) : sm_V X Q nL σ pc lv (.int v :: .ref (sm_ad (sm_w X) k) :: st) := by
  obtain ⟨cA, e1, e2, e3, e4⟩ := hw
  exact sm_put C 3 (k := k) (σ' := sm_sI σ k 3 v) (by rw [e4]; exact xo_lt hk (by decide)) (by rw [e3]; exact xo_sh2 hk _ _ _) (by rw [e1]; rfl) ixo_Reader kxo_Reader nxo_Reader (by decide) hl rfl rfl rfl rfl (Nat.le_of_ble_eq_true rfl) (by rw [e3, xo_sh2 hk, sm_sIk.1]; rfl) sm_sIo hd (kk _ h)
theorem xr_Reader_next (C : sm_Cx X cc nL own fr lo ret) (hw : xo_is (sm_w X)) {index k : Nat} (hk : xo_tag k = 2) (hl : Cond.fieldLink own index "SmokeGoesTo$Reader" "next" "I" ∈ sm_G) (hd : decode cc pc = .ok (.getfield index, 3)) {f : Int32 → Option β} (h : sm_b (σ.1 k 4) f = some z) (kk : ∀ v, f v = some z → sm_V X Q nL σ (pc + 3) lv (.int v :: st)) : sm_V X Q nL σ pc lv (.ref (sm_ad (sm_w X) k) :: st) := by
  obtain ⟨cA, e1, e2, e3, e4⟩ := hw
  exact sm_get C 4 (k := k) (by rw [e4]; exact xo_lt hk (by decide)) (by rw [e3]; exact xo_sh2 hk _ _ _) (by rw [e1]; rfl) ixo_Reader (by decide) hl rfl hd (kk _ h)
theorem xp_Reader_next (C : sm_Cx X cc nL own fr lo ret) (hw : xo_is (sm_w X)) {index k : Nat} (hk : xo_tag k = 2) (hl : Cond.fieldLink own index "SmokeGoesTo$Reader" "next" "I" ∈ sm_G) (hd : decode cc pc = .ok (.putfield index, 3)) {f : sm_St → Option β} {v : Int32} (h : sm_b (sm_sI σ k 4 v) f = some z) (kk : ∀ s, f s = some z → sm_V X Q nL s (pc + 3) lv st) : sm_V X Q nL σ pc lv (.int v :: .ref (sm_ad (sm_w X) k) :: st) := by
  obtain ⟨cA, e1, e2, e3, e4⟩ := hw
  exact sm_put C 4 (k := k) (σ' := sm_sI σ k 4 v) (by rw [e4]; exact xo_lt hk (by decide)) (by rw [e3]; exact xo_sh2 hk _ _ _) (by rw [e1]; rfl) ixo_Reader kxo_Reader nxo_Reader (by decide) hl rfl rfl rfl rfl (Nat.le_of_ble_eq_true rfl) (by rw [e3, xo_sh2 hk, sm_sIk.1]; rfl) sm_sIo hd (kk _ h)
theorem xr_Reader_number (C : sm_Cx X cc nL own fr lo ret) (hw : xo_is (sm_w X)) {index k : Nat} (hk : xo_tag k = 2) (hl : Cond.fieldLink own index "SmokeGoesTo$Reader" "number" "I" ∈ sm_G) (hd : decode cc pc = .ok (.getfield index, 3)) {f : Int32 → Option β} (h : sm_b (σ.1 k 5) f = some z) (kk : ∀ v, f v = some z → sm_V X Q nL σ (pc + 3) lv (.int v :: st)) : sm_V X Q nL σ pc lv (.ref (sm_ad (sm_w X) k) :: st) := by
  obtain ⟨cA, e1, e2, e3, e4⟩ := hw
  exact sm_get C 5 (k := k) (by rw [e4]; exact xo_lt hk (by decide)) (by rw [e3]; exact xo_sh2 hk _ _ _) (by rw [e1]; rfl) ixo_Reader (by decide) hl rfl hd (kk _ h)
theorem xp_Reader_number (C : sm_Cx X cc nL own fr lo ret) (hw : xo_is (sm_w X)) {index k : Nat} (hk : xo_tag k = 2) (hl : Cond.fieldLink own index "SmokeGoesTo$Reader" "number" "I" ∈ sm_G) (hd : decode cc pc = .ok (.putfield index, 3)) {f : sm_St → Option β} {v : Int32} (h : sm_b (sm_sI σ k 5 v) f = some z) (kk : ∀ s, f s = some z → sm_V X Q nL s (pc + 3) lv st) : sm_V X Q nL σ pc lv (.int v :: .ref (sm_ad (sm_w X) k) :: st) := by
  obtain ⟨cA, e1, e2, e3, e4⟩ := hw
  exact sm_put C 5 (k := k) (σ' := sm_sI σ k 5 v) (by rw [e4]; exact xo_lt hk (by decide)) (by rw [e3]; exact xo_sh2 hk _ _ _) (by rw [e1]; rfl) ixo_Reader kxo_Reader nxo_Reader (by decide) hl rfl rfl rfl rfl (Nat.le_of_ble_eq_true rfl) (by rw [e3, xo_sh2 hk, sm_sIk.1]; rfl) sm_sIo hd (kk _ h)
theorem xr_Reader_out (C : sm_Cx X cc nL own fr lo ret) (hw : xo_is (sm_w X)) {index k : Nat} (hk : xo_tag k = 2) (hl : Cond.fieldLink own index "SmokeGoesTo$Reader" "out" "LSmokeGoesTo$Text;" ∈ sm_G) (hd : decode cc pc = .ok (.getfield index, 3)) {f : Option Nat → Option β} (h : sm_b (σ.2.2 k 6) f = some z) (kk : ∀ r, f r = some z → sm_V X Q nL σ (pc + 3) lv (va_rf (r.map (sm_ad (sm_w X))) :: st)) : sm_V X Q nL σ pc lv (.ref (sm_ad (sm_w X) k) :: st) := by
  obtain ⟨cA, e1, e2, e3, e4⟩ := hw
  exact sm_get C 6 (k := k) (by rw [e4]; exact xo_lt hk (by decide)) (by rw [e3]; exact xo_sh2 hk _ _ _) (by rw [e1]; rfl) ixo_Reader (by decide) hl rfl hd (kk _ h)
theorem xp_Reader_out (C : sm_Cx X cc nL own fr lo ret) (hw : xo_is (sm_w X)) {index k : Nat} (hk : xo_tag k = 2) (hl : Cond.fieldLink own index "SmokeGoesTo$Reader" "out" "LSmokeGoesTo$Text;" ∈ sm_G) (hd : decode cc pc = .ok (.putfield index, 3)) {f : sm_St → Option β} {r : Option Nat} (h : sm_b (sm_sR σ k 6 r) f = some z) (kk : ∀ s, f s = some z → sm_V X Q nL s (pc + 3) lv st) : sm_V X Q nL σ pc lv (va_rf (r.map (sm_ad (sm_w X))) :: .ref (sm_ad (sm_w X) k) :: st) := by
  obtain ⟨cA, e1, e2, e3, e4⟩ := hw
  exact sm_put C 6 (k := k) (σ' := sm_sR σ k 6 r) (by rw [e4]; exact xo_lt hk (by decide)) (by rw [e3]; exact xo_sh2 hk _ _ _) (by rw [e1]; rfl) ixo_Reader kxo_Reader nxo_Reader (by decide) hl rfl rfl (by cases r <;> rfl) (by cases r <;> rfl) (Nat.le_of_ble_eq_true rfl) (by rw [e3, xo_sh2 hk, sm_sRk.2.2]; rfl) sm_sRo hd (kk _ h)
theorem xob_Text {w : sm_WD} {k : Nat} (hw : xo_is w) (hk : xo_tag k = 3) : sm_Ob w k "SmokeGoesTo$Text" := by
  obtain ⟨cA, e1, e2, e3, e4⟩ := hw
  exact ⟨by rw [e4]; exact xo_lt hk (by decide), fun a b c => ⟨_, _, _, by rw [e3]; exact xo_sh3 hk a b c, by rw [e1]; rfl, rfl⟩⟩
theorem xr_Text_code (C : sm_Cx X cc nL own fr lo ret) (hw : xo_is (sm_w X)) {index k : Nat} (hk : xo_tag k = 3) (hl : Cond.fieldLink own index "SmokeGoesTo$Text" "code" "[I" ∈ sm_G) (hd : decode cc pc = .ok (.getfield index, 3)) (kk : sm_V X Q nL σ (pc + 3) lv (.ref (sm_ad (sm_w X) (k + 6)) :: st)) : sm_V X Q nL σ pc lv (.ref (sm_ad (sm_w X) k) :: st) := by
  obtain ⟨cA, e1, e2, e3, e4⟩ := hw
  exact sm_get C 0 (k := k) (by rw [e4]; exact xo_lt hk (by decide)) (by rw [e3]; exact xo_sh3 hk _ _ _) (by rw [e1]; rfl) ixo_Text (by decide) hl rfl hd (kk)
theorem xr_Text_ends (C : sm_Cx X cc nL own fr lo ret) (hw : xo_is (sm_w X)) {index k : Nat} (hk : xo_tag k = 3) (hl : Cond.fieldLink own index "SmokeGoesTo$Text" "ends" "[I" ∈ sm_G) (hd : decode cc pc = .ok (.getfield index, 3)) (kk : sm_V X Q nL σ (pc + 3) lv (.ref (sm_ad (sm_w X) (k + 12)) :: st)) : sm_V X Q nL σ pc lv (.ref (sm_ad (sm_w X) k) :: st) := by
  obtain ⟨cA, e1, e2, e3, e4⟩ := hw
  exact sm_get C 1 (k := k) (by rw [e4]; exact xo_lt hk (by decide)) (by rw [e3]; exact xo_sh3 hk _ _ _) (by rw [e1]; rfl) ixo_Text (by decide) hl rfl hd (kk)
theorem xr_Text_size (C : sm_Cx X cc nL own fr lo ret) (hw : xo_is (sm_w X)) {index k : Nat} (hk : xo_tag k = 3) (hl : Cond.fieldLink own index "SmokeGoesTo$Text" "size" "I" ∈ sm_G) (hd : decode cc pc = .ok (.getfield index, 3)) {f : Int32 → Option β} (h : sm_b (σ.1 k 2) f = some z) (kk : ∀ v, f v = some z → sm_V X Q nL σ (pc + 3) lv (.int v :: st)) : sm_V X Q nL σ pc lv (.ref (sm_ad (sm_w X) k) :: st) := by
  obtain ⟨cA, e1, e2, e3, e4⟩ := hw
  exact sm_get C 2 (k := k) (by rw [e4]; exact xo_lt hk (by decide)) (by rw [e3]; exact xo_sh3 hk _ _ _) (by rw [e1]; rfl) ixo_Text (by decide) hl rfl hd (kk _ h)
theorem xp_Text_size (C : sm_Cx X cc nL own fr lo ret) (hw : xo_is (sm_w X)) {index k : Nat} (hk : xo_tag k = 3) (hl : Cond.fieldLink own index "SmokeGoesTo$Text" "size" "I" ∈ sm_G) (hd : decode cc pc = .ok (.putfield index, 3)) {f : sm_St → Option β} {v : Int32} (h : sm_b (sm_sI σ k 2 v) f = some z) (kk : ∀ s, f s = some z → sm_V X Q nL s (pc + 3) lv st) : sm_V X Q nL σ pc lv (.int v :: .ref (sm_ad (sm_w X) k) :: st) := by
  obtain ⟨cA, e1, e2, e3, e4⟩ := hw
  exact sm_put C 2 (k := k) (σ' := sm_sI σ k 2 v) (by rw [e4]; exact xo_lt hk (by decide)) (by rw [e3]; exact xo_sh3 hk _ _ _) (by rw [e1]; rfl) ixo_Text kxo_Text nxo_Text (by decide) hl rfl rfl rfl rfl (Nat.le_of_ble_eq_true rfl) (by rw [e3, xo_sh3 hk, sm_sIk.1]; rfl) sm_sIo hd (kk _ h)
theorem xob_Sheet {w : sm_WD} {k : Nat} (hw : xo_is w) (hk : xo_tag k = 4) : sm_Ob w k "SmokeGoesTo$Sheet" := by
  obtain ⟨cA, e1, e2, e3, e4⟩ := hw
  exact ⟨by rw [e4]; exact xo_lt hk (by decide), fun a b c => ⟨_, _, _, by rw [e3]; exact xo_sh4 hk a b c, by rw [e1]; rfl, rfl⟩⟩
theorem xr_Sheet_sort (C : sm_Cx X cc nL own fr lo ret) (hw : xo_is (sm_w X)) {index k : Nat} (hk : xo_tag k = 4) (hl : Cond.fieldLink own index "SmokeGoesTo$Sheet" "sort" "I" ∈ sm_G) (hd : decode cc pc = .ok (.getfield index, 3)) {f : Int32 → Option β} (h : sm_b (σ.1 k 0) f = some z) (kk : ∀ v, f v = some z → sm_V X Q nL σ (pc + 3) lv (.int v :: st)) : sm_V X Q nL σ pc lv (.ref (sm_ad (sm_w X) k) :: st) := by
  obtain ⟨cA, e1, e2, e3, e4⟩ := hw
  exact sm_get C 0 (k := k) (by rw [e4]; exact xo_lt hk (by decide)) (by rw [e3]; exact xo_sh4 hk _ _ _) (by rw [e1]; rfl) ixo_Sheet (by decide) hl rfl hd (kk _ h)
theorem xp_Sheet_sort (C : sm_Cx X cc nL own fr lo ret) (hw : xo_is (sm_w X)) {index k : Nat} (hk : xo_tag k = 4) (hl : Cond.fieldLink own index "SmokeGoesTo$Sheet" "sort" "I" ∈ sm_G) (hd : decode cc pc = .ok (.putfield index, 3)) {f : sm_St → Option β} {v : Int32} (h : sm_b (sm_sI σ k 0 v) f = some z) (kk : ∀ s, f s = some z → sm_V X Q nL s (pc + 3) lv st) : sm_V X Q nL σ pc lv (.int v :: .ref (sm_ad (sm_w X) k) :: st) := by
  obtain ⟨cA, e1, e2, e3, e4⟩ := hw
  exact sm_put C 0 (k := k) (σ' := sm_sI σ k 0 v) (by rw [e4]; exact xo_lt hk (by decide)) (by rw [e3]; exact xo_sh4 hk _ _ _) (by rw [e1]; rfl) ixo_Sheet kxo_Sheet nxo_Sheet (by decide) hl rfl rfl rfl rfl (Nat.le_of_ble_eq_true rfl) (by rw [e3, xo_sh4 hk, sm_sIk.1]; rfl) sm_sIo hd (kk _ h)
theorem xr_Sheet_size (C : sm_Cx X cc nL own fr lo ret) (hw : xo_is (sm_w X)) {index k : Nat} (hk : xo_tag k = 4) (hl : Cond.fieldLink own index "SmokeGoesTo$Sheet" "size" "I" ∈ sm_G) (hd : decode cc pc = .ok (.getfield index, 3)) {f : Int32 → Option β} (h : sm_b (σ.1 k 1) f = some z) (kk : ∀ v, f v = some z → sm_V X Q nL σ (pc + 3) lv (.int v :: st)) : sm_V X Q nL σ pc lv (.ref (sm_ad (sm_w X) k) :: st) := by
  obtain ⟨cA, e1, e2, e3, e4⟩ := hw
  exact sm_get C 1 (k := k) (by rw [e4]; exact xo_lt hk (by decide)) (by rw [e3]; exact xo_sh4 hk _ _ _) (by rw [e1]; rfl) ixo_Sheet (by decide) hl rfl hd (kk _ h)
theorem xp_Sheet_size (C : sm_Cx X cc nL own fr lo ret) (hw : xo_is (sm_w X)) {index k : Nat} (hk : xo_tag k = 4) (hl : Cond.fieldLink own index "SmokeGoesTo$Sheet" "size" "I" ∈ sm_G) (hd : decode cc pc = .ok (.putfield index, 3)) {f : sm_St → Option β} {v : Int32} (h : sm_b (sm_sI σ k 1 v) f = some z) (kk : ∀ s, f s = some z → sm_V X Q nL s (pc + 3) lv st) : sm_V X Q nL σ pc lv (.int v :: .ref (sm_ad (sm_w X) k) :: st) := by
  obtain ⟨cA, e1, e2, e3, e4⟩ := hw
  exact sm_put C 1 (k := k) (σ' := sm_sI σ k 1 v) (by rw [e4]; exact xo_lt hk (by decide)) (by rw [e3]; exact xo_sh4 hk _ _ _) (by rw [e1]; rfl) ixo_Sheet kxo_Sheet nxo_Sheet (by decide) hl rfl rfl rfl rfl (Nat.le_of_ble_eq_true rfl) (by rw [e3, xo_sh4 hk, sm_sIk.1]; rfl) sm_sIo hd (kk _ h)
theorem xr_Sheet_items (C : sm_Cx X cc nL own fr lo ret) (hw : xo_is (sm_w X)) {index k : Nat} (hk : xo_tag k = 4) (hl : Cond.fieldLink own index "SmokeGoesTo$Sheet" "items" "[I" ∈ sm_G) (hd : decode cc pc = .ok (.getfield index, 3)) (kk : sm_V X Q nL σ (pc + 3) lv (.ref (sm_ad (sm_w X) (k + 4)) :: st)) : sm_V X Q nL σ pc lv (.ref (sm_ad (sm_w X) k) :: st) := by
  obtain ⟨cA, e1, e2, e3, e4⟩ := hw
  exact sm_get C 2 (k := k) (by rw [e4]; exact xo_lt hk (by decide)) (by rw [e3]; exact xo_sh4 hk _ _ _) (by rw [e1]; rfl) ixo_Sheet (by decide) hl rfl hd (kk)
theorem xob_Night {w : sm_WD} {k : Nat} (hw : xo_is w) (hk : xo_tag k = 5) : sm_Ob w k "SmokeGoesTo$Night" := by
  obtain ⟨cA, e1, e2, e3, e4⟩ := hw
  exact ⟨by rw [e4]; exact xo_lt hk (by decide), fun a b c => ⟨_, _, _, by rw [e3]; exact xo_sh5 hk a b c, by rw [e1]; rfl, rfl⟩⟩
theorem xr_Night_now (C : sm_Cx X cc nL own fr lo ret) (hw : xo_is (sm_w X)) {index k : Nat} (hk : xo_tag k = 5) (hl : Cond.fieldLink own index "SmokeGoesTo$Night" "now" "LSmokeGoesTo$Fire;" ∈ sm_G) (hd : decode cc pc = .ok (.getfield index, 3)) (kk : sm_V X Q nL σ (pc + 3) lv (.ref (sm_ad (sm_w X) 3) :: st)) : sm_V X Q nL σ pc lv (.ref (sm_ad (sm_w X) k) :: st) := by
  obtain ⟨cA, e1, e2, e3, e4⟩ := hw
  exact sm_get C 0 (k := k) (by rw [e4]; exact xo_lt hk (by decide)) (by rw [e3]; exact xo_sh5 hk _ _ _) (by rw [e1]; rfl) ixo_Night (by decide) hl rfl hd (kk)
theorem xr_Night_costs (C : sm_Cx X cc nL own fr lo ret) (hw : xo_is (sm_w X)) {index k : Nat} (hk : xo_tag k = 5) (hl : Cond.fieldLink own index "SmokeGoesTo$Night" "costs" "[I" ∈ sm_G) (hd : decode cc pc = .ok (.getfield index, 3)) (kk : sm_V X Q nL σ (pc + 3) lv (.ref (sm_ad (sm_w X) 44) :: st)) : sm_V X Q nL σ pc lv (.ref (sm_ad (sm_w X) k) :: st) := by
  obtain ⟨cA, e1, e2, e3, e4⟩ := hw
  exact sm_get C 1 (k := k) (by rw [e4]; exact xo_lt hk (by decide)) (by rw [e3]; exact xo_sh5 hk _ _ _) (by rw [e1]; rfl) ixo_Night (by decide) hl rfl hd (kk)
theorem xr_Night_smoked (C : sm_Cx X cc nL own fr lo ret) (hw : xo_is (sm_w X)) {index k : Nat} (hk : xo_tag k = 5) (hl : Cond.fieldLink own index "SmokeGoesTo$Night" "smoked" "[I" ∈ sm_G) (hd : decode cc pc = .ok (.getfield index, 3)) (kk : sm_V X Q nL σ (pc + 3) lv (.ref (sm_ad (sm_w X) 45) :: st)) : sm_V X Q nL σ pc lv (.ref (sm_ad (sm_w X) k) :: st) := by
  obtain ⟨cA, e1, e2, e3, e4⟩ := hw
  exact sm_get C 2 (k := k) (by rw [e4]; exact xo_lt hk (by decide)) (by rw [e3]; exact xo_sh5 hk _ _ _) (by rw [e1]; rfl) ixo_Night (by decide) hl rfl hd (kk)
theorem xr_Night_winds (C : sm_Cx X cc nL own fr lo ret) (hw : xo_is (sm_w X)) {index k : Nat} (hk : xo_tag k = 5) (hl : Cond.fieldLink own index "SmokeGoesTo$Night" "winds" "[I" ∈ sm_G) (hd : decode cc pc = .ok (.getfield index, 3)) (kk : sm_V X Q nL σ (pc + 3) lv (.ref (sm_ad (sm_w X) 46) :: st)) : sm_V X Q nL σ pc lv (.ref (sm_ad (sm_w X) k) :: st) := by
  obtain ⟨cA, e1, e2, e3, e4⟩ := hw
  exact sm_get C 3 (k := k) (by rw [e4]; exact xo_lt hk (by decide)) (by rw [e3]; exact xo_sh5 hk _ _ _) (by rw [e1]; rfl) ixo_Night (by decide) hl rfl hd (kk)
theorem xr_Night_longest (C : sm_Cx X cc nL own fr lo ret) (hw : xo_is (sm_w X)) {index k : Nat} (hk : xo_tag k = 5) (hl : Cond.fieldLink own index "SmokeGoesTo$Night" "longest" "[I" ∈ sm_G) (hd : decode cc pc = .ok (.getfield index, 3)) (kk : sm_V X Q nL σ (pc + 3) lv (.ref (sm_ad (sm_w X) 47) :: st)) : sm_V X Q nL σ pc lv (.ref (sm_ad (sm_w X) k) :: st) := by
  obtain ⟨cA, e1, e2, e3, e4⟩ := hw
  exact sm_get C 4 (k := k) (by rw [e4]; exact xo_lt hk (by decide)) (by rw [e3]; exact xo_sh5 hk _ _ _) (by rw [e1]; rfl) ixo_Night (by decide) hl rfl hd (kk)
theorem xr_Night_ups (C : sm_Cx X cc nL own fr lo ret) (hw : xo_is (sm_w X)) {index k : Nat} (hk : xo_tag k = 5) (hl : Cond.fieldLink own index "SmokeGoesTo$Night" "ups" "[I" ∈ sm_G) (hd : decode cc pc = .ok (.getfield index, 3)) (kk : sm_V X Q nL σ (pc + 3) lv (.ref (sm_ad (sm_w X) 48) :: st)) : sm_V X Q nL σ pc lv (.ref (sm_ad (sm_w X) k) :: st) := by
  obtain ⟨cA, e1, e2, e3, e4⟩ := hw
  exact sm_get C 5 (k := k) (by rw [e4]; exact xo_lt hk (by decide)) (by rw [e3]; exact xo_sh5 hk _ _ _) (by rw [e1]; rfl) ixo_Night (by decide) hl rfl hd (kk)
theorem xr_Night_longs (C : sm_Cx X cc nL own fr lo ret) (hw : xo_is (sm_w X)) {index k : Nat} (hk : xo_tag k = 5) (hl : Cond.fieldLink own index "SmokeGoesTo$Night" "longs" "[I" ∈ sm_G) (hd : decode cc pc = .ok (.getfield index, 3)) (kk : sm_V X Q nL σ (pc + 3) lv (.ref (sm_ad (sm_w X) 49) :: st)) : sm_V X Q nL σ pc lv (.ref (sm_ad (sm_w X) k) :: st) := by
  obtain ⟨cA, e1, e2, e3, e4⟩ := hw
  exact sm_get C 6 (k := k) (by rw [e4]; exact xo_lt hk (by decide)) (by rw [e3]; exact xo_sh5 hk _ _ _) (by rw [e1]; rfl) ixo_Night (by decide) hl rfl hd (kk)
theorem xr_Night_names (C : sm_Cx X cc nL own fr lo ret) (hw : xo_is (sm_w X)) {index k : Nat} (hk : xo_tag k = 5) (hl : Cond.fieldLink own index "SmokeGoesTo$Night" "names" "[I" ∈ sm_G) (hd : decode cc pc = .ok (.getfield index, 3)) (kk : sm_V X Q nL σ (pc + 3) lv (.ref (sm_ad (sm_w X) 50) :: st)) : sm_V X Q nL σ pc lv (.ref (sm_ad (sm_w X) k) :: st) := by
  obtain ⟨cA, e1, e2, e3, e4⟩ := hw
  exact sm_get C 7 (k := k) (by rw [e4]; exact xo_lt hk (by decide)) (by rw [e3]; exact xo_sh5 hk _ _ _) (by rw [e1]; rfl) ixo_Night (by decide) hl rfl hd (kk)
theorem xr_Night_stack (C : sm_Cx X cc nL own fr lo ret) (hw : xo_is (sm_w X)) {index k : Nat} (hk : xo_tag k = 5) (hl : Cond.fieldLink own index "SmokeGoesTo$Night" "stack" "[I" ∈ sm_G) (hd : decode cc pc = .ok (.getfield index, 3)) (kk : sm_V X Q nL σ (pc + 3) lv (.ref (sm_ad (sm_w X) 51) :: st)) : sm_V X Q nL σ pc lv (.ref (sm_ad (sm_w X) k) :: st) := by
  obtain ⟨cA, e1, e2, e3, e4⟩ := hw
  exact sm_get C 8 (k := k) (by rw [e4]; exact xo_lt hk (by decide)) (by rw [e3]; exact xo_sh5 hk _ _ _) (by rw [e1]; rfl) ixo_Night (by decide) hl rfl hd (kk)
theorem xr_Night_minutes (C : sm_Cx X cc nL own fr lo ret) (hw : xo_is (sm_w X)) {index k : Nat} (hk : xo_tag k = 5) (hl : Cond.fieldLink own index "SmokeGoesTo$Night" "minutes" "I" ∈ sm_G) (hd : decode cc pc = .ok (.getfield index, 3)) {f : Int32 → Option β} (h : sm_b (σ.1 k 9) f = some z) (kk : ∀ v, f v = some z → sm_V X Q nL σ (pc + 3) lv (.int v :: st)) : sm_V X Q nL σ pc lv (.ref (sm_ad (sm_w X) k) :: st) := by
  obtain ⟨cA, e1, e2, e3, e4⟩ := hw
  exact sm_get C 9 (k := k) (by rw [e4]; exact xo_lt hk (by decide)) (by rw [e3]; exact xo_sh5 hk _ _ _) (by rw [e1]; rfl) ixo_Night (by decide) hl rfl hd (kk _ h)
theorem xp_Night_minutes (C : sm_Cx X cc nL own fr lo ret) (hw : xo_is (sm_w X)) {index k : Nat} (hk : xo_tag k = 5) (hl : Cond.fieldLink own index "SmokeGoesTo$Night" "minutes" "I" ∈ sm_G) (hd : decode cc pc = .ok (.putfield index, 3)) {f : sm_St → Option β} {v : Int32} (h : sm_b (sm_sI σ k 9 v) f = some z) (kk : ∀ s, f s = some z → sm_V X Q nL s (pc + 3) lv st) : sm_V X Q nL σ pc lv (.int v :: .ref (sm_ad (sm_w X) k) :: st) := by
  obtain ⟨cA, e1, e2, e3, e4⟩ := hw
  exact sm_put C 9 (k := k) (σ' := sm_sI σ k 9 v) (by rw [e4]; exact xo_lt hk (by decide)) (by rw [e3]; exact xo_sh5 hk _ _ _) (by rw [e1]; rfl) ixo_Night kxo_Night nxo_Night (by decide) hl rfl rfl rfl rfl (Nat.le_of_ble_eq_true rfl) (by rw [e3, xo_sh5 hk, sm_sIk.1]; rfl) sm_sIo hd (kk _ h)
theorem xr_Night_needless (C : sm_Cx X cc nL own fr lo ret) (hw : xo_is (sm_w X)) {index k : Nat} (hk : xo_tag k = 5) (hl : Cond.fieldLink own index "SmokeGoesTo$Night" "needless" "I" ∈ sm_G) (hd : decode cc pc = .ok (.getfield index, 3)) {f : Int32 → Option β} (h : sm_b (σ.1 k 10) f = some z) (kk : ∀ v, f v = some z → sm_V X Q nL σ (pc + 3) lv (.int v :: st)) : sm_V X Q nL σ pc lv (.ref (sm_ad (sm_w X) k) :: st) := by
  obtain ⟨cA, e1, e2, e3, e4⟩ := hw
  exact sm_get C 10 (k := k) (by rw [e4]; exact xo_lt hk (by decide)) (by rw [e3]; exact xo_sh5 hk _ _ _) (by rw [e1]; rfl) ixo_Night (by decide) hl rfl hd (kk _ h)
theorem xp_Night_needless (C : sm_Cx X cc nL own fr lo ret) (hw : xo_is (sm_w X)) {index k : Nat} (hk : xo_tag k = 5) (hl : Cond.fieldLink own index "SmokeGoesTo$Night" "needless" "I" ∈ sm_G) (hd : decode cc pc = .ok (.putfield index, 3)) {f : sm_St → Option β} {v : Int32} (h : sm_b (sm_sI σ k 10 v) f = some z) (kk : ∀ s, f s = some z → sm_V X Q nL s (pc + 3) lv st) : sm_V X Q nL σ pc lv (.int v :: .ref (sm_ad (sm_w X) k) :: st) := by
  obtain ⟨cA, e1, e2, e3, e4⟩ := hw
  exact sm_put C 10 (k := k) (σ' := sm_sI σ k 10 v) (by rw [e4]; exact xo_lt hk (by decide)) (by rw [e3]; exact xo_sh5 hk _ _ _) (by rw [e1]; rfl) ixo_Night kxo_Night nxo_Night (by decide) hl rfl rfl rfl rfl (Nat.le_of_ble_eq_true rfl) (by rw [e3, xo_sh5 hk, sm_sIk.1]; rfl) sm_sIo hd (kk _ h)
theorem xr_Night_riser (C : sm_Cx X cc nL own fr lo ret) (hw : xo_is (sm_w X)) {index k : Nat} (hk : xo_tag k = 5) (hl : Cond.fieldLink own index "SmokeGoesTo$Night" "riser" "I" ∈ sm_G) (hd : decode cc pc = .ok (.getfield index, 3)) {f : Int32 → Option β} (h : sm_b (σ.1 k 11) f = some z) (kk : ∀ v, f v = some z → sm_V X Q nL σ (pc + 3) lv (.int v :: st)) : sm_V X Q nL σ pc lv (.ref (sm_ad (sm_w X) k) :: st) := by
  obtain ⟨cA, e1, e2, e3, e4⟩ := hw
  exact sm_get C 11 (k := k) (by rw [e4]; exact xo_lt hk (by decide)) (by rw [e3]; exact xo_sh5 hk _ _ _) (by rw [e1]; rfl) ixo_Night (by decide) hl rfl hd (kk _ h)
theorem xp_Night_riser (C : sm_Cx X cc nL own fr lo ret) (hw : xo_is (sm_w X)) {index k : Nat} (hk : xo_tag k = 5) (hl : Cond.fieldLink own index "SmokeGoesTo$Night" "riser" "I" ∈ sm_G) (hd : decode cc pc = .ok (.putfield index, 3)) {f : sm_St → Option β} {v : Int32} (h : sm_b (sm_sI σ k 11 v) f = some z) (kk : ∀ s, f s = some z → sm_V X Q nL s (pc + 3) lv st) : sm_V X Q nL σ pc lv (.int v :: .ref (sm_ad (sm_w X) k) :: st) := by
  obtain ⟨cA, e1, e2, e3, e4⟩ := hw
  exact sm_put C 11 (k := k) (σ' := sm_sI σ k 11 v) (by rw [e4]; exact xo_lt hk (by decide)) (by rw [e3]; exact xo_sh5 hk _ _ _) (by rw [e1]; rfl) ixo_Night kxo_Night nxo_Night (by decide) hl rfl rfl rfl rfl (Nat.le_of_ble_eq_true rfl) (by rw [e3, xo_sh5 hk, sm_sIk.1]; rfl) sm_sIo hd (kk _ h)
theorem xr_Night_leftPlace (C : sm_Cx X cc nL own fr lo ret) (hw : xo_is (sm_w X)) {index k : Nat} (hk : xo_tag k = 5) (hl : Cond.fieldLink own index "SmokeGoesTo$Night" "leftPlace" "I" ∈ sm_G) (hd : decode cc pc = .ok (.getfield index, 3)) {f : Int32 → Option β} (h : sm_b (σ.1 k 12) f = some z) (kk : ∀ v, f v = some z → sm_V X Q nL σ (pc + 3) lv (.int v :: st)) : sm_V X Q nL σ pc lv (.ref (sm_ad (sm_w X) k) :: st) := by
  obtain ⟨cA, e1, e2, e3, e4⟩ := hw
  exact sm_get C 12 (k := k) (by rw [e4]; exact xo_lt hk (by decide)) (by rw [e3]; exact xo_sh5 hk _ _ _) (by rw [e1]; rfl) ixo_Night (by decide) hl rfl hd (kk _ h)
theorem xp_Night_leftPlace (C : sm_Cx X cc nL own fr lo ret) (hw : xo_is (sm_w X)) {index k : Nat} (hk : xo_tag k = 5) (hl : Cond.fieldLink own index "SmokeGoesTo$Night" "leftPlace" "I" ∈ sm_G) (hd : decode cc pc = .ok (.putfield index, 3)) {f : sm_St → Option β} {v : Int32} (h : sm_b (sm_sI σ k 12 v) f = some z) (kk : ∀ s, f s = some z → sm_V X Q nL s (pc + 3) lv st) : sm_V X Q nL σ pc lv (.int v :: .ref (sm_ad (sm_w X) k) :: st) := by
  obtain ⟨cA, e1, e2, e3, e4⟩ := hw
  exact sm_put C 12 (k := k) (σ' := sm_sI σ k 12 v) (by rw [e4]; exact xo_lt hk (by decide)) (by rw [e3]; exact xo_sh5 hk _ _ _) (by rw [e1]; rfl) ixo_Night kxo_Night nxo_Night (by decide) hl rfl rfl rfl rfl (Nat.le_of_ble_eq_true rfl) (by rw [e3, xo_sh5 hk, sm_sIk.1]; rfl) sm_sIo hd (kk _ h)
theorem xr_Night_rule (C : sm_Cx X cc nL own fr lo ret) (hw : xo_is (sm_w X)) {index k : Nat} (hk : xo_tag k = 5) (hl : Cond.fieldLink own index "SmokeGoesTo$Night" "rule" "LSmokeGoesTo$Text;" ∈ sm_G) (hd : decode cc pc = .ok (.getfield index, 3)) {f : Option Nat → Option β} (h : sm_b (σ.2.2 k 13) f = some z) (kk : ∀ r, f r = some z → sm_V X Q nL σ (pc + 3) lv (va_rf (r.map (sm_ad (sm_w X))) :: st)) : sm_V X Q nL σ pc lv (.ref (sm_ad (sm_w X) k) :: st) := by
  obtain ⟨cA, e1, e2, e3, e4⟩ := hw
  exact sm_get C 13 (k := k) (by rw [e4]; exact xo_lt hk (by decide)) (by rw [e3]; exact xo_sh5 hk _ _ _) (by rw [e1]; rfl) ixo_Night (by decide) hl rfl hd (kk _ h)
theorem xp_Night_rule (C : sm_Cx X cc nL own fr lo ret) (hw : xo_is (sm_w X)) {index k : Nat} (hk : xo_tag k = 5) (hl : Cond.fieldLink own index "SmokeGoesTo$Night" "rule" "LSmokeGoesTo$Text;" ∈ sm_G) (hd : decode cc pc = .ok (.putfield index, 3)) {f : sm_St → Option β} {r : Option Nat} (h : sm_b (sm_sR σ k 13 r) f = some z) (kk : ∀ s, f s = some z → sm_V X Q nL s (pc + 3) lv st) : sm_V X Q nL σ pc lv (va_rf (r.map (sm_ad (sm_w X))) :: .ref (sm_ad (sm_w X) k) :: st) := by
  obtain ⟨cA, e1, e2, e3, e4⟩ := hw
  exact sm_put C 13 (k := k) (σ' := sm_sR σ k 13 r) (by rw [e4]; exact xo_lt hk (by decide)) (by rw [e3]; exact xo_sh5 hk _ _ _) (by rw [e1]; rfl) ixo_Night kxo_Night nxo_Night (by decide) hl rfl rfl (by cases r <;> rfl) (by cases r <;> rfl) (Nat.le_of_ble_eq_true rfl) (by rw [e3, xo_sh5 hk, sm_sRk.2.2]; rfl) sm_sRo hd (kk _ h)
theorem xob_Odds {w : sm_WD} {k : Nat} (hw : xo_is w) (hk : xo_tag k = 6) : sm_Ob w k "SmokeGoesTo$Odds" := by
  obtain ⟨cA, e1, e2, e3, e4⟩ := hw
  exact ⟨by rw [e4]; exact xo_lt hk (by decide), fun a b c => ⟨_, _, _, by rw [e3]; exact xo_sh6 hk a b c, by rw [e1]; rfl, rfl⟩⟩
theorem xr_Odds_at (C : sm_Cx X cc nL own fr lo ret) (hw : xo_is (sm_w X)) {index k : Nat} (hk : xo_tag k = 6) (hl : Cond.fieldLink own index "SmokeGoesTo$Odds" "at" "[J" ∈ sm_G) (hd : decode cc pc = .ok (.getfield index, 3)) (kk : sm_V X Q nL σ (pc + 3) lv (.ref (sm_ad (sm_w X) 53) :: st)) : sm_V X Q nL σ pc lv (.ref (sm_ad (sm_w X) k) :: st) := by
  obtain ⟨cA, e1, e2, e3, e4⟩ := hw
  exact sm_get C 0 (k := k) (by rw [e4]; exact xo_lt hk (by decide)) (by rw [e3]; exact xo_sh6 hk _ _ _) (by rw [e1]; rfl) ixo_Odds (by decide) hl rfl hd (kk)
theorem xr_Odds_together (C : sm_Cx X cc nL own fr lo ret) (hw : xo_is (sm_w X)) {index k : Nat} (hk : xo_tag k = 6) (hl : Cond.fieldLink own index "SmokeGoesTo$Odds" "together" "[J" ∈ sm_G) (hd : decode cc pc = .ok (.getfield index, 3)) (kk : sm_V X Q nL σ (pc + 3) lv (.ref (sm_ad (sm_w X) 54) :: st)) : sm_V X Q nL σ pc lv (.ref (sm_ad (sm_w X) k) :: st) := by
  obtain ⟨cA, e1, e2, e3, e4⟩ := hw
  exact sm_get C 1 (k := k) (by rw [e4]; exact xo_lt hk (by decide)) (by rw [e3]; exact xo_sh6 hk _ _ _) (by rw [e1]; rfl) ixo_Odds (by decide) hl rfl hd (kk)
theorem xr_Odds_below (C : sm_Cx X cc nL own fr lo ret) (hw : xo_is (sm_w X)) {index k : Nat} (hk : xo_tag k = 6) (hl : Cond.fieldLink own index "SmokeGoesTo$Odds" "below" "J" ∈ sm_G) (hd : decode cc pc = .ok (.getfield index, 3)) {f : Int64 → Option β} (h : sm_b (σ.2.1 k 2) f = some z) (kk : ∀ v, f v = some z → sm_V X Q nL σ (pc + 3) lv (.long v :: st)) : sm_V X Q nL σ pc lv (.ref (sm_ad (sm_w X) k) :: st) := by
  obtain ⟨cA, e1, e2, e3, e4⟩ := hw
  exact sm_get C 2 (k := k) (by rw [e4]; exact xo_lt hk (by decide)) (by rw [e3]; exact xo_sh6 hk _ _ _) (by rw [e1]; rfl) ixo_Odds (by decide) hl rfl hd (kk _ h)
theorem xp_Odds_below (C : sm_Cx X cc nL own fr lo ret) (hw : xo_is (sm_w X)) {index k : Nat} (hk : xo_tag k = 6) (hl : Cond.fieldLink own index "SmokeGoesTo$Odds" "below" "J" ∈ sm_G) (hd : decode cc pc = .ok (.putfield index, 3)) {f : sm_St → Option β} {v : Int64} (h : sm_b (sm_sL σ k 2 v) f = some z) (kk : ∀ s, f s = some z → sm_V X Q nL s (pc + 3) lv st) : sm_V X Q nL σ pc lv (.long v :: .ref (sm_ad (sm_w X) k) :: st) := by
  obtain ⟨cA, e1, e2, e3, e4⟩ := hw
  exact sm_put C 2 (k := k) (σ' := sm_sL σ k 2 v) (by rw [e4]; exact xo_lt hk (by decide)) (by rw [e3]; exact xo_sh6 hk _ _ _) (by rw [e1]; rfl) ixo_Odds kxo_Odds nxo_Odds (by decide) hl rfl rfl rfl rfl (Nat.le_of_ble_eq_true rfl) (by rw [e3, xo_sh6 hk, sm_sLk.2.1]; rfl) sm_sLo hd (kk _ h)
theorem xr_Odds_ahead (C : sm_Cx X cc nL own fr lo ret) (hw : xo_is (sm_w X)) {index k : Nat} (hk : xo_tag k = 6) (hl : Cond.fieldLink own index "SmokeGoesTo$Odds" "ahead" "[J" ∈ sm_G) (hd : decode cc pc = .ok (.getfield index, 3)) (kk : sm_V X Q nL σ (pc + 3) lv (.ref (sm_ad (sm_w X) 55) :: st)) : sm_V X Q nL σ pc lv (.ref (sm_ad (sm_w X) k) :: st) := by
  obtain ⟨cA, e1, e2, e3, e4⟩ := hw
  exact sm_get C 3 (k := k) (by rw [e4]; exact xo_lt hk (by decide)) (by rw [e3]; exact xo_sh6 hk _ _ _) (by rw [e1]; rfl) ixo_Odds (by decide) hl rfl hd (kk)
theorem xa_iald (C : sm_Cx X cc nL own fr lo ret) (hw : xo_is (sm_w X)) {k n : Nat} (hk : xo_tag k = 10) (hn : xo_len k = n) {i : Int32} {f : Int32 → Option β} (hd : decode cc pc = .ok (.iaload, 1)) (h : sm_g (sm_in i n) (sm_b (σ.1 k i.toNatClampNeg) f) = some z) (kk : ∀ v, f v = some z → sm_V X Q nL σ (pc + 1) lv (.int v :: st)) : sm_V X Q nL σ pc lv (.int i :: .ref (sm_ad (sm_w X) k) :: st) := by
  obtain ⟨cA, e1, e2, e3, e4⟩ := hw
  subst hn
  exact sm_iald C (t0 := 0) (by rw [e4]; exact xo_lt hk (by decide)) (by rw [e3]; exact xo_sh10 hk _ _ _) (by rw [e2]; rfl) hd h kk
theorem xa_lald (C : sm_Cx X cc nL own fr lo ret) (hw : xo_is (sm_w X)) {k n : Nat} (hk : xo_tag k = 11) (hn : xo_len k = n) {i : Int32} {f : Int64 → Option β} (hd : decode cc pc = .ok (.laload, 1)) (h : sm_g (sm_in i n) (sm_b (σ.2.1 k i.toNatClampNeg) f) = some z) (kk : ∀ v, f v = some z → sm_V X Q nL σ (pc + 1) lv (.long v :: st)) : sm_V X Q nL σ pc lv (.int i :: .ref (sm_ad (sm_w X) k) :: st) := by
  obtain ⟨cA, e1, e2, e3, e4⟩ := hw
  subst hn
  exact sm_lald C (t0 := 1) (by rw [e4]; exact xo_lt hk (by decide)) (by rw [e3]; exact xo_sh11 hk _ _ _) (by rw [e2]; rfl) hd h kk
theorem xa_iast (C : sm_Cx X cc nL own fr lo ret) (hw : xo_is (sm_w X)) {k n : Nat} (hk : xo_tag k = 10) (hn : xo_len k = n) {i : Int32} {x : Int32} {f : sm_St → Option β} (hd : decode cc pc = .ok (.iastore, 1)) (h : sm_g (sm_in i n) (sm_b (sm_sI σ k i.toNatClampNeg x) f) = some z) (kk : ∀ s, f s = some z → sm_V X Q nL s (pc + 1) lv st) : sm_V X Q nL σ pc lv (.int x :: .int i :: .ref (sm_ad (sm_w X) k) :: st) := by
  obtain ⟨cA, e1, e2, e3, e4⟩ := hw
  subst hn
  exact sm_iast C (t0 := 0) (by rw [e4]; exact xo_lt hk (by decide)) (fun a b c => by rw [e3]; exact xo_sh10 hk a b c) (by rw [e2]; rfl) hd h kk
theorem xa_last (C : sm_Cx X cc nL own fr lo ret) (hw : xo_is (sm_w X)) {k n : Nat} (hk : xo_tag k = 11) (hn : xo_len k = n) {i : Int32} {x : Int64} {f : sm_St → Option β} (hd : decode cc pc = .ok (.lastore, 1)) (h : sm_g (sm_in i n) (sm_b (sm_sL σ k i.toNatClampNeg x) f) = some z) (kk : ∀ s, f s = some z → sm_V X Q nL s (pc + 1) lv st) : sm_V X Q nL σ pc lv (.long x :: .int i :: .ref (sm_ad (sm_w X) k) :: st) := by
  obtain ⟨cA, e1, e2, e3, e4⟩ := hw
  subst hn
  exact sm_last C (t0 := 1) (by rw [e4]; exact xo_lt hk (by decide)) (fun a b c => by rw [e3]; exact xo_sh11 hk a b c) (by rw [e2]; rfl) hd h kk
theorem xa_alenI (C : sm_Cx X cc nL own fr lo ret) (hw : xo_is (sm_w X)) {k n : Nat} (hk : xo_tag k = 10) (hn : xo_len k = n) {f : Int32 → Option β} (hd : decode cc pc = .ok (.arraylength, 1)) (h : sm_b (Int32.ofNat n) f = some z) (kk : ∀ v, f v = some z → sm_V X Q nL σ (pc + 1) lv (.int v :: st)) : sm_V X Q nL σ pc lv (.ref (sm_ad (sm_w X) k) :: st) := by
  obtain ⟨cA, e1, e2, e3, e4⟩ := hw
  subst hn
  exact sm_alen C (t0 := 0) (by rw [e4]; exact xo_lt hk (by decide)) (by rw [e3]; exact xo_sh10 hk _ _ _) (by rw [e2]; rfl) rfl hd (kk _ h)
theorem xa_alenL (C : sm_Cx X cc nL own fr lo ret) (hw : xo_is (sm_w X)) {k n : Nat} (hk : xo_tag k = 11) (hn : xo_len k = n) {f : Int32 → Option β} (hd : decode cc pc = .ok (.arraylength, 1)) (h : sm_b (Int32.ofNat n) f = some z) (kk : ∀ v, f v = some z → sm_V X Q nL σ (pc + 1) lv (.int v :: st)) : sm_V X Q nL σ pc lv (.ref (sm_ad (sm_w X) k) :: st) := by
  obtain ⟨cA, e1, e2, e3, e4⟩ := hw
  subst hn
  exact sm_alen C (t0 := 1) (by rw [e4]; exact xo_lt hk (by decide)) (by rw [e3]; exact xo_sh11 hk _ _ _) (by rw [e2]; rfl) rfl hd (kk _ h)
theorem xa_aaldText (C : sm_Cx X cc nL own fr lo ret) (hw : xo_is (sm_w X)) {k : Nat} (hk : xo_tag k = 12) {i : Int32} {x : Option β} (hd : decode cc pc = .ok (.aaload, 1)) (h : sm_g (sm_in i 6) x = some z) (kk : sm_in i 6 = true → x = some z → sm_V X Q nL σ (pc + 1) lv (.ref (sm_ad (sm_w X) (16 + i.toNatClampNeg)) :: st)) : sm_V X Q nL σ pc lv (.int i :: .ref (sm_ad (sm_w X) k) :: st) := by
  obtain ⟨cA, e1, e2, e3, e4⟩ := hw
  exact sm_aldq C (t0 := 2) (by rw [e4]; exact xo_lt hk (by decide)) (by rw [e3]; exact xo_sh12 hk _ _ _) (by rw [e2]; rfl) hd h kk
theorem xa_aaldSheet (C : sm_Cx X cc nL own fr lo ret) (hw : xo_is (sm_w X)) {k : Nat} (hk : xo_tag k = 13) {i : Int32} {x : Option β} (hd : decode cc pc = .ok (.aaload, 1)) (h : sm_g (sm_in i 4) x = some z) (kk : sm_in i 4 = true → x = some z → sm_V X Q nL σ (pc + 1) lv (.ref (sm_ad (sm_w X) (35 + i.toNatClampNeg)) :: st)) : sm_V X Q nL σ pc lv (.int i :: .ref (sm_ad (sm_w X) k) :: st) := by
  obtain ⟨cA, e1, e2, e3, e4⟩ := hw
  exact sm_aldq C (t0 := 3) (by rw [e4]; exact xo_lt hk (by decide)) (by rw [e3]; exact xo_sh13 hk _ _ _) (by rw [e2]; rfl) hd h kk
theorem xa_copyi (C : sm_Cx X cc nL own fr lo ret) (hw : xo_is (sm_w X)) {k k1 n n1 index : Nat} (hk : xo_tag k = 10) (hn : xo_len k = n) (hk1 : xo_tag k1 = 10) (hn1 : xo_len k1 = n1) {sp dp m : Int32} {f : sm_St → Option β} (hl : Cond.methodLink own index arraycopyName ∈ sm_G) (h5 : 1 ≤ fr) (h6 : (st.map fun v => v.category).sum + (nativeFrameWords "java/lang/System" "arraycopy" 5 + 11) ≤ lo) (hd : decode cc pc = .ok (.invokestatic index, 3)) (h : sm_g (sm_cpyok sp dp m n n1) (sm_b (sm_cI σ k k1 sp.toNatClampNeg dp.toNatClampNeg m.toNatClampNeg) f) = some z) (kk : ∀ s, f s = some z → sm_V X Q nL s (pc + 3) lv st) : sm_V X Q nL σ pc lv (.int m :: .int dp :: .ref (sm_ad (sm_w X) k1) :: .int sp :: .ref (sm_ad (sm_w X) k) :: st) := by
  obtain ⟨cA, e1, e2, e3, e4⟩ := hw
  subst hn
  subst hn1
  exact sm_copyi C (t0 := 0) (by rw [e4]; exact xo_lt hk (by decide)) (by rw [e4]; exact xo_lt hk1 (by decide)) (fun a b c => by rw [e3]; exact xo_sh10 hk a b c) (fun a b c => by rw [e3]; exact xo_sh10 hk1 a b c) (by rw [e2]; rfl) hl gq_copy gs_copy gn_Sys h5 h6 hd h kk
theorem xa_copyl (C : sm_Cx X cc nL own fr lo ret) (hw : xo_is (sm_w X)) {k k1 n n1 index : Nat} (hk : xo_tag k = 11) (hn : xo_len k = n) (hk1 : xo_tag k1 = 11) (hn1 : xo_len k1 = n1) {sp dp m : Int32} {f : sm_St → Option β} (hl : Cond.methodLink own index arraycopyName ∈ sm_G) (h5 : 1 ≤ fr) (h6 : (st.map fun v => v.category).sum + (nativeFrameWords "java/lang/System" "arraycopy" 5 + 11) ≤ lo) (hd : decode cc pc = .ok (.invokestatic index, 3)) (h : sm_g (sm_cpyok sp dp m n n1) (sm_b (sm_cL σ k k1 sp.toNatClampNeg dp.toNatClampNeg m.toNatClampNeg) f) = some z) (kk : ∀ s, f s = some z → sm_V X Q nL s (pc + 3) lv st) : sm_V X Q nL σ pc lv (.int m :: .int dp :: .ref (sm_ad (sm_w X) k1) :: .int sp :: .ref (sm_ad (sm_w X) k) :: st) := by
  obtain ⟨cA, e1, e2, e3, e4⟩ := hw
  subst hn
  subst hn1
  exact sm_copyl C (t0 := 1) (by rw [e4]; exact xo_lt hk (by decide)) (by rw [e4]; exact xo_lt hk1 (by decide)) (fun a b c => by rw [e3]; exact xo_sh11 hk a b c) (fun a b c => by rw [e3]; exact xo_sh11 hk1 a b c) (by rw [e2]; rfl) hl gq_copy gs_copy gn_Sys h5 h6 hd h kk
end
def mo_tag (k : Nat) : Nat := ([0, 10, 10, 10, 10, 10, 10, 10, 10, 10, 10, 10, 10, 10, 11, 11, 11, 10, 10, 10, 14, 10, 10, 10] : List Nat).getD k 99
def mo_len (k : Nat) : Nat := ([0, 960, 6, 160, 5, 5, 5, 5, 5, 5, 5, 5, 5, 6, 8, 8, 8, 5, 5, 15, 4, 4, 4, 160] : List Nat).getD k 0
theorem mo_lt {k t : Nat} (h : mo_tag k = t) (ht : t ≠ 99) : k < 24 := by
  rcases Nat.lt_or_ge k 24 with q | q
  · exact q
  · exfalso
    apply ht
    rw [← h]
    unfold mo_tag
    rw [List.getD_eq_getElem?_getD, List.getElem?_eq_none (by simpa using q)]
    rfl
def Rmo_M : u_T := fun k => match k with
  | 0 => ("SmokeGoesToModel", "thrown", "I", false)
  | 1 => ("SmokeGoesToModel", "texts", "[I", true)
  | 2 => ("SmokeGoesToModel", "textSize", "[I", true)
  | 3 => ("SmokeGoesToModel", "textCount", "I", false)
  | 4 => ("SmokeGoesToModel", "rule", "I", false)
  | 5 => ("SmokeGoesToModel", "tape", "[I", true)
  | 6 => ("SmokeGoesToModel", "taped", "I", false)
  | 7 => ("SmokeGoesToModel", "smoke", "I", false)
  | 8 => ("SmokeGoesToModel", "left", "I", false)
  | 9 => ("SmokeGoesToModel", "right", "I", false)
  | 10 => ("SmokeGoesToModel", "tents", "I", false)
  | 11 => ("SmokeGoesToModel", "eddy", "I", false)
  | 12 => ("SmokeGoesToModel", "kinds", "[I", true)
  | 13 => ("SmokeGoesToModel", "numbers", "[I", true)
  | 14 => ("SmokeGoesToModel", "places", "[I", true)
  | 15 => ("SmokeGoesToModel", "sitterMany", "I", false)
  | 16 => ("SmokeGoesToModel", "ofPlace", "I", false)
  | 17 => ("SmokeGoesToModel", "ofSmoke", "I", false)
  | 18 => ("SmokeGoesToModel", "ofMinute", "I", false)
  | 19 => ("SmokeGoesToModel", "ofLong", "I", false)
  | 20 => ("SmokeGoesToModel", "ofNumber", "I", false)
  | 21 => ("SmokeGoesToModel", "ofSitter", "I", false)
  | 22 => ("SmokeGoesToModel", "from", "I", false)
  | 23 => ("SmokeGoesToModel", "size", "I", false)
  | 24 => ("SmokeGoesToModel", "here", "I", false)
  | 25 => ("SmokeGoesToModel", "token", "I", false)
  | 26 => ("SmokeGoesToModel", "tokenAt", "I", false)
  | 27 => ("SmokeGoesToModel", "tokenWorth", "J", false)
  | 28 => ("SmokeGoesToModel", "open", "I", false)
  | 29 => ("SmokeGoesToModel", "bad", "Z", false)
  | 30 => ("SmokeGoesToModel", "fault", "I", false)
  | 31 => ("SmokeGoesToModel", "longNow", "[I", true)
  | 32 => ("SmokeGoesToModel", "costs", "[I", true)
  | 33 => ("SmokeGoesToModel", "smoked", "[I", true)
  | 34 => ("SmokeGoesToModel", "longest", "[I", true)
  | 35 => ("SmokeGoesToModel", "risen", "[I", true)
  | 36 => ("SmokeGoesToModel", "leftPlace", "[I", true)
  | 37 => ("SmokeGoesToModel", "upNow", "I", false)
  | 38 => ("SmokeGoesToModel", "needless", "I", false)
  | 39 => ("SmokeGoesToModel", "aside", "[I", true)
  | 40 => ("SmokeGoesToModel", "parts", "[J", true)
  | 41 => ("SmokeGoesToModel", "then", "[J", true)
  | 42 => ("SmokeGoesToModel", "means", "[J", true)
  | 43 => ("SmokeGoesToModel", "below", "J", false)
  | 44 => ("SmokeGoesToModel", "seats", "[I", true)
  | 45 => ("SmokeGoesToModel", "bestSeats", "[I", true)
  | 46 => ("SmokeGoesToModel", "bestSum", "J", false)
  | 47 => ("SmokeGoesToModel", "isFound", "Z", false)
  | 48 => ("SmokeGoesToModel", "rowsMany", "I", false)
  | 49 => ("SmokeGoesToModel", "rowsFirst", "I", false)
  | 50 => ("SmokeGoesToModel", "kept", "[I", true)
  | 51 => ("SmokeGoesToModel", "manyKept", "I", false)
  | 52 => ("SmokeGoesToModel", "ruleKept", "I", false)
  | 53 => ("SmokeGoesToModel", "isThere", "[Z", true)
  | 54 => ("SmokeGoesToModel", "sorts", "[I", true)
  | 55 => ("SmokeGoesToModel", "sheetSize", "[I", true)
  | _ => ("SmokeGoesToModel", "items", "[I", true)
def ymo_M : Nat → FieldType := fun k => match k with
  | 0 => .int
  | 1 => .array .int
  | 2 => .array .int
  | 3 => .int
  | 4 => .int
  | 5 => .array .int
  | 6 => .int
  | 7 => .int
  | 8 => .int
  | 9 => .int
  | 10 => .int
  | 11 => .int
  | 12 => .array .int
  | 13 => .array .int
  | 14 => .array .int
  | 15 => .int
  | 16 => .int
  | 17 => .int
  | 18 => .int
  | 19 => .int
  | 20 => .int
  | 21 => .int
  | 22 => .int
  | 23 => .int
  | 24 => .int
  | 25 => .int
  | 26 => .int
  | 27 => .long
  | 28 => .int
  | 29 => .boolean
  | 30 => .int
  | 31 => .array .int
  | 32 => .array .int
  | 33 => .array .int
  | 34 => .array .int
  | 35 => .array .int
  | 36 => .array .int
  | 37 => .int
  | 38 => .int
  | 39 => .array .int
  | 40 => .array .long
  | 41 => .array .long
  | 42 => .array .long
  | 43 => .long
  | 44 => .array .int
  | 45 => .array .int
  | 46 => .long
  | 47 => .boolean
  | 48 => .int
  | 49 => .int
  | 50 => .array .int
  | 51 => .int
  | 52 => .int
  | 53 => .array .boolean
  | 54 => .array .int
  | 55 => .array .int
  | _ => .array .int
theorem nmo_M : ∀ a, a < 57 → ∀ b, b < 57 → a ≠ b → (Rmo_M a).2.1 ≠ (Rmo_M b).2.1 := by decide +kernel
theorem kmo_M : ∀ k, k < 57 → parseFieldDescriptor (Rmo_M k).2.2.1 = some (ymo_M k) := by decide +kernel
theorem imo_M : ∀ w ∈ u_ws "SmokeGoesToModel" Rmo_M 57, w ∈ sm_G := by
  have h : ∀ w ∈ u_ws "SmokeGoesToModel" Rmo_M 57, w ∈ lw_tbl ∧ goodWord w = true := by decide +kernel
  exact fun w hw => sm_gin (h w hw).1 (h w hw).2
def mo_cl : List vw_C := [("SmokeGoesToModel", Rmo_M, 57)]
def mo_ty (cA : Nat → ClassId) : List (ClassId × FieldType) := [(cA 0, .int), (cA 1, .long), (cA 2, .boolean)]
def mo_sh (cA : Nat → ClassId) (ad : Nat → Nat) : sm_Sh := fun k a b c => match mo_tag k with
  | 0 => .inr (0, [.int (a 0), .ref (ad 1), .ref (ad 2), .int (a 3), .int (a 4), .ref (ad 3), .int (a 6), .int (a 7), .int (a 8), .int (a 9), .int (a 10), .int (a 11), .ref (ad 4), .ref (ad 5), .ref (ad 6), .int (a 15), .int (a 16), .int (a 17), .int (a 18), .int (a 19), .int (a 20), .int (a 21), .int (a 22), .int (a 23), .int (a 24), .int (a 25), .int (a 26), .long (b 27), .int (a 28), .int (a 29), .int (a 30), .ref (ad 7), .ref (ad 8), .ref (ad 9), .ref (ad 10), .ref (ad 11), .ref (ad 12), .int (a 37), .int (a 38), .ref (ad 13), .ref (ad 14), .ref (ad 15), .ref (ad 16), .long (b 43), .ref (ad 17), .ref (ad 18), .long (b 46), .int (a 47), .int (a 48), .int (a 49), .ref (ad 19), .int (a 51), .int (a 52), .ref (ad 20), .ref (ad 21), .ref (ad 22), .ref (ad 23)])
  | 10 => .inl (cA 0, mo_len k, .inl a)
  | 11 => .inl (cA 1, mo_len k, .inr (.inl b))
  | 14 => .inl (cA 2, mo_len k, .inl a)
  | _ => .inr (99, [])
theorem mo_sh0 {cA : Nat → ClassId} {ad : Nat → Nat} {k : Nat} (h : mo_tag k = 0) (a : Nat → Int32) (b : Nat → Int64) (c : Nat → Option Nat) : mo_sh cA ad k a b c = .inr (0, [.int (a 0), .ref (ad 1), .ref (ad 2), .int (a 3), .int (a 4), .ref (ad 3), .int (a 6), .int (a 7), .int (a 8), .int (a 9), .int (a 10), .int (a 11), .ref (ad 4), .ref (ad 5), .ref (ad 6), .int (a 15), .int (a 16), .int (a 17), .int (a 18), .int (a 19), .int (a 20), .int (a 21), .int (a 22), .int (a 23), .int (a 24), .int (a 25), .int (a 26), .long (b 27), .int (a 28), .int (a 29), .int (a 30), .ref (ad 7), .ref (ad 8), .ref (ad 9), .ref (ad 10), .ref (ad 11), .ref (ad 12), .int (a 37), .int (a 38), .ref (ad 13), .ref (ad 14), .ref (ad 15), .ref (ad 16), .long (b 43), .ref (ad 17), .ref (ad 18), .long (b 46), .int (a 47), .int (a 48), .int (a 49), .ref (ad 19), .int (a 51), .int (a 52), .ref (ad 20), .ref (ad 21), .ref (ad 22), .ref (ad 23)]) := by
  unfold mo_sh
  rw [h]
  rfl
theorem mo_sh10 {cA : Nat → ClassId} {ad : Nat → Nat} {k : Nat} (h : mo_tag k = 10) (a : Nat → Int32) (b : Nat → Int64) (c : Nat → Option Nat) : mo_sh cA ad k a b c = .inl (cA 0, mo_len k, .inl a) := by
  unfold mo_sh
  rw [h]
  rfl
theorem mo_sh11 {cA : Nat → ClassId} {ad : Nat → Nat} {k : Nat} (h : mo_tag k = 11) (a : Nat → Int32) (b : Nat → Int64) (c : Nat → Option Nat) : mo_sh cA ad k a b c = .inl (cA 1, mo_len k, .inr (.inl b)) := by
  unfold mo_sh
  rw [h]
  rfl
theorem mo_sh14 {cA : Nat → ClassId} {ad : Nat → Nat} {k : Nat} (h : mo_tag k = 14) (a : Nat → Int32) (b : Nat → Int64) (c : Nat → Option Nat) : mo_sh cA ad k a b c = .inl (cA 2, mo_len k, .inl a) := by
  unfold mo_sh
  rw [h]
  rfl
def mo_is (w : sm_WD) : Prop := ∃ cA : Nat → ClassId, sm_cl w = mo_cl ∧ sm_ty w = mo_ty cA ∧ sm_sh w = mo_sh cA (sm_ad w) ∧ sm_N w = 24
section
variable {X : sm_VC} {cc : ByteArray} {nL : Nat} {own : String} {fr lo : Nat} {ret : Option FieldType} {Q : State → Prop} {σ : sm_St} {pc : Nat} {lv : List (Nat × Value)} {st : List Value} {β : Type} {z : β}
theorem mob_M {w : sm_WD} {k : Nat} (hw : mo_is w) (hk : mo_tag k = 0) : sm_Ob w k "SmokeGoesToModel" := by
  obtain ⟨cA, e1, e2, e3, e4⟩ := hw
  exact ⟨by rw [e4]; exact mo_lt hk (by decide), fun a b c => ⟨_, _, _, by rw [e3]; exact mo_sh0 hk a b c, by rw [e1]; rfl, rfl⟩⟩
theorem mr_M_thrown (C : sm_Cx X cc nL own fr lo ret) (hw : mo_is (sm_w X)) {index k : Nat} (hk : mo_tag k = 0) (hl : Cond.fieldLink own index "SmokeGoesToModel" "thrown" "I" ∈ sm_G) (hd : decode cc pc = .ok (.getfield index, 3)) {f : Int32 → Option β} (h : sm_b (σ.1 k 0) f = some z) (kk : ∀ v, f v = some z → sm_V X Q nL σ (pc + 3) lv (.int v :: st)) : sm_V X Q nL σ pc lv (.ref (sm_ad (sm_w X) k) :: st) := by
  obtain ⟨cA, e1, e2, e3, e4⟩ := hw
  exact sm_get C 0 (k := k) (by rw [e4]; exact mo_lt hk (by decide)) (by rw [e3]; exact mo_sh0 hk _ _ _) (by rw [e1]; rfl) imo_M (by decide) hl rfl hd (kk _ h)
theorem mp_M_thrown (C : sm_Cx X cc nL own fr lo ret) (hw : mo_is (sm_w X)) {index k : Nat} (hk : mo_tag k = 0) (hl : Cond.fieldLink own index "SmokeGoesToModel" "thrown" "I" ∈ sm_G) (hd : decode cc pc = .ok (.putfield index, 3)) {f : sm_St → Option β} {v : Int32} (h : sm_b (sm_sI σ k 0 v) f = some z) (kk : ∀ s, f s = some z → sm_V X Q nL s (pc + 3) lv st) : sm_V X Q nL σ pc lv (.int v :: .ref (sm_ad (sm_w X) k) :: st) := by
  obtain ⟨cA, e1, e2, e3, e4⟩ := hw
  exact sm_put C 0 (k := k) (σ' := sm_sI σ k 0 v) (by rw [e4]; exact mo_lt hk (by decide)) (by rw [e3]; exact mo_sh0 hk _ _ _) (by rw [e1]; rfl) imo_M kmo_M nmo_M (by decide) hl rfl rfl rfl rfl (Nat.le_of_ble_eq_true rfl) (by rw [e3, mo_sh0 hk, sm_sIk.1]; rfl) sm_sIo hd (kk _ h)
theorem mr_M_texts (C : sm_Cx X cc nL own fr lo ret) (hw : mo_is (sm_w X)) {index k : Nat} (hk : mo_tag k = 0) (hl : Cond.fieldLink own index "SmokeGoesToModel" "texts" "[I" ∈ sm_G) (hd : decode cc pc = .ok (.getfield index, 3)) (kk : sm_V X Q nL σ (pc + 3) lv (.ref (sm_ad (sm_w X) 1) :: st)) : sm_V X Q nL σ pc lv (.ref (sm_ad (sm_w X) k) :: st) := by
  obtain ⟨cA, e1, e2, e3, e4⟩ := hw
  exact sm_get C 1 (k := k) (by rw [e4]; exact mo_lt hk (by decide)) (by rw [e3]; exact mo_sh0 hk _ _ _) (by rw [e1]; rfl) imo_M (by decide) hl rfl hd (kk)
theorem mr_M_textSize (C : sm_Cx X cc nL own fr lo ret) (hw : mo_is (sm_w X)) {index k : Nat} (hk : mo_tag k = 0) (hl : Cond.fieldLink own index "SmokeGoesToModel" "textSize" "[I" ∈ sm_G) (hd : decode cc pc = .ok (.getfield index, 3)) (kk : sm_V X Q nL σ (pc + 3) lv (.ref (sm_ad (sm_w X) 2) :: st)) : sm_V X Q nL σ pc lv (.ref (sm_ad (sm_w X) k) :: st) := by
  obtain ⟨cA, e1, e2, e3, e4⟩ := hw
  exact sm_get C 2 (k := k) (by rw [e4]; exact mo_lt hk (by decide)) (by rw [e3]; exact mo_sh0 hk _ _ _) (by rw [e1]; rfl) imo_M (by decide) hl rfl hd (kk)
theorem mr_M_textCount (C : sm_Cx X cc nL own fr lo ret) (hw : mo_is (sm_w X)) {index k : Nat} (hk : mo_tag k = 0) (hl : Cond.fieldLink own index "SmokeGoesToModel" "textCount" "I" ∈ sm_G) (hd : decode cc pc = .ok (.getfield index, 3)) {f : Int32 → Option β} (h : sm_b (σ.1 k 3) f = some z) (kk : ∀ v, f v = some z → sm_V X Q nL σ (pc + 3) lv (.int v :: st)) : sm_V X Q nL σ pc lv (.ref (sm_ad (sm_w X) k) :: st) := by
  obtain ⟨cA, e1, e2, e3, e4⟩ := hw
  exact sm_get C 3 (k := k) (by rw [e4]; exact mo_lt hk (by decide)) (by rw [e3]; exact mo_sh0 hk _ _ _) (by rw [e1]; rfl) imo_M (by decide) hl rfl hd (kk _ h)
theorem mp_M_textCount (C : sm_Cx X cc nL own fr lo ret) (hw : mo_is (sm_w X)) {index k : Nat} (hk : mo_tag k = 0) (hl : Cond.fieldLink own index "SmokeGoesToModel" "textCount" "I" ∈ sm_G) (hd : decode cc pc = .ok (.putfield index, 3)) {f : sm_St → Option β} {v : Int32} (h : sm_b (sm_sI σ k 3 v) f = some z) (kk : ∀ s, f s = some z → sm_V X Q nL s (pc + 3) lv st) : sm_V X Q nL σ pc lv (.int v :: .ref (sm_ad (sm_w X) k) :: st) := by
  obtain ⟨cA, e1, e2, e3, e4⟩ := hw
  exact sm_put C 3 (k := k) (σ' := sm_sI σ k 3 v) (by rw [e4]; exact mo_lt hk (by decide)) (by rw [e3]; exact mo_sh0 hk _ _ _) (by rw [e1]; rfl) imo_M kmo_M nmo_M (by decide) hl rfl rfl rfl rfl (Nat.le_of_ble_eq_true rfl) (by rw [e3, mo_sh0 hk, sm_sIk.1]; rfl) sm_sIo hd (kk _ h)
theorem mr_M_rule (C : sm_Cx X cc nL own fr lo ret) (hw : mo_is (sm_w X)) {index k : Nat} (hk : mo_tag k = 0) (hl : Cond.fieldLink own index "SmokeGoesToModel" "rule" "I" ∈ sm_G) (hd : decode cc pc = .ok (.getfield index, 3)) {f : Int32 → Option β} (h : sm_b (σ.1 k 4) f = some z) (kk : ∀ v, f v = some z → sm_V X Q nL σ (pc + 3) lv (.int v :: st)) : sm_V X Q nL σ pc lv (.ref (sm_ad (sm_w X) k) :: st) := by
  obtain ⟨cA, e1, e2, e3, e4⟩ := hw
  exact sm_get C 4 (k := k) (by rw [e4]; exact mo_lt hk (by decide)) (by rw [e3]; exact mo_sh0 hk _ _ _) (by rw [e1]; rfl) imo_M (by decide) hl rfl hd (kk _ h)
theorem mp_M_rule (C : sm_Cx X cc nL own fr lo ret) (hw : mo_is (sm_w X)) {index k : Nat} (hk : mo_tag k = 0) (hl : Cond.fieldLink own index "SmokeGoesToModel" "rule" "I" ∈ sm_G) (hd : decode cc pc = .ok (.putfield index, 3)) {f : sm_St → Option β} {v : Int32} (h : sm_b (sm_sI σ k 4 v) f = some z) (kk : ∀ s, f s = some z → sm_V X Q nL s (pc + 3) lv st) : sm_V X Q nL σ pc lv (.int v :: .ref (sm_ad (sm_w X) k) :: st) := by
  obtain ⟨cA, e1, e2, e3, e4⟩ := hw
  exact sm_put C 4 (k := k) (σ' := sm_sI σ k 4 v) (by rw [e4]; exact mo_lt hk (by decide)) (by rw [e3]; exact mo_sh0 hk _ _ _) (by rw [e1]; rfl) imo_M kmo_M nmo_M (by decide) hl rfl rfl rfl rfl (Nat.le_of_ble_eq_true rfl) (by rw [e3, mo_sh0 hk, sm_sIk.1]; rfl) sm_sIo hd (kk _ h)
theorem mr_M_tape (C : sm_Cx X cc nL own fr lo ret) (hw : mo_is (sm_w X)) {index k : Nat} (hk : mo_tag k = 0) (hl : Cond.fieldLink own index "SmokeGoesToModel" "tape" "[I" ∈ sm_G) (hd : decode cc pc = .ok (.getfield index, 3)) (kk : sm_V X Q nL σ (pc + 3) lv (.ref (sm_ad (sm_w X) 3) :: st)) : sm_V X Q nL σ pc lv (.ref (sm_ad (sm_w X) k) :: st) := by
  obtain ⟨cA, e1, e2, e3, e4⟩ := hw
  exact sm_get C 5 (k := k) (by rw [e4]; exact mo_lt hk (by decide)) (by rw [e3]; exact mo_sh0 hk _ _ _) (by rw [e1]; rfl) imo_M (by decide) hl rfl hd (kk)
theorem mr_M_taped (C : sm_Cx X cc nL own fr lo ret) (hw : mo_is (sm_w X)) {index k : Nat} (hk : mo_tag k = 0) (hl : Cond.fieldLink own index "SmokeGoesToModel" "taped" "I" ∈ sm_G) (hd : decode cc pc = .ok (.getfield index, 3)) {f : Int32 → Option β} (h : sm_b (σ.1 k 6) f = some z) (kk : ∀ v, f v = some z → sm_V X Q nL σ (pc + 3) lv (.int v :: st)) : sm_V X Q nL σ pc lv (.ref (sm_ad (sm_w X) k) :: st) := by
  obtain ⟨cA, e1, e2, e3, e4⟩ := hw
  exact sm_get C 6 (k := k) (by rw [e4]; exact mo_lt hk (by decide)) (by rw [e3]; exact mo_sh0 hk _ _ _) (by rw [e1]; rfl) imo_M (by decide) hl rfl hd (kk _ h)
theorem mp_M_taped (C : sm_Cx X cc nL own fr lo ret) (hw : mo_is (sm_w X)) {index k : Nat} (hk : mo_tag k = 0) (hl : Cond.fieldLink own index "SmokeGoesToModel" "taped" "I" ∈ sm_G) (hd : decode cc pc = .ok (.putfield index, 3)) {f : sm_St → Option β} {v : Int32} (h : sm_b (sm_sI σ k 6 v) f = some z) (kk : ∀ s, f s = some z → sm_V X Q nL s (pc + 3) lv st) : sm_V X Q nL σ pc lv (.int v :: .ref (sm_ad (sm_w X) k) :: st) := by
  obtain ⟨cA, e1, e2, e3, e4⟩ := hw
  exact sm_put C 6 (k := k) (σ' := sm_sI σ k 6 v) (by rw [e4]; exact mo_lt hk (by decide)) (by rw [e3]; exact mo_sh0 hk _ _ _) (by rw [e1]; rfl) imo_M kmo_M nmo_M (by decide) hl rfl rfl rfl rfl (Nat.le_of_ble_eq_true rfl) (by rw [e3, mo_sh0 hk, sm_sIk.1]; rfl) sm_sIo hd (kk _ h)
theorem mr_M_smoke (C : sm_Cx X cc nL own fr lo ret) (hw : mo_is (sm_w X)) {index k : Nat} (hk : mo_tag k = 0) (hl : Cond.fieldLink own index "SmokeGoesToModel" "smoke" "I" ∈ sm_G) (hd : decode cc pc = .ok (.getfield index, 3)) {f : Int32 → Option β} (h : sm_b (σ.1 k 7) f = some z) (kk : ∀ v, f v = some z → sm_V X Q nL σ (pc + 3) lv (.int v :: st)) : sm_V X Q nL σ pc lv (.ref (sm_ad (sm_w X) k) :: st) := by
  obtain ⟨cA, e1, e2, e3, e4⟩ := hw
  exact sm_get C 7 (k := k) (by rw [e4]; exact mo_lt hk (by decide)) (by rw [e3]; exact mo_sh0 hk _ _ _) (by rw [e1]; rfl) imo_M (by decide) hl rfl hd (kk _ h)
theorem mp_M_smoke (C : sm_Cx X cc nL own fr lo ret) (hw : mo_is (sm_w X)) {index k : Nat} (hk : mo_tag k = 0) (hl : Cond.fieldLink own index "SmokeGoesToModel" "smoke" "I" ∈ sm_G) (hd : decode cc pc = .ok (.putfield index, 3)) {f : sm_St → Option β} {v : Int32} (h : sm_b (sm_sI σ k 7 v) f = some z) (kk : ∀ s, f s = some z → sm_V X Q nL s (pc + 3) lv st) : sm_V X Q nL σ pc lv (.int v :: .ref (sm_ad (sm_w X) k) :: st) := by
  obtain ⟨cA, e1, e2, e3, e4⟩ := hw
  exact sm_put C 7 (k := k) (σ' := sm_sI σ k 7 v) (by rw [e4]; exact mo_lt hk (by decide)) (by rw [e3]; exact mo_sh0 hk _ _ _) (by rw [e1]; rfl) imo_M kmo_M nmo_M (by decide) hl rfl rfl rfl rfl (Nat.le_of_ble_eq_true rfl) (by rw [e3, mo_sh0 hk, sm_sIk.1]; rfl) sm_sIo hd (kk _ h)
theorem mr_M_left (C : sm_Cx X cc nL own fr lo ret) (hw : mo_is (sm_w X)) {index k : Nat} (hk : mo_tag k = 0) (hl : Cond.fieldLink own index "SmokeGoesToModel" "left" "I" ∈ sm_G) (hd : decode cc pc = .ok (.getfield index, 3)) {f : Int32 → Option β} (h : sm_b (σ.1 k 8) f = some z) (kk : ∀ v, f v = some z → sm_V X Q nL σ (pc + 3) lv (.int v :: st)) : sm_V X Q nL σ pc lv (.ref (sm_ad (sm_w X) k) :: st) := by
  obtain ⟨cA, e1, e2, e3, e4⟩ := hw
  exact sm_get C 8 (k := k) (by rw [e4]; exact mo_lt hk (by decide)) (by rw [e3]; exact mo_sh0 hk _ _ _) (by rw [e1]; rfl) imo_M (by decide) hl rfl hd (kk _ h)
theorem mp_M_left (C : sm_Cx X cc nL own fr lo ret) (hw : mo_is (sm_w X)) {index k : Nat} (hk : mo_tag k = 0) (hl : Cond.fieldLink own index "SmokeGoesToModel" "left" "I" ∈ sm_G) (hd : decode cc pc = .ok (.putfield index, 3)) {f : sm_St → Option β} {v : Int32} (h : sm_b (sm_sI σ k 8 v) f = some z) (kk : ∀ s, f s = some z → sm_V X Q nL s (pc + 3) lv st) : sm_V X Q nL σ pc lv (.int v :: .ref (sm_ad (sm_w X) k) :: st) := by
  obtain ⟨cA, e1, e2, e3, e4⟩ := hw
  exact sm_put C 8 (k := k) (σ' := sm_sI σ k 8 v) (by rw [e4]; exact mo_lt hk (by decide)) (by rw [e3]; exact mo_sh0 hk _ _ _) (by rw [e1]; rfl) imo_M kmo_M nmo_M (by decide) hl rfl rfl rfl rfl (Nat.le_of_ble_eq_true rfl) (by rw [e3, mo_sh0 hk, sm_sIk.1]; rfl) sm_sIo hd (kk _ h)
theorem mr_M_right (C : sm_Cx X cc nL own fr lo ret) (hw : mo_is (sm_w X)) {index k : Nat} (hk : mo_tag k = 0) (hl : Cond.fieldLink own index "SmokeGoesToModel" "right" "I" ∈ sm_G) (hd : decode cc pc = .ok (.getfield index, 3)) {f : Int32 → Option β} (h : sm_b (σ.1 k 9) f = some z) (kk : ∀ v, f v = some z → sm_V X Q nL σ (pc + 3) lv (.int v :: st)) : sm_V X Q nL σ pc lv (.ref (sm_ad (sm_w X) k) :: st) := by
  obtain ⟨cA, e1, e2, e3, e4⟩ := hw
  exact sm_get C 9 (k := k) (by rw [e4]; exact mo_lt hk (by decide)) (by rw [e3]; exact mo_sh0 hk _ _ _) (by rw [e1]; rfl) imo_M (by decide) hl rfl hd (kk _ h)
theorem mp_M_right (C : sm_Cx X cc nL own fr lo ret) (hw : mo_is (sm_w X)) {index k : Nat} (hk : mo_tag k = 0) (hl : Cond.fieldLink own index "SmokeGoesToModel" "right" "I" ∈ sm_G) (hd : decode cc pc = .ok (.putfield index, 3)) {f : sm_St → Option β} {v : Int32} (h : sm_b (sm_sI σ k 9 v) f = some z) (kk : ∀ s, f s = some z → sm_V X Q nL s (pc + 3) lv st) : sm_V X Q nL σ pc lv (.int v :: .ref (sm_ad (sm_w X) k) :: st) := by
  obtain ⟨cA, e1, e2, e3, e4⟩ := hw
  exact sm_put C 9 (k := k) (σ' := sm_sI σ k 9 v) (by rw [e4]; exact mo_lt hk (by decide)) (by rw [e3]; exact mo_sh0 hk _ _ _) (by rw [e1]; rfl) imo_M kmo_M nmo_M (by decide) hl rfl rfl rfl rfl (Nat.le_of_ble_eq_true rfl) (by rw [e3, mo_sh0 hk, sm_sIk.1]; rfl) sm_sIo hd (kk _ h)
theorem mr_M_tents (C : sm_Cx X cc nL own fr lo ret) (hw : mo_is (sm_w X)) {index k : Nat} (hk : mo_tag k = 0) (hl : Cond.fieldLink own index "SmokeGoesToModel" "tents" "I" ∈ sm_G) (hd : decode cc pc = .ok (.getfield index, 3)) {f : Int32 → Option β} (h : sm_b (σ.1 k 10) f = some z) (kk : ∀ v, f v = some z → sm_V X Q nL σ (pc + 3) lv (.int v :: st)) : sm_V X Q nL σ pc lv (.ref (sm_ad (sm_w X) k) :: st) := by
  obtain ⟨cA, e1, e2, e3, e4⟩ := hw
  exact sm_get C 10 (k := k) (by rw [e4]; exact mo_lt hk (by decide)) (by rw [e3]; exact mo_sh0 hk _ _ _) (by rw [e1]; rfl) imo_M (by decide) hl rfl hd (kk _ h)
theorem mp_M_tents (C : sm_Cx X cc nL own fr lo ret) (hw : mo_is (sm_w X)) {index k : Nat} (hk : mo_tag k = 0) (hl : Cond.fieldLink own index "SmokeGoesToModel" "tents" "I" ∈ sm_G) (hd : decode cc pc = .ok (.putfield index, 3)) {f : sm_St → Option β} {v : Int32} (h : sm_b (sm_sI σ k 10 v) f = some z) (kk : ∀ s, f s = some z → sm_V X Q nL s (pc + 3) lv st) : sm_V X Q nL σ pc lv (.int v :: .ref (sm_ad (sm_w X) k) :: st) := by
  obtain ⟨cA, e1, e2, e3, e4⟩ := hw
  exact sm_put C 10 (k := k) (σ' := sm_sI σ k 10 v) (by rw [e4]; exact mo_lt hk (by decide)) (by rw [e3]; exact mo_sh0 hk _ _ _) (by rw [e1]; rfl) imo_M kmo_M nmo_M (by decide) hl rfl rfl rfl rfl (Nat.le_of_ble_eq_true rfl) (by rw [e3, mo_sh0 hk, sm_sIk.1]; rfl) sm_sIo hd (kk _ h)
theorem mr_M_eddy (C : sm_Cx X cc nL own fr lo ret) (hw : mo_is (sm_w X)) {index k : Nat} (hk : mo_tag k = 0) (hl : Cond.fieldLink own index "SmokeGoesToModel" "eddy" "I" ∈ sm_G) (hd : decode cc pc = .ok (.getfield index, 3)) {f : Int32 → Option β} (h : sm_b (σ.1 k 11) f = some z) (kk : ∀ v, f v = some z → sm_V X Q nL σ (pc + 3) lv (.int v :: st)) : sm_V X Q nL σ pc lv (.ref (sm_ad (sm_w X) k) :: st) := by
  obtain ⟨cA, e1, e2, e3, e4⟩ := hw
  exact sm_get C 11 (k := k) (by rw [e4]; exact mo_lt hk (by decide)) (by rw [e3]; exact mo_sh0 hk _ _ _) (by rw [e1]; rfl) imo_M (by decide) hl rfl hd (kk _ h)
theorem mp_M_eddy (C : sm_Cx X cc nL own fr lo ret) (hw : mo_is (sm_w X)) {index k : Nat} (hk : mo_tag k = 0) (hl : Cond.fieldLink own index "SmokeGoesToModel" "eddy" "I" ∈ sm_G) (hd : decode cc pc = .ok (.putfield index, 3)) {f : sm_St → Option β} {v : Int32} (h : sm_b (sm_sI σ k 11 v) f = some z) (kk : ∀ s, f s = some z → sm_V X Q nL s (pc + 3) lv st) : sm_V X Q nL σ pc lv (.int v :: .ref (sm_ad (sm_w X) k) :: st) := by
  obtain ⟨cA, e1, e2, e3, e4⟩ := hw
  exact sm_put C 11 (k := k) (σ' := sm_sI σ k 11 v) (by rw [e4]; exact mo_lt hk (by decide)) (by rw [e3]; exact mo_sh0 hk _ _ _) (by rw [e1]; rfl) imo_M kmo_M nmo_M (by decide) hl rfl rfl rfl rfl (Nat.le_of_ble_eq_true rfl) (by rw [e3, mo_sh0 hk, sm_sIk.1]; rfl) sm_sIo hd (kk _ h)
theorem mr_M_kinds (C : sm_Cx X cc nL own fr lo ret) (hw : mo_is (sm_w X)) {index k : Nat} (hk : mo_tag k = 0) (hl : Cond.fieldLink own index "SmokeGoesToModel" "kinds" "[I" ∈ sm_G) (hd : decode cc pc = .ok (.getfield index, 3)) (kk : sm_V X Q nL σ (pc + 3) lv (.ref (sm_ad (sm_w X) 4) :: st)) : sm_V X Q nL σ pc lv (.ref (sm_ad (sm_w X) k) :: st) := by
  obtain ⟨cA, e1, e2, e3, e4⟩ := hw
  exact sm_get C 12 (k := k) (by rw [e4]; exact mo_lt hk (by decide)) (by rw [e3]; exact mo_sh0 hk _ _ _) (by rw [e1]; rfl) imo_M (by decide) hl rfl hd (kk)
theorem mr_M_numbers (C : sm_Cx X cc nL own fr lo ret) (hw : mo_is (sm_w X)) {index k : Nat} (hk : mo_tag k = 0) (hl : Cond.fieldLink own index "SmokeGoesToModel" "numbers" "[I" ∈ sm_G) (hd : decode cc pc = .ok (.getfield index, 3)) (kk : sm_V X Q nL σ (pc + 3) lv (.ref (sm_ad (sm_w X) 5) :: st)) : sm_V X Q nL σ pc lv (.ref (sm_ad (sm_w X) k) :: st) := by
  obtain ⟨cA, e1, e2, e3, e4⟩ := hw
  exact sm_get C 13 (k := k) (by rw [e4]; exact mo_lt hk (by decide)) (by rw [e3]; exact mo_sh0 hk _ _ _) (by rw [e1]; rfl) imo_M (by decide) hl rfl hd (kk)
theorem mr_M_places (C : sm_Cx X cc nL own fr lo ret) (hw : mo_is (sm_w X)) {index k : Nat} (hk : mo_tag k = 0) (hl : Cond.fieldLink own index "SmokeGoesToModel" "places" "[I" ∈ sm_G) (hd : decode cc pc = .ok (.getfield index, 3)) (kk : sm_V X Q nL σ (pc + 3) lv (.ref (sm_ad (sm_w X) 6) :: st)) : sm_V X Q nL σ pc lv (.ref (sm_ad (sm_w X) k) :: st) := by
  obtain ⟨cA, e1, e2, e3, e4⟩ := hw
  exact sm_get C 14 (k := k) (by rw [e4]; exact mo_lt hk (by decide)) (by rw [e3]; exact mo_sh0 hk _ _ _) (by rw [e1]; rfl) imo_M (by decide) hl rfl hd (kk)
theorem mr_M_sitterMany (C : sm_Cx X cc nL own fr lo ret) (hw : mo_is (sm_w X)) {index k : Nat} (hk : mo_tag k = 0) (hl : Cond.fieldLink own index "SmokeGoesToModel" "sitterMany" "I" ∈ sm_G) (hd : decode cc pc = .ok (.getfield index, 3)) {f : Int32 → Option β} (h : sm_b (σ.1 k 15) f = some z) (kk : ∀ v, f v = some z → sm_V X Q nL σ (pc + 3) lv (.int v :: st)) : sm_V X Q nL σ pc lv (.ref (sm_ad (sm_w X) k) :: st) := by
  obtain ⟨cA, e1, e2, e3, e4⟩ := hw
  exact sm_get C 15 (k := k) (by rw [e4]; exact mo_lt hk (by decide)) (by rw [e3]; exact mo_sh0 hk _ _ _) (by rw [e1]; rfl) imo_M (by decide) hl rfl hd (kk _ h)
theorem mp_M_sitterMany (C : sm_Cx X cc nL own fr lo ret) (hw : mo_is (sm_w X)) {index k : Nat} (hk : mo_tag k = 0) (hl : Cond.fieldLink own index "SmokeGoesToModel" "sitterMany" "I" ∈ sm_G) (hd : decode cc pc = .ok (.putfield index, 3)) {f : sm_St → Option β} {v : Int32} (h : sm_b (sm_sI σ k 15 v) f = some z) (kk : ∀ s, f s = some z → sm_V X Q nL s (pc + 3) lv st) : sm_V X Q nL σ pc lv (.int v :: .ref (sm_ad (sm_w X) k) :: st) := by
  obtain ⟨cA, e1, e2, e3, e4⟩ := hw
  exact sm_put C 15 (k := k) (σ' := sm_sI σ k 15 v) (by rw [e4]; exact mo_lt hk (by decide)) (by rw [e3]; exact mo_sh0 hk _ _ _) (by rw [e1]; rfl) imo_M kmo_M nmo_M (by decide) hl rfl rfl rfl rfl (Nat.le_of_ble_eq_true rfl) (by rw [e3, mo_sh0 hk, sm_sIk.1]; rfl) sm_sIo hd (kk _ h)
theorem mr_M_ofPlace (C : sm_Cx X cc nL own fr lo ret) (hw : mo_is (sm_w X)) {index k : Nat} (hk : mo_tag k = 0) (hl : Cond.fieldLink own index "SmokeGoesToModel" "ofPlace" "I" ∈ sm_G) (hd : decode cc pc = .ok (.getfield index, 3)) {f : Int32 → Option β} (h : sm_b (σ.1 k 16) f = some z) (kk : ∀ v, f v = some z → sm_V X Q nL σ (pc + 3) lv (.int v :: st)) : sm_V X Q nL σ pc lv (.ref (sm_ad (sm_w X) k) :: st) := by
  obtain ⟨cA, e1, e2, e3, e4⟩ := hw
  exact sm_get C 16 (k := k) (by rw [e4]; exact mo_lt hk (by decide)) (by rw [e3]; exact mo_sh0 hk _ _ _) (by rw [e1]; rfl) imo_M (by decide) hl rfl hd (kk _ h)
theorem mp_M_ofPlace (C : sm_Cx X cc nL own fr lo ret) (hw : mo_is (sm_w X)) {index k : Nat} (hk : mo_tag k = 0) (hl : Cond.fieldLink own index "SmokeGoesToModel" "ofPlace" "I" ∈ sm_G) (hd : decode cc pc = .ok (.putfield index, 3)) {f : sm_St → Option β} {v : Int32} (h : sm_b (sm_sI σ k 16 v) f = some z) (kk : ∀ s, f s = some z → sm_V X Q nL s (pc + 3) lv st) : sm_V X Q nL σ pc lv (.int v :: .ref (sm_ad (sm_w X) k) :: st) := by
  obtain ⟨cA, e1, e2, e3, e4⟩ := hw
  exact sm_put C 16 (k := k) (σ' := sm_sI σ k 16 v) (by rw [e4]; exact mo_lt hk (by decide)) (by rw [e3]; exact mo_sh0 hk _ _ _) (by rw [e1]; rfl) imo_M kmo_M nmo_M (by decide) hl rfl rfl rfl rfl (Nat.le_of_ble_eq_true rfl) (by rw [e3, mo_sh0 hk, sm_sIk.1]; rfl) sm_sIo hd (kk _ h)
theorem mr_M_ofSmoke (C : sm_Cx X cc nL own fr lo ret) (hw : mo_is (sm_w X)) {index k : Nat} (hk : mo_tag k = 0) (hl : Cond.fieldLink own index "SmokeGoesToModel" "ofSmoke" "I" ∈ sm_G) (hd : decode cc pc = .ok (.getfield index, 3)) {f : Int32 → Option β} (h : sm_b (σ.1 k 17) f = some z) (kk : ∀ v, f v = some z → sm_V X Q nL σ (pc + 3) lv (.int v :: st)) : sm_V X Q nL σ pc lv (.ref (sm_ad (sm_w X) k) :: st) := by
  obtain ⟨cA, e1, e2, e3, e4⟩ := hw
  exact sm_get C 17 (k := k) (by rw [e4]; exact mo_lt hk (by decide)) (by rw [e3]; exact mo_sh0 hk _ _ _) (by rw [e1]; rfl) imo_M (by decide) hl rfl hd (kk _ h)
theorem mp_M_ofSmoke (C : sm_Cx X cc nL own fr lo ret) (hw : mo_is (sm_w X)) {index k : Nat} (hk : mo_tag k = 0) (hl : Cond.fieldLink own index "SmokeGoesToModel" "ofSmoke" "I" ∈ sm_G) (hd : decode cc pc = .ok (.putfield index, 3)) {f : sm_St → Option β} {v : Int32} (h : sm_b (sm_sI σ k 17 v) f = some z) (kk : ∀ s, f s = some z → sm_V X Q nL s (pc + 3) lv st) : sm_V X Q nL σ pc lv (.int v :: .ref (sm_ad (sm_w X) k) :: st) := by
  obtain ⟨cA, e1, e2, e3, e4⟩ := hw
  exact sm_put C 17 (k := k) (σ' := sm_sI σ k 17 v) (by rw [e4]; exact mo_lt hk (by decide)) (by rw [e3]; exact mo_sh0 hk _ _ _) (by rw [e1]; rfl) imo_M kmo_M nmo_M (by decide) hl rfl rfl rfl rfl (Nat.le_of_ble_eq_true rfl) (by rw [e3, mo_sh0 hk, sm_sIk.1]; rfl) sm_sIo hd (kk _ h)
theorem mr_M_ofMinute (C : sm_Cx X cc nL own fr lo ret) (hw : mo_is (sm_w X)) {index k : Nat} (hk : mo_tag k = 0) (hl : Cond.fieldLink own index "SmokeGoesToModel" "ofMinute" "I" ∈ sm_G) (hd : decode cc pc = .ok (.getfield index, 3)) {f : Int32 → Option β} (h : sm_b (σ.1 k 18) f = some z) (kk : ∀ v, f v = some z → sm_V X Q nL σ (pc + 3) lv (.int v :: st)) : sm_V X Q nL σ pc lv (.ref (sm_ad (sm_w X) k) :: st) := by
  obtain ⟨cA, e1, e2, e3, e4⟩ := hw
  exact sm_get C 18 (k := k) (by rw [e4]; exact mo_lt hk (by decide)) (by rw [e3]; exact mo_sh0 hk _ _ _) (by rw [e1]; rfl) imo_M (by decide) hl rfl hd (kk _ h)
theorem mp_M_ofMinute (C : sm_Cx X cc nL own fr lo ret) (hw : mo_is (sm_w X)) {index k : Nat} (hk : mo_tag k = 0) (hl : Cond.fieldLink own index "SmokeGoesToModel" "ofMinute" "I" ∈ sm_G) (hd : decode cc pc = .ok (.putfield index, 3)) {f : sm_St → Option β} {v : Int32} (h : sm_b (sm_sI σ k 18 v) f = some z) (kk : ∀ s, f s = some z → sm_V X Q nL s (pc + 3) lv st) : sm_V X Q nL σ pc lv (.int v :: .ref (sm_ad (sm_w X) k) :: st) := by
  obtain ⟨cA, e1, e2, e3, e4⟩ := hw
  exact sm_put C 18 (k := k) (σ' := sm_sI σ k 18 v) (by rw [e4]; exact mo_lt hk (by decide)) (by rw [e3]; exact mo_sh0 hk _ _ _) (by rw [e1]; rfl) imo_M kmo_M nmo_M (by decide) hl rfl rfl rfl rfl (Nat.le_of_ble_eq_true rfl) (by rw [e3, mo_sh0 hk, sm_sIk.1]; rfl) sm_sIo hd (kk _ h)
theorem mr_M_ofLong (C : sm_Cx X cc nL own fr lo ret) (hw : mo_is (sm_w X)) {index k : Nat} (hk : mo_tag k = 0) (hl : Cond.fieldLink own index "SmokeGoesToModel" "ofLong" "I" ∈ sm_G) (hd : decode cc pc = .ok (.getfield index, 3)) {f : Int32 → Option β} (h : sm_b (σ.1 k 19) f = some z) (kk : ∀ v, f v = some z → sm_V X Q nL σ (pc + 3) lv (.int v :: st)) : sm_V X Q nL σ pc lv (.ref (sm_ad (sm_w X) k) :: st) := by
  obtain ⟨cA, e1, e2, e3, e4⟩ := hw
  exact sm_get C 19 (k := k) (by rw [e4]; exact mo_lt hk (by decide)) (by rw [e3]; exact mo_sh0 hk _ _ _) (by rw [e1]; rfl) imo_M (by decide) hl rfl hd (kk _ h)
theorem mp_M_ofLong (C : sm_Cx X cc nL own fr lo ret) (hw : mo_is (sm_w X)) {index k : Nat} (hk : mo_tag k = 0) (hl : Cond.fieldLink own index "SmokeGoesToModel" "ofLong" "I" ∈ sm_G) (hd : decode cc pc = .ok (.putfield index, 3)) {f : sm_St → Option β} {v : Int32} (h : sm_b (sm_sI σ k 19 v) f = some z) (kk : ∀ s, f s = some z → sm_V X Q nL s (pc + 3) lv st) : sm_V X Q nL σ pc lv (.int v :: .ref (sm_ad (sm_w X) k) :: st) := by
  obtain ⟨cA, e1, e2, e3, e4⟩ := hw
  exact sm_put C 19 (k := k) (σ' := sm_sI σ k 19 v) (by rw [e4]; exact mo_lt hk (by decide)) (by rw [e3]; exact mo_sh0 hk _ _ _) (by rw [e1]; rfl) imo_M kmo_M nmo_M (by decide) hl rfl rfl rfl rfl (Nat.le_of_ble_eq_true rfl) (by rw [e3, mo_sh0 hk, sm_sIk.1]; rfl) sm_sIo hd (kk _ h)
theorem mr_M_ofNumber (C : sm_Cx X cc nL own fr lo ret) (hw : mo_is (sm_w X)) {index k : Nat} (hk : mo_tag k = 0) (hl : Cond.fieldLink own index "SmokeGoesToModel" "ofNumber" "I" ∈ sm_G) (hd : decode cc pc = .ok (.getfield index, 3)) {f : Int32 → Option β} (h : sm_b (σ.1 k 20) f = some z) (kk : ∀ v, f v = some z → sm_V X Q nL σ (pc + 3) lv (.int v :: st)) : sm_V X Q nL σ pc lv (.ref (sm_ad (sm_w X) k) :: st) := by
  obtain ⟨cA, e1, e2, e3, e4⟩ := hw
  exact sm_get C 20 (k := k) (by rw [e4]; exact mo_lt hk (by decide)) (by rw [e3]; exact mo_sh0 hk _ _ _) (by rw [e1]; rfl) imo_M (by decide) hl rfl hd (kk _ h)
theorem mp_M_ofNumber (C : sm_Cx X cc nL own fr lo ret) (hw : mo_is (sm_w X)) {index k : Nat} (hk : mo_tag k = 0) (hl : Cond.fieldLink own index "SmokeGoesToModel" "ofNumber" "I" ∈ sm_G) (hd : decode cc pc = .ok (.putfield index, 3)) {f : sm_St → Option β} {v : Int32} (h : sm_b (sm_sI σ k 20 v) f = some z) (kk : ∀ s, f s = some z → sm_V X Q nL s (pc + 3) lv st) : sm_V X Q nL σ pc lv (.int v :: .ref (sm_ad (sm_w X) k) :: st) := by
  obtain ⟨cA, e1, e2, e3, e4⟩ := hw
  exact sm_put C 20 (k := k) (σ' := sm_sI σ k 20 v) (by rw [e4]; exact mo_lt hk (by decide)) (by rw [e3]; exact mo_sh0 hk _ _ _) (by rw [e1]; rfl) imo_M kmo_M nmo_M (by decide) hl rfl rfl rfl rfl (Nat.le_of_ble_eq_true rfl) (by rw [e3, mo_sh0 hk, sm_sIk.1]; rfl) sm_sIo hd (kk _ h)
theorem mr_M_ofSitter (C : sm_Cx X cc nL own fr lo ret) (hw : mo_is (sm_w X)) {index k : Nat} (hk : mo_tag k = 0) (hl : Cond.fieldLink own index "SmokeGoesToModel" "ofSitter" "I" ∈ sm_G) (hd : decode cc pc = .ok (.getfield index, 3)) {f : Int32 → Option β} (h : sm_b (σ.1 k 21) f = some z) (kk : ∀ v, f v = some z → sm_V X Q nL σ (pc + 3) lv (.int v :: st)) : sm_V X Q nL σ pc lv (.ref (sm_ad (sm_w X) k) :: st) := by
  obtain ⟨cA, e1, e2, e3, e4⟩ := hw
  exact sm_get C 21 (k := k) (by rw [e4]; exact mo_lt hk (by decide)) (by rw [e3]; exact mo_sh0 hk _ _ _) (by rw [e1]; rfl) imo_M (by decide) hl rfl hd (kk _ h)
theorem mp_M_ofSitter (C : sm_Cx X cc nL own fr lo ret) (hw : mo_is (sm_w X)) {index k : Nat} (hk : mo_tag k = 0) (hl : Cond.fieldLink own index "SmokeGoesToModel" "ofSitter" "I" ∈ sm_G) (hd : decode cc pc = .ok (.putfield index, 3)) {f : sm_St → Option β} {v : Int32} (h : sm_b (sm_sI σ k 21 v) f = some z) (kk : ∀ s, f s = some z → sm_V X Q nL s (pc + 3) lv st) : sm_V X Q nL σ pc lv (.int v :: .ref (sm_ad (sm_w X) k) :: st) := by
  obtain ⟨cA, e1, e2, e3, e4⟩ := hw
  exact sm_put C 21 (k := k) (σ' := sm_sI σ k 21 v) (by rw [e4]; exact mo_lt hk (by decide)) (by rw [e3]; exact mo_sh0 hk _ _ _) (by rw [e1]; rfl) imo_M kmo_M nmo_M (by decide) hl rfl rfl rfl rfl (Nat.le_of_ble_eq_true rfl) (by rw [e3, mo_sh0 hk, sm_sIk.1]; rfl) sm_sIo hd (kk _ h)
theorem mr_M_from (C : sm_Cx X cc nL own fr lo ret) (hw : mo_is (sm_w X)) {index k : Nat} (hk : mo_tag k = 0) (hl : Cond.fieldLink own index "SmokeGoesToModel" "from" "I" ∈ sm_G) (hd : decode cc pc = .ok (.getfield index, 3)) {f : Int32 → Option β} (h : sm_b (σ.1 k 22) f = some z) (kk : ∀ v, f v = some z → sm_V X Q nL σ (pc + 3) lv (.int v :: st)) : sm_V X Q nL σ pc lv (.ref (sm_ad (sm_w X) k) :: st) := by
  obtain ⟨cA, e1, e2, e3, e4⟩ := hw
  exact sm_get C 22 (k := k) (by rw [e4]; exact mo_lt hk (by decide)) (by rw [e3]; exact mo_sh0 hk _ _ _) (by rw [e1]; rfl) imo_M (by decide) hl rfl hd (kk _ h)
theorem mp_M_from (C : sm_Cx X cc nL own fr lo ret) (hw : mo_is (sm_w X)) {index k : Nat} (hk : mo_tag k = 0) (hl : Cond.fieldLink own index "SmokeGoesToModel" "from" "I" ∈ sm_G) (hd : decode cc pc = .ok (.putfield index, 3)) {f : sm_St → Option β} {v : Int32} (h : sm_b (sm_sI σ k 22 v) f = some z) (kk : ∀ s, f s = some z → sm_V X Q nL s (pc + 3) lv st) : sm_V X Q nL σ pc lv (.int v :: .ref (sm_ad (sm_w X) k) :: st) := by
  obtain ⟨cA, e1, e2, e3, e4⟩ := hw
  exact sm_put C 22 (k := k) (σ' := sm_sI σ k 22 v) (by rw [e4]; exact mo_lt hk (by decide)) (by rw [e3]; exact mo_sh0 hk _ _ _) (by rw [e1]; rfl) imo_M kmo_M nmo_M (by decide) hl rfl rfl rfl rfl (Nat.le_of_ble_eq_true rfl) (by rw [e3, mo_sh0 hk, sm_sIk.1]; rfl) sm_sIo hd (kk _ h)
theorem mr_M_size (C : sm_Cx X cc nL own fr lo ret) (hw : mo_is (sm_w X)) {index k : Nat} (hk : mo_tag k = 0) (hl : Cond.fieldLink own index "SmokeGoesToModel" "size" "I" ∈ sm_G) (hd : decode cc pc = .ok (.getfield index, 3)) {f : Int32 → Option β} (h : sm_b (σ.1 k 23) f = some z) (kk : ∀ v, f v = some z → sm_V X Q nL σ (pc + 3) lv (.int v :: st)) : sm_V X Q nL σ pc lv (.ref (sm_ad (sm_w X) k) :: st) := by
  obtain ⟨cA, e1, e2, e3, e4⟩ := hw
  exact sm_get C 23 (k := k) (by rw [e4]; exact mo_lt hk (by decide)) (by rw [e3]; exact mo_sh0 hk _ _ _) (by rw [e1]; rfl) imo_M (by decide) hl rfl hd (kk _ h)
theorem mp_M_size (C : sm_Cx X cc nL own fr lo ret) (hw : mo_is (sm_w X)) {index k : Nat} (hk : mo_tag k = 0) (hl : Cond.fieldLink own index "SmokeGoesToModel" "size" "I" ∈ sm_G) (hd : decode cc pc = .ok (.putfield index, 3)) {f : sm_St → Option β} {v : Int32} (h : sm_b (sm_sI σ k 23 v) f = some z) (kk : ∀ s, f s = some z → sm_V X Q nL s (pc + 3) lv st) : sm_V X Q nL σ pc lv (.int v :: .ref (sm_ad (sm_w X) k) :: st) := by
  obtain ⟨cA, e1, e2, e3, e4⟩ := hw
  exact sm_put C 23 (k := k) (σ' := sm_sI σ k 23 v) (by rw [e4]; exact mo_lt hk (by decide)) (by rw [e3]; exact mo_sh0 hk _ _ _) (by rw [e1]; rfl) imo_M kmo_M nmo_M (by decide) hl rfl rfl rfl rfl (Nat.le_of_ble_eq_true rfl) (by rw [e3, mo_sh0 hk, sm_sIk.1]; rfl) sm_sIo hd (kk _ h)
theorem mr_M_here (C : sm_Cx X cc nL own fr lo ret) (hw : mo_is (sm_w X)) {index k : Nat} (hk : mo_tag k = 0) (hl : Cond.fieldLink own index "SmokeGoesToModel" "here" "I" ∈ sm_G) (hd : decode cc pc = .ok (.getfield index, 3)) {f : Int32 → Option β} (h : sm_b (σ.1 k 24) f = some z) (kk : ∀ v, f v = some z → sm_V X Q nL σ (pc + 3) lv (.int v :: st)) : sm_V X Q nL σ pc lv (.ref (sm_ad (sm_w X) k) :: st) := by
  obtain ⟨cA, e1, e2, e3, e4⟩ := hw
  exact sm_get C 24 (k := k) (by rw [e4]; exact mo_lt hk (by decide)) (by rw [e3]; exact mo_sh0 hk _ _ _) (by rw [e1]; rfl) imo_M (by decide) hl rfl hd (kk _ h)
theorem mp_M_here (C : sm_Cx X cc nL own fr lo ret) (hw : mo_is (sm_w X)) {index k : Nat} (hk : mo_tag k = 0) (hl : Cond.fieldLink own index "SmokeGoesToModel" "here" "I" ∈ sm_G) (hd : decode cc pc = .ok (.putfield index, 3)) {f : sm_St → Option β} {v : Int32} (h : sm_b (sm_sI σ k 24 v) f = some z) (kk : ∀ s, f s = some z → sm_V X Q nL s (pc + 3) lv st) : sm_V X Q nL σ pc lv (.int v :: .ref (sm_ad (sm_w X) k) :: st) := by
  obtain ⟨cA, e1, e2, e3, e4⟩ := hw
  exact sm_put C 24 (k := k) (σ' := sm_sI σ k 24 v) (by rw [e4]; exact mo_lt hk (by decide)) (by rw [e3]; exact mo_sh0 hk _ _ _) (by rw [e1]; rfl) imo_M kmo_M nmo_M (by decide) hl rfl rfl rfl rfl (Nat.le_of_ble_eq_true rfl) (by rw [e3, mo_sh0 hk, sm_sIk.1]; rfl) sm_sIo hd (kk _ h)
theorem mr_M_token (C : sm_Cx X cc nL own fr lo ret) (hw : mo_is (sm_w X)) {index k : Nat} (hk : mo_tag k = 0) (hl : Cond.fieldLink own index "SmokeGoesToModel" "token" "I" ∈ sm_G) (hd : decode cc pc = .ok (.getfield index, 3)) {f : Int32 → Option β} (h : sm_b (σ.1 k 25) f = some z) (kk : ∀ v, f v = some z → sm_V X Q nL σ (pc + 3) lv (.int v :: st)) : sm_V X Q nL σ pc lv (.ref (sm_ad (sm_w X) k) :: st) := by
  obtain ⟨cA, e1, e2, e3, e4⟩ := hw
  exact sm_get C 25 (k := k) (by rw [e4]; exact mo_lt hk (by decide)) (by rw [e3]; exact mo_sh0 hk _ _ _) (by rw [e1]; rfl) imo_M (by decide) hl rfl hd (kk _ h)
theorem mp_M_token (C : sm_Cx X cc nL own fr lo ret) (hw : mo_is (sm_w X)) {index k : Nat} (hk : mo_tag k = 0) (hl : Cond.fieldLink own index "SmokeGoesToModel" "token" "I" ∈ sm_G) (hd : decode cc pc = .ok (.putfield index, 3)) {f : sm_St → Option β} {v : Int32} (h : sm_b (sm_sI σ k 25 v) f = some z) (kk : ∀ s, f s = some z → sm_V X Q nL s (pc + 3) lv st) : sm_V X Q nL σ pc lv (.int v :: .ref (sm_ad (sm_w X) k) :: st) := by
  obtain ⟨cA, e1, e2, e3, e4⟩ := hw
  exact sm_put C 25 (k := k) (σ' := sm_sI σ k 25 v) (by rw [e4]; exact mo_lt hk (by decide)) (by rw [e3]; exact mo_sh0 hk _ _ _) (by rw [e1]; rfl) imo_M kmo_M nmo_M (by decide) hl rfl rfl rfl rfl (Nat.le_of_ble_eq_true rfl) (by rw [e3, mo_sh0 hk, sm_sIk.1]; rfl) sm_sIo hd (kk _ h)
theorem mr_M_tokenAt (C : sm_Cx X cc nL own fr lo ret) (hw : mo_is (sm_w X)) {index k : Nat} (hk : mo_tag k = 0) (hl : Cond.fieldLink own index "SmokeGoesToModel" "tokenAt" "I" ∈ sm_G) (hd : decode cc pc = .ok (.getfield index, 3)) {f : Int32 → Option β} (h : sm_b (σ.1 k 26) f = some z) (kk : ∀ v, f v = some z → sm_V X Q nL σ (pc + 3) lv (.int v :: st)) : sm_V X Q nL σ pc lv (.ref (sm_ad (sm_w X) k) :: st) := by
  obtain ⟨cA, e1, e2, e3, e4⟩ := hw
  exact sm_get C 26 (k := k) (by rw [e4]; exact mo_lt hk (by decide)) (by rw [e3]; exact mo_sh0 hk _ _ _) (by rw [e1]; rfl) imo_M (by decide) hl rfl hd (kk _ h)
theorem mp_M_tokenAt (C : sm_Cx X cc nL own fr lo ret) (hw : mo_is (sm_w X)) {index k : Nat} (hk : mo_tag k = 0) (hl : Cond.fieldLink own index "SmokeGoesToModel" "tokenAt" "I" ∈ sm_G) (hd : decode cc pc = .ok (.putfield index, 3)) {f : sm_St → Option β} {v : Int32} (h : sm_b (sm_sI σ k 26 v) f = some z) (kk : ∀ s, f s = some z → sm_V X Q nL s (pc + 3) lv st) : sm_V X Q nL σ pc lv (.int v :: .ref (sm_ad (sm_w X) k) :: st) := by
  obtain ⟨cA, e1, e2, e3, e4⟩ := hw
  exact sm_put C 26 (k := k) (σ' := sm_sI σ k 26 v) (by rw [e4]; exact mo_lt hk (by decide)) (by rw [e3]; exact mo_sh0 hk _ _ _) (by rw [e1]; rfl) imo_M kmo_M nmo_M (by decide) hl rfl rfl rfl rfl (Nat.le_of_ble_eq_true rfl) (by rw [e3, mo_sh0 hk, sm_sIk.1]; rfl) sm_sIo hd (kk _ h)
theorem mr_M_tokenWorth (C : sm_Cx X cc nL own fr lo ret) (hw : mo_is (sm_w X)) {index k : Nat} (hk : mo_tag k = 0) (hl : Cond.fieldLink own index "SmokeGoesToModel" "tokenWorth" "J" ∈ sm_G) (hd : decode cc pc = .ok (.getfield index, 3)) {f : Int64 → Option β} (h : sm_b (σ.2.1 k 27) f = some z) (kk : ∀ v, f v = some z → sm_V X Q nL σ (pc + 3) lv (.long v :: st)) : sm_V X Q nL σ pc lv (.ref (sm_ad (sm_w X) k) :: st) := by
  obtain ⟨cA, e1, e2, e3, e4⟩ := hw
  exact sm_get C 27 (k := k) (by rw [e4]; exact mo_lt hk (by decide)) (by rw [e3]; exact mo_sh0 hk _ _ _) (by rw [e1]; rfl) imo_M (by decide) hl rfl hd (kk _ h)
theorem mp_M_tokenWorth (C : sm_Cx X cc nL own fr lo ret) (hw : mo_is (sm_w X)) {index k : Nat} (hk : mo_tag k = 0) (hl : Cond.fieldLink own index "SmokeGoesToModel" "tokenWorth" "J" ∈ sm_G) (hd : decode cc pc = .ok (.putfield index, 3)) {f : sm_St → Option β} {v : Int64} (h : sm_b (sm_sL σ k 27 v) f = some z) (kk : ∀ s, f s = some z → sm_V X Q nL s (pc + 3) lv st) : sm_V X Q nL σ pc lv (.long v :: .ref (sm_ad (sm_w X) k) :: st) := by
  obtain ⟨cA, e1, e2, e3, e4⟩ := hw
  exact sm_put C 27 (k := k) (σ' := sm_sL σ k 27 v) (by rw [e4]; exact mo_lt hk (by decide)) (by rw [e3]; exact mo_sh0 hk _ _ _) (by rw [e1]; rfl) imo_M kmo_M nmo_M (by decide) hl rfl rfl rfl rfl (Nat.le_of_ble_eq_true rfl) (by rw [e3, mo_sh0 hk, sm_sLk.2.1]; rfl) sm_sLo hd (kk _ h)
theorem mr_M_open (C : sm_Cx X cc nL own fr lo ret) (hw : mo_is (sm_w X)) {index k : Nat} (hk : mo_tag k = 0) (hl : Cond.fieldLink own index "SmokeGoesToModel" "open" "I" ∈ sm_G) (hd : decode cc pc = .ok (.getfield index, 3)) {f : Int32 → Option β} (h : sm_b (σ.1 k 28) f = some z) (kk : ∀ v, f v = some z → sm_V X Q nL σ (pc + 3) lv (.int v :: st)) : sm_V X Q nL σ pc lv (.ref (sm_ad (sm_w X) k) :: st) := by
  obtain ⟨cA, e1, e2, e3, e4⟩ := hw
  exact sm_get C 28 (k := k) (by rw [e4]; exact mo_lt hk (by decide)) (by rw [e3]; exact mo_sh0 hk _ _ _) (by rw [e1]; rfl) imo_M (by decide) hl rfl hd (kk _ h)
theorem mp_M_open (C : sm_Cx X cc nL own fr lo ret) (hw : mo_is (sm_w X)) {index k : Nat} (hk : mo_tag k = 0) (hl : Cond.fieldLink own index "SmokeGoesToModel" "open" "I" ∈ sm_G) (hd : decode cc pc = .ok (.putfield index, 3)) {f : sm_St → Option β} {v : Int32} (h : sm_b (sm_sI σ k 28 v) f = some z) (kk : ∀ s, f s = some z → sm_V X Q nL s (pc + 3) lv st) : sm_V X Q nL σ pc lv (.int v :: .ref (sm_ad (sm_w X) k) :: st) := by
  obtain ⟨cA, e1, e2, e3, e4⟩ := hw
  exact sm_put C 28 (k := k) (σ' := sm_sI σ k 28 v) (by rw [e4]; exact mo_lt hk (by decide)) (by rw [e3]; exact mo_sh0 hk _ _ _) (by rw [e1]; rfl) imo_M kmo_M nmo_M (by decide) hl rfl rfl rfl rfl (Nat.le_of_ble_eq_true rfl) (by rw [e3, mo_sh0 hk, sm_sIk.1]; rfl) sm_sIo hd (kk _ h)
theorem mr_M_bad (C : sm_Cx X cc nL own fr lo ret) (hw : mo_is (sm_w X)) {index k : Nat} (hk : mo_tag k = 0) (hl : Cond.fieldLink own index "SmokeGoesToModel" "bad" "Z" ∈ sm_G) (hd : decode cc pc = .ok (.getfield index, 3)) {f : Int32 → Option β} (h : sm_b (σ.1 k 29) f = some z) (kk : ∀ v, f v = some z → sm_V X Q nL σ (pc + 3) lv (.int v :: st)) : sm_V X Q nL σ pc lv (.ref (sm_ad (sm_w X) k) :: st) := by
  obtain ⟨cA, e1, e2, e3, e4⟩ := hw
  exact sm_get C 29 (k := k) (by rw [e4]; exact mo_lt hk (by decide)) (by rw [e3]; exact mo_sh0 hk _ _ _) (by rw [e1]; rfl) imo_M (by decide) hl rfl hd (kk _ h)
theorem mp_M_bad (C : sm_Cx X cc nL own fr lo ret) (hw : mo_is (sm_w X)) {index k : Nat} (hk : mo_tag k = 0) (hl : Cond.fieldLink own index "SmokeGoesToModel" "bad" "Z" ∈ sm_G) (hd : decode cc pc = .ok (.putfield index, 3)) {f : sm_St → Option β} {v : Int32} (hv : v = 0 ∨ v = 1) (h : sm_b (sm_sI σ k 29 v) f = some z) (kk : ∀ s, f s = some z → sm_V X Q nL s (pc + 3) lv st) : sm_V X Q nL σ pc lv (.int v :: .ref (sm_ad (sm_w X) k) :: st) := by
  obtain ⟨cA, e1, e2, e3, e4⟩ := hw
  exact sm_put C 29 (k := k) (σ' := sm_sI σ k 29 v) (by rw [e4]; exact mo_lt hk (by decide)) (by rw [e3]; exact mo_sh0 hk _ _ _) (by rw [e1]; rfl) imo_M kmo_M nmo_M (by decide) hl rfl rfl (by rcases hv with rfl | rfl <;> rfl) (by rcases hv with rfl | rfl <;> rfl) (Nat.le_of_ble_eq_true rfl) (by rw [e3, mo_sh0 hk, sm_sIk.1]; rfl) sm_sIo hd (kk _ h)
theorem mr_M_fault (C : sm_Cx X cc nL own fr lo ret) (hw : mo_is (sm_w X)) {index k : Nat} (hk : mo_tag k = 0) (hl : Cond.fieldLink own index "SmokeGoesToModel" "fault" "I" ∈ sm_G) (hd : decode cc pc = .ok (.getfield index, 3)) {f : Int32 → Option β} (h : sm_b (σ.1 k 30) f = some z) (kk : ∀ v, f v = some z → sm_V X Q nL σ (pc + 3) lv (.int v :: st)) : sm_V X Q nL σ pc lv (.ref (sm_ad (sm_w X) k) :: st) := by
  obtain ⟨cA, e1, e2, e3, e4⟩ := hw
  exact sm_get C 30 (k := k) (by rw [e4]; exact mo_lt hk (by decide)) (by rw [e3]; exact mo_sh0 hk _ _ _) (by rw [e1]; rfl) imo_M (by decide) hl rfl hd (kk _ h)
theorem mp_M_fault (C : sm_Cx X cc nL own fr lo ret) (hw : mo_is (sm_w X)) {index k : Nat} (hk : mo_tag k = 0) (hl : Cond.fieldLink own index "SmokeGoesToModel" "fault" "I" ∈ sm_G) (hd : decode cc pc = .ok (.putfield index, 3)) {f : sm_St → Option β} {v : Int32} (h : sm_b (sm_sI σ k 30 v) f = some z) (kk : ∀ s, f s = some z → sm_V X Q nL s (pc + 3) lv st) : sm_V X Q nL σ pc lv (.int v :: .ref (sm_ad (sm_w X) k) :: st) := by
  obtain ⟨cA, e1, e2, e3, e4⟩ := hw
  exact sm_put C 30 (k := k) (σ' := sm_sI σ k 30 v) (by rw [e4]; exact mo_lt hk (by decide)) (by rw [e3]; exact mo_sh0 hk _ _ _) (by rw [e1]; rfl) imo_M kmo_M nmo_M (by decide) hl rfl rfl rfl rfl (Nat.le_of_ble_eq_true rfl) (by rw [e3, mo_sh0 hk, sm_sIk.1]; rfl) sm_sIo hd (kk _ h)
theorem mr_M_longNow (C : sm_Cx X cc nL own fr lo ret) (hw : mo_is (sm_w X)) {index k : Nat} (hk : mo_tag k = 0) (hl : Cond.fieldLink own index "SmokeGoesToModel" "longNow" "[I" ∈ sm_G) (hd : decode cc pc = .ok (.getfield index, 3)) (kk : sm_V X Q nL σ (pc + 3) lv (.ref (sm_ad (sm_w X) 7) :: st)) : sm_V X Q nL σ pc lv (.ref (sm_ad (sm_w X) k) :: st) := by
  obtain ⟨cA, e1, e2, e3, e4⟩ := hw
  exact sm_get C 31 (k := k) (by rw [e4]; exact mo_lt hk (by decide)) (by rw [e3]; exact mo_sh0 hk _ _ _) (by rw [e1]; rfl) imo_M (by decide) hl rfl hd (kk)
theorem mr_M_costs (C : sm_Cx X cc nL own fr lo ret) (hw : mo_is (sm_w X)) {index k : Nat} (hk : mo_tag k = 0) (hl : Cond.fieldLink own index "SmokeGoesToModel" "costs" "[I" ∈ sm_G) (hd : decode cc pc = .ok (.getfield index, 3)) (kk : sm_V X Q nL σ (pc + 3) lv (.ref (sm_ad (sm_w X) 8) :: st)) : sm_V X Q nL σ pc lv (.ref (sm_ad (sm_w X) k) :: st) := by
  obtain ⟨cA, e1, e2, e3, e4⟩ := hw
  exact sm_get C 32 (k := k) (by rw [e4]; exact mo_lt hk (by decide)) (by rw [e3]; exact mo_sh0 hk _ _ _) (by rw [e1]; rfl) imo_M (by decide) hl rfl hd (kk)
theorem mr_M_smoked (C : sm_Cx X cc nL own fr lo ret) (hw : mo_is (sm_w X)) {index k : Nat} (hk : mo_tag k = 0) (hl : Cond.fieldLink own index "SmokeGoesToModel" "smoked" "[I" ∈ sm_G) (hd : decode cc pc = .ok (.getfield index, 3)) (kk : sm_V X Q nL σ (pc + 3) lv (.ref (sm_ad (sm_w X) 9) :: st)) : sm_V X Q nL σ pc lv (.ref (sm_ad (sm_w X) k) :: st) := by
  obtain ⟨cA, e1, e2, e3, e4⟩ := hw
  exact sm_get C 33 (k := k) (by rw [e4]; exact mo_lt hk (by decide)) (by rw [e3]; exact mo_sh0 hk _ _ _) (by rw [e1]; rfl) imo_M (by decide) hl rfl hd (kk)
theorem mr_M_longest (C : sm_Cx X cc nL own fr lo ret) (hw : mo_is (sm_w X)) {index k : Nat} (hk : mo_tag k = 0) (hl : Cond.fieldLink own index "SmokeGoesToModel" "longest" "[I" ∈ sm_G) (hd : decode cc pc = .ok (.getfield index, 3)) (kk : sm_V X Q nL σ (pc + 3) lv (.ref (sm_ad (sm_w X) 10) :: st)) : sm_V X Q nL σ pc lv (.ref (sm_ad (sm_w X) k) :: st) := by
  obtain ⟨cA, e1, e2, e3, e4⟩ := hw
  exact sm_get C 34 (k := k) (by rw [e4]; exact mo_lt hk (by decide)) (by rw [e3]; exact mo_sh0 hk _ _ _) (by rw [e1]; rfl) imo_M (by decide) hl rfl hd (kk)
theorem mr_M_risen (C : sm_Cx X cc nL own fr lo ret) (hw : mo_is (sm_w X)) {index k : Nat} (hk : mo_tag k = 0) (hl : Cond.fieldLink own index "SmokeGoesToModel" "risen" "[I" ∈ sm_G) (hd : decode cc pc = .ok (.getfield index, 3)) (kk : sm_V X Q nL σ (pc + 3) lv (.ref (sm_ad (sm_w X) 11) :: st)) : sm_V X Q nL σ pc lv (.ref (sm_ad (sm_w X) k) :: st) := by
  obtain ⟨cA, e1, e2, e3, e4⟩ := hw
  exact sm_get C 35 (k := k) (by rw [e4]; exact mo_lt hk (by decide)) (by rw [e3]; exact mo_sh0 hk _ _ _) (by rw [e1]; rfl) imo_M (by decide) hl rfl hd (kk)
theorem mr_M_leftPlace (C : sm_Cx X cc nL own fr lo ret) (hw : mo_is (sm_w X)) {index k : Nat} (hk : mo_tag k = 0) (hl : Cond.fieldLink own index "SmokeGoesToModel" "leftPlace" "[I" ∈ sm_G) (hd : decode cc pc = .ok (.getfield index, 3)) (kk : sm_V X Q nL σ (pc + 3) lv (.ref (sm_ad (sm_w X) 12) :: st)) : sm_V X Q nL σ pc lv (.ref (sm_ad (sm_w X) k) :: st) := by
  obtain ⟨cA, e1, e2, e3, e4⟩ := hw
  exact sm_get C 36 (k := k) (by rw [e4]; exact mo_lt hk (by decide)) (by rw [e3]; exact mo_sh0 hk _ _ _) (by rw [e1]; rfl) imo_M (by decide) hl rfl hd (kk)
theorem mr_M_upNow (C : sm_Cx X cc nL own fr lo ret) (hw : mo_is (sm_w X)) {index k : Nat} (hk : mo_tag k = 0) (hl : Cond.fieldLink own index "SmokeGoesToModel" "upNow" "I" ∈ sm_G) (hd : decode cc pc = .ok (.getfield index, 3)) {f : Int32 → Option β} (h : sm_b (σ.1 k 37) f = some z) (kk : ∀ v, f v = some z → sm_V X Q nL σ (pc + 3) lv (.int v :: st)) : sm_V X Q nL σ pc lv (.ref (sm_ad (sm_w X) k) :: st) := by
  obtain ⟨cA, e1, e2, e3, e4⟩ := hw
  exact sm_get C 37 (k := k) (by rw [e4]; exact mo_lt hk (by decide)) (by rw [e3]; exact mo_sh0 hk _ _ _) (by rw [e1]; rfl) imo_M (by decide) hl rfl hd (kk _ h)
theorem mp_M_upNow (C : sm_Cx X cc nL own fr lo ret) (hw : mo_is (sm_w X)) {index k : Nat} (hk : mo_tag k = 0) (hl : Cond.fieldLink own index "SmokeGoesToModel" "upNow" "I" ∈ sm_G) (hd : decode cc pc = .ok (.putfield index, 3)) {f : sm_St → Option β} {v : Int32} (h : sm_b (sm_sI σ k 37 v) f = some z) (kk : ∀ s, f s = some z → sm_V X Q nL s (pc + 3) lv st) : sm_V X Q nL σ pc lv (.int v :: .ref (sm_ad (sm_w X) k) :: st) := by
  obtain ⟨cA, e1, e2, e3, e4⟩ := hw
  exact sm_put C 37 (k := k) (σ' := sm_sI σ k 37 v) (by rw [e4]; exact mo_lt hk (by decide)) (by rw [e3]; exact mo_sh0 hk _ _ _) (by rw [e1]; rfl) imo_M kmo_M nmo_M (by decide) hl rfl rfl rfl rfl (Nat.le_of_ble_eq_true rfl) (by rw [e3, mo_sh0 hk, sm_sIk.1]; rfl) sm_sIo hd (kk _ h)
theorem mr_M_needless (C : sm_Cx X cc nL own fr lo ret) (hw : mo_is (sm_w X)) {index k : Nat} (hk : mo_tag k = 0) (hl : Cond.fieldLink own index "SmokeGoesToModel" "needless" "I" ∈ sm_G) (hd : decode cc pc = .ok (.getfield index, 3)) {f : Int32 → Option β} (h : sm_b (σ.1 k 38) f = some z) (kk : ∀ v, f v = some z → sm_V X Q nL σ (pc + 3) lv (.int v :: st)) : sm_V X Q nL σ pc lv (.ref (sm_ad (sm_w X) k) :: st) := by
  obtain ⟨cA, e1, e2, e3, e4⟩ := hw
  exact sm_get C 38 (k := k) (by rw [e4]; exact mo_lt hk (by decide)) (by rw [e3]; exact mo_sh0 hk _ _ _) (by rw [e1]; rfl) imo_M (by decide) hl rfl hd (kk _ h)
theorem mp_M_needless (C : sm_Cx X cc nL own fr lo ret) (hw : mo_is (sm_w X)) {index k : Nat} (hk : mo_tag k = 0) (hl : Cond.fieldLink own index "SmokeGoesToModel" "needless" "I" ∈ sm_G) (hd : decode cc pc = .ok (.putfield index, 3)) {f : sm_St → Option β} {v : Int32} (h : sm_b (sm_sI σ k 38 v) f = some z) (kk : ∀ s, f s = some z → sm_V X Q nL s (pc + 3) lv st) : sm_V X Q nL σ pc lv (.int v :: .ref (sm_ad (sm_w X) k) :: st) := by
  obtain ⟨cA, e1, e2, e3, e4⟩ := hw
  exact sm_put C 38 (k := k) (σ' := sm_sI σ k 38 v) (by rw [e4]; exact mo_lt hk (by decide)) (by rw [e3]; exact mo_sh0 hk _ _ _) (by rw [e1]; rfl) imo_M kmo_M nmo_M (by decide) hl rfl rfl rfl rfl (Nat.le_of_ble_eq_true rfl) (by rw [e3, mo_sh0 hk, sm_sIk.1]; rfl) sm_sIo hd (kk _ h)
theorem mr_M_aside (C : sm_Cx X cc nL own fr lo ret) (hw : mo_is (sm_w X)) {index k : Nat} (hk : mo_tag k = 0) (hl : Cond.fieldLink own index "SmokeGoesToModel" "aside" "[I" ∈ sm_G) (hd : decode cc pc = .ok (.getfield index, 3)) (kk : sm_V X Q nL σ (pc + 3) lv (.ref (sm_ad (sm_w X) 13) :: st)) : sm_V X Q nL σ pc lv (.ref (sm_ad (sm_w X) k) :: st) := by
  obtain ⟨cA, e1, e2, e3, e4⟩ := hw
  exact sm_get C 39 (k := k) (by rw [e4]; exact mo_lt hk (by decide)) (by rw [e3]; exact mo_sh0 hk _ _ _) (by rw [e1]; rfl) imo_M (by decide) hl rfl hd (kk)
theorem mr_M_parts (C : sm_Cx X cc nL own fr lo ret) (hw : mo_is (sm_w X)) {index k : Nat} (hk : mo_tag k = 0) (hl : Cond.fieldLink own index "SmokeGoesToModel" "parts" "[J" ∈ sm_G) (hd : decode cc pc = .ok (.getfield index, 3)) (kk : sm_V X Q nL σ (pc + 3) lv (.ref (sm_ad (sm_w X) 14) :: st)) : sm_V X Q nL σ pc lv (.ref (sm_ad (sm_w X) k) :: st) := by
  obtain ⟨cA, e1, e2, e3, e4⟩ := hw
  exact sm_get C 40 (k := k) (by rw [e4]; exact mo_lt hk (by decide)) (by rw [e3]; exact mo_sh0 hk _ _ _) (by rw [e1]; rfl) imo_M (by decide) hl rfl hd (kk)
theorem mr_M_then (C : sm_Cx X cc nL own fr lo ret) (hw : mo_is (sm_w X)) {index k : Nat} (hk : mo_tag k = 0) (hl : Cond.fieldLink own index "SmokeGoesToModel" "then" "[J" ∈ sm_G) (hd : decode cc pc = .ok (.getfield index, 3)) (kk : sm_V X Q nL σ (pc + 3) lv (.ref (sm_ad (sm_w X) 15) :: st)) : sm_V X Q nL σ pc lv (.ref (sm_ad (sm_w X) k) :: st) := by
  obtain ⟨cA, e1, e2, e3, e4⟩ := hw
  exact sm_get C 41 (k := k) (by rw [e4]; exact mo_lt hk (by decide)) (by rw [e3]; exact mo_sh0 hk _ _ _) (by rw [e1]; rfl) imo_M (by decide) hl rfl hd (kk)
theorem mr_M_means (C : sm_Cx X cc nL own fr lo ret) (hw : mo_is (sm_w X)) {index k : Nat} (hk : mo_tag k = 0) (hl : Cond.fieldLink own index "SmokeGoesToModel" "means" "[J" ∈ sm_G) (hd : decode cc pc = .ok (.getfield index, 3)) (kk : sm_V X Q nL σ (pc + 3) lv (.ref (sm_ad (sm_w X) 16) :: st)) : sm_V X Q nL σ pc lv (.ref (sm_ad (sm_w X) k) :: st) := by
  obtain ⟨cA, e1, e2, e3, e4⟩ := hw
  exact sm_get C 42 (k := k) (by rw [e4]; exact mo_lt hk (by decide)) (by rw [e3]; exact mo_sh0 hk _ _ _) (by rw [e1]; rfl) imo_M (by decide) hl rfl hd (kk)
theorem mr_M_below (C : sm_Cx X cc nL own fr lo ret) (hw : mo_is (sm_w X)) {index k : Nat} (hk : mo_tag k = 0) (hl : Cond.fieldLink own index "SmokeGoesToModel" "below" "J" ∈ sm_G) (hd : decode cc pc = .ok (.getfield index, 3)) {f : Int64 → Option β} (h : sm_b (σ.2.1 k 43) f = some z) (kk : ∀ v, f v = some z → sm_V X Q nL σ (pc + 3) lv (.long v :: st)) : sm_V X Q nL σ pc lv (.ref (sm_ad (sm_w X) k) :: st) := by
  obtain ⟨cA, e1, e2, e3, e4⟩ := hw
  exact sm_get C 43 (k := k) (by rw [e4]; exact mo_lt hk (by decide)) (by rw [e3]; exact mo_sh0 hk _ _ _) (by rw [e1]; rfl) imo_M (by decide) hl rfl hd (kk _ h)
theorem mp_M_below (C : sm_Cx X cc nL own fr lo ret) (hw : mo_is (sm_w X)) {index k : Nat} (hk : mo_tag k = 0) (hl : Cond.fieldLink own index "SmokeGoesToModel" "below" "J" ∈ sm_G) (hd : decode cc pc = .ok (.putfield index, 3)) {f : sm_St → Option β} {v : Int64} (h : sm_b (sm_sL σ k 43 v) f = some z) (kk : ∀ s, f s = some z → sm_V X Q nL s (pc + 3) lv st) : sm_V X Q nL σ pc lv (.long v :: .ref (sm_ad (sm_w X) k) :: st) := by
  obtain ⟨cA, e1, e2, e3, e4⟩ := hw
  exact sm_put C 43 (k := k) (σ' := sm_sL σ k 43 v) (by rw [e4]; exact mo_lt hk (by decide)) (by rw [e3]; exact mo_sh0 hk _ _ _) (by rw [e1]; rfl) imo_M kmo_M nmo_M (by decide) hl rfl rfl rfl rfl (Nat.le_of_ble_eq_true rfl) (by rw [e3, mo_sh0 hk, sm_sLk.2.1]; rfl) sm_sLo hd (kk _ h)
theorem mr_M_seats (C : sm_Cx X cc nL own fr lo ret) (hw : mo_is (sm_w X)) {index k : Nat} (hk : mo_tag k = 0) (hl : Cond.fieldLink own index "SmokeGoesToModel" "seats" "[I" ∈ sm_G) (hd : decode cc pc = .ok (.getfield index, 3)) (kk : sm_V X Q nL σ (pc + 3) lv (.ref (sm_ad (sm_w X) 17) :: st)) : sm_V X Q nL σ pc lv (.ref (sm_ad (sm_w X) k) :: st) := by
  obtain ⟨cA, e1, e2, e3, e4⟩ := hw
  exact sm_get C 44 (k := k) (by rw [e4]; exact mo_lt hk (by decide)) (by rw [e3]; exact mo_sh0 hk _ _ _) (by rw [e1]; rfl) imo_M (by decide) hl rfl hd (kk)
theorem mr_M_bestSeats (C : sm_Cx X cc nL own fr lo ret) (hw : mo_is (sm_w X)) {index k : Nat} (hk : mo_tag k = 0) (hl : Cond.fieldLink own index "SmokeGoesToModel" "bestSeats" "[I" ∈ sm_G) (hd : decode cc pc = .ok (.getfield index, 3)) (kk : sm_V X Q nL σ (pc + 3) lv (.ref (sm_ad (sm_w X) 18) :: st)) : sm_V X Q nL σ pc lv (.ref (sm_ad (sm_w X) k) :: st) := by
  obtain ⟨cA, e1, e2, e3, e4⟩ := hw
  exact sm_get C 45 (k := k) (by rw [e4]; exact mo_lt hk (by decide)) (by rw [e3]; exact mo_sh0 hk _ _ _) (by rw [e1]; rfl) imo_M (by decide) hl rfl hd (kk)
theorem mr_M_bestSum (C : sm_Cx X cc nL own fr lo ret) (hw : mo_is (sm_w X)) {index k : Nat} (hk : mo_tag k = 0) (hl : Cond.fieldLink own index "SmokeGoesToModel" "bestSum" "J" ∈ sm_G) (hd : decode cc pc = .ok (.getfield index, 3)) {f : Int64 → Option β} (h : sm_b (σ.2.1 k 46) f = some z) (kk : ∀ v, f v = some z → sm_V X Q nL σ (pc + 3) lv (.long v :: st)) : sm_V X Q nL σ pc lv (.ref (sm_ad (sm_w X) k) :: st) := by
  obtain ⟨cA, e1, e2, e3, e4⟩ := hw
  exact sm_get C 46 (k := k) (by rw [e4]; exact mo_lt hk (by decide)) (by rw [e3]; exact mo_sh0 hk _ _ _) (by rw [e1]; rfl) imo_M (by decide) hl rfl hd (kk _ h)
theorem mp_M_bestSum (C : sm_Cx X cc nL own fr lo ret) (hw : mo_is (sm_w X)) {index k : Nat} (hk : mo_tag k = 0) (hl : Cond.fieldLink own index "SmokeGoesToModel" "bestSum" "J" ∈ sm_G) (hd : decode cc pc = .ok (.putfield index, 3)) {f : sm_St → Option β} {v : Int64} (h : sm_b (sm_sL σ k 46 v) f = some z) (kk : ∀ s, f s = some z → sm_V X Q nL s (pc + 3) lv st) : sm_V X Q nL σ pc lv (.long v :: .ref (sm_ad (sm_w X) k) :: st) := by
  obtain ⟨cA, e1, e2, e3, e4⟩ := hw
  exact sm_put C 46 (k := k) (σ' := sm_sL σ k 46 v) (by rw [e4]; exact mo_lt hk (by decide)) (by rw [e3]; exact mo_sh0 hk _ _ _) (by rw [e1]; rfl) imo_M kmo_M nmo_M (by decide) hl rfl rfl rfl rfl (Nat.le_of_ble_eq_true rfl) (by rw [e3, mo_sh0 hk, sm_sLk.2.1]; rfl) sm_sLo hd (kk _ h)
theorem mr_M_isFound (C : sm_Cx X cc nL own fr lo ret) (hw : mo_is (sm_w X)) {index k : Nat} (hk : mo_tag k = 0) (hl : Cond.fieldLink own index "SmokeGoesToModel" "isFound" "Z" ∈ sm_G) (hd : decode cc pc = .ok (.getfield index, 3)) {f : Int32 → Option β} (h : sm_b (σ.1 k 47) f = some z) (kk : ∀ v, f v = some z → sm_V X Q nL σ (pc + 3) lv (.int v :: st)) : sm_V X Q nL σ pc lv (.ref (sm_ad (sm_w X) k) :: st) := by
  obtain ⟨cA, e1, e2, e3, e4⟩ := hw
  exact sm_get C 47 (k := k) (by rw [e4]; exact mo_lt hk (by decide)) (by rw [e3]; exact mo_sh0 hk _ _ _) (by rw [e1]; rfl) imo_M (by decide) hl rfl hd (kk _ h)
theorem mp_M_isFound (C : sm_Cx X cc nL own fr lo ret) (hw : mo_is (sm_w X)) {index k : Nat} (hk : mo_tag k = 0) (hl : Cond.fieldLink own index "SmokeGoesToModel" "isFound" "Z" ∈ sm_G) (hd : decode cc pc = .ok (.putfield index, 3)) {f : sm_St → Option β} {v : Int32} (hv : v = 0 ∨ v = 1) (h : sm_b (sm_sI σ k 47 v) f = some z) (kk : ∀ s, f s = some z → sm_V X Q nL s (pc + 3) lv st) : sm_V X Q nL σ pc lv (.int v :: .ref (sm_ad (sm_w X) k) :: st) := by
  obtain ⟨cA, e1, e2, e3, e4⟩ := hw
  exact sm_put C 47 (k := k) (σ' := sm_sI σ k 47 v) (by rw [e4]; exact mo_lt hk (by decide)) (by rw [e3]; exact mo_sh0 hk _ _ _) (by rw [e1]; rfl) imo_M kmo_M nmo_M (by decide) hl rfl rfl (by rcases hv with rfl | rfl <;> rfl) (by rcases hv with rfl | rfl <;> rfl) (Nat.le_of_ble_eq_true rfl) (by rw [e3, mo_sh0 hk, sm_sIk.1]; rfl) sm_sIo hd (kk _ h)
theorem mr_M_rowsMany (C : sm_Cx X cc nL own fr lo ret) (hw : mo_is (sm_w X)) {index k : Nat} (hk : mo_tag k = 0) (hl : Cond.fieldLink own index "SmokeGoesToModel" "rowsMany" "I" ∈ sm_G) (hd : decode cc pc = .ok (.getfield index, 3)) {f : Int32 → Option β} (h : sm_b (σ.1 k 48) f = some z) (kk : ∀ v, f v = some z → sm_V X Q nL σ (pc + 3) lv (.int v :: st)) : sm_V X Q nL σ pc lv (.ref (sm_ad (sm_w X) k) :: st) := by
  obtain ⟨cA, e1, e2, e3, e4⟩ := hw
  exact sm_get C 48 (k := k) (by rw [e4]; exact mo_lt hk (by decide)) (by rw [e3]; exact mo_sh0 hk _ _ _) (by rw [e1]; rfl) imo_M (by decide) hl rfl hd (kk _ h)
theorem mp_M_rowsMany (C : sm_Cx X cc nL own fr lo ret) (hw : mo_is (sm_w X)) {index k : Nat} (hk : mo_tag k = 0) (hl : Cond.fieldLink own index "SmokeGoesToModel" "rowsMany" "I" ∈ sm_G) (hd : decode cc pc = .ok (.putfield index, 3)) {f : sm_St → Option β} {v : Int32} (h : sm_b (sm_sI σ k 48 v) f = some z) (kk : ∀ s, f s = some z → sm_V X Q nL s (pc + 3) lv st) : sm_V X Q nL σ pc lv (.int v :: .ref (sm_ad (sm_w X) k) :: st) := by
  obtain ⟨cA, e1, e2, e3, e4⟩ := hw
  exact sm_put C 48 (k := k) (σ' := sm_sI σ k 48 v) (by rw [e4]; exact mo_lt hk (by decide)) (by rw [e3]; exact mo_sh0 hk _ _ _) (by rw [e1]; rfl) imo_M kmo_M nmo_M (by decide) hl rfl rfl rfl rfl (Nat.le_of_ble_eq_true rfl) (by rw [e3, mo_sh0 hk, sm_sIk.1]; rfl) sm_sIo hd (kk _ h)
theorem mr_M_rowsFirst (C : sm_Cx X cc nL own fr lo ret) (hw : mo_is (sm_w X)) {index k : Nat} (hk : mo_tag k = 0) (hl : Cond.fieldLink own index "SmokeGoesToModel" "rowsFirst" "I" ∈ sm_G) (hd : decode cc pc = .ok (.getfield index, 3)) {f : Int32 → Option β} (h : sm_b (σ.1 k 49) f = some z) (kk : ∀ v, f v = some z → sm_V X Q nL σ (pc + 3) lv (.int v :: st)) : sm_V X Q nL σ pc lv (.ref (sm_ad (sm_w X) k) :: st) := by
  obtain ⟨cA, e1, e2, e3, e4⟩ := hw
  exact sm_get C 49 (k := k) (by rw [e4]; exact mo_lt hk (by decide)) (by rw [e3]; exact mo_sh0 hk _ _ _) (by rw [e1]; rfl) imo_M (by decide) hl rfl hd (kk _ h)
theorem mp_M_rowsFirst (C : sm_Cx X cc nL own fr lo ret) (hw : mo_is (sm_w X)) {index k : Nat} (hk : mo_tag k = 0) (hl : Cond.fieldLink own index "SmokeGoesToModel" "rowsFirst" "I" ∈ sm_G) (hd : decode cc pc = .ok (.putfield index, 3)) {f : sm_St → Option β} {v : Int32} (h : sm_b (sm_sI σ k 49 v) f = some z) (kk : ∀ s, f s = some z → sm_V X Q nL s (pc + 3) lv st) : sm_V X Q nL σ pc lv (.int v :: .ref (sm_ad (sm_w X) k) :: st) := by
  obtain ⟨cA, e1, e2, e3, e4⟩ := hw
  exact sm_put C 49 (k := k) (σ' := sm_sI σ k 49 v) (by rw [e4]; exact mo_lt hk (by decide)) (by rw [e3]; exact mo_sh0 hk _ _ _) (by rw [e1]; rfl) imo_M kmo_M nmo_M (by decide) hl rfl rfl rfl rfl (Nat.le_of_ble_eq_true rfl) (by rw [e3, mo_sh0 hk, sm_sIk.1]; rfl) sm_sIo hd (kk _ h)
theorem mr_M_kept (C : sm_Cx X cc nL own fr lo ret) (hw : mo_is (sm_w X)) {index k : Nat} (hk : mo_tag k = 0) (hl : Cond.fieldLink own index "SmokeGoesToModel" "kept" "[I" ∈ sm_G) (hd : decode cc pc = .ok (.getfield index, 3)) (kk : sm_V X Q nL σ (pc + 3) lv (.ref (sm_ad (sm_w X) 19) :: st)) : sm_V X Q nL σ pc lv (.ref (sm_ad (sm_w X) k) :: st) := by
  obtain ⟨cA, e1, e2, e3, e4⟩ := hw
  exact sm_get C 50 (k := k) (by rw [e4]; exact mo_lt hk (by decide)) (by rw [e3]; exact mo_sh0 hk _ _ _) (by rw [e1]; rfl) imo_M (by decide) hl rfl hd (kk)
theorem mr_M_manyKept (C : sm_Cx X cc nL own fr lo ret) (hw : mo_is (sm_w X)) {index k : Nat} (hk : mo_tag k = 0) (hl : Cond.fieldLink own index "SmokeGoesToModel" "manyKept" "I" ∈ sm_G) (hd : decode cc pc = .ok (.getfield index, 3)) {f : Int32 → Option β} (h : sm_b (σ.1 k 51) f = some z) (kk : ∀ v, f v = some z → sm_V X Q nL σ (pc + 3) lv (.int v :: st)) : sm_V X Q nL σ pc lv (.ref (sm_ad (sm_w X) k) :: st) := by
  obtain ⟨cA, e1, e2, e3, e4⟩ := hw
  exact sm_get C 51 (k := k) (by rw [e4]; exact mo_lt hk (by decide)) (by rw [e3]; exact mo_sh0 hk _ _ _) (by rw [e1]; rfl) imo_M (by decide) hl rfl hd (kk _ h)
theorem mp_M_manyKept (C : sm_Cx X cc nL own fr lo ret) (hw : mo_is (sm_w X)) {index k : Nat} (hk : mo_tag k = 0) (hl : Cond.fieldLink own index "SmokeGoesToModel" "manyKept" "I" ∈ sm_G) (hd : decode cc pc = .ok (.putfield index, 3)) {f : sm_St → Option β} {v : Int32} (h : sm_b (sm_sI σ k 51 v) f = some z) (kk : ∀ s, f s = some z → sm_V X Q nL s (pc + 3) lv st) : sm_V X Q nL σ pc lv (.int v :: .ref (sm_ad (sm_w X) k) :: st) := by
  obtain ⟨cA, e1, e2, e3, e4⟩ := hw
  exact sm_put C 51 (k := k) (σ' := sm_sI σ k 51 v) (by rw [e4]; exact mo_lt hk (by decide)) (by rw [e3]; exact mo_sh0 hk _ _ _) (by rw [e1]; rfl) imo_M kmo_M nmo_M (by decide) hl rfl rfl rfl rfl (Nat.le_of_ble_eq_true rfl) (by rw [e3, mo_sh0 hk, sm_sIk.1]; rfl) sm_sIo hd (kk _ h)
theorem mr_M_ruleKept (C : sm_Cx X cc nL own fr lo ret) (hw : mo_is (sm_w X)) {index k : Nat} (hk : mo_tag k = 0) (hl : Cond.fieldLink own index "SmokeGoesToModel" "ruleKept" "I" ∈ sm_G) (hd : decode cc pc = .ok (.getfield index, 3)) {f : Int32 → Option β} (h : sm_b (σ.1 k 52) f = some z) (kk : ∀ v, f v = some z → sm_V X Q nL σ (pc + 3) lv (.int v :: st)) : sm_V X Q nL σ pc lv (.ref (sm_ad (sm_w X) k) :: st) := by
  obtain ⟨cA, e1, e2, e3, e4⟩ := hw
  exact sm_get C 52 (k := k) (by rw [e4]; exact mo_lt hk (by decide)) (by rw [e3]; exact mo_sh0 hk _ _ _) (by rw [e1]; rfl) imo_M (by decide) hl rfl hd (kk _ h)
theorem mp_M_ruleKept (C : sm_Cx X cc nL own fr lo ret) (hw : mo_is (sm_w X)) {index k : Nat} (hk : mo_tag k = 0) (hl : Cond.fieldLink own index "SmokeGoesToModel" "ruleKept" "I" ∈ sm_G) (hd : decode cc pc = .ok (.putfield index, 3)) {f : sm_St → Option β} {v : Int32} (h : sm_b (sm_sI σ k 52 v) f = some z) (kk : ∀ s, f s = some z → sm_V X Q nL s (pc + 3) lv st) : sm_V X Q nL σ pc lv (.int v :: .ref (sm_ad (sm_w X) k) :: st) := by
  obtain ⟨cA, e1, e2, e3, e4⟩ := hw
  exact sm_put C 52 (k := k) (σ' := sm_sI σ k 52 v) (by rw [e4]; exact mo_lt hk (by decide)) (by rw [e3]; exact mo_sh0 hk _ _ _) (by rw [e1]; rfl) imo_M kmo_M nmo_M (by decide) hl rfl rfl rfl rfl (Nat.le_of_ble_eq_true rfl) (by rw [e3, mo_sh0 hk, sm_sIk.1]; rfl) sm_sIo hd (kk _ h)
theorem mr_M_isThere (C : sm_Cx X cc nL own fr lo ret) (hw : mo_is (sm_w X)) {index k : Nat} (hk : mo_tag k = 0) (hl : Cond.fieldLink own index "SmokeGoesToModel" "isThere" "[Z" ∈ sm_G) (hd : decode cc pc = .ok (.getfield index, 3)) (kk : sm_V X Q nL σ (pc + 3) lv (.ref (sm_ad (sm_w X) 20) :: st)) : sm_V X Q nL σ pc lv (.ref (sm_ad (sm_w X) k) :: st) := by
  obtain ⟨cA, e1, e2, e3, e4⟩ := hw
  exact sm_get C 53 (k := k) (by rw [e4]; exact mo_lt hk (by decide)) (by rw [e3]; exact mo_sh0 hk _ _ _) (by rw [e1]; rfl) imo_M (by decide) hl rfl hd (kk)
theorem mr_M_sorts (C : sm_Cx X cc nL own fr lo ret) (hw : mo_is (sm_w X)) {index k : Nat} (hk : mo_tag k = 0) (hl : Cond.fieldLink own index "SmokeGoesToModel" "sorts" "[I" ∈ sm_G) (hd : decode cc pc = .ok (.getfield index, 3)) (kk : sm_V X Q nL σ (pc + 3) lv (.ref (sm_ad (sm_w X) 21) :: st)) : sm_V X Q nL σ pc lv (.ref (sm_ad (sm_w X) k) :: st) := by
  obtain ⟨cA, e1, e2, e3, e4⟩ := hw
  exact sm_get C 54 (k := k) (by rw [e4]; exact mo_lt hk (by decide)) (by rw [e3]; exact mo_sh0 hk _ _ _) (by rw [e1]; rfl) imo_M (by decide) hl rfl hd (kk)
theorem mr_M_sheetSize (C : sm_Cx X cc nL own fr lo ret) (hw : mo_is (sm_w X)) {index k : Nat} (hk : mo_tag k = 0) (hl : Cond.fieldLink own index "SmokeGoesToModel" "sheetSize" "[I" ∈ sm_G) (hd : decode cc pc = .ok (.getfield index, 3)) (kk : sm_V X Q nL σ (pc + 3) lv (.ref (sm_ad (sm_w X) 22) :: st)) : sm_V X Q nL σ pc lv (.ref (sm_ad (sm_w X) k) :: st) := by
  obtain ⟨cA, e1, e2, e3, e4⟩ := hw
  exact sm_get C 55 (k := k) (by rw [e4]; exact mo_lt hk (by decide)) (by rw [e3]; exact mo_sh0 hk _ _ _) (by rw [e1]; rfl) imo_M (by decide) hl rfl hd (kk)
theorem mr_M_items (C : sm_Cx X cc nL own fr lo ret) (hw : mo_is (sm_w X)) {index k : Nat} (hk : mo_tag k = 0) (hl : Cond.fieldLink own index "SmokeGoesToModel" "items" "[I" ∈ sm_G) (hd : decode cc pc = .ok (.getfield index, 3)) (kk : sm_V X Q nL σ (pc + 3) lv (.ref (sm_ad (sm_w X) 23) :: st)) : sm_V X Q nL σ pc lv (.ref (sm_ad (sm_w X) k) :: st) := by
  obtain ⟨cA, e1, e2, e3, e4⟩ := hw
  exact sm_get C 56 (k := k) (by rw [e4]; exact mo_lt hk (by decide)) (by rw [e3]; exact mo_sh0 hk _ _ _) (by rw [e1]; rfl) imo_M (by decide) hl rfl hd (kk)
theorem ma_iald (C : sm_Cx X cc nL own fr lo ret) (hw : mo_is (sm_w X)) {k n : Nat} (hk : mo_tag k = 10) (hn : mo_len k = n) {i : Int32} {f : Int32 → Option β} (hd : decode cc pc = .ok (.iaload, 1)) (h : sm_g (sm_in i n) (sm_b (σ.1 k i.toNatClampNeg) f) = some z) (kk : ∀ v, f v = some z → sm_V X Q nL σ (pc + 1) lv (.int v :: st)) : sm_V X Q nL σ pc lv (.int i :: .ref (sm_ad (sm_w X) k) :: st) := by
  obtain ⟨cA, e1, e2, e3, e4⟩ := hw
  subst hn
  exact sm_iald C (t0 := 0) (by rw [e4]; exact mo_lt hk (by decide)) (by rw [e3]; exact mo_sh10 hk _ _ _) (by rw [e2]; rfl) hd h kk
theorem ma_lald (C : sm_Cx X cc nL own fr lo ret) (hw : mo_is (sm_w X)) {k n : Nat} (hk : mo_tag k = 11) (hn : mo_len k = n) {i : Int32} {f : Int64 → Option β} (hd : decode cc pc = .ok (.laload, 1)) (h : sm_g (sm_in i n) (sm_b (σ.2.1 k i.toNatClampNeg) f) = some z) (kk : ∀ v, f v = some z → sm_V X Q nL σ (pc + 1) lv (.long v :: st)) : sm_V X Q nL σ pc lv (.int i :: .ref (sm_ad (sm_w X) k) :: st) := by
  obtain ⟨cA, e1, e2, e3, e4⟩ := hw
  subst hn
  exact sm_lald C (t0 := 1) (by rw [e4]; exact mo_lt hk (by decide)) (by rw [e3]; exact mo_sh11 hk _ _ _) (by rw [e2]; rfl) hd h kk
theorem ma_zald (C : sm_Cx X cc nL own fr lo ret) (hw : mo_is (sm_w X)) {k n : Nat} (hk : mo_tag k = 14) (hn : mo_len k = n) {i : Int32} {f : Int32 → Option β} (hd : decode cc pc = .ok (.baload, 1)) (h : sm_g (sm_in i n) (sm_b (σ.1 k i.toNatClampNeg) f) = some z) (kk : ∀ v, f v = some z → sm_V X Q nL σ (pc + 1) lv (.int v :: st)) : sm_V X Q nL σ pc lv (.int i :: .ref (sm_ad (sm_w X) k) :: st) := by
  obtain ⟨cA, e1, e2, e3, e4⟩ := hw
  subst hn
  exact sm_zald C (t0 := 2) (by rw [e4]; exact mo_lt hk (by decide)) (by rw [e3]; exact mo_sh14 hk _ _ _) (by rw [e2]; rfl) hd h kk
theorem ma_iast (C : sm_Cx X cc nL own fr lo ret) (hw : mo_is (sm_w X)) {k n : Nat} (hk : mo_tag k = 10) (hn : mo_len k = n) {i : Int32} {x : Int32} {f : sm_St → Option β} (hd : decode cc pc = .ok (.iastore, 1)) (h : sm_g (sm_in i n) (sm_b (sm_sI σ k i.toNatClampNeg x) f) = some z) (kk : ∀ s, f s = some z → sm_V X Q nL s (pc + 1) lv st) : sm_V X Q nL σ pc lv (.int x :: .int i :: .ref (sm_ad (sm_w X) k) :: st) := by
  obtain ⟨cA, e1, e2, e3, e4⟩ := hw
  subst hn
  exact sm_iast C (t0 := 0) (by rw [e4]; exact mo_lt hk (by decide)) (fun a b c => by rw [e3]; exact mo_sh10 hk a b c) (by rw [e2]; rfl) hd h kk
theorem ma_last (C : sm_Cx X cc nL own fr lo ret) (hw : mo_is (sm_w X)) {k n : Nat} (hk : mo_tag k = 11) (hn : mo_len k = n) {i : Int32} {x : Int64} {f : sm_St → Option β} (hd : decode cc pc = .ok (.lastore, 1)) (h : sm_g (sm_in i n) (sm_b (sm_sL σ k i.toNatClampNeg x) f) = some z) (kk : ∀ s, f s = some z → sm_V X Q nL s (pc + 1) lv st) : sm_V X Q nL σ pc lv (.long x :: .int i :: .ref (sm_ad (sm_w X) k) :: st) := by
  obtain ⟨cA, e1, e2, e3, e4⟩ := hw
  subst hn
  exact sm_last C (t0 := 1) (by rw [e4]; exact mo_lt hk (by decide)) (fun a b c => by rw [e3]; exact mo_sh11 hk a b c) (by rw [e2]; rfl) hd h kk
theorem ma_zast (C : sm_Cx X cc nL own fr lo ret) (hw : mo_is (sm_w X)) {k n : Nat} (hk : mo_tag k = 14) (hn : mo_len k = n) {i : Int32} {x : Int32} {f : sm_St → Option β} (hd : decode cc pc = .ok (.bastore, 1)) (h : sm_g (sm_in i n) (sm_b (sm_sI σ k i.toNatClampNeg (vp_nar .boolean x)) f) = some z) (kk : ∀ s, f s = some z → sm_V X Q nL s (pc + 1) lv st) : sm_V X Q nL σ pc lv (.int x :: .int i :: .ref (sm_ad (sm_w X) k) :: st) := by
  obtain ⟨cA, e1, e2, e3, e4⟩ := hw
  subst hn
  exact sm_zast C (t0 := 2) (by rw [e4]; exact mo_lt hk (by decide)) (fun a b c => by rw [e3]; exact mo_sh14 hk a b c) (by rw [e2]; rfl) hd h kk
theorem ma_alenI (C : sm_Cx X cc nL own fr lo ret) (hw : mo_is (sm_w X)) {k n : Nat} (hk : mo_tag k = 10) (hn : mo_len k = n) {f : Int32 → Option β} (hd : decode cc pc = .ok (.arraylength, 1)) (h : sm_b (Int32.ofNat n) f = some z) (kk : ∀ v, f v = some z → sm_V X Q nL σ (pc + 1) lv (.int v :: st)) : sm_V X Q nL σ pc lv (.ref (sm_ad (sm_w X) k) :: st) := by
  obtain ⟨cA, e1, e2, e3, e4⟩ := hw
  subst hn
  exact sm_alen C (t0 := 0) (by rw [e4]; exact mo_lt hk (by decide)) (by rw [e3]; exact mo_sh10 hk _ _ _) (by rw [e2]; rfl) rfl hd (kk _ h)
theorem ma_alenL (C : sm_Cx X cc nL own fr lo ret) (hw : mo_is (sm_w X)) {k n : Nat} (hk : mo_tag k = 11) (hn : mo_len k = n) {f : Int32 → Option β} (hd : decode cc pc = .ok (.arraylength, 1)) (h : sm_b (Int32.ofNat n) f = some z) (kk : ∀ v, f v = some z → sm_V X Q nL σ (pc + 1) lv (.int v :: st)) : sm_V X Q nL σ pc lv (.ref (sm_ad (sm_w X) k) :: st) := by
  obtain ⟨cA, e1, e2, e3, e4⟩ := hw
  subst hn
  exact sm_alen C (t0 := 1) (by rw [e4]; exact mo_lt hk (by decide)) (by rw [e3]; exact mo_sh11 hk _ _ _) (by rw [e2]; rfl) rfl hd (kk _ h)
end
end
