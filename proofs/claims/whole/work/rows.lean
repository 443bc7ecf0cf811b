section
-- ===== PART A: goes FIRST, ahead of the names: the tables' words, and 'selects' of the private methods out of them =====
/-- a private method of a class that the tables say can be made, by its rows of tables_1 -/
def lw_okq (q : MethodName × Nat) : Prop := (q.1.cls ≠ "java/lang/invoke/MethodHandle" ∧ q.1.cls ≠ "java/lang/invoke/VarHandle") ∧ Cond.instantiable q.1.cls q.2 ∈ tables_1 ∧ Cond.privateMethod q.1 ∈ tables_1 ∧ Cond.instanceMethod q.1 ∈ tables_1
theorem lw_p0 : lw_okq (⟨"SmokeGoesTo$Reader", "step", "()V"⟩, 7) := ⟨⟨by decide +kernel, by decide +kernel⟩, List.mem_of_getElem? (i := 84) (by decide +kernel), List.mem_of_getElem? (i := 292) (by decide +kernel), List.mem_of_getElem? (i := 293) (by decide +kernel)⟩
theorem lw_p1 : lw_okq (⟨"SmokeGoesTo$Reader", "stepNumber", "()V"⟩, 7) := ⟨⟨by decide +kernel, by decide +kernel⟩, List.mem_of_getElem? (i := 84) (by decide +kernel), List.mem_of_getElem? (i := 299) (by decide +kernel), List.mem_of_getElem? (i := 300) (by decide +kernel)⟩
theorem lw_p2 : lw_okq (⟨"SmokeGoesTo$Reader", "stepWord", "()V"⟩, 7) := ⟨⟨by decide +kernel, by decide +kernel⟩, List.mem_of_getElem? (i := 84) (by decide +kernel), List.mem_of_getElem? (i := 306) (by decide +kernel), List.mem_of_getElem? (i := 307) (by decide +kernel)⟩
theorem lw_p3 : lw_okq (⟨"SmokeGoesTo$Reader", "isWord", "(I)Z"⟩, 7) := ⟨⟨by decide +kernel, by decide +kernel⟩, List.mem_of_getElem? (i := 84) (by decide +kernel), List.mem_of_getElem? (i := 310) (by decide +kernel), List.mem_of_getElem? (i := 311) (by decide +kernel)⟩
theorem lw_p4 : lw_okq (⟨"SmokeGoesTo$Reader", "accept", "(I)Z"⟩, 7) := ⟨⟨by decide +kernel, by decide +kernel⟩, List.mem_of_getElem? (i := 84) (by decide +kernel), List.mem_of_getElem? (i := 376) (by decide +kernel), List.mem_of_getElem? (i := 377) (by decide +kernel)⟩
theorem lw_p5 : lw_okq (⟨"SmokeGoesTo$Reader", "readOr", "(I)Z"⟩, 7) := ⟨⟨by decide +kernel, by decide +kernel⟩, List.mem_of_getElem? (i := 84) (by decide +kernel), List.mem_of_getElem? (i := 380) (by decide +kernel), List.mem_of_getElem? (i := 381) (by decide +kernel)⟩
theorem lw_p6 : lw_okq (⟨"SmokeGoesTo$Reader", "readAnd", "(I)Z"⟩, 7) := ⟨⟨by decide +kernel, by decide +kernel⟩, List.mem_of_getElem? (i := 84) (by decide +kernel), List.mem_of_getElem? (i := 384) (by decide +kernel), List.mem_of_getElem? (i := 385) (by decide +kernel)⟩
theorem lw_p7 : lw_okq (⟨"SmokeGoesTo$Reader", "readNot", "(I)Z"⟩, 7) := ⟨⟨by decide +kernel, by decide +kernel⟩, List.mem_of_getElem? (i := 84) (by decide +kernel), List.mem_of_getElem? (i := 388) (by decide +kernel), List.mem_of_getElem? (i := 389) (by decide +kernel)⟩
theorem lw_p8 : lw_okq (⟨"SmokeGoesTo$Reader", "readSum", "(I)Z"⟩, 7) := ⟨⟨by decide +kernel, by decide +kernel⟩, List.mem_of_getElem? (i := 84) (by decide +kernel), List.mem_of_getElem? (i := 400) (by decide +kernel), List.mem_of_getElem? (i := 401) (by decide +kernel)⟩
theorem lw_p9 : lw_okq (⟨"SmokeGoesTo$Reader", "readTerm", "(I)Z"⟩, 7) := ⟨⟨by decide +kernel, by decide +kernel⟩, List.mem_of_getElem? (i := 84) (by decide +kernel), List.mem_of_getElem? (i := 404) (by decide +kernel), List.mem_of_getElem? (i := 405) (by decide +kernel)⟩
theorem lw_p10 : lw_okq (⟨"SmokeGoesTo$Reader", "readOne", "(I)Z"⟩, 7) := ⟨⟨by decide +kernel, by decide +kernel⟩, List.mem_of_getElem? (i := 84) (by decide +kernel), List.mem_of_getElem? (i := 408) (by decide +kernel), List.mem_of_getElem? (i := 409) (by decide +kernel)⟩
theorem lw_p11 : lw_okq (⟨"SmokeGoesTo", "setSmoke", "(I)I"⟩, 9) := ⟨⟨by decide +kernel, by decide +kernel⟩, List.mem_of_getElem? (i := 19) (by decide +kernel), List.mem_of_getElem? (i := 458) (by decide +kernel), List.mem_of_getElem? (i := 459) (by decide +kernel)⟩
theorem lw_p12 : lw_okq (⟨"SmokeGoesTo", "setLeft", "(I)I"⟩, 9) := ⟨⟨by decide +kernel, by decide +kernel⟩, List.mem_of_getElem? (i := 19) (by decide +kernel), List.mem_of_getElem? (i := 465) (by decide +kernel), List.mem_of_getElem? (i := 466) (by decide +kernel)⟩
theorem lw_p13 : lw_okq (⟨"SmokeGoesTo", "setRight", "(I)I"⟩, 9) := ⟨⟨by decide +kernel, by decide +kernel⟩, List.mem_of_getElem? (i := 19) (by decide +kernel), List.mem_of_getElem? (i := 469) (by decide +kernel), List.mem_of_getElem? (i := 470) (by decide +kernel)⟩
theorem lw_p14 : lw_okq (⟨"SmokeGoesTo", "setTents", "(I)I"⟩, 9) := ⟨⟨by decide +kernel, by decide +kernel⟩, List.mem_of_getElem? (i := 19) (by decide +kernel), List.mem_of_getElem? (i := 473) (by decide +kernel), List.mem_of_getElem? (i := 474) (by decide +kernel)⟩
theorem lw_p15 : lw_okq (⟨"SmokeGoesTo", "setEddy", "(I)I"⟩, 9) := ⟨⟨by decide +kernel, by decide +kernel⟩, List.mem_of_getElem? (i := 19) (by decide +kernel), List.mem_of_getElem? (i := 477) (by decide +kernel), List.mem_of_getElem? (i := 478) (by decide +kernel)⟩
def lw_privs_1 : List (MethodName × Nat) := [(⟨"SmokeGoesTo$Reader", "step", "()V"⟩, 7), (⟨"SmokeGoesTo$Reader", "stepNumber", "()V"⟩, 7), (⟨"SmokeGoesTo$Reader", "stepWord", "()V"⟩, 7), (⟨"SmokeGoesTo$Reader", "isWord", "(I)Z"⟩, 7), (⟨"SmokeGoesTo$Reader", "accept", "(I)Z"⟩, 7), (⟨"SmokeGoesTo$Reader", "readOr", "(I)Z"⟩, 7), (⟨"SmokeGoesTo$Reader", "readAnd", "(I)Z"⟩, 7), (⟨"SmokeGoesTo$Reader", "readNot", "(I)Z"⟩, 7), (⟨"SmokeGoesTo$Reader", "readSum", "(I)Z"⟩, 7), (⟨"SmokeGoesTo$Reader", "readTerm", "(I)Z"⟩, 7), (⟨"SmokeGoesTo$Reader", "readOne", "(I)Z"⟩, 7), (⟨"SmokeGoesTo", "setSmoke", "(I)I"⟩, 9), (⟨"SmokeGoesTo", "setLeft", "(I)I"⟩, 9), (⟨"SmokeGoesTo", "setRight", "(I)I"⟩, 9), (⟨"SmokeGoesTo", "setTents", "(I)I"⟩, 9), (⟨"SmokeGoesTo", "setEddy", "(I)I"⟩, 9)]
theorem lw_r1 : ∀ q ∈ lw_privs_1, lw_okq q := List.forall_mem_cons.mpr ⟨lw_p0, List.forall_mem_cons.mpr ⟨lw_p1, List.forall_mem_cons.mpr ⟨lw_p2, List.forall_mem_cons.mpr ⟨lw_p3, List.forall_mem_cons.mpr ⟨lw_p4, List.forall_mem_cons.mpr ⟨lw_p5, List.forall_mem_cons.mpr ⟨lw_p6, List.forall_mem_cons.mpr ⟨lw_p7, List.forall_mem_cons.mpr ⟨lw_p8, List.forall_mem_cons.mpr ⟨lw_p9, List.forall_mem_cons.mpr ⟨lw_p10, List.forall_mem_cons.mpr ⟨lw_p11, List.forall_mem_cons.mpr ⟨lw_p12, List.forall_mem_cons.mpr ⟨lw_p13, List.forall_mem_cons.mpr ⟨lw_p14, List.forall_mem_cons.mpr ⟨lw_p15, fun _ h => absurd h List.not_mem_nil⟩⟩⟩⟩⟩⟩⟩⟩⟩⟩⟩⟩⟩⟩⟩⟩
theorem lw_p16 : lw_okq (⟨"SmokeGoesTo", "setNumber", "(II)I"⟩, 9) := ⟨⟨by decide +kernel, by decide +kernel⟩, List.mem_of_getElem? (i := 19) (by decide +kernel), List.mem_of_getElem? (i := 481) (by decide +kernel), List.mem_of_getElem? (i := 482) (by decide +kernel)⟩
theorem lw_p17 : lw_okq (⟨"SmokeGoesTo", "setPlace", "(II)I"⟩, 9) := ⟨⟨by decide +kernel, by decide +kernel⟩, List.mem_of_getElem? (i := 19) (by decide +kernel), List.mem_of_getElem? (i := 489) (by decide +kernel), List.mem_of_getElem? (i := 490) (by decide +kernel)⟩
theorem lw_p18 : lw_okq (⟨"SmokeGoesTo", "isNightWhat", "(I)Z"⟩, 9) := ⟨⟨by decide +kernel, by decide +kernel⟩, List.mem_of_getElem? (i := 19) (by decide +kernel), List.mem_of_getElem? (i := 545) (by decide +kernel), List.mem_of_getElem? (i := 546) (by decide +kernel)⟩
theorem lw_p19 : lw_okq (⟨"SmokeGoesTo", "thinkAsItIs", "()V"⟩, 9) := ⟨⟨by decide +kernel, by decide +kernel⟩, List.mem_of_getElem? (i := 19) (by decide +kernel), List.mem_of_getElem? (i := 561) (by decide +kernel), List.mem_of_getElem? (i := 562) (by decide +kernel)⟩
theorem lw_p20 : lw_okq (⟨"SmokeGoesTo$Night", "turn", "(I)V"⟩, 14) := ⟨⟨by decide +kernel, by decide +kernel⟩, List.mem_of_getElem? (i := 117) (by decide +kernel), List.mem_of_getElem? (i := 581) (by decide +kernel), List.mem_of_getElem? (i := 582) (by decide +kernel)⟩
theorem lw_p21 : lw_okq (⟨"SmokeGoesTo$Night", "feel", "(IZI)V"⟩, 14) := ⟨⟨by decide +kernel, by decide +kernel⟩, List.mem_of_getElem? (i := 117) (by decide +kernel), List.mem_of_getElem? (i := 591) (by decide +kernel), List.mem_of_getElem? (i := 592) (by decide +kernel)⟩
theorem lw_p22 : lw_okq (⟨"SmokeGoesTo$Night", "price", "(III)I"⟩, 14) := ⟨⟨by decide +kernel, by decide +kernel⟩, List.mem_of_getElem? (i := 117) (by decide +kernel), List.mem_of_getElem? (i := 595) (by decide +kernel), List.mem_of_getElem? (i := 596) (by decide +kernel)⟩
theorem lw_p23 : lw_okq (⟨"SmokeGoesTo$Night", "rise", "(III)V"⟩, 14) := ⟨⟨by decide +kernel, by decide +kernel⟩, List.mem_of_getElem? (i := 117) (by decide +kernel), List.mem_of_getElem? (i := 613) (by decide +kernel), List.mem_of_getElem? (i := 614) (by decide +kernel)⟩
theorem lw_p24 : lw_okq (⟨"SmokeGoesTo", "refusal", "(I)I"⟩, 9) := ⟨⟨by decide +kernel, by decide +kernel⟩, List.mem_of_getElem? (i := 19) (by decide +kernel), List.mem_of_getElem? (i := 642) (by decide +kernel), List.mem_of_getElem? (i := 643) (by decide +kernel)⟩
theorem lw_p25 : lw_okq (⟨"SmokeGoesTo$Odds", "pass", "(II)V"⟩, 4) := ⟨⟨by decide +kernel, by decide +kernel⟩, List.mem_of_getElem? (i := 171) (by decide +kernel), List.mem_of_getElem? (i := 664) (by decide +kernel), List.mem_of_getElem? (i := 665) (by decide +kernel)⟩
theorem lw_p26 : lw_okq (⟨"SmokeGoesTo", "leastOutside", "(I)I"⟩, 9) := ⟨⟨by decide +kernel, by decide +kernel⟩, List.mem_of_getElem? (i := 19) (by decide +kernel), List.mem_of_getElem? (i := 692) (by decide +kernel), List.mem_of_getElem? (i := 693) (by decide +kernel)⟩
theorem lw_p27 : lw_okq (⟨"SmokeGoesTo", "costIf", "(III)I"⟩, 9) := ⟨⟨by decide +kernel, by decide +kernel⟩, List.mem_of_getElem? (i := 19) (by decide +kernel), List.mem_of_getElem? (i := 704) (by decide +kernel), List.mem_of_getElem? (i := 705) (by decide +kernel)⟩
theorem lw_p28 : lw_okq (⟨"SmokeGoesTo", "costIfEddy", "(I)I"⟩, 9) := ⟨⟨by decide +kernel, by decide +kernel⟩, List.mem_of_getElem? (i := 19) (by decide +kernel), List.mem_of_getElem? (i := 713) (by decide +kernel), List.mem_of_getElem? (i := 714) (by decide +kernel)⟩
theorem lw_p29 : lw_okq (⟨"SmokeGoesTo", "rowsThatFit", "(LSmokeGoesTo$Sheet;I)I"⟩, 9) := ⟨⟨by decide +kernel, by decide +kernel⟩, List.mem_of_getElem? (i := 19) (by decide +kernel), List.mem_of_getElem? (i := 725) (by decide +kernel), List.mem_of_getElem? (i := 726) (by decide +kernel)⟩
theorem lw_p30 : lw_okq (⟨"SmokeGoesTo", "fits", "(LSmokeGoesTo$Sheet;IIII)Z"⟩, 9) := ⟨⟨by decide +kernel, by decide +kernel⟩, List.mem_of_getElem? (i := 19) (by decide +kernel), List.mem_of_getElem? (i := 732) (by decide +kernel), List.mem_of_getElem? (i := 733) (by decide +kernel)⟩
theorem lw_p31 : lw_okq (⟨"SmokeGoesTo", "firstThatFits", "(LSmokeGoesTo$Sheet;I)I"⟩, 9) := ⟨⟨by decide +kernel, by decide +kernel⟩, List.mem_of_getElem? (i := 19) (by decide +kernel), List.mem_of_getElem? (i := 741) (by decide +kernel), List.mem_of_getElem? (i := 742) (by decide +kernel)⟩
def lw_privs_2 : List (MethodName × Nat) := [(⟨"SmokeGoesTo", "setNumber", "(II)I"⟩, 9), (⟨"SmokeGoesTo", "setPlace", "(II)I"⟩, 9), (⟨"SmokeGoesTo", "isNightWhat", "(I)Z"⟩, 9), (⟨"SmokeGoesTo", "thinkAsItIs", "()V"⟩, 9), (⟨"SmokeGoesTo$Night", "turn", "(I)V"⟩, 14), (⟨"SmokeGoesTo$Night", "feel", "(IZI)V"⟩, 14), (⟨"SmokeGoesTo$Night", "price", "(III)I"⟩, 14), (⟨"SmokeGoesTo$Night", "rise", "(III)V"⟩, 14), (⟨"SmokeGoesTo", "refusal", "(I)I"⟩, 9), (⟨"SmokeGoesTo$Odds", "pass", "(II)V"⟩, 4), (⟨"SmokeGoesTo", "leastOutside", "(I)I"⟩, 9), (⟨"SmokeGoesTo", "costIf", "(III)I"⟩, 9), (⟨"SmokeGoesTo", "costIfEddy", "(I)I"⟩, 9), (⟨"SmokeGoesTo", "rowsThatFit", "(LSmokeGoesTo$Sheet;I)I"⟩, 9), (⟨"SmokeGoesTo", "fits", "(LSmokeGoesTo$Sheet;IIII)Z"⟩, 9), (⟨"SmokeGoesTo", "firstThatFits", "(LSmokeGoesTo$Sheet;I)I"⟩, 9)]
theorem lw_r2 : ∀ q ∈ lw_privs_2, lw_okq q := List.forall_mem_cons.mpr ⟨lw_p16, List.forall_mem_cons.mpr ⟨lw_p17, List.forall_mem_cons.mpr ⟨lw_p18, List.forall_mem_cons.mpr ⟨lw_p19, List.forall_mem_cons.mpr ⟨lw_p20, List.forall_mem_cons.mpr ⟨lw_p21, List.forall_mem_cons.mpr ⟨lw_p22, List.forall_mem_cons.mpr ⟨lw_p23, List.forall_mem_cons.mpr ⟨lw_p24, List.forall_mem_cons.mpr ⟨lw_p25, List.forall_mem_cons.mpr ⟨lw_p26, List.forall_mem_cons.mpr ⟨lw_p27, List.forall_mem_cons.mpr ⟨lw_p28, List.forall_mem_cons.mpr ⟨lw_p29, List.forall_mem_cons.mpr ⟨lw_p30, List.forall_mem_cons.mpr ⟨lw_p31, fun _ h => absurd h List.not_mem_nil⟩⟩⟩⟩⟩⟩⟩⟩⟩⟩⟩⟩⟩⟩⟩⟩
theorem lw_p32 : lw_okq (⟨"SmokeGoesTo", "kindsThatFit", "(LSmokeGoesTo$Sheet;II)I"⟩, 9) := ⟨⟨by decide +kernel, by decide +kernel⟩, List.mem_of_getElem? (i := 19) (by decide +kernel), List.mem_of_getElem? (i := 749) (by decide +kernel), List.mem_of_getElem? (i := 750) (by decide +kernel)⟩
theorem lw_p33 : lw_okq (⟨"SmokeGoesToModel", "spell", "(IIIIIIIII)V"⟩, 57) := ⟨⟨by decide +kernel, by decide +kernel⟩, List.mem_of_getElem? (i := 824) (by decide +kernel), List.mem_of_getElem? (i := 830) (by decide +kernel), List.mem_of_getElem? (i := 831) (by decide +kernel)⟩
theorem lw_p34 : lw_okq (⟨"SmokeGoesToModel", "isSitter", "(I)Z"⟩, 57) := ⟨⟨by decide +kernel, by decide +kernel⟩, List.mem_of_getElem? (i := 824) (by decide +kernel), List.mem_of_getElem? (i := 1014) (by decide +kernel), List.mem_of_getElem? (i := 1015) (by decide +kernel)⟩
theorem lw_p35 : lw_okq (⟨"SmokeGoesToModel", "onPlace", "(II)I"⟩, 57) := ⟨⟨by decide +kernel, by decide +kernel⟩, List.mem_of_getElem? (i := 824) (by decide +kernel), List.mem_of_getElem? (i := 1018) (by decide +kernel), List.mem_of_getElem? (i := 1019) (by decide +kernel)⟩
theorem lw_p36 : lw_okq (⟨"SmokeGoesToModel", "goesTo", "(III)I"⟩, 57) := ⟨⟨by decide +kernel, by decide +kernel⟩, List.mem_of_getElem? (i := 824) (by decide +kernel), List.mem_of_getElem? (i := 1036) (by decide +kernel), List.mem_of_getElem? (i := 1037) (by decide +kernel)⟩
theorem lw_p37 : lw_okq (⟨"SmokeGoesToModel", "getsUp", "(II)Z"⟩, 57) := ⟨⟨by decide +kernel, by decide +kernel⟩, List.mem_of_getElem? (i := 824) (by decide +kernel), List.mem_of_getElem? (i := 1043) (by decide +kernel), List.mem_of_getElem? (i := 1044) (by decide +kernel)⟩
theorem lw_p38 : lw_okq (⟨"SmokeGoesToModel", "read", "(II)I"⟩, 57) := ⟨⟨by decide +kernel, by decide +kernel⟩, List.mem_of_getElem? (i := 824) (by decide +kernel), List.mem_of_getElem? (i := 1056) (by decide +kernel), List.mem_of_getElem? (i := 1057) (by decide +kernel)⟩
theorem lw_p39 : lw_okq (⟨"SmokeGoesToModel", "next", "()V"⟩, 57) := ⟨⟨by decide +kernel, by decide +kernel⟩, List.mem_of_getElem? (i := 824) (by decide +kernel), List.mem_of_getElem? (i := 1060) (by decide +kernel), List.mem_of_getElem? (i := 1061) (by decide +kernel)⟩
theorem lw_p40 : lw_okq (⟨"SmokeGoesToModel", "byteAt", "(I)I"⟩, 57) := ⟨⟨by decide +kernel, by decide +kernel⟩, List.mem_of_getElem? (i := 824) (by decide +kernel), List.mem_of_getElem? (i := 1064) (by decide +kernel), List.mem_of_getElem? (i := 1065) (by decide +kernel)⟩
theorem lw_p41 : lw_okq (⟨"SmokeGoesToModel", "isWord", "(IIIIIIII)Z"⟩, 57) := ⟨⟨by decide +kernel, by decide +kernel⟩, List.mem_of_getElem? (i := 824) (by decide +kernel), List.mem_of_getElem? (i := 1073) (by decide +kernel), List.mem_of_getElem? (i := 1074) (by decide +kernel)⟩
theorem lw_p42 : lw_okq (⟨"SmokeGoesToModel", "isLetter", "(II)Z"⟩, 57) := ⟨⟨by decide +kernel, by decide +kernel⟩, List.mem_of_getElem? (i := 824) (by decide +kernel), List.mem_of_getElem? (i := 1077) (by decide +kernel), List.mem_of_getElem? (i := 1078) (by decide +kernel)⟩
theorem lw_p43 : lw_okq (⟨"SmokeGoesToModel", "part", "(Z)I"⟩, 57) := ⟨⟨by decide +kernel, by decide +kernel⟩, List.mem_of_getElem? (i := 824) (by decide +kernel), List.mem_of_getElem? (i := 1081) (by decide +kernel), List.mem_of_getElem? (i := 1082) (by decide +kernel)⟩
theorem lw_p44 : lw_okq (⟨"SmokeGoesToModel", "fail", "()V"⟩, 57) := ⟨⟨by decide +kernel, by decide +kernel⟩, List.mem_of_getElem? (i := 824) (by decide +kernel), List.mem_of_getElem? (i := 1085) (by decide +kernel), List.mem_of_getElem? (i := 1086) (by decide +kernel)⟩
theorem lw_p45 : lw_okq (⟨"SmokeGoesToModel", "either", "()I"⟩, 57) := ⟨⟨by decide +kernel, by decide +kernel⟩, List.mem_of_getElem? (i := 824) (by decide +kernel), List.mem_of_getElem? (i := 1089) (by decide +kernel), List.mem_of_getElem? (i := 1090) (by decide +kernel)⟩
theorem lw_p46 : lw_okq (⟨"SmokeGoesToModel", "both", "()I"⟩, 57) := ⟨⟨by decide +kernel, by decide +kernel⟩, List.mem_of_getElem? (i := 824) (by decide +kernel), List.mem_of_getElem? (i := 1093) (by decide +kernel), List.mem_of_getElem? (i := 1094) (by decide +kernel)⟩
theorem lw_p47 : lw_okq (⟨"SmokeGoesToModel", "not", "()I"⟩, 57) := ⟨⟨by decide +kernel, by decide +kernel⟩, List.mem_of_getElem? (i := 824) (by decide +kernel), List.mem_of_getElem? (i := 1097) (by decide +kernel), List.mem_of_getElem? (i := 1098) (by decide +kernel)⟩
def lw_privs_3 : List (MethodName × Nat) := [(⟨"SmokeGoesTo", "kindsThatFit", "(LSmokeGoesTo$Sheet;II)I"⟩, 9), (⟨"SmokeGoesToModel", "spell", "(IIIIIIIII)V"⟩, 57), (⟨"SmokeGoesToModel", "isSitter", "(I)Z"⟩, 57), (⟨"SmokeGoesToModel", "onPlace", "(II)I"⟩, 57), (⟨"SmokeGoesToModel", "goesTo", "(III)I"⟩, 57), (⟨"SmokeGoesToModel", "getsUp", "(II)Z"⟩, 57), (⟨"SmokeGoesToModel", "read", "(II)I"⟩, 57), (⟨"SmokeGoesToModel", "next", "()V"⟩, 57), (⟨"SmokeGoesToModel", "byteAt", "(I)I"⟩, 57), (⟨"SmokeGoesToModel", "isWord", "(IIIIIIII)Z"⟩, 57), (⟨"SmokeGoesToModel", "isLetter", "(II)Z"⟩, 57), (⟨"SmokeGoesToModel", "part", "(Z)I"⟩, 57), (⟨"SmokeGoesToModel", "fail", "()V"⟩, 57), (⟨"SmokeGoesToModel", "either", "()I"⟩, 57), (⟨"SmokeGoesToModel", "both", "()I"⟩, 57), (⟨"SmokeGoesToModel", "not", "()I"⟩, 57)]
theorem lw_r3 : ∀ q ∈ lw_privs_3, lw_okq q := List.forall_mem_cons.mpr ⟨lw_p32, List.forall_mem_cons.mpr ⟨lw_p33, List.forall_mem_cons.mpr ⟨lw_p34, List.forall_mem_cons.mpr ⟨lw_p35, List.forall_mem_cons.mpr ⟨lw_p36, List.forall_mem_cons.mpr ⟨lw_p37, List.forall_mem_cons.mpr ⟨lw_p38, List.forall_mem_cons.mpr ⟨lw_p39, List.forall_mem_cons.mpr ⟨lw_p40, List.forall_mem_cons.mpr ⟨lw_p41, List.forall_mem_cons.mpr ⟨lw_p42, List.forall_mem_cons.mpr ⟨lw_p43, List.forall_mem_cons.mpr ⟨lw_p44, List.forall_mem_cons.mpr ⟨lw_p45, List.forall_mem_cons.mpr ⟨lw_p46, List.forall_mem_cons.mpr ⟨lw_p47, fun _ h => absurd h List.not_mem_nil⟩⟩⟩⟩⟩⟩⟩⟩⟩⟩⟩⟩⟩⟩⟩⟩
theorem lw_p48 : lw_okq (⟨"SmokeGoesToModel", "opens", "()Z"⟩, 57) := ⟨⟨by decide +kernel, by decide +kernel⟩, List.mem_of_getElem? (i := 824) (by decide +kernel), List.mem_of_getElem? (i := 1101) (by decide +kernel), List.mem_of_getElem? (i := 1102) (by decide +kernel)⟩
theorem lw_p49 : lw_okq (⟨"SmokeGoesToModel", "added", "()I"⟩, 57) := ⟨⟨by decide +kernel, by decide +kernel⟩, List.mem_of_getElem? (i := 824) (by decide +kernel), List.mem_of_getElem? (i := 1105) (by decide +kernel), List.mem_of_getElem? (i := 1106) (by decide +kernel)⟩
theorem lw_p50 : lw_okq (⟨"SmokeGoesToModel", "term", "()I"⟩, 57) := ⟨⟨by decide +kernel, by decide +kernel⟩, List.mem_of_getElem? (i := 824) (by decide +kernel), List.mem_of_getElem? (i := 1109) (by decide +kernel), List.mem_of_getElem? (i := 1110) (by decide +kernel)⟩
theorem lw_p51 : lw_okq (⟨"SmokeGoesToModel", "atom", "()I"⟩, 57) := ⟨⟨by decide +kernel, by decide +kernel⟩, List.mem_of_getElem? (i := 824) (by decide +kernel), List.mem_of_getElem? (i := 1113) (by decide +kernel), List.mem_of_getElem? (i := 1114) (by decide +kernel)⟩
theorem lw_p52 : lw_okq (⟨"SmokeGoesToModel", "isSign", "(I)Z"⟩, 57) := ⟨⟨by decide +kernel, by decide +kernel⟩, List.mem_of_getElem? (i := 824) (by decide +kernel), List.mem_of_getElem? (i := 1117) (by decide +kernel), List.mem_of_getElem? (i := 1118) (by decide +kernel)⟩
theorem lw_p53 : lw_okq (⟨"SmokeGoesToModel", "name", "()I"⟩, 57) := ⟨⟨by decide +kernel, by decide +kernel⟩, List.mem_of_getElem? (i := 824) (by decide +kernel), List.mem_of_getElem? (i := 1121) (by decide +kernel), List.mem_of_getElem? (i := 1122) (by decide +kernel)⟩
theorem lw_p54 : lw_okq (⟨"SmokeGoesToModel", "layAside", "()V"⟩, 57) := ⟨⟨by decide +kernel, by decide +kernel⟩, List.mem_of_getElem? (i := 824) (by decide +kernel), List.mem_of_getElem? (i := 1140) (by decide +kernel), List.mem_of_getElem? (i := 1141) (by decide +kernel)⟩
theorem lw_p55 : lw_okq (⟨"SmokeGoesToModel", "nights", "(I)V"⟩, 57) := ⟨⟨by decide +kernel, by decide +kernel⟩, List.mem_of_getElem? (i := 824) (by decide +kernel), List.mem_of_getElem? (i := 1144) (by decide +kernel), List.mem_of_getElem? (i := 1145) (by decide +kernel)⟩
theorem lw_p56 : lw_okq (⟨"SmokeGoesToModel", "begins", "()V"⟩, 57) := ⟨⟨by decide +kernel, by decide +kernel⟩, List.mem_of_getElem? (i := 824) (by decide +kernel), List.mem_of_getElem? (i := 1148) (by decide +kernel), List.mem_of_getElem? (i := 1149) (by decide +kernel)⟩
theorem lw_p57 : lw_okq (⟨"SmokeGoesToModel", "passes", "(II)V"⟩, 57) := ⟨⟨by decide +kernel, by decide +kernel⟩, List.mem_of_getElem? (i := 824) (by decide +kernel), List.mem_of_getElem? (i := 1155) (by decide +kernel), List.mem_of_getElem? (i := 1156) (by decide +kernel)⟩
theorem lw_p58 : lw_okq (⟨"SmokeGoesToModel", "turns", "(I)V"⟩, 57) := ⟨⟨by decide +kernel, by decide +kernel⟩, List.mem_of_getElem? (i := 824) (by decide +kernel), List.mem_of_getElem? (i := 1159) (by decide +kernel), List.mem_of_getElem? (i := 1160) (by decide +kernel)⟩
theorem lw_p59 : lw_okq (⟨"SmokeGoesToModel", "bearsOf", "(III)I"⟩, 57) := ⟨⟨by decide +kernel, by decide +kernel⟩, List.mem_of_getElem? (i := 824) (by decide +kernel), List.mem_of_getElem? (i := 1163) (by decide +kernel), List.mem_of_getElem? (i := 1164) (by decide +kernel)⟩
theorem lw_p60 : lw_okq (⟨"SmokeGoesToModel", "says", "(IIII)I"⟩, 57) := ⟨⟨by decide +kernel, by decide +kernel⟩, List.mem_of_getElem? (i := 824) (by decide +kernel), List.mem_of_getElem? (i := 1167) (by decide +kernel), List.mem_of_getElem? (i := 1168) (by decide +kernel)⟩
theorem lw_p61 : lw_okq (⟨"SmokeGoesToModel", "firstFree", "(II)I"⟩, 57) := ⟨⟨by decide +kernel, by decide +kernel⟩, List.mem_of_getElem? (i := 824) (by decide +kernel), List.mem_of_getElem? (i := 1174) (by decide +kernel), List.mem_of_getElem? (i := 1175) (by decide +kernel)⟩
theorem lw_p62 : lw_okq (⟨"SmokeGoesToModel", "sumOf", "([I)I"⟩, 57) := ⟨⟨by decide +kernel, by decide +kernel⟩, List.mem_of_getElem? (i := 824) (by decide +kernel), List.mem_of_getElem? (i := 1178) (by decide +kernel), List.mem_of_getElem? (i := 1179) (by decide +kernel)⟩
theorem lw_p63 : lw_okq (⟨"SmokeGoesToModel", "takeBack", "()V"⟩, 57) := ⟨⟨by decide +kernel, by decide +kernel⟩, List.mem_of_getElem? (i := 824) (by decide +kernel), List.mem_of_getElem? (i := 1182) (by decide +kernel), List.mem_of_getElem? (i := 1183) (by decide +kernel)⟩
def lw_privs_4 : List (MethodName × Nat) := [(⟨"SmokeGoesToModel", "opens", "()Z"⟩, 57), (⟨"SmokeGoesToModel", "added", "()I"⟩, 57), (⟨"SmokeGoesToModel", "term", "()I"⟩, 57), (⟨"SmokeGoesToModel", "atom", "()I"⟩, 57), (⟨"SmokeGoesToModel", "isSign", "(I)Z"⟩, 57), (⟨"SmokeGoesToModel", "name", "()I"⟩, 57), (⟨"SmokeGoesToModel", "layAside", "()V"⟩, 57), (⟨"SmokeGoesToModel", "nights", "(I)V"⟩, 57), (⟨"SmokeGoesToModel", "begins", "()V"⟩, 57), (⟨"SmokeGoesToModel", "passes", "(II)V"⟩, 57), (⟨"SmokeGoesToModel", "turns", "(I)V"⟩, 57), (⟨"SmokeGoesToModel", "bearsOf", "(III)I"⟩, 57), (⟨"SmokeGoesToModel", "says", "(IIII)I"⟩, 57), (⟨"SmokeGoesToModel", "firstFree", "(II)I"⟩, 57), (⟨"SmokeGoesToModel", "sumOf", "([I)I"⟩, 57), (⟨"SmokeGoesToModel", "takeBack", "()V"⟩, 57)]
theorem lw_r4 : ∀ q ∈ lw_privs_4, lw_okq q := List.forall_mem_cons.mpr ⟨lw_p48, List.forall_mem_cons.mpr ⟨lw_p49, List.forall_mem_cons.mpr ⟨lw_p50, List.forall_mem_cons.mpr ⟨lw_p51, List.forall_mem_cons.mpr ⟨lw_p52, List.forall_mem_cons.mpr ⟨lw_p53, List.forall_mem_cons.mpr ⟨lw_p54, List.forall_mem_cons.mpr ⟨lw_p55, List.forall_mem_cons.mpr ⟨lw_p56, List.forall_mem_cons.mpr ⟨lw_p57, List.forall_mem_cons.mpr ⟨lw_p58, List.forall_mem_cons.mpr ⟨lw_p59, List.forall_mem_cons.mpr ⟨lw_p60, List.forall_mem_cons.mpr ⟨lw_p61, List.forall_mem_cons.mpr ⟨lw_p62, List.forall_mem_cons.mpr ⟨lw_p63, fun _ h => absurd h List.not_mem_nil⟩⟩⟩⟩⟩⟩⟩⟩⟩⟩⟩⟩⟩⟩⟩⟩
theorem lw_p64 : lw_okq (⟨"SmokeGoesToModel", "spreads", "(I)V"⟩, 57) := ⟨⟨by decide +kernel, by decide +kernel⟩, List.mem_of_getElem? (i := 824) (by decide +kernel), List.mem_of_getElem? (i := 1196) (by decide +kernel), List.mem_of_getElem? (i := 1197) (by decide +kernel)⟩
theorem lw_p65 : lw_okq (⟨"SmokeGoesToModel", "seatsFrom", "(IIJ)V"⟩, 57) := ⟨⟨by decide +kernel, by decide +kernel⟩, List.mem_of_getElem? (i := 824) (by decide +kernel), List.mem_of_getElem? (i := 1216) (by decide +kernel), List.mem_of_getElem? (i := 1217) (by decide +kernel)⟩
theorem lw_p66 : lw_okq (⟨"SmokeGoesToModel", "costOf", "(I)I"⟩, 57) := ⟨⟨by decide +kernel, by decide +kernel⟩, List.mem_of_getElem? (i := 824) (by decide +kernel), List.mem_of_getElem? (i := 1224) (by decide +kernel), List.mem_of_getElem? (i := 1225) (by decide +kernel)⟩
theorem lw_p67 : lw_okq (⟨"SmokeGoesToModel", "rowsOf", "(II)V"⟩, 57) := ⟨⟨by decide +kernel, by decide +kernel⟩, List.mem_of_getElem? (i := 824) (by decide +kernel), List.mem_of_getElem? (i := 1243) (by decide +kernel), List.mem_of_getElem? (i := 1244) (by decide +kernel)⟩
theorem lw_p68 : lw_okq (⟨"SmokeGoesToModel", "draws", "(I)I"⟩, 57) := ⟨⟨by decide +kernel, by decide +kernel⟩, List.mem_of_getElem? (i := 824) (by decide +kernel), List.mem_of_getElem? (i := 1260) (by decide +kernel), List.mem_of_getElem? (i := 1261) (by decide +kernel)⟩
def lw_privs_5 : List (MethodName × Nat) := [(⟨"SmokeGoesToModel", "spreads", "(I)V"⟩, 57), (⟨"SmokeGoesToModel", "seatsFrom", "(IIJ)V"⟩, 57), (⟨"SmokeGoesToModel", "costOf", "(I)I"⟩, 57), (⟨"SmokeGoesToModel", "rowsOf", "(II)V"⟩, 57), (⟨"SmokeGoesToModel", "draws", "(I)I"⟩, 57)]
theorem lw_r5 : ∀ q ∈ lw_privs_5, lw_okq q := List.forall_mem_cons.mpr ⟨lw_p64, List.forall_mem_cons.mpr ⟨lw_p65, List.forall_mem_cons.mpr ⟨lw_p66, List.forall_mem_cons.mpr ⟨lw_p67, List.forall_mem_cons.mpr ⟨lw_p68, fun _ h => absurd h List.not_mem_nil⟩⟩⟩⟩⟩
def lw_privs : List (MethodName × Nat) := lw_privs_1 ++ (lw_privs_2 ++ (lw_privs_3 ++ (lw_privs_4 ++ (lw_privs_5))))
def lw_tbl : List Cond := k2_sels lw_privs ++ tables_1
theorem lw_privs_ok : ∀ q ∈ lw_privs, lw_okq q := by
  show ∀ q ∈ lw_privs_1 ++ (lw_privs_2 ++ (lw_privs_3 ++ (lw_privs_4 ++ (lw_privs_5)))), lw_okq q
  exact List.forall_mem_append.mpr ⟨lw_r1, List.forall_mem_append.mpr ⟨lw_r2, List.forall_mem_append.mpr ⟨lw_r3, List.forall_mem_append.mpr ⟨lw_r4, lw_r5⟩⟩⟩⟩
end
section
/-! THE FRAME: one judgement over an abstract state of cells and slots; a row an instruction -/
def sm_G : List Cond := lw_tbl.filter goodWord
theorem sm_gin {w : Cond} (h : w ∈ lw_tbl) (hg : goodWord w = true) : w ∈ sm_G := List.mem_filter.mpr ⟨h, hg⟩
theorem sm_good : GoodIn sm_G sm_G := fun w h => ⟨h, good_of_word (List.mem_filter.mp h).2⟩
abbrev sm_St : Type := (Nat → Nat → Int32) × (Nat → Nat → Int64) × (Nat → Nat → Option Nat)
def sm_sI (σ : sm_St) (k j : Nat) (v : Int32) : sm_St := (va_up σ.1 k (upd (σ.1 k) j v), σ.2.1, σ.2.2)
def sm_sL (σ : sm_St) (k j : Nat) (v : Int64) : sm_St := (σ.1, va_up σ.2.1 k (vp_updL (σ.2.1 k) j v), σ.2.2)
def sm_sR (σ : sm_St) (k j : Nat) (v : Option Nat) : sm_St := (σ.1, σ.2.1, va_up σ.2.2 k (va_up (σ.2.2 k) j v))
def sm_cI (σ : sm_St) (k k1 sp dp n : Nat) : sm_St := (va_up σ.1 k1 (va_cpy (σ.1 k) (σ.1 k1) sp dp n), σ.2.1, σ.2.2)
def sm_cL (σ : sm_St) (k k1 sp dp n : Nat) : sm_St := (σ.1, va_up σ.2.1 k1 (va_cpy (σ.2.1 k) (σ.2.1 k1) sp dp n), σ.2.2)
/-- pure words: a bound value, a guard, a call -/
def sm_b {α β : Type} (a : α) (f : α → Option β) : Option β := f a
def sm_g {β : Type} (b : Bool) (x : Option β) : Option β := match b with
  | true => x
  | false => none
def sm_c {α β : Type} (x : Option (α × sm_St)) (f : α → sm_St → Option β) : Option β := match x with
  | some q => f q.1 q.2
  | none => none
def sm_o {β : Type} (x : Option Nat) (f : Nat → Option β) : Option β := match x with
  | some q => f q
  | none => none
def sm_in (i : Int32) (n : Nat) : Bool := decide (¬ (i < 0 ∨ n ≤ i.toNatClampNeg))
theorem sm_inE {i : Int32} {n : Nat} (h : sm_in i n = true) : vp_in i n := of_decide_eq_true (p := ¬ (i < 0 ∨ n ≤ i.toNatClampNeg)) h
theorem sm_gE {β : Type} {b : Bool} {x : Option β} {r : β} (h : sm_g b x = some r) : b = true ∧ x = some r := by
  cases b with
  | true => exact ⟨rfl, h⟩
  | false => cases h
theorem sm_cE {α β : Type} {x : Option (α × sm_St)} {f : α → sm_St → Option β} {r : β} (h : sm_c x f = some r) : ∃ a σ, x = some (a, σ) ∧ f a σ = some r := by
  cases x with
  | none => cases h
  | some q => exact ⟨q.1, q.2, rfl, h⟩
theorem sm_oE {β : Type} {x : Option Nat} {f : Nat → Option β} {r : β} (h : sm_o x f = some r) : ∃ a, x = some a ∧ f a = some r := by
  cases x with
  | none => cases h
  | some q => exact ⟨q, rfl, h⟩
abbrev sm_Sh : Type := Nat → (Nat → Int32) → (Nat → Int64) → (Nat → Option Nat) → va_E
/-- a world: classes' numbers, classes, array classes, shapes, addresses, how many; the String constants' addresses; where the law began -/
abbrev sm_WD : Type := va_G × List vw_C × List (ClassId × FieldType) × sm_Sh × (Nat → Nat) × Nat × (Nat → Nat) × (Nat → Nat) × Nat
def sm_D (w : sm_WD) : va_G := w.1
def sm_cl (w : sm_WD) : List vw_C := w.2.1
def sm_ty (w : sm_WD) : List (ClassId × FieldType) := w.2.2.1
def sm_sh (w : sm_WD) : sm_Sh := w.2.2.2.1
def sm_ad (w : sm_WD) : Nat → Nat := w.2.2.2.2.1
def sm_N (w : sm_WD) : Nat := w.2.2.2.2.2.1
def sm_aK (w : sm_WD) : Nat → Nat := w.2.2.2.2.2.2.1
def sm_aV (w : sm_WD) : Nat → Nat := w.2.2.2.2.2.2.2.1
def sm_z (w : sm_WD) : Nat := w.2.2.2.2.2.2.2.2
def sm_wd (w : sm_WD) (σ : sm_St) : va_W := (List.range (sm_N w)).map fun k => (sm_ad w k, sm_sh w k (σ.1 k) (σ.2.1 k) (σ.2.2 k))
theorem sm_at {w : sm_WD} {σ : sm_St} {k : Nat} (h : k < sm_N w) : (sm_wd w σ)[k]? = some (sm_ad w k, sm_sh w k (σ.1 k) (σ.2.1 k) (σ.2.2 k)) := by
  simp [sm_wd, List.getElem?_range h]
theorem sm_set {w : sm_WD} {σ σ' : sm_St} {k : Nat} {e : va_E} (h : k < sm_N w) (he : sm_sh w k (σ'.1 k) (σ'.2.1 k) (σ'.2.2 k) = e) (ho : ∀ j, j ≠ k → σ'.1 j = σ.1 j ∧ σ'.2.1 j = σ.2.1 j ∧ σ'.2.2 j = σ.2.2 j) : (sm_wd w σ).set k (sm_ad w k, e) = sm_wd w σ' := by
  refine List.ext_getElem? fun i => ?_
  by_cases hi : i = k
  · subst hi
    rw [List.getElem?_set_self (by simp [sm_wd]; exact h), sm_at h, he]
  · rw [List.getElem?_set_ne (Ne.symm hi)]
    obtain ⟨h1, h2, h3⟩ := ho i hi
    by_cases hl : i < sm_N w
    · rw [sm_at hl, sm_at hl, h1, h2, h3]
    · rw [List.getElem?_eq_none (by simp [sm_wd]; omega), List.getElem?_eq_none (by simp [sm_wd]; omega)]
theorem sm_sIo {σ : sm_St} {k j : Nat} {v : Int32} : ∀ i, i ≠ k → (sm_sI σ k j v).1 i = σ.1 i ∧ (sm_sI σ k j v).2.1 i = σ.2.1 i ∧ (sm_sI σ k j v).2.2 i = σ.2.2 i := fun i hi => ⟨by simp [sm_sI, va_up, hi], rfl, rfl⟩
theorem sm_sLo {σ : sm_St} {k j : Nat} {v : Int64} : ∀ i, i ≠ k → (sm_sL σ k j v).1 i = σ.1 i ∧ (sm_sL σ k j v).2.1 i = σ.2.1 i ∧ (sm_sL σ k j v).2.2 i = σ.2.2 i := fun i hi => ⟨rfl, by simp [sm_sL, va_up, hi], rfl⟩
theorem sm_sRo {σ : sm_St} {k j : Nat} {v : Option Nat} : ∀ i, i ≠ k → (sm_sR σ k j v).1 i = σ.1 i ∧ (sm_sR σ k j v).2.1 i = σ.2.1 i ∧ (sm_sR σ k j v).2.2 i = σ.2.2 i := fun i hi => ⟨rfl, rfl, by simp [sm_sR, va_up, hi]⟩
theorem sm_cIo {σ : sm_St} {k k1 a b n : Nat} : ∀ i, i ≠ k1 → (sm_cI σ k k1 a b n).1 i = σ.1 i ∧ (sm_cI σ k k1 a b n).2.1 i = σ.2.1 i ∧ (sm_cI σ k k1 a b n).2.2 i = σ.2.2 i := fun i hi => ⟨by simp [sm_cI, va_up, hi], rfl, rfl⟩
theorem sm_cLo {σ : sm_St} {k k1 a b n : Nat} : ∀ i, i ≠ k1 → (sm_cL σ k k1 a b n).1 i = σ.1 i ∧ (sm_cL σ k k1 a b n).2.1 i = σ.2.1 i ∧ (sm_cL σ k k1 a b n).2.2 i = σ.2.2 i := fun i hi => ⟨rfl, by simp [sm_cL, va_up, hi], rfl⟩
theorem sm_sIk {σ : sm_St} {k j : Nat} {v : Int32} : (sm_sI σ k j v).1 k = upd (σ.1 k) j v ∧ (sm_sI σ k j v).2.1 k = σ.2.1 k ∧ (sm_sI σ k j v).2.2 k = σ.2.2 k := ⟨by simp [sm_sI, va_up], rfl, rfl⟩
theorem sm_sLk {σ : sm_St} {k j : Nat} {v : Int64} : (sm_sL σ k j v).1 k = σ.1 k ∧ (sm_sL σ k j v).2.1 k = vp_updL (σ.2.1 k) j v ∧ (sm_sL σ k j v).2.2 k = σ.2.2 k := ⟨rfl, by simp [sm_sL, va_up], rfl⟩
theorem sm_sRk {σ : sm_St} {k j : Nat} {v : Option Nat} : (sm_sR σ k j v).1 k = σ.1 k ∧ (sm_sR σ k j v).2.1 k = σ.2.1 k ∧ (sm_sR σ k j v).2.2 k = va_up (σ.2.2 k) j v := ⟨rfl, rfl, by simp [sm_sR, va_up]⟩
theorem sm_cIk {σ : sm_St} {k k1 a b n : Nat} : (sm_cI σ k k1 a b n).1 k1 = va_cpy (σ.1 k) (σ.1 k1) a b n ∧ (sm_cI σ k k1 a b n).2.1 k1 = σ.2.1 k1 ∧ (sm_cI σ k k1 a b n).2.2 k1 = σ.2.2 k1 := ⟨by simp [sm_cI, va_up], rfl, rfl⟩
theorem sm_cLk {σ : sm_St} {k k1 a b n : Nat} : (sm_cL σ k k1 a b n).1 k1 = σ.1 k1 ∧ (sm_cL σ k k1 a b n).2.1 k1 = va_cpy (σ.2.1 k) (σ.2.1 k1) a b n ∧ (sm_cL σ k k1 a b n).2.2 k1 = σ.2.2 k1 := ⟨rfl, by simp [sm_cL, va_up], rfl⟩
/-- the String constants, the two statics that are read -/
def sm_len : List Nat := [35, 72, 8]
def sm_byt : List (List Int32) := [[98, 101, 97, 114, 115, 32, 53, 32, 43, 32, 108, 111, 110, 103, 32, 59, 32, 109, 111, 118, 101, 115, 32, 51, 32, 59, 32, 104, 101, 97, 116, 32, 48, 32, 59], [112, 108, 97, 99, 101, 32, 115, 109, 111, 107, 101, 32, 109, 105, 110, 117, 116, 101, 108, 111, 110, 103, 32, 32, 110, 117, 109, 98, 101, 114, 115, 105, 116, 116, 101, 114, 98, 101, 97, 114, 115, 32, 109, 111, 118, 101, 115, 32, 104, 101, 97, 116, 32, 32, 111, 114, 32, 32, 32, 32, 97, 110, 100, 32, 32, 32, 110, 111, 116, 32, 32, 32], [40, 41, 59, 43, 45, 42, 60, 61]]
def sm_tx (i : Nat) : String × Nat × String := match i with
  | 0 => ("SmokeGoesTo", 62, "bears 5 + long ; moves 3 ; heat 0 ;")
  | 1 => ("SmokeGoesTo$Reader", 101, "place smoke minutelong  numbersitterbears moves heat  or    and   not   ")
  | _ => ("SmokeGoesTo$Reader", 90, "();+-*<=")
def sm_Str (w : sm_WD) (U : State) (H : Heap) : Prop := vk_S 3 sm_len sm_byt (sm_aK w) (sm_aV w) (fun q => sm_z w ≤ q) U H ∧ va_Z "java/lang/String" "COMPACT_STRINGS" "Z" (.int 1) (fun q => sm_z w ≤ q) U H ∧ va_Zq "jdk/internal/util/Preconditions" "SIOOBE_FORMATTER" "Ljava/util/function/BiFunction;" (fun q => sm_z w ≤ q) U H ∧ ∀ i, i < 3 → vk_R (sm_tx i).1 (sm_tx i).2.1 (sm_tx i).2.2 (sm_aK w i) U
theorem sm_Str.kept {w : sm_WD} {U : State} {H H1 : Heap} (h : sm_Str w U H) (hq : ∀ a : Nat, a < H.size → ¬ sm_z w ≤ a → H1[a]? = H[a]?) : sm_Str w U H1 := ⟨h.1.kept hq, h.2.1.kept hq, h.2.2.1.kept hq, h.2.2.2⟩
theorem sm_Str.warm {w : sm_WD} {s U : State} {H : Heap} (hW : s.WarmedH U.vm) (h : sm_Str w s H) : sm_Str w U H := ⟨h.1.moved hW.alike, h.2.1.moved hW.alike, h.2.2.1.moved hW.alike, fun i hi => (h.2.2.2 i hi).warm hW⟩
theorem sm_Str.same {w : sm_WD} {s U : State} {H : Heap} (hv : U.vm = s.vm) (h : sm_Str w s H) : sm_Str w U H := ⟨h.1.moved (by rw [hv]; exact Vm.Alike.refl _), h.2.1.moved (by rw [hv]; exact Vm.Alike.refl _), h.2.2.1.moved (by rw [hv]; exact Vm.Alike.refl _), fun i hi => vk_R.same hv (h.2.2.2 i hi)⟩
def sm_Inj (w : sm_WD) (sz : Nat) : Prop := (∀ i j, i < sm_N w → j < sm_N w → sm_ad w i = sm_ad w j → i = j) ∧ (∀ k, k < sm_N w → sm_z w ≤ sm_ad w k) ∧ sm_z w ≤ sz
def sm_A (w : sm_WD) (sz : Nat) : Nat → Prop := fun q => (∃ k, k < sm_N w ∧ q = sm_ad w k) ∨ sz ≤ q
def sm_Pre (w : sm_WD) (σ : sm_St) (U : State) : Prop := va_P (sm_D w) (sm_cl w) (sm_wd w σ) U.heap ∧ va_K (sm_D w) (sm_cl w) (sm_ty w) U ∧ sm_Inj w U.heap.size ∧ sm_Str w U U.heap
theorem sm_wdi {w : sm_WD} {σ : sm_St} {i : Nat} {q : Nat × va_E} (h : (sm_wd w σ)[i]? = some q) : i < sm_N w ∧ q.1 = sm_ad w i := by
  have hl : i < sm_N w := by
    have := (List.getElem?_eq_some_iff.mp h).1
    simpa [sm_wd] using this
  rw [sm_at hl] at h
  cases h
  exact ⟨hl, rfl⟩
theorem sm_Dis {w : sm_WD} {σ : sm_St} {sz : Nat} {A : Nat → Prop} (h : sm_Inj w sz) (hA : ∀ k, k < sm_N w → A (sm_ad w k)) : va_D A (sm_wd w σ) := by
  refine ⟨fun i j p q hi hj hpq => ?_, fun k q hk => ?_⟩
  · obtain ⟨h1, e1⟩ := sm_wdi hi
    obtain ⟨h2, e2⟩ := sm_wdi hj
    exact h.1 i j h1 h2 (by rw [← e1, ← e2]; exact hpq)
  · obtain ⟨h1, e1⟩ := sm_wdi hk
    rw [e1]; exact hA k h1
/-- what is fixed in one run of a method -/
abbrev sm_VC : Type := Program × Launch × Env × Room × State × MethodId × Array Value × List Frame × Method × Code × sm_WD × (Nat → Prop) × Nat × Nat
def sm_p (X : sm_VC) : Program := X.1
def sm_l (X : sm_VC) : Launch := X.2.1
def sm_e (X : sm_VC) : Env := X.2.2.1
def sm_R (X : sm_VC) : Room := X.2.2.2.1
def sm_s (X : sm_VC) : State := X.2.2.2.2.1
def sm_m (X : sm_VC) : MethodId := X.2.2.2.2.2.1
def sm_as (X : sm_VC) : Array Value := X.2.2.2.2.2.2.1
def sm_be (X : sm_VC) : List Frame := X.2.2.2.2.2.2.2.1
def sm_me (X : sm_VC) : Method := X.2.2.2.2.2.2.2.2.1
def sm_co (X : sm_VC) : Code := X.2.2.2.2.2.2.2.2.2.1
def sm_w (X : sm_VC) : sm_WD := X.2.2.2.2.2.2.2.2.2.2.1
def sm_fA (X : sm_VC) : Nat → Prop := X.2.2.2.2.2.2.2.2.2.2.2.1
def sm_cs (X : sm_VC) : Nat := X.2.2.2.2.2.2.2.2.2.2.2.2.1
def sm_sl (X : sm_VC) : Nat := X.2.2.2.2.2.2.2.2.2.2.2.2.2
def sm_W (X : sm_VC) (H : Heap) (locs : List Loc) (Q : State → Prop) (g : JFrame) : Prop := W (sm_p X) (sm_l X) (sm_e X) (sm_R X) (sm_s X) (sm_m X) (sm_as X) (sm_be X) (sm_me X) (sm_co X) H locs (sm_cs X) (sm_sl X) Q g
/-- THE JUDGEMENT: from the abstract state σ, at pc, with these locals and this stack, the run comes to Q -/
def sm_V (X : sm_VC) (Q : State → Prop) (nL : Nat) (σ : sm_St) (pc : Nat) (lv : List (Nat × Value)) (st : List Value) : Prop :=
  ∀ (H : Heap) (locs : List Loc) (ls : Array Slot), va_P (sm_D (sm_w X)) (sm_cl (sm_w X)) (sm_wd (sm_w X) σ) H → va_S (sm_fA X) (sm_s X).heap H locs → lv_has ls nL lv → sm_W X H locs Q (F0 (sm_m X) pc ls st)
def sm_Cx (X : sm_VC) (cc : ByteArray) (nL : Nat) (own : String) (fr lo : Nat) (ret : Option FieldType) : Prop :=
  (sm_p X).tables.exec = Jvm.exec ∧ (sm_co X).code = cc ∧ (sm_co X).maxLocals = nL ∧ (sm_s X).vm.findClass own = some (sm_m X).cls ∧ (∀ w ∈ sm_G, w.before (sm_as X) (sm_s X) = true) ∧ va_K (sm_D (sm_w X)) (sm_cl (sm_w X)) (sm_ty (sm_w X)) (sm_s X) ∧ sm_Inj (sm_w X) (sm_s X).heap.size ∧ (∀ q, sm_A (sm_w X) (sm_s X).heap.size q → sm_fA X q) ∧ (∀ q, sm_fA X q → sm_z (sm_w X) ≤ q) ∧ (sm_me X).locks = false ∧ (sm_me X).sig.returnType = ret ∧ ((fr ≤ (sm_R X).frames ∧ lo ≤ (sm_R X).locals) ∧ sm_cs X ≤ (sm_R X).cells ∧ sm_sl X ≤ (sm_R X).slots) ∧ sm_Str (sm_w X) (sm_s X) (sm_s X).heap
section
variable {X : sm_VC} {cc : ByteArray} {nL : Nat} {own : String} {fr lo : Nat} {ret : Option FieldType}
theorem sm_Cx.hx (C : sm_Cx X cc nL own fr lo ret) : (sm_p X).tables.exec = Jvm.exec := C.1
theorem sm_Cx.hb (C : sm_Cx X cc nL own fr lo ret) : (sm_co X).code = cc := C.2.1
theorem sm_Cx.hml (C : sm_Cx X cc nL own fr lo ret) : (sm_co X).maxLocals = nL := C.2.2.1
theorem sm_Cx.hown (C : sm_Cx X cc nL own fr lo ret) : (sm_s X).vm.findClass own = some (sm_m X).cls := C.2.2.2.1
theorem sm_Cx.hts (C : sm_Cx X cc nL own fr lo ret) : ∀ w ∈ sm_G, w.before (sm_as X) (sm_s X) = true := C.2.2.2.2.1
theorem sm_Cx.hK (C : sm_Cx X cc nL own fr lo ret) : va_K (sm_D (sm_w X)) (sm_cl (sm_w X)) (sm_ty (sm_w X)) (sm_s X) := C.2.2.2.2.2.1
theorem sm_Cx.hI (C : sm_Cx X cc nL own fr lo ret) : sm_Inj (sm_w X) (sm_s X).heap.size := C.2.2.2.2.2.2.1
theorem sm_Cx.hA (C : sm_Cx X cc nL own fr lo ret) : ∀ q, sm_A (sm_w X) (sm_s X).heap.size q → sm_fA X q := C.2.2.2.2.2.2.2.1
theorem sm_Cx.hz (C : sm_Cx X cc nL own fr lo ret) : ∀ q, sm_fA X q → sm_z (sm_w X) ≤ q := C.2.2.2.2.2.2.2.2.1
theorem sm_Cx.hlk (C : sm_Cx X cc nL own fr lo ret) : (sm_me X).locks = false := C.2.2.2.2.2.2.2.2.2.1
theorem sm_Cx.hr (C : sm_Cx X cc nL own fr lo ret) : (sm_me X).sig.returnType = ret := C.2.2.2.2.2.2.2.2.2.2.1
theorem sm_Cx.hR (C : sm_Cx X cc nL own fr lo ret) : fr ≤ (sm_R X).frames ∧ lo ≤ (sm_R X).locals := C.2.2.2.2.2.2.2.2.2.2.2.1.1
theorem sm_Cx.hcs (C : sm_Cx X cc nL own fr lo ret) : sm_cs X ≤ (sm_R X).cells ∧ sm_sl X ≤ (sm_R X).slots := C.2.2.2.2.2.2.2.2.2.2.2.1.2
theorem sm_Cx.hT (C : sm_Cx X cc nL own fr lo ret) : sm_Str (sm_w X) (sm_s X) (sm_s X).heap := C.2.2.2.2.2.2.2.2.2.2.2.2
theorem sm_Cx.hAk (C : sm_Cx X cc nL own fr lo ret) : ∀ k, k < sm_N (sm_w X) → sm_fA X (sm_ad (sm_w X) k) := fun k h => C.hA _ (Or.inl ⟨k, h, rfl⟩)
theorem sm_Cx.hAz (C : sm_Cx X cc nL own fr lo ret) : ∀ q, (sm_s X).heap.size ≤ q → sm_fA X q := fun q h => C.hA _ (Or.inr h)
theorem sm_Cx.hD (C : sm_Cx X cc nL own fr lo ret) {σ : sm_St} : va_D (sm_fA X) (sm_wd (sm_w X) σ) := sm_Dis C.hI C.hAk
theorem sm_Cx.hTA (C : sm_Cx X cc nL own fr lo ret) : vk_S 3 sm_len sm_byt (sm_aK (sm_w X)) (sm_aV (sm_w X)) (sm_fA X) (sm_s X) (sm_s X).heap := C.hT.1.narrow C.hz
end
end
section
/-! THE ROWS: an instruction over the judgement sm_V; the pure word's value h says where it goes -/
section
variable {X : sm_VC} {cc : ByteArray} {nL : Nat} {own : String} {fr lo : Nat} {ret : Option FieldType} {Q : State → Prop} {σ : sm_St} {pc : Nat} {lv : List (Nat × Value)} {st : List Value} {β : Type} {z : β}
theorem sm_sub {lv' : List (Nat × Value)} (ks : List Nat) (hl : lv_pick lv ks = lv') (kk : sm_V X Q nL σ pc lv' st) : sm_V X Q nL σ pc lv st := fun H locs ls hP hS hL => kk H locs ls hP hS (lv_sub hL ks hl)
theorem sm_iconst (C : sm_Cx X cc nL own fr lo ret) {n : Int} {v : Int32} (hd : decode cc pc = .ok (.iconst n, 1)) (hv : Int32.ofInt n = v) (kk : sm_V X Q nL σ (pc + 1) lv (.int v :: st)) : sm_V X Q nL σ pc lv st := by
  intro H locs ls hP hS hL
  exact lv_iconst C.hx C.hb hd hv (kk H locs ls hP hS hL)
theorem sm_bipush (C : sm_Cx X cc nL own fr lo ret) {n : Int} {v : Int32} (hd : decode cc pc = .ok (.bipush n, 2)) (hv : (Int8.ofInt n).toInt32 = v) (kk : sm_V X Q nL σ (pc + 2) lv (.int v :: st)) : sm_V X Q nL σ pc lv st := by
  intro H locs ls hP hS hL
  exact lv_bipush C.hx C.hb hd hv (kk H locs ls hP hS hL)
theorem sm_sipush (C : sm_Cx X cc nL own fr lo ret) {n : Int} {v : Int32} (hd : decode cc pc = .ok (.sipush n, 3)) (hv : (Int16.ofInt n).toInt32 = v) (kk : sm_V X Q nL σ (pc + 3) lv (.int v :: st)) : sm_V X Q nL σ pc lv st := by
  intro H locs ls hP hS hL
  exact lv_sipush C.hx C.hb hd hv (kk H locs ls hP hS hL)
theorem sm_lconst (C : sm_Cx X cc nL own fr lo ret) {n : Fin 2} {v : Int64} (hd : decode cc pc = .ok (.lconst n, 1)) (hv : Int64.ofNat (n : Nat) = v) (kk : sm_V X Q nL σ (pc + 1) lv (.long v :: st)) : sm_V X Q nL σ pc lv st := by
  intro H locs ls hP hS hL
  exact lv_lconst C.hx C.hb hd hv (kk H locs ls hP hS hL)
theorem sm_ldc (C : sm_Cx X cc nL own fr lo ret) {ix : Nat} {v : Int32} (hc : Cond.constant own ix v ∈ sm_G) (hd : decode cc pc = .ok (.ldc ix, 2)) (kk : sm_V X Q nL σ (pc + 2) lv (.int v :: st)) : sm_V X Q nL σ pc lv st := by
  intro H locs ls hP hS hL
  exact lv_ldc C.hx C.hb C.hown (C.hts _ hc) hd (kk H locs ls hP hS hL)
theorem sm_ldc2 (C : sm_Cx X cc nL own fr lo ret) {ix : Nat} {v : Int64} (hc : Cond.constantLong own ix v ∈ sm_G) (hd : decode cc pc = .ok (.ldc2_w ix, 3)) (kk : sm_V X Q nL σ (pc + 3) lv (.long v :: st)) : sm_V X Q nL σ pc lv st := by
  intro H locs ls hP hS hL
  exact lv_ldc2 C.hx C.hb C.hown (C.hts _ hc) hd (kk H locs ls hP hS hL)
theorem sm_null (C : sm_Cx X cc nL own fr lo ret)  (hd : decode cc pc = .ok (.aconst_null, 1)) (kk : sm_V X Q nL σ (pc + 1) lv (.null :: st)) : sm_V X Q nL σ pc lv st := by
  intro H locs ls hP hS hL
  exact lv_null C.hx C.hb hd (kk H locs ls hP hS hL)
theorem sm_ldcS (C : sm_Cx X cc nL own fr lo ret) {ix i : Nat} (hi : i < 3) (ho : (sm_tx i).1 = own) (hj : (sm_tx i).2.1 = ix) (hd : decode cc pc = .ok (.ldc ix, 2)) (kk : sm_V X Q nL σ (pc + 2) lv (.ref (sm_aK (sm_w X) i) :: st)) : sm_V X Q nL σ pc lv st := by
  intro H locs ls hP hS hL
  subst hj
  subst ho
  exact va_ldcS C.hx C.hb C.hown (C.hT.2.2.2 i hi) hd (kk H locs ls hP hS hL)
theorem sm_iload_n (C : sm_Cx X cc nL own fr lo ret) {n : Fin 4} {i : Nat} {x : Int32} (k : Nat) (hd : decode cc pc = .ok (.iload_n n, 1)) (hi : (n : Nat) = i) (hk : lv[k]? = some (i, .int x)) (kk : sm_V X Q nL σ (pc + 1) lv (.int x :: st)) : sm_V X Q nL σ pc lv st := by
  intro H locs ls hP hS hL
  exact lv_iload_n C.hx C.hb hd hi (lv_at hL k hk) (kk H locs ls hP hS hL)
theorem sm_iload (C : sm_Cx X cc nL own fr lo ret) {i : Nat} {x : Int32} (k : Nat) (hd : decode cc pc = .ok (.iload i, 2)) (hk : lv[k]? = some (i, .int x)) (kk : sm_V X Q nL σ (pc + 2) lv (.int x :: st)) : sm_V X Q nL σ pc lv st := by
  intro H locs ls hP hS hL
  exact lv_iload C.hx C.hb hd (lv_at hL k hk) (kk H locs ls hP hS hL)
theorem sm_lload_n (C : sm_Cx X cc nL own fr lo ret) {n : Fin 4} {i : Nat} {x : Int64} (k : Nat) (hd : decode cc pc = .ok (.lload_n n, 1)) (hi : (n : Nat) = i) (hk : lv[k]? = some (i, .long x)) (kk : sm_V X Q nL σ (pc + 1) lv (.long x :: st)) : sm_V X Q nL σ pc lv st := by
  intro H locs ls hP hS hL
  exact lv_lload_n C.hx C.hb hd hi (lv_at hL k hk) (kk H locs ls hP hS hL)
theorem sm_lload (C : sm_Cx X cc nL own fr lo ret) {i : Nat} {x : Int64} (k : Nat) (hd : decode cc pc = .ok (.lload i, 2)) (hk : lv[k]? = some (i, .long x)) (kk : sm_V X Q nL σ (pc + 2) lv (.long x :: st)) : sm_V X Q nL σ pc lv st := by
  intro H locs ls hP hS hL
  exact lv_lload C.hx C.hb hd (lv_at hL k hk) (kk H locs ls hP hS hL)
theorem sm_aload_n (C : sm_Cx X cc nL own fr lo ret) {n : Fin 4} {i : Nat} {x : Nat} (k : Nat) (hd : decode cc pc = .ok (.aload_n n, 1)) (hi : (n : Nat) = i) (hk : lv[k]? = some (i, .ref x)) (kk : sm_V X Q nL σ (pc + 1) lv (.ref x :: st)) : sm_V X Q nL σ pc lv st := by
  intro H locs ls hP hS hL
  exact lv_aload_n C.hx C.hb hd hi (lv_at hL k hk) (kk H locs ls hP hS hL)
theorem sm_aload (C : sm_Cx X cc nL own fr lo ret) {i : Nat} {x : Nat} (k : Nat) (hd : decode cc pc = .ok (.aload i, 2)) (hk : lv[k]? = some (i, .ref x)) (kk : sm_V X Q nL σ (pc + 2) lv (.ref x :: st)) : sm_V X Q nL σ pc lv st := by
  intro H locs ls hP hS hL
  exact lv_aload C.hx C.hb hd (lv_at hL k hk) (kk H locs ls hP hS hL)
theorem sm_aload_nq (C : sm_Cx X cc nL own fr lo ret) {n : Fin 4} {i : Nat} {r : Option Nat} (k : Nat) (hd : decode cc pc = .ok (.aload_n n, 1)) (hi : (n : Nat) = i) (hk : lv[k]? = some (i, va_rf r)) (kk : sm_V X Q nL σ (pc + 1) lv (va_rf r :: st)) : sm_V X Q nL σ pc lv st := by
  intro H locs ls hP hS hL
  cases r with
  | none => exact lv_aload_nN C.hx C.hb hd hi (lv_at hL k hk) (kk H locs ls hP hS hL)
  | some a => exact lv_aload_n C.hx C.hb hd hi (lv_at hL k hk) (kk H locs ls hP hS hL)
theorem sm_aloadq (C : sm_Cx X cc nL own fr lo ret) {i : Nat} {r : Option Nat} (k : Nat) (hd : decode cc pc = .ok (.aload i, 2)) (hk : lv[k]? = some (i, va_rf r)) (kk : sm_V X Q nL σ (pc + 2) lv (va_rf r :: st)) : sm_V X Q nL σ pc lv st := by
  intro H locs ls hP hS hL
  cases r with
  | none => exact lv_aloadN C.hx C.hb hd (lv_at hL k hk) (kk H locs ls hP hS hL)
  | some a => exact lv_aload C.hx C.hb hd (lv_at hL k hk) (kk H locs ls hP hS hL)
theorem sm_istore_n (C : sm_Cx X cc nL own fr lo ret) {n : Fin 4} {i : Nat} {x : Int32} {lv' : List (Nat × Value)} (hd : decode cc pc = .ok (.istore_n n, 1)) (hi : (n : Nat) = i) (hn : i < nL) (hl : (i, Value.int x) :: lv.filter (fun q => !(q.1 == i) && !(q.1 + 1 == i && q.2.category == 2)) = lv') (kk : sm_V X Q nL σ (pc + 1) lv' st) : sm_V X Q nL σ pc lv (.int x :: st) := by
  intro H locs ls hP hS hL
  exact lv_istore_n C.hx C.hb hd hi hL hn hl fun ls hL => kk H locs ls hP hS hL
theorem sm_istore (C : sm_Cx X cc nL own fr lo ret) {i : Nat} {x : Int32} {lv' : List (Nat × Value)} (hd : decode cc pc = .ok (.istore i, 2)) (hn : i < nL) (hl : (i, Value.int x) :: lv.filter (fun q => !(q.1 == i) && !(q.1 + 1 == i && q.2.category == 2)) = lv') (kk : sm_V X Q nL σ (pc + 2) lv' st) : sm_V X Q nL σ pc lv (.int x :: st) := by
  intro H locs ls hP hS hL
  exact lv_istore C.hx C.hb hd hL hn hl fun ls hL => kk H locs ls hP hS hL
theorem sm_lstore_n (C : sm_Cx X cc nL own fr lo ret) {n : Fin 4} {i : Nat} {x : Int64} {lv' : List (Nat × Value)} (hd : decode cc pc = .ok (.lstore_n n, 1)) (hi : (n : Nat) = i) (hn : i + 1 < nL) (hl : (i, Value.long x) :: lv.filter (fun q => !(q.1 == i) && (!(q.1 == i + 1) && !(q.1 + 1 == i && q.2.category == 2))) = lv') (kk : sm_V X Q nL σ (pc + 1) lv' st) : sm_V X Q nL σ pc lv (.long x :: st) := by
  intro H locs ls hP hS hL
  exact lv_lstore_n C.hx C.hb hd hi hL hn hl fun ls hL => kk H locs ls hP hS hL
theorem sm_lstore (C : sm_Cx X cc nL own fr lo ret) {i : Nat} {x : Int64} {lv' : List (Nat × Value)} (hd : decode cc pc = .ok (.lstore i, 2)) (hn : i + 1 < nL) (hl : (i, Value.long x) :: lv.filter (fun q => !(q.1 == i) && (!(q.1 == i + 1) && !(q.1 + 1 == i && q.2.category == 2))) = lv') (kk : sm_V X Q nL σ (pc + 2) lv' st) : sm_V X Q nL σ pc lv (.long x :: st) := by
  intro H locs ls hP hS hL
  exact lv_lstore C.hx C.hb hd hL hn hl fun ls hL => kk H locs ls hP hS hL
theorem sm_astore_n (C : sm_Cx X cc nL own fr lo ret) {n : Fin 4} {i : Nat} {x : Nat} {lv' : List (Nat × Value)} (hd : decode cc pc = .ok (.astore_n n, 1)) (hi : (n : Nat) = i) (hn : i < nL) (hl : (i, Value.ref x) :: lv.filter (fun q => !(q.1 == i) && !(q.1 + 1 == i && q.2.category == 2)) = lv') (kk : sm_V X Q nL σ (pc + 1) lv' st) : sm_V X Q nL σ pc lv (.ref x :: st) := by
  intro H locs ls hP hS hL
  exact lv_astore_n C.hx C.hb hd hi hL hn hl fun ls hL => kk H locs ls hP hS hL
theorem sm_astore (C : sm_Cx X cc nL own fr lo ret) {i : Nat} {x : Nat} {lv' : List (Nat × Value)} (hd : decode cc pc = .ok (.astore i, 2)) (hn : i < nL) (hl : (i, Value.ref x) :: lv.filter (fun q => !(q.1 == i) && !(q.1 + 1 == i && q.2.category == 2)) = lv') (kk : sm_V X Q nL σ (pc + 2) lv' st) : sm_V X Q nL σ pc lv (.ref x :: st) := by
  intro H locs ls hP hS hL
  exact lv_astore C.hx C.hb hd hL hn hl fun ls hL => kk H locs ls hP hS hL
theorem sm_iinc (C : sm_Cx X cc nL own fr lo ret) {i : Nat} {n : Int} {x : Int32} {lv' : Int32 → List (Nat × Value)} {f : Int32 → Option β} (k : Nat) (hd : decode cc pc = .ok (.iinc i n, 3)) (hk : lv[k]? = some (i, .int x)) (hn : i < nL) (hl : ∀ v : Int32, (i, Value.int v) :: lv.filter (fun q => !(q.1 == i) && !(q.1 + 1 == i && q.2.category == 2)) = lv' v) (h : sm_b (x + Int32.ofInt n) f = some z) (kk : ∀ v, f v = some z → sm_V X Q nL σ (pc + 3) (lv' v) st) : sm_V X Q nL σ pc lv st := by
  intro H locs ls hP hS hL
  exact lv_iinc C.hx C.hb hd hL hk rfl hn (hl _) fun ls hL => kk _ h H locs ls hP hS hL
theorem sm_iadd (C : sm_Cx X cc nL own fr lo ret) {x y : Int32} {f : Int32 → Option β} (hd : decode cc pc = .ok (.iadd, 1))  (h : sm_b (x + y) f = some z) (kk : ∀ v, f v = some z → sm_V X Q nL σ (pc + 1) lv (.int v :: st)) : sm_V X Q nL σ pc lv (.int y :: .int x :: st) := by
  intro H locs ls hP hS hL
  exact lv_iadd C.hx C.hb hd  (kk _ h H locs ls hP hS hL)
theorem sm_isub (C : sm_Cx X cc nL own fr lo ret) {x y : Int32} {f : Int32 → Option β} (hd : decode cc pc = .ok (.isub, 1))  (h : sm_b (x - y) f = some z) (kk : ∀ v, f v = some z → sm_V X Q nL σ (pc + 1) lv (.int v :: st)) : sm_V X Q nL σ pc lv (.int y :: .int x :: st) := by
  intro H locs ls hP hS hL
  exact lv_isub C.hx C.hb hd  (kk _ h H locs ls hP hS hL)
theorem sm_imul (C : sm_Cx X cc nL own fr lo ret) {x y : Int32} {f : Int32 → Option β} (hd : decode cc pc = .ok (.imul, 1))  (h : sm_b (x * y) f = some z) (kk : ∀ v, f v = some z → sm_V X Q nL σ (pc + 1) lv (.int v :: st)) : sm_V X Q nL σ pc lv (.int y :: .int x :: st) := by
  intro H locs ls hP hS hL
  exact lv_imul C.hx C.hb hd  (kk _ h H locs ls hP hS hL)
theorem sm_iand (C : sm_Cx X cc nL own fr lo ret) {x y : Int32} {f : Int32 → Option β} (hd : decode cc pc = .ok (.iand, 1))  (h : sm_b (x &&& y) f = some z) (kk : ∀ v, f v = some z → sm_V X Q nL σ (pc + 1) lv (.int v :: st)) : sm_V X Q nL σ pc lv (.int y :: .int x :: st) := by
  intro H locs ls hP hS hL
  exact lv_iand C.hx C.hb hd  (kk _ h H locs ls hP hS hL)
theorem sm_ior (C : sm_Cx X cc nL own fr lo ret) {x y : Int32} {f : Int32 → Option β} (hd : decode cc pc = .ok (.ior, 1))  (h : sm_b (x ||| y) f = some z) (kk : ∀ v, f v = some z → sm_V X Q nL σ (pc + 1) lv (.int v :: st)) : sm_V X Q nL σ pc lv (.int y :: .int x :: st) := by
  intro H locs ls hP hS hL
  exact lv_ior C.hx C.hb hd  (kk _ h H locs ls hP hS hL)
theorem sm_ixor (C : sm_Cx X cc nL own fr lo ret) {x y : Int32} {f : Int32 → Option β} (hd : decode cc pc = .ok (.ixor, 1))  (h : sm_b (x ^^^ y) f = some z) (kk : ∀ v, f v = some z → sm_V X Q nL σ (pc + 1) lv (.int v :: st)) : sm_V X Q nL σ pc lv (.int y :: .int x :: st) := by
  intro H locs ls hP hS hL
  exact lv_ixor C.hx C.hb hd  (kk _ h H locs ls hP hS hL)
theorem sm_ladd (C : sm_Cx X cc nL own fr lo ret) {x y : Int64} {f : Int64 → Option β} (hd : decode cc pc = .ok (.ladd, 1))  (h : sm_b (x + y) f = some z) (kk : ∀ v, f v = some z → sm_V X Q nL σ (pc + 1) lv (.long v :: st)) : sm_V X Q nL σ pc lv (.long y :: .long x :: st) := by
  intro H locs ls hP hS hL
  exact lv_ladd C.hx C.hb hd  (kk _ h H locs ls hP hS hL)
theorem sm_lsub (C : sm_Cx X cc nL own fr lo ret) {x y : Int64} {f : Int64 → Option β} (hd : decode cc pc = .ok (.lsub, 1))  (h : sm_b (x - y) f = some z) (kk : ∀ v, f v = some z → sm_V X Q nL σ (pc + 1) lv (.long v :: st)) : sm_V X Q nL σ pc lv (.long y :: .long x :: st) := by
  intro H locs ls hP hS hL
  exact lv_lsub C.hx C.hb hd  (kk _ h H locs ls hP hS hL)
theorem sm_lmul (C : sm_Cx X cc nL own fr lo ret) {x y : Int64} {f : Int64 → Option β} (hd : decode cc pc = .ok (.lmul, 1))  (h : sm_b (x * y) f = some z) (kk : ∀ v, f v = some z → sm_V X Q nL σ (pc + 1) lv (.long v :: st)) : sm_V X Q nL σ pc lv (.long y :: .long x :: st) := by
  intro H locs ls hP hS hL
  exact lv_lmul C.hx C.hb hd  (kk _ h H locs ls hP hS hL)
theorem sm_idiv (C : sm_Cx X cc nL own fr lo ret) {x y : Int32} {f : Int32 → Option β} (hd : decode cc pc = .ok (.idiv, 1)) (h : sm_g (!decide (y = 0)) (sm_b (x / y) f) = some z) (kk : ∀ v, f v = some z → sm_V X Q nL σ (pc + 1) lv (.int v :: st)) : sm_V X Q nL σ pc lv (.int y :: .int x :: st) := by
  intro H locs ls hP hS hL
  obtain ⟨h1, h2⟩ := sm_gE h
  exact lv_idiv C.hx C.hb hd (by simpa using h1) (kk _ h2 H locs ls hP hS hL)
theorem sm_irem (C : sm_Cx X cc nL own fr lo ret) {x y : Int32} {f : Int32 → Option β} (hd : decode cc pc = .ok (.irem, 1)) (h : sm_g (!decide (y = 0)) (sm_b (x - x / y * y) f) = some z) (kk : ∀ v, f v = some z → sm_V X Q nL σ (pc + 1) lv (.int v :: st)) : sm_V X Q nL σ pc lv (.int y :: .int x :: st) := by
  intro H locs ls hP hS hL
  obtain ⟨h1, h2⟩ := sm_gE h
  exact lv_irem C.hx C.hb hd (by simpa using h1) (kk _ h2 H locs ls hP hS hL)
theorem sm_ldiv (C : sm_Cx X cc nL own fr lo ret) {x y : Int64} {f : Int64 → Option β} (hd : decode cc pc = .ok (.ldiv, 1)) (h : sm_g (!decide (y = 0)) (sm_b (x / y) f) = some z) (kk : ∀ v, f v = some z → sm_V X Q nL σ (pc + 1) lv (.long v :: st)) : sm_V X Q nL σ pc lv (.long y :: .long x :: st) := by
  intro H locs ls hP hS hL
  obtain ⟨h1, h2⟩ := sm_gE h
  exact lv_ldiv C.hx C.hb hd (by simpa using h1) (kk _ h2 H locs ls hP hS hL)
theorem sm_lrem (C : sm_Cx X cc nL own fr lo ret) {x y : Int64} {f : Int64 → Option β} (hd : decode cc pc = .ok (.lrem, 1)) (h : sm_g (!decide (y = 0)) (sm_b (x - x / y * y) f) = some z) (kk : ∀ v, f v = some z → sm_V X Q nL σ (pc + 1) lv (.long v :: st)) : sm_V X Q nL σ pc lv (.long y :: .long x :: st) := by
  intro H locs ls hP hS hL
  obtain ⟨h1, h2⟩ := sm_gE h
  exact lv_lrem C.hx C.hb hd (by simpa using h1) (kk _ h2 H locs ls hP hS hL)
theorem sm_ineg (C : sm_Cx X cc nL own fr lo ret) {x : Int32} {f : Int32 → Option β} (hd : decode cc pc = .ok (.ineg, 1)) (h : sm_b (-x) f = some z) (kk : ∀ v, f v = some z → sm_V X Q nL σ (pc + 1) lv (.int v :: st)) : sm_V X Q nL σ pc lv (.int x :: st) := by
  intro H locs ls hP hS hL
  exact lv_ineg C.hx C.hb hd (kk _ h H locs ls hP hS hL)
theorem sm_ishl (C : sm_Cx X cc nL own fr lo ret) {x y : Int32} {f : Int32 → Option β} (hd : decode cc pc = .ok (.ishl, 1)) (h : sm_b (x <<< (y &&& 31)) f = some z) (kk : ∀ v, f v = some z → sm_V X Q nL σ (pc + 1) lv (.int v :: st)) : sm_V X Q nL σ pc lv (.int y :: .int x :: st) := by
  intro H locs ls hP hS hL
  exact lv_ishl C.hx C.hb hd (kk _ h H locs ls hP hS hL)
theorem sm_ishr (C : sm_Cx X cc nL own fr lo ret) {x y : Int32} {f : Int32 → Option β} (hd : decode cc pc = .ok (.ishr, 1)) (h : sm_b (x >>> (y &&& 31)) f = some z) (kk : ∀ v, f v = some z → sm_V X Q nL σ (pc + 1) lv (.int v :: st)) : sm_V X Q nL σ pc lv (.int y :: .int x :: st) := by
  intro H locs ls hP hS hL
  exact lv_ishr C.hx C.hb hd (kk _ h H locs ls hP hS hL)
theorem sm_iushr (C : sm_Cx X cc nL own fr lo ret) {x y : Int32} {f : Int32 → Option β} (hd : decode cc pc = .ok (.iushr, 1)) (h : sm_b ((x.toUInt32 >>> (y.toUInt32 &&& Int32.toUInt32 31)).toInt32) f = some z) (kk : ∀ v, f v = some z → sm_V X Q nL σ (pc + 1) lv (.int v :: st)) : sm_V X Q nL σ pc lv (.int y :: .int x :: st) := by
  intro H locs ls hP hS hL
  exact lv_iushr C.hx C.hb hd rfl (kk _ h H locs ls hP hS hL)
theorem sm_i2l (C : sm_Cx X cc nL own fr lo ret) {x : Int32} {f : Int64 → Option β} (hd : decode cc pc = .ok (.i2l, 1)) (h : sm_b (x.toInt64) f = some z) (kk : ∀ v, f v = some z → sm_V X Q nL σ (pc + 1) lv (.long v :: st)) : sm_V X Q nL σ pc lv (.int x :: st) := by
  intro H locs ls hP hS hL
  exact lv_i2l C.hx C.hb hd rfl (kk _ h H locs ls hP hS hL)
theorem sm_l2i (C : sm_Cx X cc nL own fr lo ret) {x : Int64} {f : Int32 → Option β} (hd : decode cc pc = .ok (.l2i, 1)) (h : sm_b (x.toInt32) f = some z) (kk : ∀ v, f v = some z → sm_V X Q nL σ (pc + 1) lv (.int v :: st)) : sm_V X Q nL σ pc lv (.long x :: st) := by
  intro H locs ls hP hS hL
  exact lv_l2i C.hx C.hb hd rfl (kk _ h H locs ls hP hS hL)
theorem sm_i2b (C : sm_Cx X cc nL own fr lo ret) {x : Int32} {f : Int32 → Option β} (hd : decode cc pc = .ok (.i2b, 1)) (h : sm_b (x.toInt8.toInt32) f = some z) (kk : ∀ v, f v = some z → sm_V X Q nL σ (pc + 1) lv (.int v :: st)) : sm_V X Q nL σ pc lv (.int x :: st) := by
  intro H locs ls hP hS hL
  exact lv_i2b C.hx C.hb hd rfl (kk _ h H locs ls hP hS hL)
theorem sm_i2s (C : sm_Cx X cc nL own fr lo ret) {x : Int32} {f : Int32 → Option β} (hd : decode cc pc = .ok (.i2s, 1)) (h : sm_b (x.toInt16.toInt32) f = some z) (kk : ∀ v, f v = some z → sm_V X Q nL σ (pc + 1) lv (.int v :: st)) : sm_V X Q nL σ pc lv (.int x :: st) := by
  intro H locs ls hP hS hL
  exact lv_i2s C.hx C.hb hd rfl (kk _ h H locs ls hP hS hL)
theorem sm_i2c (C : sm_Cx X cc nL own fr lo ret) {x : Int32} {f : Int32 → Option β} (hd : decode cc pc = .ok (.i2c, 1)) (h : sm_b ((x.toUInt32 % 65536).toInt32) f = some z) (kk : ∀ v, f v = some z → sm_V X Q nL σ (pc + 1) lv (.int v :: st)) : sm_V X Q nL σ pc lv (.int x :: st) := by
  intro H locs ls hP hS hL
  exact lv_i2c C.hx C.hb hd rfl (kk _ h H locs ls hP hS hL)
theorem sm_lcmp (C : sm_Cx X cc nL own fr lo ret) {x y : Int64} {f : Int32 → Option β} (hd : decode cc pc = .ok (.lcmp, 1)) (h : sm_b (lg_cmp x y) f = some z) (kk : ∀ v, f v = some z → sm_V X Q nL σ (pc + 1) lv (.int v :: st)) : sm_V X Q nL σ pc lv (.long y :: .long x :: st) := by
  intro H locs ls hP hS hL
  exact W.lcmp C.hx C.hb hd (kk _ h H locs ls hP hS hL)
theorem sm_dup (C : sm_Cx X cc nL own fr lo ret) {a : Value} (hd : decode cc pc = .ok (.dup, 1)) (ha : a.category = 1) (kk : sm_V X Q nL σ (pc + 1) lv (a :: a :: st)) : sm_V X Q nL σ pc lv (a :: st) := by
  intro H locs ls hP hS hL
  exact lv_dup C.hx C.hb hd ha (kk H locs ls hP hS hL)
theorem sm_pop (C : sm_Cx X cc nL own fr lo ret) {a : Value} (hd : decode cc pc = .ok (.pop, 1)) (ha : a.category = 1) (kk : sm_V X Q nL σ (pc + 1) lv st) : sm_V X Q nL σ pc lv (a :: st) := by
  intro H locs ls hP hS hL
  exact lv_pop C.hx C.hb hd ha (kk H locs ls hP hS hL)
theorem sm_dup_x1 (C : sm_Cx X cc nL own fr lo ret) {a b : Value} (hd : decode cc pc = .ok (.dup_x1, 1)) (ha : a.category = 1) (hb : b.category = 1) (kk : sm_V X Q nL σ (pc + 1) lv (a :: b :: a :: st)) : sm_V X Q nL σ pc lv (a :: b :: st) := by
  intro H locs ls hP hS hL
  exact lv_dup_x1 C.hx C.hb hd ha hb (kk H locs ls hP hS hL)
theorem sm_dup2 (C : sm_Cx X cc nL own fr lo ret) {a b : Value} (hd : decode cc pc = .ok (.dup2, 1)) (ha : a.category = 1) (hb : b.category = 1) (kk : sm_V X Q nL σ (pc + 1) lv (a :: b :: a :: b :: st)) : sm_V X Q nL σ pc lv (a :: b :: st) := by
  intro H locs ls hP hS hL
  exact lv_dup2_11 C.hx C.hb hd ha hb (kk H locs ls hP hS hL)
theorem sm_if_eq (C : sm_Cx X cc nL own fr lo ret) {x : Int32} {off : Int} {A B : Option β} (tgt : Nat) (hd : decode cc pc = .ok (.ifCond .eq off, 3)) (ht : (pc : Int) + off = (tgt : Int)) (h : (if x = 0 then A else B) = some z) (kt : A = some z → sm_V X Q nL σ tgt lv st) (kf : B = some z → sm_V X Q nL σ (pc + 3) lv st) : sm_V X Q nL σ pc lv (.int x :: st) := by
  intro H locs ls hP hS hL
  refine lv_if_eq C.hx C.hb hd ht (fun q => ?_) (fun q => ?_)
  · rw [if_pos q] at h
    exact kt h H locs ls hP hS hL
  · rw [if_neg q] at h
    exact kf h H locs ls hP hS hL
theorem sm_icmp_eq (C : sm_Cx X cc nL own fr lo ret) {x y : Int32} {off : Int} {A B : Option β} (tgt : Nat) (hd : decode cc pc = .ok (.if_icmp .eq off, 3)) (ht : (pc : Int) + off = (tgt : Int)) (h : (if x = y then A else B) = some z) (kt : A = some z → sm_V X Q nL σ tgt lv st) (kf : B = some z → sm_V X Q nL σ (pc + 3) lv st) : sm_V X Q nL σ pc lv (.int y :: .int x :: st) := by
  intro H locs ls hP hS hL
  refine lv_icmp_eq C.hx C.hb hd ht (fun q => ?_) (fun q => ?_)
  · rw [if_pos q] at h
    exact kt h H locs ls hP hS hL
  · rw [if_neg q] at h
    exact kf h H locs ls hP hS hL
theorem sm_if_ne (C : sm_Cx X cc nL own fr lo ret) {x : Int32} {off : Int} {A B : Option β} (tgt : Nat) (hd : decode cc pc = .ok (.ifCond .ne off, 3)) (ht : (pc : Int) + off = (tgt : Int)) (h : (if x = 0 then A else B) = some z) (kt : B = some z → sm_V X Q nL σ tgt lv st) (kf : A = some z → sm_V X Q nL σ (pc + 3) lv st) : sm_V X Q nL σ pc lv (.int x :: st) := by
  intro H locs ls hP hS hL
  refine lv_if_ne C.hx C.hb hd ht (fun q => ?_) (fun q => ?_)
  · rw [if_neg q] at h
    exact kt h H locs ls hP hS hL
  · rw [if_pos q] at h
    exact kf h H locs ls hP hS hL
theorem sm_icmp_ne (C : sm_Cx X cc nL own fr lo ret) {x y : Int32} {off : Int} {A B : Option β} (tgt : Nat) (hd : decode cc pc = .ok (.if_icmp .ne off, 3)) (ht : (pc : Int) + off = (tgt : Int)) (h : (if x = y then A else B) = some z) (kt : B = some z → sm_V X Q nL σ tgt lv st) (kf : A = some z → sm_V X Q nL σ (pc + 3) lv st) : sm_V X Q nL σ pc lv (.int y :: .int x :: st) := by
  intro H locs ls hP hS hL
  refine lv_icmp_ne C.hx C.hb hd ht (fun q => ?_) (fun q => ?_)
  · rw [if_neg q] at h
    exact kt h H locs ls hP hS hL
  · rw [if_pos q] at h
    exact kf h H locs ls hP hS hL
theorem sm_if_lt (C : sm_Cx X cc nL own fr lo ret) {x : Int32} {off : Int} {A B : Option β} (tgt : Nat) (hd : decode cc pc = .ok (.ifCond .lt off, 3)) (ht : (pc : Int) + off = (tgt : Int)) (h : (if x < 0 then A else B) = some z) (kt : A = some z → sm_V X Q nL σ tgt lv st) (kf : B = some z → sm_V X Q nL σ (pc + 3) lv st) : sm_V X Q nL σ pc lv (.int x :: st) := by
  intro H locs ls hP hS hL
  refine lv_if_lt C.hx C.hb hd ht (fun q => ?_) (fun q => ?_)
  · rw [if_pos q] at h
    exact kt h H locs ls hP hS hL
  · rw [if_neg q] at h
    exact kf h H locs ls hP hS hL
theorem sm_icmp_lt (C : sm_Cx X cc nL own fr lo ret) {x y : Int32} {off : Int} {A B : Option β} (tgt : Nat) (hd : decode cc pc = .ok (.if_icmp .lt off, 3)) (ht : (pc : Int) + off = (tgt : Int)) (h : (if x < y then A else B) = some z) (kt : A = some z → sm_V X Q nL σ tgt lv st) (kf : B = some z → sm_V X Q nL σ (pc + 3) lv st) : sm_V X Q nL σ pc lv (.int y :: .int x :: st) := by
  intro H locs ls hP hS hL
  refine lv_icmp_lt C.hx C.hb hd ht (fun q => ?_) (fun q => ?_)
  · rw [if_pos q] at h
    exact kt h H locs ls hP hS hL
  · rw [if_neg q] at h
    exact kf h H locs ls hP hS hL
theorem sm_if_ge (C : sm_Cx X cc nL own fr lo ret) {x : Int32} {off : Int} {A B : Option β} (tgt : Nat) (hd : decode cc pc = .ok (.ifCond .ge off, 3)) (ht : (pc : Int) + off = (tgt : Int)) (h : (if 0 ≤ x then A else B) = some z) (kt : A = some z → sm_V X Q nL σ tgt lv st) (kf : B = some z → sm_V X Q nL σ (pc + 3) lv st) : sm_V X Q nL σ pc lv (.int x :: st) := by
  intro H locs ls hP hS hL
  refine lv_if_ge C.hx C.hb hd ht (fun q => ?_) (fun q => ?_)
  · rw [if_pos q] at h
    exact kt h H locs ls hP hS hL
  · rw [if_neg q] at h
    exact kf h H locs ls hP hS hL
theorem sm_icmp_ge (C : sm_Cx X cc nL own fr lo ret) {x y : Int32} {off : Int} {A B : Option β} (tgt : Nat) (hd : decode cc pc = .ok (.if_icmp .ge off, 3)) (ht : (pc : Int) + off = (tgt : Int)) (h : (if y ≤ x then A else B) = some z) (kt : A = some z → sm_V X Q nL σ tgt lv st) (kf : B = some z → sm_V X Q nL σ (pc + 3) lv st) : sm_V X Q nL σ pc lv (.int y :: .int x :: st) := by
  intro H locs ls hP hS hL
  refine lv_icmp_ge C.hx C.hb hd ht (fun q => ?_) (fun q => ?_)
  · rw [if_pos q] at h
    exact kt h H locs ls hP hS hL
  · rw [if_neg q] at h
    exact kf h H locs ls hP hS hL
theorem sm_if_gt (C : sm_Cx X cc nL own fr lo ret) {x : Int32} {off : Int} {A B : Option β} (tgt : Nat) (hd : decode cc pc = .ok (.ifCond .gt off, 3)) (ht : (pc : Int) + off = (tgt : Int)) (h : (if 0 < x then A else B) = some z) (kt : A = some z → sm_V X Q nL σ tgt lv st) (kf : B = some z → sm_V X Q nL σ (pc + 3) lv st) : sm_V X Q nL σ pc lv (.int x :: st) := by
  intro H locs ls hP hS hL
  refine lv_if_gt C.hx C.hb hd ht (fun q => ?_) (fun q => ?_)
  · rw [if_pos q] at h
    exact kt h H locs ls hP hS hL
  · rw [if_neg q] at h
    exact kf h H locs ls hP hS hL
theorem sm_icmp_gt (C : sm_Cx X cc nL own fr lo ret) {x y : Int32} {off : Int} {A B : Option β} (tgt : Nat) (hd : decode cc pc = .ok (.if_icmp .gt off, 3)) (ht : (pc : Int) + off = (tgt : Int)) (h : (if y < x then A else B) = some z) (kt : A = some z → sm_V X Q nL σ tgt lv st) (kf : B = some z → sm_V X Q nL σ (pc + 3) lv st) : sm_V X Q nL σ pc lv (.int y :: .int x :: st) := by
  intro H locs ls hP hS hL
  refine lv_icmp_gt C.hx C.hb hd ht (fun q => ?_) (fun q => ?_)
  · rw [if_pos q] at h
    exact kt h H locs ls hP hS hL
  · rw [if_neg q] at h
    exact kf h H locs ls hP hS hL
theorem sm_if_le (C : sm_Cx X cc nL own fr lo ret) {x : Int32} {off : Int} {A B : Option β} (tgt : Nat) (hd : decode cc pc = .ok (.ifCond .le off, 3)) (ht : (pc : Int) + off = (tgt : Int)) (h : (if x ≤ 0 then A else B) = some z) (kt : A = some z → sm_V X Q nL σ tgt lv st) (kf : B = some z → sm_V X Q nL σ (pc + 3) lv st) : sm_V X Q nL σ pc lv (.int x :: st) := by
  intro H locs ls hP hS hL
  refine lv_if_le C.hx C.hb hd ht (fun q => ?_) (fun q => ?_)
  · rw [if_pos q] at h
    exact kt h H locs ls hP hS hL
  · rw [if_neg q] at h
    exact kf h H locs ls hP hS hL
theorem sm_icmp_le (C : sm_Cx X cc nL own fr lo ret) {x y : Int32} {off : Int} {A B : Option β} (tgt : Nat) (hd : decode cc pc = .ok (.if_icmp .le off, 3)) (ht : (pc : Int) + off = (tgt : Int)) (h : (if x ≤ y then A else B) = some z) (kt : A = some z → sm_V X Q nL σ tgt lv st) (kf : B = some z → sm_V X Q nL σ (pc + 3) lv st) : sm_V X Q nL σ pc lv (.int y :: .int x :: st) := by
  intro H locs ls hP hS hL
  refine lv_icmp_le C.hx C.hb hd ht (fun q => ?_) (fun q => ?_)
  · rw [if_pos q] at h
    exact kt h H locs ls hP hS hL
  · rw [if_neg q] at h
    exact kf h H locs ls hP hS hL
theorem sm_goto (C : sm_Cx X cc nL own fr lo ret) {off : Int} (tgt : Nat) (hd : decode cc pc = .ok (.goto off, 3)) (ht : (pc : Int) + off = (tgt : Int)) (kk : sm_V X Q nL σ tgt lv st) : sm_V X Q nL σ pc lv st := by
  intro H locs ls hP hS hL
  exact lv_goto C.hx C.hb hd ht (kk H locs ls hP hS hL)
theorem sm_ifnull (C : sm_Cx X cc nL own fr lo ret) {r : Option Nat} {off : Int} {A B : Option β} (tgt : Nat) (hd : decode cc pc = .ok (.ifnull off, 3)) (ht : (pc : Int) + off = (tgt : Int)) (h : (if r = none then A else B) = some z) (kt : A = some z → sm_V X Q nL σ tgt lv st) (kf : B = some z → sm_V X Q nL σ (pc + 3) lv st) : sm_V X Q nL σ pc lv (va_rf r :: st) := by
  intro H locs ls hP hS hL
  cases r with
  | none => exact lv_ifnullN C.hx C.hb hd ht (kt (by simpa using h) H locs ls hP hS hL)
  | some a => exact lv_ifnull C.hx C.hb hd (kf (by simpa using h) H locs ls hP hS hL)
theorem sm_ifnonnull (C : sm_Cx X cc nL own fr lo ret) {r : Option Nat} {off : Int} {A B : Option β} (tgt : Nat) (hd : decode cc pc = .ok (.ifnonnull off, 3)) (ht : (pc : Int) + off = (tgt : Int)) (h : (if r = none then A else B) = some z) (kt : A = some z → sm_V X Q nL σ (pc + 3) lv st) (kf : B = some z → sm_V X Q nL σ tgt lv st) : sm_V X Q nL σ pc lv (va_rf r :: st) := by
  intro H locs ls hP hS hL
  cases r with
  | none => exact lv_ifnonnullN C.hx C.hb hd (kt (by simpa using h) H locs ls hP hS hL)
  | some a => exact lv_ifnonnull C.hx C.hb hd ht (kf (by simpa using h) H locs ls hP hS hL)
theorem sm_tswIn (C : sm_Cx X cc nL own fr lo ret) {dflt lo1 hi : Int} {offs : Array Int} {len : Nat} {x : Int32} (off : Int) (tgt : Nat) (hd : decode cc pc = .ok (.tableswitch dflt lo1 hi offs, len)) (hx : ¬ x.toInt < lo1 ∧ ¬ hi < x.toInt ∧ offs[(x.toInt - lo1).toNat]? = some off) (ht : (pc : Int) + off = (tgt : Int)) (kk : sm_V X Q nL σ tgt lv st) : sm_V X Q nL σ pc lv (.int x :: st) := by
  intro H locs ls hP hS hL
  exact lv_tableIn C.hx C.hb hd hx.1 hx.2.1 hx.2.2 ht (kk H locs ls hP hS hL)
theorem sm_tswOut (C : sm_Cx X cc nL own fr lo ret) {dflt lo1 hi : Int} {offs : Array Int} {len : Nat} {x : Int32} (tgt : Nat) (hd : decode cc pc = .ok (.tableswitch dflt lo1 hi offs, len)) (hx : x.toInt < lo1 ∨ hi < x.toInt) (ht : (pc : Int) + dflt = (tgt : Int)) (kk : sm_V X Q nL σ tgt lv st) : sm_V X Q nL σ pc lv (.int x :: st) := by
  intro H locs ls hP hS hL
  exact lv_tableOut C.hx C.hb hd hx ht (kk H locs ls hP hS hL)
theorem sm_lsw (C : sm_Cx X cc nL own fr lo ret) {dflt : Int} {ps : Array (Int × Int)} {len : Nat} {x : Int32} (off : Int) (tgt : Nat) (hd : decode cc pc = .ok (.lookupswitch dflt ps, len)) (hp : (ps.toList.zip (ps.toList.drop 1)).all (fun (a, next) => a.1 < next.1) = true) (ho : Op.lookupswitch.offset ps.toList dflt x.toInt = off) (ht : (pc : Int) + off = (tgt : Int)) (kk : sm_V X Q nL σ tgt lv st) : sm_V X Q nL σ pc lv (.int x :: st) := by
  intro H locs ls hP hS hL
  exact lv_lookup C.hx C.hb hd hp ho ht (kk H locs ls hP hS hL)
theorem sm_get (C : sm_Cx X cc nL own fr lo ret) {C0 : String} {T : u_T} {N ci k : Nat} {fs : List Value} {index : Nat} {v : Value} (j : Nat) (hk : k < sm_N (sm_w X)) (he : sm_sh (sm_w X) k (σ.1 k) (σ.2.1 k) (σ.2.2 k) = .inr (ci, fs)) (hc : (sm_cl (sm_w X))[ci]? = some (C0, T, N)) (hin : ∀ w ∈ u_ws C0 T N, w ∈ sm_G) (hj : j < N) (hl : Cond.fieldLink own index (T j).1 (T j).2.1 (T j).2.2.1 ∈ sm_G) (hv : fs[j]? = some v) (hd : decode cc pc = .ok (.getfield index, 3)) (kk : sm_V X Q nL σ (pc + 3) lv (v :: st)) : sm_V X Q nL σ pc lv (.ref (sm_ad (sm_w X) k) :: st) := by
  intro H locs ls hP hS hL
  have ha := sm_at (w := sm_w X) (σ := σ) hk
  rw [he] at ha
  exact va_get C.hx C.hb C.hts hin C.hown C.hK hP k ha hc j hj (C.hts _ hl) (fun _ h9 => h9) hv hd (kk H locs ls hP hS hL)
theorem sm_put (C : sm_Cx X cc nL own fr lo ret) {C0 : String} {T : u_T} {N ci k : Nat} {fs : List Value} {index : Nat} {σ' : sm_St} {ty0 : Nat → FieldType} {ty : FieldType} {v : Value} (j : Nat) (hk : k < sm_N (sm_w X)) (he : sm_sh (sm_w X) k (σ.1 k) (σ.2.1 k) (σ.2.2 k) = .inr (ci, fs)) (hc : (sm_cl (sm_w X))[ci]? = some (C0, T, N)) (hin : ∀ w ∈ u_ws C0 T N, w ∈ sm_G) (hty : ∀ k, k < N → parseFieldDescriptor (T k).2.2.1 = some (ty0 k)) (hnm : ∀ a, a < N → ∀ b, b < N → a ≠ b → (T a).2.1 ≠ (T b).2.1) (hj : j < N) (hl : Cond.fieldLink own index (T j).1 (T j).2.1 (T j).2.2.1 ∈ sm_G) (hfin : (T j).2.2.2 = false) (hdt : parseFieldDescriptor (T j).2.2.1 = some ty) (hn : narrow ty v = v) (hfit : fits ty v = true) (hlen : j < fs.length) (hs : sm_sh (sm_w X) k (σ'.1 k) (σ'.2.1 k) (σ'.2.2 k) = .inr (ci, fs.set j v)) (ho : ∀ j, j ≠ k → σ'.1 j = σ.1 j ∧ σ'.2.1 j = σ.2.1 j ∧ σ'.2.2 j = σ.2.2 j) (hd : decode cc pc = .ok (.putfield index, 3)) (kk : sm_V X Q nL σ' (pc + 3) lv st) : sm_V X Q nL σ pc lv (v :: .ref (sm_ad (sm_w X) k) :: st) := by
  intro H locs ls hP hS hL
  have ha := sm_at (w := sm_w X) (σ := σ) hk
  rw [he] at ha
  refine va_put C.hx C.hb C.hts hin ty0 hty hnm C.hown C.hK hP C.hD hS k ha hc j hj (C.hts _ hl) (fun _ h9 => h9) hfin hdt hn hfit hlen hd (fun H1 locs1 hP1 _ hS1 => ?_)
  rw [sm_set hk hs ho] at hP1
  exact kk H1 locs1 ls hP1 hS1 hL
theorem sm_iald (C : sm_Cx X cc nL own fr lo ret) {k n t0 : Nat} {cA : ClassId} {i : Int32} {f : Int32 → Option β} (hk : k < sm_N (sm_w X)) (he : sm_sh (sm_w X) k (σ.1 k) (σ.2.1 k) (σ.2.2 k) = .inl (cA, n, .inl (σ.1 k))) (ht : (sm_ty (sm_w X))[t0]? = some (cA, .int)) (hd : decode cc pc = .ok (.iaload, 1)) (h : sm_g (sm_in i n) (sm_b (σ.1 k i.toNatClampNeg) f) = some z) (kk : ∀ v, f v = some z → sm_V X Q nL σ (pc + 1) lv (.int v :: st)) : sm_V X Q nL σ pc lv (.int i :: .ref (sm_ad (sm_w X) k) :: st) := by
  intro H locs ls hP hS hL
  have ha := sm_at (w := sm_w X) (σ := σ) hk
  rw [he] at ha
  obtain ⟨h1, h2⟩ := sm_gE h
  exact va_iald C.hx C.hb C.hK hP k t0 ha ht (sm_inE h1) hd (kk _ h2 H locs ls hP hS hL)
theorem sm_lald (C : sm_Cx X cc nL own fr lo ret) {k n t0 : Nat} {cA : ClassId} {i : Int32} {f : Int64 → Option β} (hk : k < sm_N (sm_w X)) (he : sm_sh (sm_w X) k (σ.1 k) (σ.2.1 k) (σ.2.2 k) = .inl (cA, n, .inr (.inl (σ.2.1 k)))) (ht : (sm_ty (sm_w X))[t0]? = some (cA, .long)) (hd : decode cc pc = .ok (.laload, 1)) (h : sm_g (sm_in i n) (sm_b (σ.2.1 k i.toNatClampNeg) f) = some z) (kk : ∀ v, f v = some z → sm_V X Q nL σ (pc + 1) lv (.long v :: st)) : sm_V X Q nL σ pc lv (.int i :: .ref (sm_ad (sm_w X) k) :: st) := by
  intro H locs ls hP hS hL
  have ha := sm_at (w := sm_w X) (σ := σ) hk
  rw [he] at ha
  obtain ⟨h1, h2⟩ := sm_gE h
  exact va_lald C.hx C.hb C.hK hP k t0 ha ht (sm_inE h1) hd (kk _ h2 H locs ls hP hS hL)
theorem sm_zald (C : sm_Cx X cc nL own fr lo ret) {k n t0 : Nat} {cA : ClassId} {i : Int32} {f : Int32 → Option β} (hk : k < sm_N (sm_w X)) (he : sm_sh (sm_w X) k (σ.1 k) (σ.2.1 k) (σ.2.2 k) = .inl (cA, n, .inl (σ.1 k))) (ht : (sm_ty (sm_w X))[t0]? = some (cA, .boolean)) (hd : decode cc pc = .ok (.baload, 1)) (h : sm_g (sm_in i n) (sm_b (σ.1 k i.toNatClampNeg) f) = some z) (kk : ∀ v, f v = some z → sm_V X Q nL σ (pc + 1) lv (.int v :: st)) : sm_V X Q nL σ pc lv (.int i :: .ref (sm_ad (sm_w X) k) :: st) := by
  intro H locs ls hP hS hL
  have ha := sm_at (w := sm_w X) (σ := σ) hk
  rw [he] at ha
  obtain ⟨h1, h2⟩ := sm_gE h
  exact va_zald C.hx C.hb C.hK hP k t0 ha ht (sm_inE h1) hd (kk _ h2 H locs ls hP hS hL)
theorem sm_iast (C : sm_Cx X cc nL own fr lo ret) {k n t0 : Nat} {cA : ClassId} {i : Int32} {x : Int32} {f : sm_St → Option β} (hk : k < sm_N (sm_w X)) (he : ∀ a b c, sm_sh (sm_w X) k a b c = .inl (cA, n, .inl a)) (ht : (sm_ty (sm_w X))[t0]? = some (cA, .int)) (hd : decode cc pc = .ok (.iastore, 1)) (h : sm_g (sm_in i n) (sm_b (sm_sI σ k i.toNatClampNeg x) f) = some z) (kk : ∀ s, f s = some z → sm_V X Q nL s (pc + 1) lv st) : sm_V X Q nL σ pc lv (.int x :: .int i :: .ref (sm_ad (sm_w X) k) :: st) := by
  intro H locs ls hP hS hL
  have ha := sm_at (w := sm_w X) (σ := σ) hk
  rw [he] at ha
  obtain ⟨h1, h2⟩ := sm_gE h
  refine va_iast C.hx C.hb C.hK hP C.hD hS k t0 ha ht (sm_inE h1) hd (fun H1 locs1 hP1 _ hS1 => ?_)
  rw [sm_set (σ' := sm_sI σ k i.toNatClampNeg x) hk (by rw [he, sm_sIk.1]) sm_sIo] at hP1
  exact kk _ h2 H1 locs1 ls hP1 hS1 hL
theorem sm_zast (C : sm_Cx X cc nL own fr lo ret) {k n t0 : Nat} {cA : ClassId} {i : Int32} {x : Int32} {f : sm_St → Option β} (hk : k < sm_N (sm_w X)) (he : ∀ a b c, sm_sh (sm_w X) k a b c = .inl (cA, n, .inl a)) (ht : (sm_ty (sm_w X))[t0]? = some (cA, .boolean)) (hd : decode cc pc = .ok (.bastore, 1)) (h : sm_g (sm_in i n) (sm_b (sm_sI σ k i.toNatClampNeg (vp_nar .boolean x)) f) = some z) (kk : ∀ s, f s = some z → sm_V X Q nL s (pc + 1) lv st) : sm_V X Q nL σ pc lv (.int x :: .int i :: .ref (sm_ad (sm_w X) k) :: st) := by
  intro H locs ls hP hS hL
  have ha := sm_at (w := sm_w X) (σ := σ) hk
  rw [he] at ha
  obtain ⟨h1, h2⟩ := sm_gE h
  refine va_zast C.hx C.hb C.hK hP C.hD hS k t0 ha ht (sm_inE h1) hd (fun H1 locs1 hP1 _ hS1 => ?_)
  rw [sm_set (σ' := sm_sI σ k i.toNatClampNeg (vp_nar .boolean x)) hk (by rw [he, sm_sIk.1]) sm_sIo] at hP1
  exact kk _ h2 H1 locs1 ls hP1 hS1 hL
theorem sm_last (C : sm_Cx X cc nL own fr lo ret) {k n t0 : Nat} {cA : ClassId} {i : Int32} {x : Int64} {f : sm_St → Option β} (hk : k < sm_N (sm_w X)) (he : ∀ a b c, sm_sh (sm_w X) k a b c = .inl (cA, n, .inr (.inl b))) (ht : (sm_ty (sm_w X))[t0]? = some (cA, .long)) (hd : decode cc pc = .ok (.lastore, 1)) (h : sm_g (sm_in i n) (sm_b (sm_sL σ k i.toNatClampNeg x) f) = some z) (kk : ∀ s, f s = some z → sm_V X Q nL s (pc + 1) lv st) : sm_V X Q nL σ pc lv (.long x :: .int i :: .ref (sm_ad (sm_w X) k) :: st) := by
  intro H locs ls hP hS hL
  have ha := sm_at (w := sm_w X) (σ := σ) hk
  rw [he] at ha
  obtain ⟨h1, h2⟩ := sm_gE h
  refine va_last C.hx C.hb C.hK hP C.hD hS k t0 ha ht (sm_inE h1) hd (fun H1 locs1 hP1 _ hS1 => ?_)
  rw [sm_set (σ' := sm_sL σ k i.toNatClampNeg x) hk (by rw [he, sm_sLk.2.1]) sm_sLo] at hP1
  exact kk _ h2 H1 locs1 ls hP1 hS1 hL
theorem sm_alen (C : sm_Cx X cc nL own fr lo ret) {k n t0 : Nat} {cA : ClassId} {ty : FieldType} {e : (Nat → Int32) ⊕ (Nat → Int64) ⊕ (Nat → UInt32) ⊕ (Nat → UInt64) ⊕ (Nat → Option Nat)} {v : Int32} (hk : k < sm_N (sm_w X)) (he : sm_sh (sm_w X) k (σ.1 k) (σ.2.1 k) (σ.2.2 k) = .inl (cA, n, e)) (ht : (sm_ty (sm_w X))[t0]? = some (cA, ty)) (hv : Int32.ofNat n = v) (hd : decode cc pc = .ok (.arraylength, 1)) (kk : sm_V X Q nL σ (pc + 1) lv (.int v :: st)) : sm_V X Q nL σ pc lv (.ref (sm_ad (sm_w X) k) :: st) := by
  intro H locs ls hP hS hL
  have ha := sm_at (w := sm_w X) (σ := σ) hk
  rw [he] at ha
  exact va_alen C.hx C.hb C.hK hP k t0 ha ht hv hd (kk H locs ls hP hS hL)
theorem sm_aldq (C : sm_Cx X cc nL own fr lo ret) {k n t0 b0 : Nat} {cA : ClassId} {C0 : String} {i : Int32} {x : Option β} (hk : k < sm_N (sm_w X)) (he : sm_sh (sm_w X) k (σ.1 k) (σ.2.1 k) (σ.2.2 k) = .inl (cA, n, .inr (.inr (.inr (.inr (fun j => some (sm_ad (sm_w X) (b0 + j)))))))) (ht : (sm_ty (sm_w X))[t0]? = some (cA, .object C0)) (hd : decode cc pc = .ok (.aaload, 1)) (h : sm_g (sm_in i n) x = some z) (kk : sm_in i n = true → x = some z → sm_V X Q nL σ (pc + 1) lv (.ref (sm_ad (sm_w X) (b0 + i.toNatClampNeg)) :: st)) : sm_V X Q nL σ pc lv (.int i :: .ref (sm_ad (sm_w X) k) :: st) := by
  intro H locs ls hP hS hL
  have ha := sm_at (w := sm_w X) (σ := σ) hk
  rw [he] at ha
  obtain ⟨h1, h2⟩ := sm_gE h
  exact va_aldq C.hx C.hb C.hK hP k t0 ha ht (sm_inE h1) hd (kk h1 h2 H locs ls hP hS hL)
theorem sm_mmax (C : sm_Cx X cc nL own fr lo ret) {index : Nat} {x y : Int32} {f : Int32 → Option β} (hl : Cond.methodLink own index Lib.Math.max.name ∈ sm_G) (h2 : Cond.static Lib.Math.max.name ∈ sm_G) (h3 : Cond.initialized "java/lang/Math" ∈ sm_G) (h4 : Cond.code Lib.Math.max.name Lib.Math.max.code 2 (some .int) ∈ sm_G) (h5 : 1 ≤ fr) (h6 : (st.map fun v => v.category).sum + 13 ≤ lo) (hd : decode cc pc = .ok (.invokestatic index, 3)) (h : sm_b (if x < y then y else x) f = some z) (kk : ∀ v, f v = some z → sm_V X Q nL σ (pc + 3) lv (.int v :: st)) : sm_V X Q nL σ pc lv (.int y :: .int x :: st) := by
  intro H locs ls hP hS hL
  exact va_mmax C.hx C.hb (C.hml.trans hL.1.symm) C.hown (C.hts _ hl) (C.hts _ h2) (C.hts _ h3) (C.hts _ h4) (Nat.le_trans h5 C.hR.1) (Nat.le_trans h6 C.hR.2) C.hcs.1 C.hcs.2 hd (kk _ h H locs ls hP hS hL)
theorem sm_mmin (C : sm_Cx X cc nL own fr lo ret) {index : Nat} {x y : Int32} {f : Int32 → Option β} (hl : Cond.methodLink own index Lib.Math.min.name ∈ sm_G) (h2 : Cond.static Lib.Math.min.name ∈ sm_G) (h3 : Cond.initialized "java/lang/Math" ∈ sm_G) (h4 : Cond.code Lib.Math.min.name Lib.Math.min.code 2 (some .int) ∈ sm_G) (h5 : 1 ≤ fr) (h6 : (st.map fun v => v.category).sum + 13 ≤ lo) (hd : decode cc pc = .ok (.invokestatic index, 3)) (h : sm_b (if y < x then y else x) f = some z) (kk : ∀ v, f v = some z → sm_V X Q nL σ (pc + 3) lv (.int v :: st)) : sm_V X Q nL σ pc lv (.int y :: .int x :: st) := by
  intro H locs ls hP hS hL
  exact va_mmin C.hx C.hb (C.hml.trans hL.1.symm) C.hown (C.hts _ hl) (C.hts _ h2) (C.hts _ h3) (C.hts _ h4) (Nat.le_trans h5 C.hR.1) (Nat.le_trans h6 C.hR.2) C.hcs.1 C.hcs.2 hd (kk _ h H locs ls hP hS hL)
def sm_cpyok (sp dp n : Int32) (n0 n1 : Nat) : Bool := decide (¬ sp < 0 ∧ ¬ dp < 0 ∧ ¬ n < 0 ∧ sp.toNatClampNeg + n.toNatClampNeg ≤ n0 ∧ dp.toNatClampNeg + n.toNatClampNeg ≤ n1)
theorem sm_copyi (C : sm_Cx X cc nL own fr lo ret) {index k k1 n0 n1 t0 : Nat} {cA : ClassId} {sp dp n : Int32} {f : sm_St → Option β} (hk : k < sm_N (sm_w X)) (hk1 : k1 < sm_N (sm_w X)) (he : ∀ a b c, sm_sh (sm_w X) k a b c = .inl (cA, n0, .inl a)) (he1 : ∀ a b c, sm_sh (sm_w X) k1 a b c = .inl (cA, n1, .inl a)) (ht : (sm_ty (sm_w X))[t0]? = some (cA, .int)) (hl : Cond.methodLink own index arraycopyName ∈ sm_G) (h2 : Cond.native arraycopyName ∈ sm_G) (h3 : Cond.static arraycopyName ∈ sm_G) (h4 : Cond.initialized "java/lang/System" ∈ sm_G) (h5 : 1 ≤ fr) (h6 : (st.map fun v => v.category).sum + (nativeFrameWords "java/lang/System" "arraycopy" 5 + 11) ≤ lo) (hd : decode cc pc = .ok (.invokestatic index, 3)) (h : sm_g (sm_cpyok sp dp n n0 n1) (sm_b (sm_cI σ k k1 sp.toNatClampNeg dp.toNatClampNeg n.toNatClampNeg) f) = some z) (kk : ∀ s, f s = some z → sm_V X Q nL s (pc + 3) lv st) : sm_V X Q nL σ pc lv (.int n :: .int dp :: .ref (sm_ad (sm_w X) k1) :: .int sp :: .ref (sm_ad (sm_w X) k) :: st) := by
  intro H locs ls hP hS hL
  have ha := sm_at (w := sm_w X) (σ := σ) hk
  have hb := sm_at (w := sm_w X) (σ := σ) hk1
  rw [he] at ha
  rw [he1] at hb
  obtain ⟨h0, h7⟩ := sm_gE h
  obtain ⟨g1, g2, g3, g4, g5⟩ := of_decide_eq_true (p := ¬ sp < 0 ∧ ¬ dp < 0 ∧ ¬ n < 0 ∧ sp.toNatClampNeg + n.toNatClampNeg ≤ n0 ∧ dp.toNatClampNeg + n.toNatClampNeg ≤ n1) h0
  refine va_copyi C.hx C.hb (C.hml.trans hL.1.symm) C.hown (C.hts _ hl) (C.hts _ h2) (C.hts _ h3) (C.hts _ h4) C.hK hP C.hD hS k k1 t0 t0 ha hb ht ht rfl g1 g2 g3 g4 g5 (fun _ _ => rfl) (Nat.le_trans h5 C.hR.1) (Nat.le_trans h6 C.hR.2) hd (fun H1 locs1 hP1 _ hS1 => ?_)
  rw [sm_set (σ' := sm_cI σ k k1 sp.toNatClampNeg dp.toNatClampNeg n.toNatClampNeg) hk1 (by rw [he1, sm_cIk.1]) sm_cIo] at hP1
  exact kk _ h7 H1 locs1 ls hP1 hS1 hL
theorem sm_copyl (C : sm_Cx X cc nL own fr lo ret) {index k k1 n0 n1 t0 : Nat} {cA : ClassId} {sp dp n : Int32} {f : sm_St → Option β} (hk : k < sm_N (sm_w X)) (hk1 : k1 < sm_N (sm_w X)) (he : ∀ a b c, sm_sh (sm_w X) k a b c = .inl (cA, n0, .inr (.inl b))) (he1 : ∀ a b c, sm_sh (sm_w X) k1 a b c = .inl (cA, n1, .inr (.inl b))) (ht : (sm_ty (sm_w X))[t0]? = some (cA, .long)) (hl : Cond.methodLink own index arraycopyName ∈ sm_G) (h2 : Cond.native arraycopyName ∈ sm_G) (h3 : Cond.static arraycopyName ∈ sm_G) (h4 : Cond.initialized "java/lang/System" ∈ sm_G) (h5 : 1 ≤ fr) (h6 : (st.map fun v => v.category).sum + (nativeFrameWords "java/lang/System" "arraycopy" 5 + 11) ≤ lo) (hd : decode cc pc = .ok (.invokestatic index, 3)) (h : sm_g (sm_cpyok sp dp n n0 n1) (sm_b (sm_cL σ k k1 sp.toNatClampNeg dp.toNatClampNeg n.toNatClampNeg) f) = some z) (kk : ∀ s, f s = some z → sm_V X Q nL s (pc + 3) lv st) : sm_V X Q nL σ pc lv (.int n :: .int dp :: .ref (sm_ad (sm_w X) k1) :: .int sp :: .ref (sm_ad (sm_w X) k) :: st) := by
  intro H locs ls hP hS hL
  have ha := sm_at (w := sm_w X) (σ := σ) hk
  have hb := sm_at (w := sm_w X) (σ := σ) hk1
  rw [he] at ha
  rw [he1] at hb
  obtain ⟨h0, h7⟩ := sm_gE h
  obtain ⟨g1, g2, g3, g4, g5⟩ := of_decide_eq_true (p := ¬ sp < 0 ∧ ¬ dp < 0 ∧ ¬ n < 0 ∧ sp.toNatClampNeg + n.toNatClampNeg ≤ n0 ∧ dp.toNatClampNeg + n.toNatClampNeg ≤ n1) h0
  refine va_copyl C.hx C.hb (C.hml.trans hL.1.symm) C.hown (C.hts _ hl) (C.hts _ h2) (C.hts _ h3) (C.hts _ h4) C.hK hP C.hD hS k k1 t0 t0 ha hb ht ht rfl g1 g2 g3 g4 g5 (fun _ _ => rfl) (Nat.le_trans h5 C.hR.1) (Nat.le_trans h6 C.hR.2) hd (fun H1 locs1 hP1 _ hS1 => ?_)
  rw [sm_set (σ' := sm_cL σ k k1 sp.toNatClampNeg dp.toNatClampNeg n.toNatClampNeg) hk1 (by rw [he1, sm_cLk.2.1]) sm_cLo] at hP1
  exact kk _ h7 H1 locs1 ls hP1 hS1 hL
theorem sm_gcomp (C : sm_Cx X cc nL own fr lo ret) {index : Nat} (hl : Cond.fieldLink own index "java/lang/String" "COMPACT_STRINGS" "Z" ∈ sm_G) (hd : decode cc pc = .ok (.getstatic index, 3)) (kk : sm_V X Q nL σ (pc + 3) lv (.int 1 :: st)) : sm_V X Q nL σ pc lv st := by
  intro H locs ls hP hS hL
  exact va_gets C.hx C.hb (C.hT.2.1.narrow C.hz) hS C.hown (C.hts _ hl) (fun _ h9 => h9) hd (kk H locs ls hP hS hL)
theorem sm_gform (C : sm_Cx X cc nL own fr lo ret) {index : Nat} (hl : Cond.fieldLink own index "jdk/internal/util/Preconditions" "SIOOBE_FORMATTER" "Ljava/util/function/BiFunction;" ∈ sm_G) (hd : decode cc pc = .ok (.getstatic index, 3)) (kk : ∀ r : Option Nat, sm_V X Q nL σ (pc + 3) lv (va_rf r :: st)) : sm_V X Q nL σ pc lv st := by
  intro H locs ls hP hS hL
  rcases C.hT.2.2.1.narrow C.hz with h | ⟨t, h⟩
  · exact va_gets C.hx C.hb h hS C.hown (C.hts _ hl) (fun _ h9 => h9) hd (kk none H locs ls hP hS hL)
  · exact va_gets C.hx C.hb h hS C.hown (C.hts _ hl) (fun _ h9 => h9) hd (kk (some t) H locs ls hP hS hL)
theorem sm_gcoder (C : sm_Cx X cc nL own fr lo ret) {index i : Nat} (hi : i < 3) (hl : Cond.fieldLink own index "java/lang/String" "coder" "B" ∈ sm_G) (hd : decode cc pc = .ok (.getfield index, 3)) (kk : sm_V X Q nL σ (pc + 3) lv (.int 0 :: st)) : sm_V X Q nL σ pc lv (.ref (sm_aK (sm_w X) i) :: st) := by
  intro H locs ls hP hS hL
  exact vk_getf C.hx C.hb (C.hTA.1 i hi).2.1 hS C.hown (C.hts _ hl) (fun _ h9 => h9) hd (kk H locs ls hP hS hL)
theorem sm_gvalue (C : sm_Cx X cc nL own fr lo ret) {index i : Nat} (hi : i < 3) (hl : Cond.fieldLink own index "java/lang/String" "value" "[B" ∈ sm_G) (hd : decode cc pc = .ok (.getfield index, 3)) (kk : sm_V X Q nL σ (pc + 3) lv (.ref (sm_aV (sm_w X) i) :: st)) : sm_V X Q nL σ pc lv (.ref (sm_aK (sm_w X) i) :: st) := by
  intro H locs ls hP hS hL
  exact vk_getf C.hx C.hb (C.hTA.1 i hi).2.2.1 hS C.hown (C.hts _ hl) (fun _ h9 => h9) hd (kk H locs ls hP hS hL)
theorem sm_slen (C : sm_Cx X cc nL own fr lo ret) {i : Nat} {f : Int32 → Option β} (hi : i < 3) (hd : decode cc pc = .ok (.arraylength, 1)) (h : sm_b (Int32.ofNat (sm_len.getD i 0)) f = some z) (kk : ∀ v, f v = some z → sm_V X Q nL σ (pc + 1) lv (.int v :: st)) : sm_V X Q nL σ pc lv (.ref (sm_aV (sm_w X) i) :: st) := by
  intro H locs ls hP hS hL
  exact va_tlen C.hx C.hb (C.hTA.1 i hi).2.2.2 hS rfl hd (kk _ h H locs ls hP hS hL)
theorem sm_sbald (C : sm_Cx X cc nL own fr lo ret) {i : Nat} {j : Int32} {f : Int32 → Option β} (hi : i < 3) (hd : decode cc pc = .ok (.baload, 1)) (h : sm_g (sm_in j (sm_len.getD i 0)) (sm_b ((sm_byt.getD i []).getD j.toNatClampNeg 0) f) = some z) (kk : ∀ v, f v = some z → sm_V X Q nL σ (pc + 1) lv (.int v :: st)) : sm_V X Q nL σ pc lv (.int j :: .ref (sm_aV (sm_w X) i) :: st) := by
  intro H locs ls hP hS hL
  obtain ⟨h1, h2⟩ := sm_gE h
  exact va_tb C.hx C.hb (C.hTA.1 i hi).2.2.2 hS (sm_inE h1) rfl hd (kk _ h2 H locs ls hP hS hL)
end
end
section
/-! CONTRACTS, CALLS, ENDS -/
def sm_QI (X : sm_VC) (R : Int32 × sm_St) : State → Prop := MQ (sm_be X) (va_Qi (fun r (_ : Unit) => r = R.1) (fun _ t => va_P (sm_D (sm_w X)) (sm_cl (sm_w X)) (sm_wd (sm_w X) R.2) t.heap) (sm_fA X)) (sm_as X) (sm_s X) (sm_cs X) (sm_sl X) (sm_fA X)
def sm_QL (X : sm_VC) (R : Int64 × sm_St) : State → Prop := MQ (sm_be X) (va_Ql (fun r (_ : Unit) => r = R.1) (fun _ t => va_P (sm_D (sm_w X)) (sm_cl (sm_w X)) (sm_wd (sm_w X) R.2) t.heap) (sm_fA X)) (sm_as X) (sm_s X) (sm_cs X) (sm_sl X) (sm_fA X)
def sm_QV (X : sm_VC) (R : Unit × sm_St) : State → Prop := MQ (sm_be X) (va_Qv (fun (_ : Unit) => True) (fun _ t => va_P (sm_D (sm_w X)) (sm_cl (sm_w X)) (sm_wd (sm_w X) R.2) t.heap) (sm_fA X)) (sm_as X) (sm_s X) (sm_cs X) (sm_sl X) (sm_fA X)
def sm_rm (fr lo : Nat) : Room := { frames := fr, cells := 0, slots := 0, locals := lo }
def sm_ws (y : MethodName) (bytes : ByteArray) (maxL : Nat) (ret : Option FieldType) : List Cond := .code y bytes maxL ret :: sm_G
def sm_CI (w : sm_WD) (l : Launch) (y : MethodName) (bytes : ByteArray) (maxL : Nat) (ret : Option FieldType) (fr lo : Nat) (av : List Value) (F : sm_St → Option (Int32 × sm_St)) : Prop :=
  ∀ (σ : sm_St) (R : Int32 × sm_St), F σ = some R → ∀ sz : Nat, Met l y (sm_ws y bytes maxL ret) (sm_rm fr lo) (va_Pc av (fun U => U.heap.size = sz ∧ sm_Pre w σ U)) (va_Qi (fun r (_ : Unit) => r = R.1) (fun _ t => va_P (sm_D w) (sm_cl w) (sm_wd w R.2) t.heap) (sm_A w sz)) 0 0 (sm_A w sz)
def sm_CL (w : sm_WD) (l : Launch) (y : MethodName) (bytes : ByteArray) (maxL : Nat) (ret : Option FieldType) (fr lo : Nat) (av : List Value) (F : sm_St → Option (Int64 × sm_St)) : Prop :=
  ∀ (σ : sm_St) (R : Int64 × sm_St), F σ = some R → ∀ sz : Nat, Met l y (sm_ws y bytes maxL ret) (sm_rm fr lo) (va_Pc av (fun U => U.heap.size = sz ∧ sm_Pre w σ U)) (va_Ql (fun r (_ : Unit) => r = R.1) (fun _ t => va_P (sm_D w) (sm_cl w) (sm_wd w R.2) t.heap) (sm_A w sz)) 0 0 (sm_A w sz)
def sm_CV (w : sm_WD) (l : Launch) (y : MethodName) (bytes : ByteArray) (maxL : Nat) (ret : Option FieldType) (fr lo : Nat) (av : List Value) (F : sm_St → Option (Unit × sm_St)) : Prop :=
  ∀ (σ : sm_St) (R : Unit × sm_St), F σ = some R → ∀ sz : Nat, Met l y (sm_ws y bytes maxL ret) (sm_rm fr lo) (va_Pc av (fun U => U.heap.size = sz ∧ sm_Pre w σ U)) (va_Qv (fun (_ : Unit) => True) (fun _ t => va_P (sm_D w) (sm_cl w) (sm_wd w R.2) t.heap) (sm_A w sz)) 0 0 (sm_A w sz)
theorem sm_CI.of {w : sm_WD} {l : Launch} {y : MethodName} {bytes : ByteArray} {maxL : Nat} {ret : Option FieldType} {fr lo : Nat} {av : List Value} {F : sm_St → Option (Int32 × sm_St)} (hy : plainName y.cls = true) (hlen : (lg_sl av).length ≤ maxL)
    (body : ∀ (X : sm_VC) (σ : sm_St) (R : Int32 × sm_St), sm_w X = w → sm_l X = l → sm_Cx X bytes maxL y.cls fr lo ret → F σ = some R → sm_V X (sm_QI X R) maxL σ 0 (lv_args 0 av) []) : sm_CI w l y bytes maxL ret fr lo av F := by
  intro σ R hF sz
  refine Met.ofW (cc := bytes) (maxL := maxL) (ret := ret) hy rfl ?_
  intro p e s m args below meth c s₁ B hml hv
  obtain ⟨rfl, hsz, hP, hK, hI, hT⟩ := hv
  subst hsz
  have hts := atoms_spec (ws := sm_ws y bytes maxL ret) B.pre
  have hown : s.vm.findClass y.cls = some m.cls := findClass_of_methodNamed B.named
  have K := body (p, l, e, sm_rm fr lo, s, m, av.toArray, below, meth, c, w, sm_A w s.heap.size, 0, 0) σ R rfl rfl
    ⟨B.exec, B.bytes, hml, hown, fun w hw => hts w (List.mem_cons_of_mem _ hw), hK, hI, fun q h => h, fun q h => by
      rcases h with ⟨k, h1, h2⟩ | h
      · rw [h2]; exact hI.2.1 k h1
      · exact Nat.le_trans hI.2.2 h, B.notSynchronized, B.returns, ⟨⟨Nat.le_refl _, Nat.le_refl _⟩, Nat.zero_le _, Nat.zero_le _⟩, hT⟩ hF
  rw [lg_entry_eq]
  exact K s.heap [] _ hP va_S.rf (lv_entry av hlen)
theorem sm_CL.of {w : sm_WD} {l : Launch} {y : MethodName} {bytes : ByteArray} {maxL : Nat} {ret : Option FieldType} {fr lo : Nat} {av : List Value} {F : sm_St → Option (Int64 × sm_St)} (hy : plainName y.cls = true) (hlen : (lg_sl av).length ≤ maxL)
    (body : ∀ (X : sm_VC) (σ : sm_St) (R : Int64 × sm_St), sm_w X = w → sm_l X = l → sm_Cx X bytes maxL y.cls fr lo ret → F σ = some R → sm_V X (sm_QL X R) maxL σ 0 (lv_args 0 av) []) : sm_CL w l y bytes maxL ret fr lo av F := by
  intro σ R hF sz
  refine Met.ofW (cc := bytes) (maxL := maxL) (ret := ret) hy rfl ?_
  intro p e s m args below meth c s₁ B hml hv
  obtain ⟨rfl, hsz, hP, hK, hI, hT⟩ := hv
  subst hsz
  have hts := atoms_spec (ws := sm_ws y bytes maxL ret) B.pre
  have hown : s.vm.findClass y.cls = some m.cls := findClass_of_methodNamed B.named
  have K := body (p, l, e, sm_rm fr lo, s, m, av.toArray, below, meth, c, w, sm_A w s.heap.size, 0, 0) σ R rfl rfl
    ⟨B.exec, B.bytes, hml, hown, fun w hw => hts w (List.mem_cons_of_mem _ hw), hK, hI, fun q h => h, fun q h => by
      rcases h with ⟨k, h1, h2⟩ | h
      · rw [h2]; exact hI.2.1 k h1
      · exact Nat.le_trans hI.2.2 h, B.notSynchronized, B.returns, ⟨⟨Nat.le_refl _, Nat.le_refl _⟩, Nat.zero_le _, Nat.zero_le _⟩, hT⟩ hF
  rw [lg_entry_eq]
  exact K s.heap [] _ hP va_S.rf (lv_entry av hlen)
theorem sm_CV.of {w : sm_WD} {l : Launch} {y : MethodName} {bytes : ByteArray} {maxL : Nat} {ret : Option FieldType} {fr lo : Nat} {av : List Value} {F : sm_St → Option (Unit × sm_St)} (hy : plainName y.cls = true) (hlen : (lg_sl av).length ≤ maxL)
    (body : ∀ (X : sm_VC) (σ : sm_St) (R : Unit × sm_St), sm_w X = w → sm_l X = l → sm_Cx X bytes maxL y.cls fr lo ret → F σ = some R → sm_V X (sm_QV X R) maxL σ 0 (lv_args 0 av) []) : sm_CV w l y bytes maxL ret fr lo av F := by
  intro σ R hF sz
  refine Met.ofW (cc := bytes) (maxL := maxL) (ret := ret) hy rfl ?_
  intro p e s m args below meth c s₁ B hml hv
  obtain ⟨rfl, hsz, hP, hK, hI, hT⟩ := hv
  subst hsz
  have hts := atoms_spec (ws := sm_ws y bytes maxL ret) B.pre
  have hown : s.vm.findClass y.cls = some m.cls := findClass_of_methodNamed B.named
  have K := body (p, l, e, sm_rm fr lo, s, m, av.toArray, below, meth, c, w, sm_A w s.heap.size, 0, 0) σ R rfl rfl
    ⟨B.exec, B.bytes, hml, hown, fun w hw => hts w (List.mem_cons_of_mem _ hw), hK, hI, fun q h => h, fun q h => by
      rcases h with ⟨k, h1, h2⟩ | h
      · rw [h2]; exact hI.2.1 k h1
      · exact Nat.le_trans hI.2.2 h, B.notSynchronized, B.returns, ⟨⟨Nat.le_refl _, Nat.le_refl _⟩, Nat.zero_le _, Nat.zero_le _⟩, hT⟩ hF
  rw [lg_entry_eq]
  exact K s.heap [] _ hP va_S.rf (lv_entry av hlen)
theorem sm_blind {w : sm_WD} {σ : sm_St} {av : List Value} {sz : Nat} : FrameBlind (va_Pc av (fun U => U.heap.size = sz ∧ sm_Pre w σ U)) := by
  intro a U g mk q
  obtain ⟨q0, q1, qP, qK, qI, qT⟩ := q
  exact ⟨q0, q1, qP, va_K.moved (u := U) (U := U.calling g mk a) (Vm.Alike.refl U.vm) qK, qI, sm_Str.same (s := U) (U := U.calling g mk a) rfl qT⟩
section
variable {X : sm_VC} {cc : ByteArray} {nL : Nat} {own : String} {fr lo : Nat} {ret : Option FieldType}
theorem sm_pre (C : sm_Cx X cc nL own fr lo ret) {σ : sm_St} {H : Heap} {locs : List Loc} {av : List Value} (hP : va_P (sm_D (sm_w X)) (sm_cl (sm_w X)) (sm_wd (sm_w X) σ) H) (hS : va_S (sm_fA X) (sm_s X).heap H locs) (U : State) (hU : U.heap = H) (hW : (sm_s X).WarmedH U.vm) : va_Pc av (fun U => U.heap.size = H.size ∧ sm_Pre (sm_w X) σ U) av.toArray U := by
  refine ⟨rfl, by rw [hU], by rw [hU]; exact hP, C.hK.moved hW.alike, ⟨C.hI.1, C.hI.2.1, by rw [hU]; exact Nat.le_trans C.hI.2.2 hS.1⟩, ?_⟩
  rw [hU]
  exact (C.hT.warm hW).kept (fun a ha hn => hS.2.1 a ha (fun h => hn (C.hz a h)))
theorem sm_free (C : sm_Cx X cc nL own fr lo ret) {H : Heap} {locs : List Loc} (hS : va_S (sm_fA X) (sm_s X).heap H locs) : ∀ q, sm_A (sm_w X) H.size q → sm_fA X q := by
  intro q h
  rcases h with ⟨k, h1, h2⟩ | h
  · rw [h2]; exact C.hAk k h1
  · exact C.hAz q (Nat.le_trans hS.1 h)
/-- what a call of a method needs of the tables -/
def sm_Mt (y : MethodName) (bytes : ByteArray) (maxL : Nat) (ret : Option FieldType) (n : Nat) : Prop := Cond.code y bytes maxL ret ∈ sm_G ∧ Cond.initialized y.cls ∈ sm_G ∧ (y.cls ≠ "java/lang/invoke/MethodHandle" ∧ y.cls ≠ "java/lang/invoke/VarHandle" ∧ (parseMethodDescriptor y.desc).map (fun d => d.parameters.length) = some n)
theorem sm_goodws {y : MethodName} {bytes : ByteArray} {maxL : Nat} {ret : Option FieldType} (h : Cond.code y bytes maxL ret ∈ sm_G) : GoodIn sm_G (sm_ws y bytes maxL ret) := fun w hw => by
  rcases List.mem_cons.mp hw with rfl | hw
  · exact sm_good _ h
  · exact sm_good _ hw
/-- the receiver: an object of class C0 at cell k -/
def sm_Ob (w : sm_WD) (k : Nat) (C0 : String) : Prop := k < sm_N w ∧ ∀ a b c, ∃ ci fs q, sm_sh w k a b c = .inr (ci, fs) ∧ (sm_cl w)[ci]? = some q ∧ q.1 = C0
theorem sm_obr {w : sm_WD} {k : Nat} {C0 : String} (h : sm_Ob w k C0) {s : State} {H : Heap} {σ : sm_St} {tys : List (ClassId × FieldType)} (hK : va_K (sm_D w) (sm_cl w) tys s) (hP : va_P (sm_D w) (sm_cl w) (sm_wd w σ) H) : ∃ cell : Cell, H[sm_ad w k]? = some cell ∧ cell.vm.isStatics = false ∧ s.vm.findClass C0 = some cell.cls := by
  obtain ⟨hk, h⟩ := h
  obtain ⟨ci, fs, q, h1, h2, rfl⟩ := h (σ.1 k) (σ.2.1 k) (σ.2.2 k)
  have ha := sm_at (w := w) (σ := σ) hk
  rw [h1] at ha
  exact va_recv hK hP h2 ha
end
section
variable {X : sm_VC} {cc : ByteArray} {nL : Nat} {own : String} {fr lo : Nat} {ret : Option FieldType} {Q : State → Prop} {σ : sm_St} {pc : Nat} {lv : List (Nat × Value)} {st : List Value} {β : Type} {z : β}
theorem sm_callVI (C : sm_Cx X cc nL own fr lo ret) {y : MethodName} {bytes : ByteArray} {maxL n index fr1 lo1 : Nat} {ret1 : Option FieldType} {stk : List Value} {k : Nat} {F : sm_St → Option (Int32 × sm_St)} {f : Int32 → sm_St → Option β} (As : List Value) (hM : sm_CI (sm_w X) (sm_l X) y bytes maxL ret1 fr1 lo1 (.ref (sm_ad (sm_w X) k) :: As) F) (hm : sm_Mt y bytes maxL ret1 n) (hl : Cond.methodLink own index y ∈ sm_G) (hin : Cond.instanceMethod y ∈ sm_G) (hse : Cond.selects y.cls y y ∈ sm_G) (hob : sm_Ob (sm_w X) k y.cls) (hn : As.length = n) (hroom : fr1 + 1 ≤ fr ∧ 8 + (maxL + 11) + lo1 ≤ lo) (hstk : stk = As.reverse ++ .ref (sm_ad (sm_w X) k) :: st) (hW : (st.map fun v => v.category).sum ≤ 8) (hd : decode cc pc = .ok (.invokevirtual index, 3)) (h : sm_c (F σ) f = some z) (kk : ∀ r s, f r s = some z → sm_V X Q nL s (pc + 3) lv (.int r :: st)) : sm_V X Q nL σ pc lv stk := by
  intro H locs ls hP hS hL
  subst hstk
  obtain ⟨a, s1, h1, h2⟩ := sm_cE h
  have cw : CallW (sm_R X) (sm_s X) (sm_as X) own y.cls index y bytes maxL ret1 (sm_ws y bytes maxL ret1) (sm_rm fr1 lo1) 0 0 n :=
    ⟨callB_of n C.hts (sm_goodws hm.1) rfl rfl rfl (C.hts _ hm.2.1) (C.hts _ hl) hm.2.2 ⟨Nat.le_trans hroom.1 C.hR.1, Nat.le_trans hroom.2 C.hR.2⟩, C.hts _ hin, C.hts _ hse⟩
  refine va_calli (va_runV (As := As) (rest := st) ⟨C.hx, C.hb, C.hml, C.hown, C.hts⟩ (hM σ (a, s1) h1 H.size) cw ⟨sm_blind, sm_obr hob C.hK hP, fun U hU hW => sm_pre C hP hS U hU hW⟩ rfl hn hL.1 rfl (lv_room (pc := pc) (ls := ls) hW) hd C.hcs) hS (fun q _ h => sm_free C hS q h) (sm_free C hS) (fun r u t H1 locs1 ht hvm hp hB hz1 hk1 hS1 => ?_)
  rw [ht] at hB
  subst hp
  exact kk _ _ h2 H1 locs1 ls hB hS1 hL
theorem sm_callNI (C : sm_Cx X cc nL own fr lo ret) {y : MethodName} {bytes : ByteArray} {maxL n index fr1 lo1 : Nat} {ret1 : Option FieldType} {stk : List Value} {host : String} {k : Nat} {F : sm_St → Option (Int32 × sm_St)} {f : Int32 → sm_St → Option β} (As : List Value) (hM : sm_CI (sm_w X) (sm_l X) y bytes maxL ret1 fr1 lo1 As F) (hm : sm_Mt y bytes maxL ret1 n) (hl : Cond.methodLinkNest own index y host ∈ sm_G) (hin : Cond.static y ∈ sm_G) (hn : As.length = n) (hroom : fr1 + 1 ≤ fr ∧ 8 + (maxL + 11) + lo1 ≤ lo) (hstk : stk = As.reverse ++ st) (hW : (st.map fun v => v.category).sum ≤ 8) (hd : decode cc pc = .ok (.invokestatic index, 3)) (h : sm_c (F σ) f = some z) (kk : ∀ r s, f r s = some z → sm_V X Q nL s (pc + 3) lv (.int r :: st)) : sm_V X Q nL σ pc lv stk := by
  intro H locs ls hP hS hL
  subst hstk
  obtain ⟨a, s1, h1, h2⟩ := sm_cE h
  have cw : va_CN (sm_R X) (sm_s X) (sm_as X) own index y host bytes maxL ret1 (sm_ws y bytes maxL ret1) (sm_rm fr1 lo1) 0 0 n :=
    va_cnB n C.hts (sm_goodws hm.1) rfl rfl rfl (va_any rfl (C.hts _ hl)) (C.hts _ hm.2.1) hm.2.2 ⟨Nat.le_trans hroom.1 C.hR.1, Nat.le_trans hroom.2 C.hR.2⟩
  refine va_calli (va_runSN (As := As) (rest := st) ⟨C.hx, C.hb, C.hml, C.hown, C.hts⟩ (hM σ (a, s1) h1 H.size) ⟨cw, C.hts _ hin, trivial⟩ ⟨sm_blind, fun U hU hW => sm_pre C hP hS U hU hW⟩ rfl hn hL.1 rfl (lv_room (pc := pc) (ls := ls) hW) hd C.hcs) hS (fun q _ h => sm_free C hS q h) (sm_free C hS) (fun r u t H1 locs1 ht hvm hp hB hz1 hk1 hS1 => ?_)
  rw [ht] at hB
  subst hp
  exact kk _ _ h2 H1 locs1 ls hB hS1 hL
theorem sm_callSI (C : sm_Cx X cc nL own fr lo ret) {y : MethodName} {bytes : ByteArray} {maxL n index fr1 lo1 : Nat} {ret1 : Option FieldType} {stk : List Value} {F : sm_St → Option (Int32 × sm_St)} {f : Int32 → sm_St → Option β} (As : List Value) (hM : sm_CI (sm_w X) (sm_l X) y bytes maxL ret1 fr1 lo1 As F) (hm : sm_Mt y bytes maxL ret1 n) (hl : Cond.methodLink own index y ∈ sm_G) (hin : Cond.static y ∈ sm_G) (hn : As.length = n) (hroom : fr1 + 1 ≤ fr ∧ 8 + (maxL + 11) + lo1 ≤ lo) (hstk : stk = As.reverse ++ st) (hW : (st.map fun v => v.category).sum ≤ 8) (hd : decode cc pc = .ok (.invokestatic index, 3)) (h : sm_c (F σ) f = some z) (kk : ∀ r s, f r s = some z → sm_V X Q nL s (pc + 3) lv (.int r :: st)) : sm_V X Q nL σ pc lv stk := by
  intro H locs ls hP hS hL
  subst hstk
  obtain ⟨a, s1, h1, h2⟩ := sm_cE h
  have cw : CallB (sm_R X) (sm_s X) (sm_as X) own index y bytes maxL ret1 (sm_ws y bytes maxL ret1) (sm_rm fr1 lo1) 0 0 n :=
    callB_of n C.hts (sm_goodws hm.1) rfl rfl rfl (C.hts _ hm.2.1) (C.hts _ hl) hm.2.2 ⟨Nat.le_trans hroom.1 C.hR.1, Nat.le_trans hroom.2 C.hR.2⟩
  refine va_calli (va_runS (As := As) (rest := st) ⟨C.hx, C.hb, C.hml, C.hown, C.hts⟩ (hM σ (a, s1) h1 H.size) ⟨cw, C.hts _ hin⟩ ⟨sm_blind, fun U hU hW => sm_pre C hP hS U hU hW⟩ rfl hn hL.1 rfl (lv_room (pc := pc) (ls := ls) hW) hd C.hcs) hS (fun q _ h => sm_free C hS q h) (sm_free C hS) (fun r u t H1 locs1 ht hvm hp hB hz1 hk1 hS1 => ?_)
  rw [ht] at hB
  subst hp
  exact kk _ _ h2 H1 locs1 ls hB hS1 hL
theorem sm_callTI (C : sm_Cx X cc nL own fr lo ret) {y : MethodName} {bytes : ByteArray} {maxL n index fr1 lo1 : Nat} {ret1 : Option FieldType} {stk : List Value} {i : Nat} {F : sm_St → Option (Int32 × sm_St)} {f : Int32 → sm_St → Option β} (As : List Value) (hi : i < 3) (hM : sm_CI (sm_w X) (sm_l X) y bytes maxL ret1 fr1 lo1 (.ref (sm_aK (sm_w X) i) :: As) F) (hm : sm_Mt y bytes maxL ret1 n) (hl : Cond.methodLink own index y ∈ sm_G) (hin : Cond.instanceMethod y ∈ sm_G) (hse : Cond.selects y.cls y y ∈ sm_G) (hob : y.cls = "java/lang/String") (hn : As.length = n) (hroom : fr1 + 1 ≤ fr ∧ 8 + (maxL + 11) + lo1 ≤ lo) (hstk : stk = As.reverse ++ .ref (sm_aK (sm_w X) i) :: st) (hW : (st.map fun v => v.category).sum ≤ 8) (hd : decode cc pc = .ok (.invokevirtual index, 3)) (h : sm_c (F σ) f = some z) (kk : ∀ r s, f r s = some z → sm_V X Q nL s (pc + 3) lv (.int r :: st)) : sm_V X Q nL σ pc lv stk := by
  intro H locs ls hP hS hL
  subst hstk
  obtain ⟨a, s1, h1, h2⟩ := sm_cE h
  have cw : CallW (sm_R X) (sm_s X) (sm_as X) own y.cls index y bytes maxL ret1 (sm_ws y bytes maxL ret1) (sm_rm fr1 lo1) 0 0 n :=
    ⟨callB_of n C.hts (sm_goodws hm.1) rfl rfl rfl (C.hts _ hm.2.1) (C.hts _ hl) hm.2.2 ⟨Nat.le_trans hroom.1 C.hR.1, Nat.le_trans hroom.2 C.hR.2⟩, C.hts _ hin, C.hts _ hse⟩
  refine va_calli (va_runV (As := As) (rest := st) ⟨C.hx, C.hb, C.hml, C.hown, C.hts⟩ (hM σ (a, s1) h1 H.size) cw ⟨sm_blind, by rw [hob]; exact vk_recv C.hTA hi hS, fun U hU hW => sm_pre C hP hS U hU hW⟩ rfl hn hL.1 rfl (lv_room (pc := pc) (ls := ls) hW) hd C.hcs) hS (fun q _ h => sm_free C hS q h) (sm_free C hS) (fun r u t H1 locs1 ht hvm hp hB hz1 hk1 hS1 => ?_)
  rw [ht] at hB
  subst hp
  exact kk _ _ h2 H1 locs1 ls hB hS1 hL
theorem sm_callVL (C : sm_Cx X cc nL own fr lo ret) {y : MethodName} {bytes : ByteArray} {maxL n index fr1 lo1 : Nat} {ret1 : Option FieldType} {stk : List Value} {k : Nat} {F : sm_St → Option (Int64 × sm_St)} {f : Int64 → sm_St → Option β} (As : List Value) (hM : sm_CL (sm_w X) (sm_l X) y bytes maxL ret1 fr1 lo1 (.ref (sm_ad (sm_w X) k) :: As) F) (hm : sm_Mt y bytes maxL ret1 n) (hl : Cond.methodLink own index y ∈ sm_G) (hin : Cond.instanceMethod y ∈ sm_G) (hse : Cond.selects y.cls y y ∈ sm_G) (hob : sm_Ob (sm_w X) k y.cls) (hn : As.length = n) (hroom : fr1 + 1 ≤ fr ∧ 8 + (maxL + 11) + lo1 ≤ lo) (hstk : stk = As.reverse ++ .ref (sm_ad (sm_w X) k) :: st) (hW : (st.map fun v => v.category).sum ≤ 8) (hd : decode cc pc = .ok (.invokevirtual index, 3)) (h : sm_c (F σ) f = some z) (kk : ∀ r s, f r s = some z → sm_V X Q nL s (pc + 3) lv (.long r :: st)) : sm_V X Q nL σ pc lv stk := by
  intro H locs ls hP hS hL
  subst hstk
  obtain ⟨a, s1, h1, h2⟩ := sm_cE h
  have cw : CallW (sm_R X) (sm_s X) (sm_as X) own y.cls index y bytes maxL ret1 (sm_ws y bytes maxL ret1) (sm_rm fr1 lo1) 0 0 n :=
    ⟨callB_of n C.hts (sm_goodws hm.1) rfl rfl rfl (C.hts _ hm.2.1) (C.hts _ hl) hm.2.2 ⟨Nat.le_trans hroom.1 C.hR.1, Nat.le_trans hroom.2 C.hR.2⟩, C.hts _ hin, C.hts _ hse⟩
  refine va_calll (va_runV (As := As) (rest := st) ⟨C.hx, C.hb, C.hml, C.hown, C.hts⟩ (hM σ (a, s1) h1 H.size) cw ⟨sm_blind, sm_obr hob C.hK hP, fun U hU hW => sm_pre C hP hS U hU hW⟩ rfl hn hL.1 rfl (lv_room (pc := pc) (ls := ls) hW) hd C.hcs) hS (fun q _ h => sm_free C hS q h) (sm_free C hS) (fun r u t H1 locs1 ht hvm hp hB hz1 hk1 hS1 => ?_)
  rw [ht] at hB
  subst hp
  exact kk _ _ h2 H1 locs1 ls hB hS1 hL
theorem sm_callNL (C : sm_Cx X cc nL own fr lo ret) {y : MethodName} {bytes : ByteArray} {maxL n index fr1 lo1 : Nat} {ret1 : Option FieldType} {stk : List Value} {host : String} {k : Nat} {F : sm_St → Option (Int64 × sm_St)} {f : Int64 → sm_St → Option β} (As : List Value) (hM : sm_CL (sm_w X) (sm_l X) y bytes maxL ret1 fr1 lo1 As F) (hm : sm_Mt y bytes maxL ret1 n) (hl : Cond.methodLinkNest own index y host ∈ sm_G) (hin : Cond.static y ∈ sm_G) (hn : As.length = n) (hroom : fr1 + 1 ≤ fr ∧ 8 + (maxL + 11) + lo1 ≤ lo) (hstk : stk = As.reverse ++ st) (hW : (st.map fun v => v.category).sum ≤ 8) (hd : decode cc pc = .ok (.invokestatic index, 3)) (h : sm_c (F σ) f = some z) (kk : ∀ r s, f r s = some z → sm_V X Q nL s (pc + 3) lv (.long r :: st)) : sm_V X Q nL σ pc lv stk := by
  intro H locs ls hP hS hL
  subst hstk
  obtain ⟨a, s1, h1, h2⟩ := sm_cE h
  have cw : va_CN (sm_R X) (sm_s X) (sm_as X) own index y host bytes maxL ret1 (sm_ws y bytes maxL ret1) (sm_rm fr1 lo1) 0 0 n :=
    va_cnB n C.hts (sm_goodws hm.1) rfl rfl rfl (va_any rfl (C.hts _ hl)) (C.hts _ hm.2.1) hm.2.2 ⟨Nat.le_trans hroom.1 C.hR.1, Nat.le_trans hroom.2 C.hR.2⟩
  refine va_calll (va_runSN (As := As) (rest := st) ⟨C.hx, C.hb, C.hml, C.hown, C.hts⟩ (hM σ (a, s1) h1 H.size) ⟨cw, C.hts _ hin, trivial⟩ ⟨sm_blind, fun U hU hW => sm_pre C hP hS U hU hW⟩ rfl hn hL.1 rfl (lv_room (pc := pc) (ls := ls) hW) hd C.hcs) hS (fun q _ h => sm_free C hS q h) (sm_free C hS) (fun r u t H1 locs1 ht hvm hp hB hz1 hk1 hS1 => ?_)
  rw [ht] at hB
  subst hp
  exact kk _ _ h2 H1 locs1 ls hB hS1 hL
theorem sm_callSL (C : sm_Cx X cc nL own fr lo ret) {y : MethodName} {bytes : ByteArray} {maxL n index fr1 lo1 : Nat} {ret1 : Option FieldType} {stk : List Value} {F : sm_St → Option (Int64 × sm_St)} {f : Int64 → sm_St → Option β} (As : List Value) (hM : sm_CL (sm_w X) (sm_l X) y bytes maxL ret1 fr1 lo1 As F) (hm : sm_Mt y bytes maxL ret1 n) (hl : Cond.methodLink own index y ∈ sm_G) (hin : Cond.static y ∈ sm_G) (hn : As.length = n) (hroom : fr1 + 1 ≤ fr ∧ 8 + (maxL + 11) + lo1 ≤ lo) (hstk : stk = As.reverse ++ st) (hW : (st.map fun v => v.category).sum ≤ 8) (hd : decode cc pc = .ok (.invokestatic index, 3)) (h : sm_c (F σ) f = some z) (kk : ∀ r s, f r s = some z → sm_V X Q nL s (pc + 3) lv (.long r :: st)) : sm_V X Q nL σ pc lv stk := by
  intro H locs ls hP hS hL
  subst hstk
  obtain ⟨a, s1, h1, h2⟩ := sm_cE h
  have cw : CallB (sm_R X) (sm_s X) (sm_as X) own index y bytes maxL ret1 (sm_ws y bytes maxL ret1) (sm_rm fr1 lo1) 0 0 n :=
    callB_of n C.hts (sm_goodws hm.1) rfl rfl rfl (C.hts _ hm.2.1) (C.hts _ hl) hm.2.2 ⟨Nat.le_trans hroom.1 C.hR.1, Nat.le_trans hroom.2 C.hR.2⟩
  refine va_calll (va_runS (As := As) (rest := st) ⟨C.hx, C.hb, C.hml, C.hown, C.hts⟩ (hM σ (a, s1) h1 H.size) ⟨cw, C.hts _ hin⟩ ⟨sm_blind, fun U hU hW => sm_pre C hP hS U hU hW⟩ rfl hn hL.1 rfl (lv_room (pc := pc) (ls := ls) hW) hd C.hcs) hS (fun q _ h => sm_free C hS q h) (sm_free C hS) (fun r u t H1 locs1 ht hvm hp hB hz1 hk1 hS1 => ?_)
  rw [ht] at hB
  subst hp
  exact kk _ _ h2 H1 locs1 ls hB hS1 hL
theorem sm_callTL (C : sm_Cx X cc nL own fr lo ret) {y : MethodName} {bytes : ByteArray} {maxL n index fr1 lo1 : Nat} {ret1 : Option FieldType} {stk : List Value} {i : Nat} {F : sm_St → Option (Int64 × sm_St)} {f : Int64 → sm_St → Option β} (As : List Value) (hi : i < 3) (hM : sm_CL (sm_w X) (sm_l X) y bytes maxL ret1 fr1 lo1 (.ref (sm_aK (sm_w X) i) :: As) F) (hm : sm_Mt y bytes maxL ret1 n) (hl : Cond.methodLink own index y ∈ sm_G) (hin : Cond.instanceMethod y ∈ sm_G) (hse : Cond.selects y.cls y y ∈ sm_G) (hob : y.cls = "java/lang/String") (hn : As.length = n) (hroom : fr1 + 1 ≤ fr ∧ 8 + (maxL + 11) + lo1 ≤ lo) (hstk : stk = As.reverse ++ .ref (sm_aK (sm_w X) i) :: st) (hW : (st.map fun v => v.category).sum ≤ 8) (hd : decode cc pc = .ok (.invokevirtual index, 3)) (h : sm_c (F σ) f = some z) (kk : ∀ r s, f r s = some z → sm_V X Q nL s (pc + 3) lv (.long r :: st)) : sm_V X Q nL σ pc lv stk := by
  intro H locs ls hP hS hL
  subst hstk
  obtain ⟨a, s1, h1, h2⟩ := sm_cE h
  have cw : CallW (sm_R X) (sm_s X) (sm_as X) own y.cls index y bytes maxL ret1 (sm_ws y bytes maxL ret1) (sm_rm fr1 lo1) 0 0 n :=
    ⟨callB_of n C.hts (sm_goodws hm.1) rfl rfl rfl (C.hts _ hm.2.1) (C.hts _ hl) hm.2.2 ⟨Nat.le_trans hroom.1 C.hR.1, Nat.le_trans hroom.2 C.hR.2⟩, C.hts _ hin, C.hts _ hse⟩
  refine va_calll (va_runV (As := As) (rest := st) ⟨C.hx, C.hb, C.hml, C.hown, C.hts⟩ (hM σ (a, s1) h1 H.size) cw ⟨sm_blind, by rw [hob]; exact vk_recv C.hTA hi hS, fun U hU hW => sm_pre C hP hS U hU hW⟩ rfl hn hL.1 rfl (lv_room (pc := pc) (ls := ls) hW) hd C.hcs) hS (fun q _ h => sm_free C hS q h) (sm_free C hS) (fun r u t H1 locs1 ht hvm hp hB hz1 hk1 hS1 => ?_)
  rw [ht] at hB
  subst hp
  exact kk _ _ h2 H1 locs1 ls hB hS1 hL
theorem sm_callVV (C : sm_Cx X cc nL own fr lo ret) {y : MethodName} {bytes : ByteArray} {maxL n index fr1 lo1 : Nat} {ret1 : Option FieldType} {stk : List Value} {k : Nat} {F : sm_St → Option (Unit × sm_St)} {f : Unit → sm_St → Option β} (As : List Value) (hM : sm_CV (sm_w X) (sm_l X) y bytes maxL ret1 fr1 lo1 (.ref (sm_ad (sm_w X) k) :: As) F) (hm : sm_Mt y bytes maxL ret1 n) (hl : Cond.methodLink own index y ∈ sm_G) (hin : Cond.instanceMethod y ∈ sm_G) (hse : Cond.selects y.cls y y ∈ sm_G) (hob : sm_Ob (sm_w X) k y.cls) (hn : As.length = n) (hroom : fr1 + 1 ≤ fr ∧ 8 + (maxL + 11) + lo1 ≤ lo) (hstk : stk = As.reverse ++ .ref (sm_ad (sm_w X) k) :: st) (hW : (st.map fun v => v.category).sum ≤ 8) (hd : decode cc pc = .ok (.invokevirtual index, 3)) (h : sm_c (F σ) f = some z) (kk : ∀ r s, f r s = some z → sm_V X Q nL s (pc + 3) lv (st)) : sm_V X Q nL σ pc lv stk := by
  intro H locs ls hP hS hL
  subst hstk
  obtain ⟨a, s1, h1, h2⟩ := sm_cE h
  have cw : CallW (sm_R X) (sm_s X) (sm_as X) own y.cls index y bytes maxL ret1 (sm_ws y bytes maxL ret1) (sm_rm fr1 lo1) 0 0 n :=
    ⟨callB_of n C.hts (sm_goodws hm.1) rfl rfl rfl (C.hts _ hm.2.1) (C.hts _ hl) hm.2.2 ⟨Nat.le_trans hroom.1 C.hR.1, Nat.le_trans hroom.2 C.hR.2⟩, C.hts _ hin, C.hts _ hse⟩
  refine va_callv (va_runV (As := As) (rest := st) ⟨C.hx, C.hb, C.hml, C.hown, C.hts⟩ (hM σ (a, s1) h1 H.size) cw ⟨sm_blind, sm_obr hob C.hK hP, fun U hU hW => sm_pre C hP hS U hU hW⟩ rfl hn hL.1 rfl (lv_room (pc := pc) (ls := ls) hW) hd C.hcs) hS (fun q _ h => sm_free C hS q h) (sm_free C hS) (fun u t H1 locs1 ht hvm hp hB hz1 hk1 hS1 => ?_)
  rw [ht] at hB
  skip
  exact kk _ _ h2 H1 locs1 ls hB hS1 hL
theorem sm_callNV (C : sm_Cx X cc nL own fr lo ret) {y : MethodName} {bytes : ByteArray} {maxL n index fr1 lo1 : Nat} {ret1 : Option FieldType} {stk : List Value} {host : String} {k : Nat} {F : sm_St → Option (Unit × sm_St)} {f : Unit → sm_St → Option β} (As : List Value) (hM : sm_CV (sm_w X) (sm_l X) y bytes maxL ret1 fr1 lo1 As F) (hm : sm_Mt y bytes maxL ret1 n) (hl : Cond.methodLinkNest own index y host ∈ sm_G) (hin : Cond.static y ∈ sm_G) (hn : As.length = n) (hroom : fr1 + 1 ≤ fr ∧ 8 + (maxL + 11) + lo1 ≤ lo) (hstk : stk = As.reverse ++ st) (hW : (st.map fun v => v.category).sum ≤ 8) (hd : decode cc pc = .ok (.invokestatic index, 3)) (h : sm_c (F σ) f = some z) (kk : ∀ r s, f r s = some z → sm_V X Q nL s (pc + 3) lv (st)) : sm_V X Q nL σ pc lv stk := by
  intro H locs ls hP hS hL
  subst hstk
  obtain ⟨a, s1, h1, h2⟩ := sm_cE h
  have cw : va_CN (sm_R X) (sm_s X) (sm_as X) own index y host bytes maxL ret1 (sm_ws y bytes maxL ret1) (sm_rm fr1 lo1) 0 0 n :=
    va_cnB n C.hts (sm_goodws hm.1) rfl rfl rfl (va_any rfl (C.hts _ hl)) (C.hts _ hm.2.1) hm.2.2 ⟨Nat.le_trans hroom.1 C.hR.1, Nat.le_trans hroom.2 C.hR.2⟩
  refine va_callv (va_runSN (As := As) (rest := st) ⟨C.hx, C.hb, C.hml, C.hown, C.hts⟩ (hM σ (a, s1) h1 H.size) ⟨cw, C.hts _ hin, trivial⟩ ⟨sm_blind, fun U hU hW => sm_pre C hP hS U hU hW⟩ rfl hn hL.1 rfl (lv_room (pc := pc) (ls := ls) hW) hd C.hcs) hS (fun q _ h => sm_free C hS q h) (sm_free C hS) (fun u t H1 locs1 ht hvm hp hB hz1 hk1 hS1 => ?_)
  rw [ht] at hB
  skip
  exact kk _ _ h2 H1 locs1 ls hB hS1 hL
theorem sm_callSV (C : sm_Cx X cc nL own fr lo ret) {y : MethodName} {bytes : ByteArray} {maxL n index fr1 lo1 : Nat} {ret1 : Option FieldType} {stk : List Value} {F : sm_St → Option (Unit × sm_St)} {f : Unit → sm_St → Option β} (As : List Value) (hM : sm_CV (sm_w X) (sm_l X) y bytes maxL ret1 fr1 lo1 As F) (hm : sm_Mt y bytes maxL ret1 n) (hl : Cond.methodLink own index y ∈ sm_G) (hin : Cond.static y ∈ sm_G) (hn : As.length = n) (hroom : fr1 + 1 ≤ fr ∧ 8 + (maxL + 11) + lo1 ≤ lo) (hstk : stk = As.reverse ++ st) (hW : (st.map fun v => v.category).sum ≤ 8) (hd : decode cc pc = .ok (.invokestatic index, 3)) (h : sm_c (F σ) f = some z) (kk : ∀ r s, f r s = some z → sm_V X Q nL s (pc + 3) lv (st)) : sm_V X Q nL σ pc lv stk := by
  intro H locs ls hP hS hL
  subst hstk
  obtain ⟨a, s1, h1, h2⟩ := sm_cE h
  have cw : CallB (sm_R X) (sm_s X) (sm_as X) own index y bytes maxL ret1 (sm_ws y bytes maxL ret1) (sm_rm fr1 lo1) 0 0 n :=
    callB_of n C.hts (sm_goodws hm.1) rfl rfl rfl (C.hts _ hm.2.1) (C.hts _ hl) hm.2.2 ⟨Nat.le_trans hroom.1 C.hR.1, Nat.le_trans hroom.2 C.hR.2⟩
  refine va_callv (va_runS (As := As) (rest := st) ⟨C.hx, C.hb, C.hml, C.hown, C.hts⟩ (hM σ (a, s1) h1 H.size) ⟨cw, C.hts _ hin⟩ ⟨sm_blind, fun U hU hW => sm_pre C hP hS U hU hW⟩ rfl hn hL.1 rfl (lv_room (pc := pc) (ls := ls) hW) hd C.hcs) hS (fun q _ h => sm_free C hS q h) (sm_free C hS) (fun u t H1 locs1 ht hvm hp hB hz1 hk1 hS1 => ?_)
  rw [ht] at hB
  skip
  exact kk _ _ h2 H1 locs1 ls hB hS1 hL
theorem sm_iret {v : Int32} {R : Int32 × sm_St} (C : sm_Cx X cc nL own fr lo (some .int)) (hd : decode cc pc = .ok (.ireturn, 1)) (h : some (v, σ) = some R) : sm_V X (sm_QI X R) nL σ pc lv [.int v] := by
  intro H locs ls hP hS hL
  cases h
  exact W.iret C.hx C.hb C.hr (fun t ht hW => ⟨⟨v, (), rfl, rfl, by show va_P _ _ _ t.heap; rw [ht]; exact hP⟩, hS.F ht⟩) hS.2.2 hd C.hlk
theorem sm_zret {v : Int32} {ty : FieldType} {R : Int32 × sm_St} (C : sm_Cx X cc nL own fr lo (some ty)) (hd : decode cc pc = .ok (.ireturn, 1)) (h : sm_g (decide (narrow ty (.int v) = .int v)) (some (v, σ)) = some R) : sm_V X (sm_QI X R) nL σ pc lv [.int v] := by
  intro H locs ls hP hS hL
  obtain ⟨h1, h2⟩ := sm_gE h
  cases h2
  exact W.zret C.hx C.hb C.hr (of_decide_eq_true h1) (fun t ht hW => ⟨⟨v, (), rfl, rfl, by show va_P _ _ _ t.heap; rw [ht]; exact hP⟩, hS.F ht⟩) hS.2.2 hd C.hlk
theorem sm_zretK {v : Int32} {ty : FieldType} {R : Int32 × sm_St} (C : sm_Cx X cc nL own fr lo (some ty)) (hn : narrow ty (.int v) = .int v) (hd : decode cc pc = .ok (.ireturn, 1)) (h : some (v, σ) = some R) : sm_V X (sm_QI X R) nL σ pc lv [.int v] := by
  intro H locs ls hP hS hL
  cases h
  exact W.zret C.hx C.hb C.hr hn (fun t ht hW => ⟨⟨v, (), rfl, rfl, by show va_P _ _ _ t.heap; rw [ht]; exact hP⟩, hS.F ht⟩) hS.2.2 hd C.hlk
theorem sm_lret {v : Int64} {R : Int64 × sm_St} (C : sm_Cx X cc nL own fr lo (some .long)) (hd : decode cc pc = .ok (.lreturn, 1)) (h : some (v, σ) = some R) : sm_V X (sm_QL X R) nL σ pc lv [.long v] := by
  intro H locs ls hP hS hL
  cases h
  exact W.lret C.hx C.hb C.hr (fun t ht hW => ⟨⟨v, (), rfl, rfl, by show va_P _ _ _ t.heap; rw [ht]; exact hP⟩, hS.F ht⟩) hS.2.2 hd C.hlk
theorem sm_vret {R : Unit × sm_St} (C : sm_Cx X cc nL own fr lo none) (hd : decode cc pc = .ok (.return_, 1)) (h : some ((), σ) = some R) : sm_V X (sm_QV X R) nL σ pc lv [] := by
  intro H locs ls hP hS hL
  cases h
  exact W.vret C.hx C.hb C.hr (fun t ht hW => ⟨⟨(), rfl, trivial, by show va_P _ _ _ t.heap; rw [ht]; exact hP⟩, hS.F ht⟩) hS.2.2 hd C.hlk
end
end
