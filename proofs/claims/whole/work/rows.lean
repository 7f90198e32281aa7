section
/-- a private method of a class that the tables say can be made, by its rows of tables_1 -/
def lw_okq (q : MethodName × Nat) : Prop := (q.1.cls ≠ "java/lang/invoke/MethodHandle" ∧ q.1.cls ≠ "java/lang/invoke/VarHandle") ∧ Cond.instantiable q.1.cls q.2 ∈ tables_1 ∧ Cond.privateMethod q.1 ∈ tables_1 ∧ Cond.instanceMethod q.1 ∈ tables_1
theorem lw_p0 : lw_okq (⟨"SaidWoven$Script", "readItem", "(LSaidWoven$Tongue;)Z"⟩, 4) := ⟨⟨by decide +kernel, by decide +kernel⟩, List.mem_of_getElem? (i := 23) (by decide +kernel), List.mem_of_getElem? (i := 335) (by decide +kernel), List.mem_of_getElem? (i := 336) (by decide +kernel)⟩
theorem lw_p1 : lw_okq (⟨"SaidWoven$Script", "readNumbers", "(I)Z"⟩, 4) := ⟨⟨by decide +kernel, by decide +kernel⟩, List.mem_of_getElem? (i := 23) (by decide +kernel), List.mem_of_getElem? (i := 339) (by decide +kernel), List.mem_of_getElem? (i := 340) (by decide +kernel)⟩
theorem lw_p2 : lw_okq (⟨"SaidWoven$Course", "group", "(I[II)V"⟩, 3) := ⟨⟨by decide +kernel, by decide +kernel⟩, List.mem_of_getElem? (i := 122) (by decide +kernel), List.mem_of_getElem? (i := 399) (by decide +kernel), List.mem_of_getElem? (i := 400) (by decide +kernel)⟩
theorem lw_p3 : lw_okq (⟨"SaidWoven$Course", "groups", "(I[II)V"⟩, 3) := ⟨⟨by decide +kernel, by decide +kernel⟩, List.mem_of_getElem? (i := 122) (by decide +kernel), List.mem_of_getElem? (i := 403) (by decide +kernel), List.mem_of_getElem? (i := 404) (by decide +kernel)⟩
theorem lw_p4 : lw_okq (⟨"SaidWoven", "weighSaying", "()V"⟩, 13) := ⟨⟨by decide +kernel, by decide +kernel⟩, List.mem_of_getElem? (i := 15) (by decide +kernel), List.mem_of_getElem? (i := 440) (by decide +kernel), List.mem_of_getElem? (i := 441) (by decide +kernel)⟩
theorem lw_p5 : lw_okq (⟨"SaidWoven$Wants", "wantSpan", "(III)V"⟩, 12) := ⟨⟨by decide +kernel, by decide +kernel⟩, List.mem_of_getElem? (i := 150) (by decide +kernel), List.mem_of_getElem? (i := 461) (by decide +kernel), List.mem_of_getElem? (i := 462) (by decide +kernel)⟩
theorem lw_p6 : lw_okq (⟨"SaidWoven$Wants", "wantTie", "(IIII)V"⟩, 12) := ⟨⟨by decide +kernel, by decide +kernel⟩, List.mem_of_getElem? (i := 150) (by decide +kernel), List.mem_of_getElem? (i := 465) (by decide +kernel), List.mem_of_getElem? (i := 466) (by decide +kernel)⟩
theorem lw_p7 : lw_okq (⟨"SaidWoven$Loom", "weighWord", "(II)V"⟩, 8) := ⟨⟨by decide +kernel, by decide +kernel⟩, List.mem_of_getElem? (i := 141) (by decide +kernel), List.mem_of_getElem? (i := 483) (by decide +kernel), List.mem_of_getElem? (i := 484) (by decide +kernel)⟩
theorem lw_p8 : lw_okq (⟨"SaidWoven$Loom", "stateOf", "(III)I"⟩, 8) := ⟨⟨by decide +kernel, by decide +kernel⟩, List.mem_of_getElem? (i := 141) (by decide +kernel), List.mem_of_getElem? (i := 492) (by decide +kernel), List.mem_of_getElem? (i := 493) (by decide +kernel)⟩
theorem lw_p9 : lw_okq (⟨"SaidWoven$Loom", "take", "(IIIJ)V"⟩, 8) := ⟨⟨by decide +kernel, by decide +kernel⟩, List.mem_of_getElem? (i := 141) (by decide +kernel), List.mem_of_getElem? (i := 505) (by decide +kernel), List.mem_of_getElem? (i := 506) (by decide +kernel)⟩
theorem lw_p10 : lw_okq (⟨"SaidWoven$Loom", "weighStart", "(I)V"⟩, 8) := ⟨⟨by decide +kernel, by decide +kernel⟩, List.mem_of_getElem? (i := 141) (by decide +kernel), List.mem_of_getElem? (i := 509) (by decide +kernel), List.mem_of_getElem? (i := 510) (by decide +kernel)⟩
theorem lw_p11 : lw_okq (⟨"SaidWoven$Loom", "unlikeWith", "(IIII)I"⟩, 8) := ⟨⟨by decide +kernel, by decide +kernel⟩, List.mem_of_getElem? (i := 141) (by decide +kernel), List.mem_of_getElem? (i := 521) (by decide +kernel), List.mem_of_getElem? (i := 522) (by decide +kernel)⟩
theorem lw_p12 : lw_okq (⟨"SaidWoven", "refusalToCompare", "(I)I"⟩, 13) := ⟨⟨by decide +kernel, by decide +kernel⟩, List.mem_of_getElem? (i := 15) (by decide +kernel), List.mem_of_getElem? (i := 533) (by decide +kernel), List.mem_of_getElem? (i := 534) (by decide +kernel)⟩
theorem lw_p13 : lw_okq (⟨"SaidWoven", "farBy", "(II)I"⟩, 13) := ⟨⟨by decide +kernel, by decide +kernel⟩, List.mem_of_getElem? (i := 15) (by decide +kernel), List.mem_of_getElem? (i := 537) (by decide +kernel), List.mem_of_getElem? (i := 538) (by decide +kernel)⟩
theorem lw_p14 : lw_okq (⟨"SaidWoven", "wantAsSaid", "([III)V"⟩, 13) := ⟨⟨by decide +kernel, by decide +kernel⟩, List.mem_of_getElem? (i := 15) (by decide +kernel), List.mem_of_getElem? (i := 541) (by decide +kernel), List.mem_of_getElem? (i := 542) (by decide +kernel)⟩
theorem lw_p15 : lw_okq (⟨"SaidWoven", "farthestWays", "(II)I"⟩, 13) := ⟨⟨by decide +kernel, by decide +kernel⟩, List.mem_of_getElem? (i := 15) (by decide +kernel), List.mem_of_getElem? (i := 557) (by decide +kernel), List.mem_of_getElem? (i := 558) (by decide +kernel)⟩
def lw_privs_1 : List (MethodName × Nat) := [(⟨"SaidWoven$Script", "readItem", "(LSaidWoven$Tongue;)Z"⟩, 4), (⟨"SaidWoven$Script", "readNumbers", "(I)Z"⟩, 4), (⟨"SaidWoven$Course", "group", "(I[II)V"⟩, 3), (⟨"SaidWoven$Course", "groups", "(I[II)V"⟩, 3), (⟨"SaidWoven", "weighSaying", "()V"⟩, 13), (⟨"SaidWoven$Wants", "wantSpan", "(III)V"⟩, 12), (⟨"SaidWoven$Wants", "wantTie", "(IIII)V"⟩, 12), (⟨"SaidWoven$Loom", "weighWord", "(II)V"⟩, 8), (⟨"SaidWoven$Loom", "stateOf", "(III)I"⟩, 8), (⟨"SaidWoven$Loom", "take", "(IIIJ)V"⟩, 8), (⟨"SaidWoven$Loom", "weighStart", "(I)V"⟩, 8), (⟨"SaidWoven$Loom", "unlikeWith", "(IIII)I"⟩, 8), (⟨"SaidWoven", "refusalToCompare", "(I)I"⟩, 13), (⟨"SaidWoven", "farBy", "(II)I"⟩, 13), (⟨"SaidWoven", "wantAsSaid", "([III)V"⟩, 13), (⟨"SaidWoven", "farthestWays", "(II)I"⟩, 13)]
theorem lw_r1 : ∀ q ∈ lw_privs_1, lw_okq q := List.forall_mem_cons.mpr ⟨lw_p0, List.forall_mem_cons.mpr ⟨lw_p1, List.forall_mem_cons.mpr ⟨lw_p2, List.forall_mem_cons.mpr ⟨lw_p3, List.forall_mem_cons.mpr ⟨lw_p4, List.forall_mem_cons.mpr ⟨lw_p5, List.forall_mem_cons.mpr ⟨lw_p6, List.forall_mem_cons.mpr ⟨lw_p7, List.forall_mem_cons.mpr ⟨lw_p8, List.forall_mem_cons.mpr ⟨lw_p9, List.forall_mem_cons.mpr ⟨lw_p10, List.forall_mem_cons.mpr ⟨lw_p11, List.forall_mem_cons.mpr ⟨lw_p12, List.forall_mem_cons.mpr ⟨lw_p13, List.forall_mem_cons.mpr ⟨lw_p14, List.forall_mem_cons.mpr ⟨lw_p15, fun _ h => absurd h List.not_mem_nil⟩⟩⟩⟩⟩⟩⟩⟩⟩⟩⟩⟩⟩⟩⟩⟩
theorem lw_p16 : lw_okq (⟨"SaidWoven", "ceilingOf", "(I)I"⟩, 13) := ⟨⟨by decide +kernel, by decide +kernel⟩, List.mem_of_getElem? (i := 15) (by decide +kernel), List.mem_of_getElem? (i := 566) (by decide +kernel), List.mem_of_getElem? (i := 567) (by decide +kernel)⟩
theorem lw_p17 : lw_okq (⟨"SaidWoven", "isSuch", "(III)Z"⟩, 13) := ⟨⟨by decide +kernel, by decide +kernel⟩, List.mem_of_getElem? (i := 15) (by decide +kernel), List.mem_of_getElem? (i := 575) (by decide +kernel), List.mem_of_getElem? (i := 576) (by decide +kernel)⟩
theorem lw_p18 : lw_okq (⟨"SaidWoven", "waysThatShow", "(III)I"⟩, 13) := ⟨⟨by decide +kernel, by decide +kernel⟩, List.mem_of_getElem? (i := 15) (by decide +kernel), List.mem_of_getElem? (i := 579) (by decide +kernel), List.mem_of_getElem? (i := 580) (by decide +kernel)⟩
theorem lw_p19 : lw_okq (⟨"SaidWoven", "hiddenSlips", "()I"⟩, 13) := ⟨⟨by decide +kernel, by decide +kernel⟩, List.mem_of_getElem? (i := 15) (by decide +kernel), List.mem_of_getElem? (i := 607) (by decide +kernel), List.mem_of_getElem? (i := 608) (by decide +kernel)⟩
theorem lw_p20 : lw_okq (⟨"SaidWoven", "isSuchSlip", "(I)Z"⟩, 13) := ⟨⟨by decide +kernel, by decide +kernel⟩, List.mem_of_getElem? (i := 15) (by decide +kernel), List.mem_of_getElem? (i := 611) (by decide +kernel), List.mem_of_getElem? (i := 612) (by decide +kernel)⟩
theorem lw_p21 : lw_okq (⟨"SaidWoven", "waysThatShowSlip", "(I)I"⟩, 13) := ⟨⟨by decide +kernel, by decide +kernel⟩, List.mem_of_getElem? (i := 15) (by decide +kernel), List.mem_of_getElem? (i := 615) (by decide +kernel), List.mem_of_getElem? (i := 616) (by decide +kernel)⟩
theorem lw_p22 : lw_okq (⟨"SaidWoven", "fewestWays", "()I"⟩, 13) := ⟨⟨by decide +kernel, by decide +kernel⟩, List.mem_of_getElem? (i := 15) (by decide +kernel), List.mem_of_getElem? (i := 619) (by decide +kernel), List.mem_of_getElem? (i := 620) (by decide +kernel)⟩
theorem lw_p23 : lw_okq (⟨"SaidWoven", "listedSlips", "()I"⟩, 13) := ⟨⟨by decide +kernel, by decide +kernel⟩, List.mem_of_getElem? (i := 15) (by decide +kernel), List.mem_of_getElem? (i := 633) (by decide +kernel), List.mem_of_getElem? (i := 634) (by decide +kernel)⟩
theorem lw_p24 : lw_okq (⟨"SaidWoven", "suchSlips", "()I"⟩, 13) := ⟨⟨by decide +kernel, by decide +kernel⟩, List.mem_of_getElem? (i := 15) (by decide +kernel), List.mem_of_getElem? (i := 641) (by decide +kernel), List.mem_of_getElem? (i := 642) (by decide +kernel)⟩
theorem lw_p25 : lw_okq (⟨"SaidWoven", "keptAt", "(I)LSaidWoven$Book;"⟩, 13) := ⟨⟨by decide +kernel, by decide +kernel⟩, List.mem_of_getElem? (i := 15) (by decide +kernel), List.mem_of_getElem? (i := 723) (by decide +kernel), List.mem_of_getElem? (i := 724) (by decide +kernel)⟩
theorem lw_p26 : lw_okq (⟨"SaidWovenModel", "noItems", "(I)V"⟩, 32) := ⟨⟨by decide +kernel, by decide +kernel⟩, List.mem_of_getElem? (i := 744) (by decide +kernel), List.mem_of_getElem? (i := 750) (by decide +kernel), List.mem_of_getElem? (i := 751) (by decide +kernel)⟩
theorem lw_p27 : lw_okq (⟨"SaidWovenModel", "readAll", "()I"⟩, 32) := ⟨⟨by decide +kernel, by decide +kernel⟩, List.mem_of_getElem? (i := 744) (by decide +kernel), List.mem_of_getElem? (i := 868) (by decide +kernel), List.mem_of_getElem? (i := 869) (by decide +kernel)⟩
theorem lw_p28 : lw_okq (⟨"SaidWovenModel", "item", "()Z"⟩, 32) := ⟨⟨by decide +kernel, by decide +kernel⟩, List.mem_of_getElem? (i := 744) (by decide +kernel), List.mem_of_getElem? (i := 872) (by decide +kernel), List.mem_of_getElem? (i := 873) (by decide +kernel)⟩
theorem lw_p29 : lw_okq (⟨"SaidWovenModel", "byteAt", "(I)I"⟩, 32) := ⟨⟨by decide +kernel, by decide +kernel⟩, List.mem_of_getElem? (i := 744) (by decide +kernel), List.mem_of_getElem? (i := 876) (by decide +kernel), List.mem_of_getElem? (i := 877) (by decide +kernel)⟩
theorem lw_p30 : lw_okq (⟨"SaidWovenModel", "wordItem", "()Z"⟩, 32) := ⟨⟨by decide +kernel, by decide +kernel⟩, List.mem_of_getElem? (i := 744) (by decide +kernel), List.mem_of_getElem? (i := 880) (by decide +kernel), List.mem_of_getElem? (i := 881) (by decide +kernel)⟩
theorem lw_p31 : lw_okq (⟨"SaidWovenModel", "figures", "(I)Z"⟩, 32) := ⟨⟨by decide +kernel, by decide +kernel⟩, List.mem_of_getElem? (i := 744) (by decide +kernel), List.mem_of_getElem? (i := 884) (by decide +kernel), List.mem_of_getElem? (i := 885) (by decide +kernel)⟩
def lw_privs_2 : List (MethodName × Nat) := [(⟨"SaidWoven", "ceilingOf", "(I)I"⟩, 13), (⟨"SaidWoven", "isSuch", "(III)Z"⟩, 13), (⟨"SaidWoven", "waysThatShow", "(III)I"⟩, 13), (⟨"SaidWoven", "hiddenSlips", "()I"⟩, 13), (⟨"SaidWoven", "isSuchSlip", "(I)Z"⟩, 13), (⟨"SaidWoven", "waysThatShowSlip", "(I)I"⟩, 13), (⟨"SaidWoven", "fewestWays", "()I"⟩, 13), (⟨"SaidWoven", "listedSlips", "()I"⟩, 13), (⟨"SaidWoven", "suchSlips", "()I"⟩, 13), (⟨"SaidWoven", "keptAt", "(I)LSaidWoven$Book;"⟩, 13), (⟨"SaidWovenModel", "noItems", "(I)V"⟩, 32), (⟨"SaidWovenModel", "readAll", "()I"⟩, 32), (⟨"SaidWovenModel", "item", "()Z"⟩, 32), (⟨"SaidWovenModel", "byteAt", "(I)I"⟩, 32), (⟨"SaidWovenModel", "wordItem", "()Z"⟩, 32), (⟨"SaidWovenModel", "figures", "(I)Z"⟩, 32)]
theorem lw_r2 : ∀ q ∈ lw_privs_2, lw_okq q := List.forall_mem_cons.mpr ⟨lw_p16, List.forall_mem_cons.mpr ⟨lw_p17, List.forall_mem_cons.mpr ⟨lw_p18, List.forall_mem_cons.mpr ⟨lw_p19, List.forall_mem_cons.mpr ⟨lw_p20, List.forall_mem_cons.mpr ⟨lw_p21, List.forall_mem_cons.mpr ⟨lw_p22, List.forall_mem_cons.mpr ⟨lw_p23, List.forall_mem_cons.mpr ⟨lw_p24, List.forall_mem_cons.mpr ⟨lw_p25, List.forall_mem_cons.mpr ⟨lw_p26, List.forall_mem_cons.mpr ⟨lw_p27, List.forall_mem_cons.mpr ⟨lw_p28, List.forall_mem_cons.mpr ⟨lw_p29, List.forall_mem_cons.mpr ⟨lw_p30, List.forall_mem_cons.mpr ⟨lw_p31, fun _ h => absurd h List.not_mem_nil⟩⟩⟩⟩⟩⟩⟩⟩⟩⟩⟩⟩⟩⟩⟩⟩
theorem lw_p32 : lw_okq (⟨"SaidWovenModel", "isWord", "(I)Z"⟩, 32) := ⟨⟨by decide +kernel, by decide +kernel⟩, List.mem_of_getElem? (i := 744) (by decide +kernel), List.mem_of_getElem? (i := 912) (by decide +kernel), List.mem_of_getElem? (i := 913) (by decide +kernel)⟩
theorem lw_p33 : lw_okq (⟨"SaidWovenModel", "layWays", "(II)V"⟩, 32) := ⟨⟨by decide +kernel, by decide +kernel⟩, List.mem_of_getElem? (i := 744) (by decide +kernel), List.mem_of_getElem? (i := 934) (by decide +kernel), List.mem_of_getElem? (i := 935) (by decide +kernel)⟩
theorem lw_p34 : lw_okq (⟨"SaidWovenModel", "layWay", "(II)V"⟩, 32) := ⟨⟨by decide +kernel, by decide +kernel⟩, List.mem_of_getElem? (i := 744) (by decide +kernel), List.mem_of_getElem? (i := 941) (by decide +kernel), List.mem_of_getElem? (i := 942) (by decide +kernel)⟩
theorem lw_p35 : lw_okq (⟨"SaidWovenModel", "sayPlace", "(I)V"⟩, 32) := ⟨⟨by decide +kernel, by decide +kernel⟩, List.mem_of_getElem? (i := 744) (by decide +kernel), List.mem_of_getElem? (i := 945) (by decide +kernel), List.mem_of_getElem? (i := 946) (by decide +kernel)⟩
theorem lw_p36 : lw_okq (⟨"SaidWovenModel", "sayPair", "(I)V"⟩, 32) := ⟨⟨by decide +kernel, by decide +kernel⟩, List.mem_of_getElem? (i := 744) (by decide +kernel), List.mem_of_getElem? (i := 949) (by decide +kernel), List.mem_of_getElem? (i := 950) (by decide +kernel)⟩
theorem lw_p37 : lw_okq (⟨"SaidWovenModel", "braid", "(I)V"⟩, 32) := ⟨⟨by decide +kernel, by decide +kernel⟩, List.mem_of_getElem? (i := 744) (by decide +kernel), List.mem_of_getElem? (i := 953) (by decide +kernel), List.mem_of_getElem? (i := 954) (by decide +kernel)⟩
theorem lw_p38 : lw_okq (⟨"SaidWovenModel", "sayBack", "(I)V"⟩, 32) := ⟨⟨by decide +kernel, by decide +kernel⟩, List.mem_of_getElem? (i := 744) (by decide +kernel), List.mem_of_getElem? (i := 957) (by decide +kernel), List.mem_of_getElem? (i := 958) (by decide +kernel)⟩
theorem lw_p39 : lw_okq (⟨"SaidWovenModel", "layRow", "(I)V"⟩, 32) := ⟨⟨by decide +kernel, by decide +kernel⟩, List.mem_of_getElem? (i := 744) (by decide +kernel), List.mem_of_getElem? (i := 964) (by decide +kernel), List.mem_of_getElem? (i := 965) (by decide +kernel)⟩
theorem lw_p40 : lw_okq (⟨"SaidWovenModel", "tokenAt", "(I)I"⟩, 32) := ⟨⟨by decide +kernel, by decide +kernel⟩, List.mem_of_getElem? (i := 744) (by decide +kernel), List.mem_of_getElem? (i := 968) (by decide +kernel), List.mem_of_getElem? (i := 969) (by decide +kernel)⟩
theorem lw_p41 : lw_okq (⟨"SaidWovenModel", "rowAt", "(I)I"⟩, 32) := ⟨⟨by decide +kernel, by decide +kernel⟩, List.mem_of_getElem? (i := 744) (by decide +kernel), List.mem_of_getElem? (i := 972) (by decide +kernel), List.mem_of_getElem? (i := 973) (by decide +kernel)⟩
theorem lw_p42 : lw_okq (⟨"SaidWovenModel", "tokenOf", "(III)I"⟩, 32) := ⟨⟨by decide +kernel, by decide +kernel⟩, List.mem_of_getElem? (i := 744) (by decide +kernel), List.mem_of_getElem? (i := 976) (by decide +kernel), List.mem_of_getElem? (i := 977) (by decide +kernel)⟩
theorem lw_p43 : lw_okq (⟨"SaidWovenModel", "laySaying", "()V"⟩, 32) := ⟨⟨by decide +kernel, by decide +kernel⟩, List.mem_of_getElem? (i := 744) (by decide +kernel), List.mem_of_getElem? (i := 994) (by decide +kernel), List.mem_of_getElem? (i := 995) (by decide +kernel)⟩
theorem lw_p44 : lw_okq (⟨"SaidWovenModel", "layLeast", "(I)V"⟩, 32) := ⟨⟨by decide +kernel, by decide +kernel⟩, List.mem_of_getElem? (i := 744) (by decide +kernel), List.mem_of_getElem? (i := 998) (by decide +kernel), List.mem_of_getElem? (i := 999) (by decide +kernel)⟩
theorem lw_p45 : lw_okq (⟨"SaidWovenModel", "layState", "(III)V"⟩, 32) := ⟨⟨by decide +kernel, by decide +kernel⟩, List.mem_of_getElem? (i := 744) (by decide +kernel), List.mem_of_getElem? (i := 1002) (by decide +kernel), List.mem_of_getElem? (i := 1003) (by decide +kernel)⟩
theorem lw_p46 : lw_okq (⟨"SaidWovenModel", "unlikeAt", "(I)I"⟩, 32) := ⟨⟨by decide +kernel, by decide +kernel⟩, List.mem_of_getElem? (i := 744) (by decide +kernel), List.mem_of_getElem? (i := 1010) (by decide +kernel), List.mem_of_getElem? (i := 1011) (by decide +kernel)⟩
theorem lw_p47 : lw_okq (⟨"SaidWovenModel", "farOf", "(II)I"⟩, 32) := ⟨⟨by decide +kernel, by decide +kernel⟩, List.mem_of_getElem? (i := 744) (by decide +kernel), List.mem_of_getElem? (i := 1027) (by decide +kernel), List.mem_of_getElem? (i := 1028) (by decide +kernel)⟩
def lw_privs_3 : List (MethodName × Nat) := [(⟨"SaidWovenModel", "isWord", "(I)Z"⟩, 32), (⟨"SaidWovenModel", "layWays", "(II)V"⟩, 32), (⟨"SaidWovenModel", "layWay", "(II)V"⟩, 32), (⟨"SaidWovenModel", "sayPlace", "(I)V"⟩, 32), (⟨"SaidWovenModel", "sayPair", "(I)V"⟩, 32), (⟨"SaidWovenModel", "braid", "(I)V"⟩, 32), (⟨"SaidWovenModel", "sayBack", "(I)V"⟩, 32), (⟨"SaidWovenModel", "layRow", "(I)V"⟩, 32), (⟨"SaidWovenModel", "tokenAt", "(I)I"⟩, 32), (⟨"SaidWovenModel", "rowAt", "(I)I"⟩, 32), (⟨"SaidWovenModel", "tokenOf", "(III)I"⟩, 32), (⟨"SaidWovenModel", "laySaying", "()V"⟩, 32), (⟨"SaidWovenModel", "layLeast", "(I)V"⟩, 32), (⟨"SaidWovenModel", "layState", "(III)V"⟩, 32), (⟨"SaidWovenModel", "unlikeAt", "(I)I"⟩, 32), (⟨"SaidWovenModel", "farOf", "(II)I"⟩, 32)]
theorem lw_r3 : ∀ q ∈ lw_privs_3, lw_okq q := List.forall_mem_cons.mpr ⟨lw_p32, List.forall_mem_cons.mpr ⟨lw_p33, List.forall_mem_cons.mpr ⟨lw_p34, List.forall_mem_cons.mpr ⟨lw_p35, List.forall_mem_cons.mpr ⟨lw_p36, List.forall_mem_cons.mpr ⟨lw_p37, List.forall_mem_cons.mpr ⟨lw_p38, List.forall_mem_cons.mpr ⟨lw_p39, List.forall_mem_cons.mpr ⟨lw_p40, List.forall_mem_cons.mpr ⟨lw_p41, List.forall_mem_cons.mpr ⟨lw_p42, List.forall_mem_cons.mpr ⟨lw_p43, List.forall_mem_cons.mpr ⟨lw_p44, List.forall_mem_cons.mpr ⟨lw_p45, List.forall_mem_cons.mpr ⟨lw_p46, List.forall_mem_cons.mpr ⟨lw_p47, fun _ h => absurd h List.not_mem_nil⟩⟩⟩⟩⟩⟩⟩⟩⟩⟩⟩⟩⟩⟩⟩⟩
theorem lw_p48 : lw_okq (⟨"SaidWovenModel", "hoursOf", "(I)I"⟩, 32) := ⟨⟨by decide +kernel, by decide +kernel⟩, List.mem_of_getElem? (i := 744) (by decide +kernel), List.mem_of_getElem? (i := 1036) (by decide +kernel), List.mem_of_getElem? (i := 1037) (by decide +kernel)⟩
theorem lw_p49 : lw_okq (⟨"SaidWovenModel", "isSlip", "(III)Z"⟩, 32) := ⟨⟨by decide +kernel, by decide +kernel⟩, List.mem_of_getElem? (i := 744) (by decide +kernel), List.mem_of_getElem? (i := 1044) (by decide +kernel), List.mem_of_getElem? (i := 1045) (by decide +kernel)⟩
theorem lw_p50 : lw_okq (⟨"SaidWovenModel", "showsBy", "(III)I"⟩, 32) := ⟨⟨by decide +kernel, by decide +kernel⟩, List.mem_of_getElem? (i := 744) (by decide +kernel), List.mem_of_getElem? (i := 1048) (by decide +kernel), List.mem_of_getElem? (i := 1049) (by decide +kernel)⟩
theorem lw_p51 : lw_okq (⟨"SaidWovenModel", "isListed", "(II)Z"⟩, 32) := ⟨⟨by decide +kernel, by decide +kernel⟩, List.mem_of_getElem? (i := 744) (by decide +kernel), List.mem_of_getElem? (i := 1065) (by decide +kernel), List.mem_of_getElem? (i := 1066) (by decide +kernel)⟩
theorem lw_p52 : lw_okq (⟨"SaidWovenModel", "fewestWays", "()I"⟩, 32) := ⟨⟨by decide +kernel, by decide +kernel⟩, List.mem_of_getElem? (i := 744) (by decide +kernel), List.mem_of_getElem? (i := 1069) (by decide +kernel), List.mem_of_getElem? (i := 1070) (by decide +kernel)⟩
theorem lw_p53 : lw_okq (⟨"SaidWovenModel", "isHead", "(I)Z"⟩, 32) := ⟨⟨by decide +kernel, by decide +kernel⟩, List.mem_of_getElem? (i := 744) (by decide +kernel), List.mem_of_getElem? (i := 1090) (by decide +kernel), List.mem_of_getElem? (i := 1091) (by decide +kernel)⟩
theorem lw_p54 : lw_okq (⟨"SaidWovenModel", "isAlive", "(I)Z"⟩, 32) := ⟨⟨by decide +kernel, by decide +kernel⟩, List.mem_of_getElem? (i := 744) (by decide +kernel), List.mem_of_getElem? (i := 1098) (by decide +kernel), List.mem_of_getElem? (i := 1099) (by decide +kernel)⟩
theorem lw_p55 : lw_okq (⟨"SaidWovenModel", "wordOf", "(II)I"⟩, 32) := ⟨⟨by decide +kernel, by decide +kernel⟩, List.mem_of_getElem? (i := 744) (by decide +kernel), List.mem_of_getElem? (i := 1102) (by decide +kernel), List.mem_of_getElem? (i := 1103) (by decide +kernel)⟩
theorem lw_p56 : lw_okq (⟨"SaidWovenModel", "isFrom", "(II)Z"⟩, 32) := ⟨⟨by decide +kernel, by decide +kernel⟩, List.mem_of_getElem? (i := 744) (by decide +kernel), List.mem_of_getElem? (i := 1110) (by decide +kernel), List.mem_of_getElem? (i := 1111) (by decide +kernel)⟩
theorem lw_p57 : lw_okq (⟨"SaidWovenModel", "areHeads", "(I)Z"⟩, 32) := ⟨⟨by decide +kernel, by decide +kernel⟩, List.mem_of_getElem? (i := 744) (by decide +kernel), List.mem_of_getElem? (i := 1118) (by decide +kernel), List.mem_of_getElem? (i := 1119) (by decide +kernel)⟩
theorem lw_p58 : lw_okq (⟨"SaidWovenModel", "copy", "(II)V"⟩, 32) := ⟨⟨by decide +kernel, by decide +kernel⟩, List.mem_of_getElem? (i := 744) (by decide +kernel), List.mem_of_getElem? (i := 1136) (by decide +kernel), List.mem_of_getElem? (i := 1137) (by decide +kernel)⟩
def lw_privs_4 : List (MethodName × Nat) := [(⟨"SaidWovenModel", "hoursOf", "(I)I"⟩, 32), (⟨"SaidWovenModel", "isSlip", "(III)Z"⟩, 32), (⟨"SaidWovenModel", "showsBy", "(III)I"⟩, 32), (⟨"SaidWovenModel", "isListed", "(II)Z"⟩, 32), (⟨"SaidWovenModel", "fewestWays", "()I"⟩, 32), (⟨"SaidWovenModel", "isHead", "(I)Z"⟩, 32), (⟨"SaidWovenModel", "isAlive", "(I)Z"⟩, 32), (⟨"SaidWovenModel", "wordOf", "(II)I"⟩, 32), (⟨"SaidWovenModel", "isFrom", "(II)Z"⟩, 32), (⟨"SaidWovenModel", "areHeads", "(I)Z"⟩, 32), (⟨"SaidWovenModel", "copy", "(II)V"⟩, 32)]
theorem lw_r4 : ∀ q ∈ lw_privs_4, lw_okq q := List.forall_mem_cons.mpr ⟨lw_p48, List.forall_mem_cons.mpr ⟨lw_p49, List.forall_mem_cons.mpr ⟨lw_p50, List.forall_mem_cons.mpr ⟨lw_p51, List.forall_mem_cons.mpr ⟨lw_p52, List.forall_mem_cons.mpr ⟨lw_p53, List.forall_mem_cons.mpr ⟨lw_p54, List.forall_mem_cons.mpr ⟨lw_p55, List.forall_mem_cons.mpr ⟨lw_p56, List.forall_mem_cons.mpr ⟨lw_p57, List.forall_mem_cons.mpr ⟨lw_p58, fun _ h => absurd h List.not_mem_nil⟩⟩⟩⟩⟩⟩⟩⟩⟩⟩⟩
def lw_privs : List (MethodName × Nat) := lw_privs_1 ++ (lw_privs_2 ++ (lw_privs_3 ++ (lw_privs_4)))
def lw_tbl : List Cond := k2_sels lw_privs ++ tables_1
theorem lw_privs_ok : ∀ q ∈ lw_privs, lw_okq q := by
  show ∀ q ∈ lw_privs_1 ++ (lw_privs_2 ++ (lw_privs_3 ++ (lw_privs_4))), lw_okq q
  exact List.forall_mem_append.mpr ⟨lw_r1, List.forall_mem_append.mpr ⟨lw_r2, List.forall_mem_append.mpr ⟨lw_r3, lw_r4⟩⟩⟩
end
section
theorem goodIn_r {big : List Cond} (ws : List Cond) (ps : List Nat) (hp : ws = ps.filterMap (fun i => big[i]?)) (h : ws.all goodWord = true) : GoodIn big ws := by
  intro w hw
  have h1 := List.all_eq_true.mp h w hw
  rw [hp] at hw
  obtain ⟨i, -, hi⟩ := List.mem_filterMap.mp hw
  have hm : w ∈ big := by first | exact List.mem_of_getElem? hi | exact List.getElem?_mem hi
  exact ⟨hm, good_of_word h1⟩
theorem goodIn_app {big a b : List Cond} (ha : GoodIn big a) (hb : GoodIn big b) : GoodIn big (a ++ b) := fun w h => (List.mem_append.mp h).elim (ha w) (hb w)
theorem goodIn_ca {big a b : List Cond} {c : Cond} (ha : GoodIn big (c :: a)) (hb : GoodIn big b) : GoodIn big (c :: (a ++ b)) := fun w h => (List.mem_cons.mp h).elim (fun e => ha w (List.mem_cons.mpr (Or.inl e))) (fun h => (List.mem_append.mp h).elim (fun h => ha w (List.mem_cons.mpr (Or.inr h))) (hb w))
theorem goodIn_sub {big ws : List Cond} (hm : ∀ w ∈ ws, w ∈ big) (h : ws.all goodWord = true) : GoodIn big ws := fun w hw => ⟨hm w hw, good_of_word (List.all_eq_true.mp h w hw)⟩
def RX0 : String := "SaidWoven$Book"
def TX0 : u_T := fun k => match k with
  | 0 => ("SaidWoven$Book", "words", "[[I", true)
  | 1 => ("SaidWoven$Book", "sizes", "[I", true)
  | 2 => ("SaidWoven$Book", "tokens", "[I", true)
  | 3 => ("SaidWoven$Book", "tokenCount", "I", false)
  | 4 => ("SaidWoven$Book", "way", "I", false)
  | _ => ("SaidWoven$Book", "places", "I", false)
def tyX0 : Nat → FieldType := fun k => match k with
  | 0 => .array (.array .int)
  | 1 => .array .int
  | 2 => .array .int
  | 3 => .int
  | 4 => .int
  | _ => .int
abbrev wsX00 : List Cond := u_ws RX0 TX0 6
theorem nmX0 : ∀ a, a < 6 → ∀ b, b < 6 → a ≠ b → (TX0 a).2.1 ≠ (TX0 b).2.1 := by decide +kernel
theorem tyX0_ok : ∀ k, k < 6 → parseFieldDescriptor (TX0 k).2.2.1 = some (tyX0 k) := by decide +kernel
abbrev cX0_init : ByteArray := prog_2_method_1_code
def yX0_init : MethodName := ⟨RX0, "<init>", "()V"⟩
abbrev cX0_empty : ByteArray := prog_2_method_2_code
def yX0_empty : MethodName := ⟨RX0, "empty", "()V"⟩
abbrev cX0_copy : ByteArray := prog_2_method_3_code
def yX0_copy : MethodName := ⟨RX0, "copy", "(LSaidWoven$Book;)V"⟩
abbrev cX0_wordsInAll : ByteArray := prog_2_method_4_code
def yX0_wordsInAll : MethodName := ⟨RX0, "wordsInAll", "()I"⟩
abbrev cX0_has : ByteArray := prog_2_method_5_code
def yX0_has : MethodName := ⟨RX0, "has", "(III)Z"⟩
def RX1 : String := "SaidWoven$Course"
def TX1 : u_T := fun k => match k with
  | 0 => ("SaidWoven$Course", "count", "I", false)
  | 1 => ("SaidWoven$Course", "places", "[I", true)
  | _ => ("SaidWoven$Course", "opens", "[Z", true)
def tyX1 : Nat → FieldType := fun k => match k with
  | 0 => .int
  | 1 => .array .int
  | _ => .array .boolean
abbrev wsX10 : List Cond := u_ws RX1 TX1 3
theorem nmX1 : ∀ a, a < 3 → ∀ b, b < 3 → a ≠ b → (TX1 a).2.1 ≠ (TX1 b).2.1 := by decide +kernel
theorem tyX1_ok : ∀ k, k < 3 → parseFieldDescriptor (TX1 k).2.2.1 = some (tyX1 k) := by decide +kernel
abbrev cX1_init : ByteArray := prog_3_method_1_code
def yX1_init : MethodName := ⟨RX1, "<init>", "()V"⟩
abbrev cX1_follow : ByteArray := prog_3_method_2_code
def yX1_follow : MethodName := ⟨RX1, "follow", "(II)V"⟩
abbrev cX1_groups : ByteArray := prog_3_method_3_code
def yX1_groups : MethodName := ⟨RX1, "groups", "(I[II)V"⟩
abbrev cX1_group : ByteArray := prog_3_method_4_code
def yX1_group : MethodName := ⟨RX1, "group", "(I[II)V"⟩
abbrev cX1_before : ByteArray := prog_3_method_5_code
def yX1_before : MethodName := ⟨RX1, "before", "(I)I"⟩
abbrev cX1_behind : ByteArray := prog_3_method_6_code
def yX1_behind : MethodName := ⟨RX1, "behind", "(I)I"⟩
abbrev cX1_token : ByteArray := prog_3_method_7_code
def yX1_token : MethodName := ⟨RX1, "token", "(LSaidWoven$Tongue;[II)I"⟩
abbrev cX1_tells : ByteArray := prog_3_method_8_code
def yX1_tells : MethodName := ⟨RX1, "tells", "(LSaidWoven$Tongue;[I[I)Z"⟩
def RX2 : String := "SaidWoven$Heads"
def TX2 : u_T := fun k => match k with
  | 0 => ("SaidWoven$Heads", "count", "I", false)
  | 1 => ("SaidWoven$Heads", "living", "[Z", true)
  | 2 => ("SaidWoven$Heads", "years", "[I", true)
  | 3 => ("SaidWoven$Heads", "verses", "[I", true)
  | _ => ("SaidWoven$Heads", "lines", "[I", true)
def tyX2 : Nat → FieldType := fun k => match k with
  | 0 => .int
  | 1 => .array .boolean
  | 2 => .array .int
  | 3 => .array .int
  | _ => .array .int
abbrev wsX20 : List Cond := u_ws RX2 TX2 5
theorem nmX2 : ∀ a, a < 5 → ∀ b, b < 5 → a ≠ b → (TX2 a).2.1 ≠ (TX2 b).2.1 := by decide +kernel
theorem tyX2_ok : ∀ k, k < 5 → parseFieldDescriptor (TX2 k).2.2.1 = some (tyX2 k) := by decide +kernel
abbrev cX2_init : ByteArray := prog_4_method_1_code
def yX2_init : MethodName := ⟨RX2, "<init>", "()V"⟩
abbrev cX2_mayTeach : ByteArray := prog_4_method_2_code
def yX2_mayTeach : MethodName := ⟨RX2, "mayTeach", "(II)Z"⟩
abbrev cX2_append : ByteArray := prog_4_method_3_code
def yX2_append : MethodName := ⟨RX2, "append", "(III)I"⟩
abbrev cX2_isSet : ByteArray := prog_4_method_4_code
def yX2_isSet : MethodName := ⟨RX2, "isSet", "(I)Z"⟩
abbrev cX2_agree : ByteArray := prog_4_method_5_code
def yX2_agree : MethodName := ⟨RX2, "agree", "(LSaidWoven$Book;I)Z"⟩
abbrev cX2_allHave : ByteArray := prog_4_method_6_code
def yX2_allHave : MethodName := ⟨RX2, "allHave", "(LSaidWoven$Book;II)Z"⟩
abbrev cX2_latestCommonYear : ByteArray := prog_4_method_7_code
def yX2_latestCommonYear : MethodName := ⟨RX2, "latestCommonYear", "()I"⟩
abbrev cX2_versesOf : ByteArray := prog_4_method_8_code
def yX2_versesOf : MethodName := ⟨RX2, "versesOf", "(I)I"⟩
abbrev cX2_lowestWith : ByteArray := prog_4_method_9_code
def yX2_lowestWith : MethodName := ⟨RX2, "lowestWith", "(II)I"⟩
def RX3 : String := "SaidWoven$Loom"
def TX3 : u_T := fun k => match k with
  | 0 => ("SaidWoven$Loom", "wants", "LSaidWoven$Wants;", true)
  | 1 => ("SaidWoven$Loom", "fewest", "I", false)
  | 2 => ("SaidWoven$Loom", "nearestRows", "J", false)
  | 3 => ("SaidWoven$Loom", "words", "I", false)
  | 4 => ("SaidWoven$Loom", "places", "I", false)
  | 5 => ("SaidWoven$Loom", "least", "[[I", true)
  | 6 => ("SaidWoven$Loom", "rows", "[[J", true)
  | _ => ("SaidWoven$Loom", "unlikeSpans", "[I", true)
def tyX3 : Nat → FieldType := fun k => match k with
  | 0 => .object "SaidWoven$Wants"
  | 1 => .int
  | 2 => .long
  | 3 => .int
  | 4 => .int
  | 5 => .array (.array .int)
  | 6 => .array (.array .long)
  | _ => .array .int
abbrev wsX30 : List Cond := u_ws RX3 TX3 8
theorem nmX3 : ∀ a, a < 8 → ∀ b, b < 8 → a ≠ b → (TX3 a).2.1 ≠ (TX3 b).2.1 := by decide +kernel
theorem tyX3_ok : ∀ k, k < 8 → parseFieldDescriptor (TX3 k).2.2.1 = some (tyX3 k) := by decide +kernel
abbrev cX3_init : ByteArray := prog_5_method_1_code
def yX3_init : MethodName := ⟨RX3, "<init>", "(LSaidWoven$Tongue;)V"⟩
abbrev cX3_begin : ByteArray := prog_5_method_2_code
def yX3_begin : MethodName := ⟨RX3, "begin", "(LSaidWoven$Tongue;I)V"⟩
abbrev cX3_weigh : ByteArray := prog_5_method_3_code
def yX3_weigh : MethodName := ⟨RX3, "weigh", "()V"⟩
abbrev cX3_weighWord : ByteArray := prog_5_method_4_code
def yX3_weighWord : MethodName := ⟨RX3, "weighWord", "(II)V"⟩
abbrev cX3_take : ByteArray := prog_5_method_5_code
def yX3_take : MethodName := ⟨RX3, "take", "(IIIJ)V"⟩
abbrev cX3_weighStart : ByteArray := prog_5_method_6_code
def yX3_weighStart : MethodName := ⟨RX3, "weighStart", "(I)V"⟩
abbrev cX3_stateOf : ByteArray := prog_5_method_7_code
def yX3_stateOf : MethodName := ⟨RX3, "stateOf", "(III)I"⟩
abbrev cX3_unlikeWith : ByteArray := prog_5_method_8_code
def yX3_unlikeWith : MethodName := ⟨RX3, "unlikeWith", "(IIII)I"⟩
abbrev cX3_lowestRow : ByteArray := prog_5_method_9_code
def yX3_lowestRow : MethodName := ⟨RX3, "lowestRow", "([I)V"⟩
abbrev cX3_farFrom : ByteArray := prog_5_method_10_code
def yX3_farFrom : MethodName := ⟨RX3, "farFrom", "([I)I"⟩
def RX4 : String := "SaidWoven$Script"
def TX4 : u_T := fun k => match k with
  | 0 => ("SaidWoven$Script", "bytes", "[B", true)
  | 1 => ("SaidWoven$Script", "length", "I", false)
  | 2 => ("SaidWoven$Script", "at", "I", false)
  | _ => ("SaidWoven$Script", "numbers", "[I", true)
def tyX4 : Nat → FieldType := fun k => match k with
  | 0 => .array .byte
  | 1 => .int
  | 2 => .int
  | _ => .array .int
abbrev wsX40 : List Cond := u_ws RX4 TX4 4
theorem nmX4 : ∀ a, a < 4 → ∀ b, b < 4 → a ≠ b → (TX4 a).2.1 ≠ (TX4 b).2.1 := by decide +kernel
theorem tyX4_ok : ∀ k, k < 4 → parseFieldDescriptor (TX4 k).2.2.1 = some (tyX4 k) := by decide +kernel
abbrev cX4_init : ByteArray := prog_6_method_1_code
def yX4_init : MethodName := ⟨RX4, "<init>", "()V"⟩
abbrev cX4_append : ByteArray := prog_6_method_2_code
def yX4_append : MethodName := ⟨RX4, "append", "(IJ)I"⟩
abbrev cX4_readInto : ByteArray := prog_6_method_3_code
def yX4_readInto : MethodName := ⟨RX4, "readInto", "(LSaidWoven$Tongue;)I"⟩
abbrev cX4_readItem : ByteArray := prog_6_method_4_code
def yX4_readItem : MethodName := ⟨RX4, "readItem", "(LSaidWoven$Tongue;)Z"⟩
abbrev cX4_readNumbers : ByteArray := prog_6_method_5_code
def yX4_readNumbers : MethodName := ⟨RX4, "readNumbers", "(I)Z"⟩
abbrev cX4_isFigure : ByteArray := prog_6_method_6_code
def yX4_isFigure : MethodName := ⟨RX4, "isFigure", "(I)Z"⟩
def RX5 : String := "SaidWoven$Slips"
def TX5 : u_T := fun k => match k with
  | 0 => ("SaidWoven$Slips", "count", "I", false)
  | 1 => ("SaidWoven$Slips", "verses", "[I", true)
  | 2 => ("SaidWoven$Slips", "places", "[I", true)
  | 3 => ("SaidWoven$Slips", "words", "[I", true)
  | _ => ("SaidWoven$Slips", "ways", "[I", true)
def tyX5 : Nat → FieldType := fun k => match k with
  | 0 => .int
  | 1 => .array .int
  | 2 => .array .int
  | 3 => .array .int
  | _ => .array .int
abbrev wsX50 : List Cond := u_ws RX5 TX5 5
theorem nmX5 : ∀ a, a < 5 → ∀ b, b < 5 → a ≠ b → (TX5 a).2.1 ≠ (TX5 b).2.1 := by decide +kernel
theorem tyX5_ok : ∀ k, k < 5 → parseFieldDescriptor (TX5 k).2.2.1 = some (tyX5 k) := by decide +kernel
abbrev cX5_init : ByteArray := prog_7_method_1_code
def yX5_init : MethodName := ⟨RX5, "<init>", "()V"⟩
abbrev cX5_append : ByteArray := prog_7_method_2_code
def yX5_append : MethodName := ⟨RX5, "append", "(III)I"⟩
abbrev cX5_allShownBy : ByteArray := prog_7_method_3_code
def yX5_allShownBy : MethodName := ⟨RX5, "allShownBy", "(I)Z"⟩
def RX6 : String := "SaidWoven$Tongue"
def TX6 : u_T := fun k => match k with
  | 0 => ("SaidWoven$Tongue", "words", "I", false)
  | 1 => ("SaidWoven$Tongue", "first", "[I", true)
  | 2 => ("SaidWoven$Tongue", "body", "[I", true)
  | 3 => ("SaidWoven$Tongue", "last", "[I", true)
  | 4 => ("SaidWoven$Tongue", "joining", "[I", true)
  | 5 => ("SaidWoven$Tongue", "hours", "[I", true)
  | 6 => ("SaidWoven$Tongue", "front", "[I", true)
  | _ => ("SaidWoven$Tongue", "rear", "[I", true)
def tyX6 : Nat → FieldType := fun k => match k with
  | 0 => .int
  | 1 => .array .int
  | 2 => .array .int
  | 3 => .array .int
  | 4 => .array .int
  | 5 => .array .int
  | 6 => .array .int
  | _ => .array .int
abbrev wsX60 : List Cond := u_ws RX6 TX6 8
theorem nmX6 : ∀ a, a < 8 → ∀ b, b < 8 → a ≠ b → (TX6 a).2.1 ≠ (TX6 b).2.1 := by decide +kernel
theorem tyX6_ok : ∀ k, k < 8 → parseFieldDescriptor (TX6 k).2.2.1 = some (tyX6 k) := by decide +kernel
abbrev cX6_init : ByteArray := prog_8_method_1_code
def yX6_init : MethodName := ⟨RX6, "<init>", "()V"⟩
abbrev cX6_forget : ByteArray := prog_8_method_2_code
def yX6_forget : MethodName := ⟨RX6, "forget", "()V"⟩
abbrev cX6_learnWord : ByteArray := prog_8_method_3_code
def yX6_learnWord : MethodName := ⟨RX6, "learnWord", "([I)Z"⟩
abbrev cX6_learnJoining : ByteArray := prog_8_method_4_code
def yX6_learnJoining : MethodName := ⟨RX6, "learnJoining", "([I)Z"⟩
abbrev cX6_learnHours : ByteArray := prog_8_method_5_code
def yX6_learnHours : MethodName := ⟨RX6, "learnHours", "([I)Z"⟩
abbrev cX6_joinAll : ByteArray := prog_8_method_6_code
def yX6_joinAll : MethodName := ⟨RX6, "joinAll", "()V"⟩
abbrev cX6_token : ByteArray := prog_8_method_7_code
def yX6_token : MethodName := ⟨RX6, "token", "(III)I"⟩
abbrev cX6_hoursOf : ByteArray := prog_8_method_8_code
def yX6_hoursOf : MethodName := ⟨RX6, "hoursOf", "(I)I"⟩
abbrev cX6_isListedAlike : ByteArray := prog_8_method_9_code
def yX6_isListedAlike : MethodName := ⟨RX6, "isListedAlike", "(II)Z"⟩
def RX7 : String := "SaidWoven$Wants"
def TX7 : u_T := fun k => match k with
  | 0 => ("SaidWoven$Wants", "tongue", "LSaidWoven$Tongue;", false)
  | 1 => ("SaidWoven$Wants", "ties", "[I", true)
  | 2 => ("SaidWoven$Wants", "tieBefore", "[[I", true)
  | 3 => ("SaidWoven$Wants", "tieHere", "[[I", true)
  | 4 => ("SaidWoven$Wants", "tieBehind", "[[I", true)
  | 5 => ("SaidWoven$Wants", "tieToken", "[[I", true)
  | 6 => ("SaidWoven$Wants", "tieWeight", "[[I", true)
  | 7 => ("SaidWoven$Wants", "spans", "[I", true)
  | 8 => ("SaidWoven$Wants", "spanFront", "[[I", true)
  | 9 => ("SaidWoven$Wants", "spanToken", "[[I", true)
  | 10 => ("SaidWoven$Wants", "spanWeight", "[[I", true)
  | _ => ("SaidWoven$Wants", "seat", "[I", true)
def tyX7 : Nat → FieldType := fun k => match k with
  | 0 => .object "SaidWoven$Tongue"
  | 1 => .array .int
  | 2 => .array (.array .int)
  | 3 => .array (.array .int)
  | 4 => .array (.array .int)
  | 5 => .array (.array .int)
  | 6 => .array (.array .int)
  | 7 => .array .int
  | 8 => .array (.array .int)
  | 9 => .array (.array .int)
  | 10 => .array (.array .int)
  | _ => .array .int
abbrev wsX70 : List Cond := u_ws RX7 TX7 12
theorem nmX7 : ∀ a, a < 12 → ∀ b, b < 12 → a ≠ b → (TX7 a).2.1 ≠ (TX7 b).2.1 := by decide +kernel
theorem tyX7_ok : ∀ k, k < 12 → parseFieldDescriptor (TX7 k).2.2.1 = some (tyX7 k) := by decide +kernel
abbrev cX7_init : ByteArray := prog_9_method_1_code
def yX7_init : MethodName := ⟨RX7, "<init>", "(LSaidWoven$Tongue;)V"⟩
abbrev cX7_begin : ByteArray := prog_9_method_2_code
def yX7_begin : MethodName := ⟨RX7, "begin", "(LSaidWoven$Tongue;)V"⟩
abbrev cX7_want : ByteArray := prog_9_method_3_code
def yX7_want : MethodName := ⟨RX7, "want", "(IIII)V"⟩
abbrev cX7_wantSpan : ByteArray := prog_9_method_4_code
def yX7_wantSpan : MethodName := ⟨RX7, "wantSpan", "(III)V"⟩
abbrev cX7_wantTie : ByteArray := prog_9_method_5_code
def yX7_wantTie : MethodName := ⟨RX7, "wantTie", "(IIII)V"⟩
abbrev cX7_seatOf : ByteArray := prog_9_method_6_code
def yX7_seatOf : MethodName := ⟨RX7, "seatOf", "(II)I"⟩
abbrev cX7_unlikeTies : ByteArray := prog_9_method_7_code
def yX7_unlikeTies : MethodName := ⟨RX7, "unlikeTies", "(III)I"⟩
abbrev cX7_spansAt : ByteArray := prog_9_method_8_code
def yX7_spansAt : MethodName := ⟨RX7, "spansAt", "(I)I"⟩
abbrev cX7_rightHalves : ByteArray := prog_9_method_9_code
def yX7_rightHalves : MethodName := ⟨RX7, "rightHalves", "(IIII)I"⟩
abbrev cX7_unlikeSpans : ByteArray := prog_9_method_10_code
def yX7_unlikeSpans : MethodName := ⟨RX7, "unlikeSpans", "(II)I"⟩
def RX8 : String := "SaidWoven"
def TX8 : u_T := fun k => match k with
  | 0 => ("SaidWoven", "script", "LSaidWoven$Script;", true)
  | 1 => ("SaidWoven", "tongue", "LSaidWoven$Tongue;", false)
  | 2 => ("SaidWoven", "draft", "LSaidWoven$Tongue;", false)
  | 3 => ("SaidWoven", "book", "LSaidWoven$Book;", true)
  | 4 => ("SaidWoven", "keptFirst", "LSaidWoven$Book;", true)
  | 5 => ("SaidWoven", "keptSecond", "LSaidWoven$Book;", true)
  | 6 => ("SaidWoven", "keptCount", "I", false)
  | 7 => ("SaidWoven", "course", "LSaidWoven$Course;", true)
  | 8 => ("SaidWoven", "loom", "LSaidWoven$Loom;", true)
  | 9 => ("SaidWoven", "slipped", "LSaidWoven$Slips;", true)
  | 10 => ("SaidWoven", "heads", "LSaidWoven$Heads;", true)
  | 11 => ("SaidWoven", "slippedRow", "[I", true)
  | _ => ("SaidWoven", "farBySet", "[I", true)
def tyX8 : Nat → FieldType := fun k => match k with
  | 0 => .object "SaidWoven$Script"
  | 1 => .object "SaidWoven$Tongue"
  | 2 => .object "SaidWoven$Tongue"
  | 3 => .object "SaidWoven$Book"
  | 4 => .object "SaidWoven$Book"
  | 5 => .object "SaidWoven$Book"
  | 6 => .int
  | 7 => .object "SaidWoven$Course"
  | 8 => .object "SaidWoven$Loom"
  | 9 => .object "SaidWoven$Slips"
  | 10 => .object "SaidWoven$Heads"
  | 11 => .array .int
  | _ => .array .int
abbrev wsX80 : List Cond := u_ws RX8 TX8 13
theorem nmX8 : ∀ a, a < 13 → ∀ b, b < 13 → a ≠ b → (TX8 a).2.1 ≠ (TX8 b).2.1 := by decide +kernel
theorem tyX8_ok : ∀ k, k < 13 → parseFieldDescriptor (TX8 k).2.2.1 = some (tyX8 k) := by decide +kernel
abbrev cX8_init : ByteArray := prog_1_method_1_code
def yX8_init : MethodName := ⟨RX8, "<init>", "()V"⟩
abbrev cX8_write : ByteArray := prog_1_method_2_code
def yX8_write : MethodName := ⟨RX8, "write", "(IJ)I"⟩
abbrev cX8_wipe : ByteArray := prog_1_method_3_code
def yX8_wipe : MethodName := ⟨RX8, "wipe", "()I"⟩
abbrev cX8_fault : ByteArray := prog_1_method_4_code
def yX8_fault : MethodName := ⟨RX8, "fault", "()I"⟩
abbrev cX8_lay : ByteArray := prog_1_method_5_code
def yX8_lay : MethodName := ⟨RX8, "lay", "()I"⟩
abbrev cX8_joined : ByteArray := prog_1_method_6_code
def yX8_joined : MethodName := ⟨RX8, "joined", "(II)I"⟩
abbrev cX8_add : ByteArray := prog_1_method_7_code
def yX8_add : MethodName := ⟨RX8, "add", "(II)I"⟩
abbrev cX8_clear : ByteArray := prog_1_method_8_code
def yX8_clear : MethodName := ⟨RX8, "clear", "(I)I"⟩
abbrev cX8_word : ByteArray := prog_1_method_9_code
def yX8_word : MethodName := ⟨RX8, "word", "(II)I"⟩
abbrev cX8_said : ByteArray := prog_1_method_10_code
def yX8_said : MethodName := ⟨RX8, "said", "(III)I"⟩
abbrev cX8_say : ByteArray := prog_1_method_11_code
def yX8_say : MethodName := ⟨RX8, "say", "(II)I"⟩
abbrev cX8_alter : ByteArray := prog_1_method_12_code
def yX8_alter : MethodName := ⟨RX8, "alter", "(II)I"⟩
abbrev cX8_soundSo : ByteArray := prog_1_method_13_code
def yX8_soundSo : MethodName := ⟨RX8, "soundSo", "()J"⟩
abbrev cX8_nearest : ByteArray := prog_1_method_14_code
def yX8_nearest : MethodName := ⟨RX8, "nearest", "(I)I"⟩
abbrev cX8_rivals : ByteArray := prog_1_method_15_code
def yX8_rivals : MethodName := ⟨RX8, "rivals", "()J"⟩
abbrev cX8_far : ByteArray := prog_1_method_16_code
def yX8_far : MethodName := ⟨RX8, "far", "(III)I"⟩
abbrev cX8_best : ByteArray := prog_1_method_17_code
def yX8_best : MethodName := ⟨RX8, "best", "(III)I"⟩
abbrev cX8_learnt : ByteArray := prog_1_method_18_code
def yX8_learnt : MethodName := ⟨RX8, "learnt", "(III)I"⟩
abbrev cX8_slip : ByteArray := prog_1_method_19_code
def yX8_slip : MethodName := ⟨RX8, "slip", "(III)I"⟩
abbrev cX8_noSlips : ByteArray := prog_1_method_20_code
def yX8_noSlips : MethodName := ⟨RX8, "noSlips", "()I"⟩
abbrev cX8_slips : ByteArray := prog_1_method_21_code
def yX8_slips : MethodName := ⟨RX8, "slips", "(I)I"⟩
abbrev cX8_list : ByteArray := prog_1_method_22_code
def yX8_list : MethodName := ⟨RX8, "list", "(II)I"⟩
abbrev cX8_head : ByteArray := prog_1_method_23_code
def yX8_head : MethodName := ⟨RX8, "head", "(III)I"⟩
abbrev cX8_alive : ByteArray := prog_1_method_24_code
def yX8_alive : MethodName := ⟨RX8, "alive", "(IZ)I"⟩
abbrev cX8_same : ByteArray := prog_1_method_25_code
def yX8_same : MethodName := ⟨RX8, "same", "(I)I"⟩
abbrev cX8_since : ByteArray := prog_1_method_26_code
def yX8_since : MethodName := ⟨RX8, "since", "(II)I"⟩
abbrev cX8_lost : ByteArray := prog_1_method_27_code
def yX8_lost : MethodName := ⟨RX8, "lost", "(I)I"⟩
abbrev cX8_from : ByteArray := prog_1_method_28_code
def yX8_from : MethodName := ⟨RX8, "from", "(II)I"⟩
abbrev cX8_odds : ByteArray := prog_1_method_29_code
def yX8_odds : MethodName := ⟨RX8, "odds", "(IIII)J"⟩
abbrev cX8_keep : ByteArray := prog_1_method_30_code
def yX8_keep : MethodName := ⟨RX8, "keep", "()I"⟩
abbrev cX8_back : ByteArray := prog_1_method_31_code
def yX8_back : MethodName := ⟨RX8, "back", "()I"⟩
abbrev cX8_count : ByteArray := prog_1_method_32_code
def yX8_count : MethodName := ⟨RX8, "count", "(I)I"⟩
abbrev cX8_isBelow : ByteArray := prog_1_method_33_code
def yX8_isBelow : MethodName := ⟨RX8, "isBelow", "(II)Z"⟩
abbrev cX8_keptAt : ByteArray := prog_1_method_34_code
def yX8_keptAt : MethodName := ⟨RX8, "keptAt", "(I)LSaidWoven$Book;"⟩
abbrev cX8_commonDivisor : ByteArray := prog_1_method_35_code
def yX8_commonDivisor : MethodName := ⟨RX8, "commonDivisor", "(II)I"⟩
abbrev cX8_weighSaying : ByteArray := prog_1_method_36_code
def yX8_weighSaying : MethodName := ⟨RX8, "weighSaying", "()V"⟩
abbrev cX8_refusalToCompare : ByteArray := prog_1_method_37_code
def yX8_refusalToCompare : MethodName := ⟨RX8, "refusalToCompare", "(I)I"⟩
abbrev cX8_farBy : ByteArray := prog_1_method_38_code
def yX8_farBy : MethodName := ⟨RX8, "farBy", "(II)I"⟩
abbrev cX8_wantAsSaid : ByteArray := prog_1_method_39_code
def yX8_wantAsSaid : MethodName := ⟨RX8, "wantAsSaid", "([III)V"⟩
abbrev cX8_farthestWays : ByteArray := prog_1_method_40_code
def yX8_farthestWays : MethodName := ⟨RX8, "farthestWays", "(II)I"⟩
abbrev cX8_ceilingOf : ByteArray := prog_1_method_41_code
def yX8_ceilingOf : MethodName := ⟨RX8, "ceilingOf", "(I)I"⟩
abbrev cX8_isSuch : ByteArray := prog_1_method_42_code
def yX8_isSuch : MethodName := ⟨RX8, "isSuch", "(III)Z"⟩
abbrev cX8_waysThatShow : ByteArray := prog_1_method_43_code
def yX8_waysThatShow : MethodName := ⟨RX8, "waysThatShow", "(III)I"⟩
abbrev cX8_isSuchSlip : ByteArray := prog_1_method_44_code
def yX8_isSuchSlip : MethodName := ⟨RX8, "isSuchSlip", "(I)Z"⟩
abbrev cX8_waysThatShowSlip : ByteArray := prog_1_method_45_code
def yX8_waysThatShowSlip : MethodName := ⟨RX8, "waysThatShowSlip", "(I)I"⟩
abbrev cX8_suchSlips : ByteArray := prog_1_method_46_code
def yX8_suchSlips : MethodName := ⟨RX8, "suchSlips", "()I"⟩
abbrev cX8_hiddenSlips : ByteArray := prog_1_method_47_code
def yX8_hiddenSlips : MethodName := ⟨RX8, "hiddenSlips", "()I"⟩
abbrev cX8_listedSlips : ByteArray := prog_1_method_48_code
def yX8_listedSlips : MethodName := ⟨RX8, "listedSlips", "()I"⟩
abbrev cX8_fewestWays : ByteArray := prog_1_method_49_code
def yX8_fewestWays : MethodName := ⟨RX8, "fewestWays", "()I"⟩
def RX9 : String := "SaidWovenModel"
def TX9 : u_T := fun k => match k with
  | 0 => ("SaidWovenModel", "length", "I", false)
  | 1 => ("SaidWovenModel", "text", "[I", true)
  | 2 => ("SaidWovenModel", "wordMany", "[I", true)
  | 3 => ("SaidWovenModel", "words", "[I", true)
  | 4 => ("SaidWovenModel", "joins", "[I", true)
  | 5 => ("SaidWovenModel", "hours", "[I", true)
  | 6 => ("SaidWovenModel", "longs", "[I", true)
  | 7 => ("SaidWovenModel", "verses", "[I", true)
  | 8 => ("SaidWovenModel", "sayMany", "[I", true)
  | 9 => ("SaidWovenModel", "sayWay", "[I", true)
  | 10 => ("SaidWovenModel", "sayWords", "[I", true)
  | 11 => ("SaidWovenModel", "saying", "[I", true)
  | 12 => ("SaidWovenModel", "keptMany", "I", false)
  | 13 => ("SaidWovenModel", "slipMany", "I", false)
  | 14 => ("SaidWovenModel", "slipRows", "[I", true)
  | 15 => ("SaidWovenModel", "headMany", "I", false)
  | 16 => ("SaidWovenModel", "heads", "[I", true)
  | 17 => ("SaidWovenModel", "place", "I", false)
  | 18 => ("SaidWovenModel", "numbers", "[I", true)
  | 19 => ("SaidWovenModel", "tokenMany", "I", false)
  | 20 => ("SaidWovenModel", "before", "[I", true)
  | 21 => ("SaidWovenModel", "own", "[I", true)
  | 22 => ("SaidWovenModel", "after", "[I", true)
  | 23 => ("SaidWovenModel", "groupBegins", "Z", false)
  | 24 => ("SaidWovenModel", "headAt", "[I", true)
  | 25 => ("SaidWovenModel", "nextOf", "[I", true)
  | 26 => ("SaidWovenModel", "row", "[I", true)
  | 27 => ("SaidWovenModel", "goals", "[I", true)
  | 28 => ("SaidWovenModel", "least", "[I", true)
  | 29 => ("SaidWovenModel", "many", "[J", true)
  | 30 => ("SaidWovenModel", "alike", "[J", true)
  | _ => ("SaidWovenModel", "shown", "[I", true)
def tyX9 : Nat → FieldType := fun k => match k with
  | 0 => .int
  | 1 => .array .int
  | 2 => .array .int
  | 3 => .array .int
  | 4 => .array .int
  | 5 => .array .int
  | 6 => .array .int
  | 7 => .array .int
  | 8 => .array .int
  | 9 => .array .int
  | 10 => .array .int
  | 11 => .array .int
  | 12 => .int
  | 13 => .int
  | 14 => .array .int
  | 15 => .int
  | 16 => .array .int
  | 17 => .int
  | 18 => .array .int
  | 19 => .int
  | 20 => .array .int
  | 21 => .array .int
  | 22 => .array .int
  | 23 => .boolean
  | 24 => .array .int
  | 25 => .array .int
  | 26 => .array .int
  | 27 => .array .int
  | 28 => .array .int
  | 29 => .array .long
  | 30 => .array .long
  | _ => .array .int
abbrev wsX90 : List Cond := u_ws RX9 TX9 32
theorem nmX9 : ∀ a, a < 32 → ∀ b, b < 32 → a ≠ b → (TX9 a).2.1 ≠ (TX9 b).2.1 := by decide +kernel
theorem tyX9_ok : ∀ k, k < 32 → parseFieldDescriptor (TX9 k).2.2.1 = some (tyX9 k) := by decide +kernel
abbrev cX9_init : ByteArray := prog_11_method_1_code
def yX9_init : MethodName := ⟨RX9, "<init>", "()V"⟩
abbrev cX9_in : ByteArray := prog_11_method_2_code
def yX9_in : MethodName := ⟨RX9, "in", "(JJJ)Z"⟩
abbrev cX9_has : ByteArray := prog_11_method_3_code
def yX9_has : MethodName := ⟨RX9, "has", "(II)Z"⟩
abbrev cX9_bits : ByteArray := prog_11_method_4_code
def yX9_bits : MethodName := ⟨RX9, "bits", "(I)I"⟩
abbrev cX9_noItems : ByteArray := prog_11_method_5_code
def yX9_noItems : MethodName := ⟨RX9, "noItems", "(I)V"⟩
abbrev cX9_write : ByteArray := prog_11_method_6_code
def yX9_write : MethodName := ⟨RX9, "write", "(IJ)I"⟩
abbrev cX9_wipe : ByteArray := prog_11_method_7_code
def yX9_wipe : MethodName := ⟨RX9, "wipe", "()I"⟩
abbrev cX9_byteAt : ByteArray := prog_11_method_8_code
def yX9_byteAt : MethodName := ⟨RX9, "byteAt", "(I)I"⟩
abbrev cX9_figures : ByteArray := prog_11_method_9_code
def yX9_figures : MethodName := ⟨RX9, "figures", "(I)Z"⟩
abbrev cX9_isEdge : ByteArray := prog_11_method_10_code
def yX9_isEdge : MethodName := ⟨RX9, "isEdge", "(I)Z"⟩
abbrev cX9_wordItem : ByteArray := prog_11_method_11_code
def yX9_wordItem : MethodName := ⟨RX9, "wordItem", "()Z"⟩
abbrev cX9_item : ByteArray := prog_11_method_12_code
def yX9_item : MethodName := ⟨RX9, "item", "()Z"⟩
abbrev cX9_readAll : ByteArray := prog_11_method_13_code
def yX9_readAll : MethodName := ⟨RX9, "readAll", "()I"⟩
abbrev cX9_fault : ByteArray := prog_11_method_14_code
def yX9_fault : MethodName := ⟨RX9, "fault", "()I"⟩
abbrev cX9_lay : ByteArray := prog_11_method_15_code
def yX9_lay : MethodName := ⟨RX9, "lay", "()I"⟩
abbrev cX9_joined : ByteArray := prog_11_method_16_code
def yX9_joined : MethodName := ⟨RX9, "joined", "(II)I"⟩
abbrev cX9_isVerse : ByteArray := prog_11_method_17_code
def yX9_isVerse : MethodName := ⟨RX9, "isVerse", "(I)Z"⟩
abbrev cX9_isWord : ByteArray := prog_11_method_18_code
def yX9_isWord : MethodName := ⟨RX9, "isWord", "(I)Z"⟩
abbrev cX9_isWay : ByteArray := prog_11_method_19_code
def yX9_isWay : MethodName := ⟨RX9, "isWay", "(I)Z"⟩
abbrev cX9_isPlace : ByteArray := prog_11_method_20_code
def yX9_isPlace : MethodName := ⟨RX9, "isPlace", "(I)Z"⟩
abbrev cX9_add : ByteArray := prog_11_method_21_code
def yX9_add : MethodName := ⟨RX9, "add", "(II)I"⟩
abbrev cX9_clear : ByteArray := prog_11_method_22_code
def yX9_clear : MethodName := ⟨RX9, "clear", "(I)I"⟩
abbrev cX9_word : ByteArray := prog_11_method_23_code
def yX9_word : MethodName := ⟨RX9, "word", "(II)I"⟩
abbrev cX9_sayPlace : ByteArray := prog_11_method_24_code
def yX9_sayPlace : MethodName := ⟨RX9, "sayPlace", "(I)V"⟩
abbrev cX9_sayPair : ByteArray := prog_11_method_25_code
def yX9_sayPair : MethodName := ⟨RX9, "sayPair", "(I)V"⟩
abbrev cX9_sayBack : ByteArray := prog_11_method_26_code
def yX9_sayBack : MethodName := ⟨RX9, "sayBack", "(I)V"⟩
abbrev cX9_braid : ByteArray := prog_11_method_27_code
def yX9_braid : MethodName := ⟨RX9, "braid", "(I)V"⟩
abbrev cX9_layWay : ByteArray := prog_11_method_28_code
def yX9_layWay : MethodName := ⟨RX9, "layWay", "(II)V"⟩
abbrev cX9_layWays : ByteArray := prog_11_method_29_code
def yX9_layWays : MethodName := ⟨RX9, "layWays", "(II)V"⟩
abbrev cX9_tokenOf : ByteArray := prog_11_method_30_code
def yX9_tokenOf : MethodName := ⟨RX9, "tokenOf", "(III)I"⟩
abbrev cX9_rowAt : ByteArray := prog_11_method_31_code
def yX9_rowAt : MethodName := ⟨RX9, "rowAt", "(I)I"⟩
abbrev cX9_tokenAt : ByteArray := prog_11_method_32_code
def yX9_tokenAt : MethodName := ⟨RX9, "tokenAt", "(I)I"⟩
abbrev cX9_layRow : ByteArray := prog_11_method_33_code
def yX9_layRow : MethodName := ⟨RX9, "layRow", "(I)V"⟩
abbrev cX9_said : ByteArray := prog_11_method_34_code
def yX9_said : MethodName := ⟨RX9, "said", "(III)I"⟩
abbrev cX9_say : ByteArray := prog_11_method_35_code
def yX9_say : MethodName := ⟨RX9, "say", "(II)I"⟩
abbrev cX9_alter : ByteArray := prog_11_method_36_code
def yX9_alter : MethodName := ⟨RX9, "alter", "(II)I"⟩
abbrev cX9_later : ByteArray := prog_11_method_37_code
def yX9_later : MethodName := ⟨RX9, "later", "(II)I"⟩
abbrev cX9_unlikeAt : ByteArray := prog_11_method_38_code
def yX9_unlikeAt : MethodName := ⟨RX9, "unlikeAt", "(I)I"⟩
abbrev cX9_at : ByteArray := prog_11_method_39_code
def yX9_at : MethodName := ⟨RX9, "at", "(III)I"⟩
abbrev cX9_layLeast : ByteArray := prog_11_method_40_code
def yX9_layLeast : MethodName := ⟨RX9, "layLeast", "(I)V"⟩
abbrev cX9_layState : ByteArray := prog_11_method_41_code
def yX9_layState : MethodName := ⟨RX9, "layState", "(III)V"⟩
abbrev cX9_laySaying : ByteArray := prog_11_method_42_code
def yX9_laySaying : MethodName := ⟨RX9, "laySaying", "()V"⟩
abbrev cX9_soundSo : ByteArray := prog_11_method_43_code
def yX9_soundSo : MethodName := ⟨RX9, "soundSo", "()J"⟩
abbrev cX9_rivals : ByteArray := prog_11_method_44_code
def yX9_rivals : MethodName := ⟨RX9, "rivals", "()J"⟩
abbrev cX9_nearest : ByteArray := prog_11_method_45_code
def yX9_nearest : MethodName := ⟨RX9, "nearest", "(I)I"⟩
abbrev cX9_farOf : ByteArray := prog_11_method_46_code
def yX9_farOf : MethodName := ⟨RX9, "farOf", "(II)I"⟩
abbrev cX9_far : ByteArray := prog_11_method_47_code
def yX9_far : MethodName := ⟨RX9, "far", "(III)I"⟩
abbrev cX9_hoursOf : ByteArray := prog_11_method_48_code
def yX9_hoursOf : MethodName := ⟨RX9, "hoursOf", "(I)I"⟩
abbrev cX9_best : ByteArray := prog_11_method_49_code
def yX9_best : MethodName := ⟨RX9, "best", "(III)I"⟩
abbrev cX9_showsBy : ByteArray := prog_11_method_50_code
def yX9_showsBy : MethodName := ⟨RX9, "showsBy", "(III)I"⟩
abbrev cX9_isSlip : ByteArray := prog_11_method_51_code
def yX9_isSlip : MethodName := ⟨RX9, "isSlip", "(III)Z"⟩
abbrev cX9_learnt : ByteArray := prog_11_method_52_code
def yX9_learnt : MethodName := ⟨RX9, "learnt", "(III)I"⟩
abbrev cX9_slip : ByteArray := prog_11_method_53_code
def yX9_slip : MethodName := ⟨RX9, "slip", "(III)I"⟩
abbrev cX9_noSlips : ByteArray := prog_11_method_54_code
def yX9_noSlips : MethodName := ⟨RX9, "noSlips", "()I"⟩
abbrev cX9_isListed : ByteArray := prog_11_method_55_code
def yX9_isListed : MethodName := ⟨RX9, "isListed", "(II)Z"⟩
abbrev cX9_fewestWays : ByteArray := prog_11_method_56_code
def yX9_fewestWays : MethodName := ⟨RX9, "fewestWays", "()I"⟩
abbrev cX9_slips : ByteArray := prog_11_method_57_code
def yX9_slips : MethodName := ⟨RX9, "slips", "(I)I"⟩
abbrev cX9_list : ByteArray := prog_11_method_58_code
def yX9_list : MethodName := ⟨RX9, "list", "(II)I"⟩
abbrev cX9_isHead : ByteArray := prog_11_method_59_code
def yX9_isHead : MethodName := ⟨RX9, "isHead", "(I)Z"⟩
abbrev cX9_head : ByteArray := prog_11_method_60_code
def yX9_head : MethodName := ⟨RX9, "head", "(III)I"⟩
abbrev cX9_isAlive : ByteArray := prog_11_method_61_code
def yX9_isAlive : MethodName := ⟨RX9, "isAlive", "(I)Z"⟩
abbrev cX9_alive : ByteArray := prog_11_method_62_code
def yX9_alive : MethodName := ⟨RX9, "alive", "(IZ)I"⟩
abbrev cX9_wordOf : ByteArray := prog_11_method_63_code
def yX9_wordOf : MethodName := ⟨RX9, "wordOf", "(II)I"⟩
abbrev cX9_same : ByteArray := prog_11_method_64_code
def yX9_same : MethodName := ⟨RX9, "same", "(I)I"⟩
abbrev cX9_isFrom : ByteArray := prog_11_method_65_code
def yX9_isFrom : MethodName := ⟨RX9, "isFrom", "(II)Z"⟩
abbrev cX9_since : ByteArray := prog_11_method_66_code
def yX9_since : MethodName := ⟨RX9, "since", "(II)I"⟩
abbrev cX9_areHeads : ByteArray := prog_11_method_67_code
def yX9_areHeads : MethodName := ⟨RX9, "areHeads", "(I)Z"⟩
abbrev cX9_lost : ByteArray := prog_11_method_68_code
def yX9_lost : MethodName := ⟨RX9, "lost", "(I)I"⟩
abbrev cX9_from : ByteArray := prog_11_method_69_code
def yX9_from : MethodName := ⟨RX9, "from", "(II)I"⟩
abbrev cX9_odds : ByteArray := prog_11_method_70_code
def yX9_odds : MethodName := ⟨RX9, "odds", "(IIII)J"⟩
abbrev cX9_copy : ByteArray := prog_11_method_71_code
def yX9_copy : MethodName := ⟨RX9, "copy", "(II)V"⟩
abbrev cX9_keep : ByteArray := prog_11_method_72_code
def yX9_keep : MethodName := ⟨RX9, "keep", "()I"⟩
abbrev cX9_back : ByteArray := prog_11_method_73_code
def yX9_back : MethodName := ⟨RX9, "back", "()I"⟩
abbrev cX9_count : ByteArray := prog_11_method_74_code
def yX9_count : MethodName := ⟨RX9, "count", "(I)I"⟩
def RJ6 : String := "java/lang/Integer"
def TJ6 : u_T := fun k => match k with
  | _ => ("", "", "", false)
def tyJ6 : Nat → FieldType := fun k => match k with
  | _ => .int
abbrev wsJ60 : List Cond := u_ws RJ6 TJ6 0
theorem nmJ6 : ∀ a, a < 0 → ∀ b, b < 0 → a ≠ b → (TJ6 a).2.1 ≠ (TJ6 b).2.1 := by decide +kernel
theorem tyJ6_ok : ∀ k, k < 0 → parseFieldDescriptor (TJ6 k).2.2.1 = some (tyJ6 k) := by decide +kernel
abbrev cJ6_bitCount_0f7a4 : ByteArray := prog_12_method_49_code
def yJ6_bitCount_0f7a4 : MethodName := ⟨RJ6, "bitCount", "(I)I"⟩
def RJ9 : String := "java/lang/Math"
def TJ9 : u_T := fun k => match k with
  | _ => ("", "", "", false)
def tyJ9 : Nat → FieldType := fun k => match k with
  | _ => .int
abbrev wsJ90 : List Cond := u_ws RJ9 TJ9 0
theorem nmJ9 : ∀ a, a < 0 → ∀ b, b < 0 → a ≠ b → (TJ9 a).2.1 ≠ (TJ9 b).2.1 := by decide +kernel
theorem tyJ9_ok : ∀ k, k < 0 → parseFieldDescriptor (TJ9 k).2.2.1 = some (tyJ9 k) := by decide +kernel
abbrev cJ9_abs_0f7a4 : ByteArray := prog_13_method_59_code
def yJ9_abs_0f7a4 : MethodName := ⟨RJ9, "abs", "(I)I"⟩
abbrev cJ9_max_7cf53 : ByteArray := prog_13_method_65_code
def yJ9_max_7cf53 : MethodName := ⟨RJ9, "max", "(II)I"⟩
abbrev cJ9_min_7cf53 : ByteArray := prog_13_method_69_code
def yJ9_min_7cf53 : MethodName := ⟨RJ9, "min", "(II)I"⟩
def RJ10 : String := "java/lang/System"
def TJ10 : u_T := fun k => match k with
  | _ => ("", "", "", false)
def tyJ10 : Nat → FieldType := fun k => match k with
  | _ => .int
abbrev wsJ100 : List Cond := u_ws RJ10 TJ10 0
theorem nmJ10 : ∀ a, a < 0 → ∀ b, b < 0 → a ≠ b → (TJ10 a).2.1 ≠ (TJ10 b).2.1 := by decide +kernel
theorem tyJ10_ok : ∀ k, k < 0 → parseFieldDescriptor (TJ10 k).2.2.1 = some (tyJ10 k) := by decide +kernel
def RL : String := "SaidWovenLaw"
abbrev cL_law : ByteArray := code
def yL_law : MethodName := ⟨RL, "law", "([I)Z"⟩
def wsL_law_r1 : List Cond := [Cond.classLink RL 7 RX8, Cond.instantiable RX8 13, Cond.initialized RX8, Cond.classLink RL 10 RX9, Cond.instantiable RX9 32, Cond.initialized RX9, Cond.constantLong RL 13 (4294967295), Cond.methodLink RL 9 yX8_init, Cond.instanceMethod yX8_init, Cond.code yX8_init cX8_init 1 none, Cond.methodLink RX8 3 objectInit, Cond.instanceMethod objectInit, Cond.code objectInit ⟨#[0xb1]⟩ 1 none, Cond.classLink RX8 9 RX4, Cond.instantiable RX4 4, Cond.initialized RX4, Cond.fieldLink RX8 12 "SaidWoven" "script" "LSaidWoven$Script;", Cond.classLink RX8 16 RX6, Cond.instantiable RX6 8, Cond.initialized RX6, Cond.fieldLink RX8 19 "SaidWoven" "tongue" "LSaidWoven$Tongue;", Cond.fieldLink RX8 23 "SaidWoven" "draft" "LSaidWoven$Tongue;", Cond.classLink RX8 26 RX0, Cond.instantiable RX0 6]
def wsL_law_r2 : List Cond := [Cond.initialized RX0, Cond.fieldLink RX8 29 "SaidWoven" "book" "LSaidWoven$Book;", Cond.fieldLink RX8 33 "SaidWoven" "keptFirst" "LSaidWoven$Book;", Cond.fieldLink RX8 36 "SaidWoven" "keptSecond" "LSaidWoven$Book;", Cond.classLink RX8 39 RX1, Cond.instantiable RX1 3, Cond.initialized RX1, Cond.fieldLink RX8 42 "SaidWoven" "course" "LSaidWoven$Course;", Cond.classLink RX8 46 RX3, Cond.instantiable RX3 8, Cond.initialized RX3, Cond.fieldLink RX8 51 "SaidWoven" "loom" "LSaidWoven$Loom;", Cond.classLink RX8 55 RX5, Cond.instantiable RX5 5, Cond.initialized RX5, Cond.fieldLink RX8 58 "SaidWoven" "slipped" "LSaidWoven$Slips;", Cond.classLink RX8 62 RX2, Cond.instantiable RX2 5, Cond.initialized RX2, Cond.fieldLink RX8 65 "SaidWoven" "heads" "LSaidWoven$Heads;", Cond.arrayClass .int, Cond.fieldLink RX8 69 "SaidWoven" "slippedRow" "[I", Cond.fieldLink RX8 73 "SaidWoven" "farBySet" "[I", Cond.instanceMethod yX4_init]
def wsL_law_r3 : List Cond := [Cond.code yX4_init cX4_init 1 none, Cond.methodLink RX4 3 objectInit, Cond.arrayClass .byte, Cond.fieldLink RX4 9 "SaidWoven$Script" "bytes" "[B", Cond.fieldLink RX4 15 "SaidWoven$Script" "numbers" "[I", Cond.methodLink RX8 18 yX6_init, Cond.instanceMethod yX6_init, Cond.code yX6_init cX6_init 1 none, Cond.methodLink RX6 3 objectInit, Cond.fieldLink RX6 9 "SaidWoven$Tongue" "first" "[I", Cond.fieldLink RX6 15 "SaidWoven$Tongue" "body" "[I", Cond.fieldLink RX6 18 "SaidWoven$Tongue" "last" "[I", Cond.fieldLink RX6 21 "SaidWoven$Tongue" "joining" "[I", Cond.fieldLink RX6 24 "SaidWoven$Tongue" "hours" "[I", Cond.fieldLink RX6 27 "SaidWoven$Tongue" "front" "[I", Cond.fieldLink RX6 30 "SaidWoven$Tongue" "rear" "[I", Cond.methodLink RX6 33 yX6_forget, Cond.instanceMethod yX6_forget, Cond.selects RX6 yX6_forget yX6_forget, Cond.code yX6_forget cX6_forget 2 none, Cond.fieldLink RX6 36 "SaidWoven$Tongue" "words" "I", Cond.instanceMethod yX0_init, Cond.code yX0_init cX0_init 1 none, Cond.methodLink RX0 3 objectInit]
def wsL_law_r4 : List Cond := [Cond.classLink RX0 9 "[[I", Cond.fieldLink RX0 11 "SaidWoven$Book" "words" "[[I", Cond.fieldLink RX0 16 "SaidWoven$Book" "sizes" "[I", Cond.fieldLink RX0 20 "SaidWoven$Book" "tokens" "[I", Cond.instanceMethod yX1_init, Cond.code yX1_init cX1_init 1 none, Cond.methodLink RX1 3 objectInit, Cond.fieldLink RX1 9 "SaidWoven$Course" "places" "[I", Cond.arrayClass .boolean, Cond.fieldLink RX1 15 "SaidWoven$Course" "opens" "[Z", Cond.methodLink RX8 48 yX3_init, Cond.instanceMethod yX3_init, Cond.code yX3_init cX3_init 2 none, Cond.methodLink RX3 5 objectInit, Cond.classLink RX3 11 "[[I", Cond.fieldLink RX3 13 "SaidWoven$Loom" "least" "[[I", Cond.classLink RX3 16 "[[J", Cond.arrayClass .long, Cond.fieldLink RX3 18 "SaidWoven$Loom" "rows" "[[J", Cond.fieldLink RX3 21 "SaidWoven$Loom" "unlikeSpans" "[I", Cond.classLink RX3 25 RX7, Cond.instantiable RX7 12, Cond.initialized RX7, Cond.fieldLink RX3 30 "SaidWoven$Loom" "wants" "LSaidWoven$Wants;"]
def wsL_law_r5 : List Cond := [Cond.methodLink RX3 27 yX7_init, Cond.instanceMethod yX7_init, Cond.code yX7_init cX7_init 2 none, Cond.methodLink RX7 3 objectInit, Cond.fieldLink RX7 9 "SaidWoven$Wants" "ties" "[I", Cond.classLink RX7 15 "[[I", Cond.fieldLink RX7 17 "SaidWoven$Wants" "tieBefore" "[[I", Cond.fieldLink RX7 20 "SaidWoven$Wants" "tieHere" "[[I", Cond.fieldLink RX7 23 "SaidWoven$Wants" "tieBehind" "[[I", Cond.fieldLink RX7 26 "SaidWoven$Wants" "tieToken" "[[I", Cond.fieldLink RX7 29 "SaidWoven$Wants" "tieWeight" "[[I", Cond.fieldLink RX7 32 "SaidWoven$Wants" "spans" "[I", Cond.fieldLink RX7 35 "SaidWoven$Wants" "spanFront" "[[I", Cond.fieldLink RX7 38 "SaidWoven$Wants" "spanToken" "[[I", Cond.fieldLink RX7 41 "SaidWoven$Wants" "spanWeight" "[[I", Cond.fieldLink RX7 44 "SaidWoven$Wants" "seat" "[I", Cond.fieldLink RX7 47 "SaidWoven$Wants" "tongue" "LSaidWoven$Tongue;", Cond.instanceMethod yX5_init, Cond.code yX5_init cX5_init 1 none, Cond.methodLink RX5 3 objectInit, Cond.fieldLink RX5 9 "SaidWoven$Slips" "verses" "[I", Cond.fieldLink RX5 15 "SaidWoven$Slips" "places" "[I", Cond.fieldLink RX5 18 "SaidWoven$Slips" "words" "[I", Cond.fieldLink RX5 21 "SaidWoven$Slips" "ways" "[I"]
def wsL_law_r6 : List Cond := [Cond.instanceMethod yX2_init, Cond.code yX2_init cX2_init 1 none, Cond.methodLink RX2 3 objectInit, Cond.fieldLink RX2 9 "SaidWoven$Heads" "living" "[Z", Cond.fieldLink RX2 15 "SaidWoven$Heads" "years" "[I", Cond.fieldLink RX2 19 "SaidWoven$Heads" "verses" "[I", Cond.fieldLink RX2 22 "SaidWoven$Heads" "lines" "[I", Cond.methodLink RL 12 yX9_init, Cond.instanceMethod yX9_init, Cond.code yX9_init cX9_init 1 none, Cond.methodLink RX9 1 objectInit, Cond.fieldLink RX9 7 "SaidWovenModel" "text" "[I", Cond.fieldLink RX9 13 "SaidWovenModel" "wordMany" "[I", Cond.fieldLink RX9 16 "SaidWovenModel" "words" "[I", Cond.fieldLink RX9 19 "SaidWovenModel" "joins" "[I", Cond.fieldLink RX9 22 "SaidWovenModel" "hours" "[I", Cond.fieldLink RX9 25 "SaidWovenModel" "longs" "[I", Cond.fieldLink RX9 28 "SaidWovenModel" "verses" "[I", Cond.fieldLink RX9 31 "SaidWovenModel" "sayMany" "[I", Cond.fieldLink RX9 34 "SaidWovenModel" "sayWay" "[I", Cond.fieldLink RX9 37 "SaidWovenModel" "sayWords" "[I", Cond.fieldLink RX9 40 "SaidWovenModel" "saying" "[I", Cond.fieldLink RX9 43 "SaidWovenModel" "slipRows" "[I", Cond.fieldLink RX9 46 "SaidWovenModel" "heads" "[I"]
def wsL_law_r7 : List Cond := [Cond.fieldLink RX9 49 "SaidWovenModel" "numbers" "[I", Cond.fieldLink RX9 52 "SaidWovenModel" "before" "[I", Cond.fieldLink RX9 55 "SaidWovenModel" "own" "[I", Cond.fieldLink RX9 58 "SaidWovenModel" "after" "[I", Cond.fieldLink RX9 61 "SaidWovenModel" "headAt" "[I", Cond.fieldLink RX9 64 "SaidWovenModel" "nextOf" "[I", Cond.fieldLink RX9 67 "SaidWovenModel" "row" "[I", Cond.fieldLink RX9 70 "SaidWovenModel" "goals" "[I", Cond.fieldLink RX9 73 "SaidWovenModel" "least" "[I", Cond.fieldLink RX9 76 "SaidWovenModel" "many" "[J", Cond.fieldLink RX9 80 "SaidWovenModel" "alike" "[J", Cond.fieldLink RX9 83 "SaidWovenModel" "shown" "[I", Cond.methodLink RX9 86 yX9_noItems, Cond.instanceMethod yX9_noItems, Cond.selects RX9 yX9_noItems yX9_noItems, Cond.code yX9_noItems cX9_noItems 3 none, Cond.methodLink RL 15 yX8_write, Cond.instanceMethod yX8_write, Cond.selects RX8 yX8_write yX8_write, Cond.code yX8_write cX8_write 4 (some .int), Cond.methodLink RX8 76 yX4_append, Cond.instanceMethod yX4_append, Cond.selects RX4 yX4_append yX4_append, Cond.code yX4_append cX4_append 5 (some .int)]
def wsL_law_r8 : List Cond := [Cond.fieldLink RX4 19 "SaidWoven$Script" "length" "I", Cond.methodLink RL 19 yX9_write, Cond.instanceMethod yX9_write, Cond.selects RX9 yX9_write yX9_write, Cond.code yX9_write cX9_write 5 (some .int), Cond.constantLong RX9 90 (8), Cond.fieldLink RX9 96 "SaidWovenModel" "length" "I", Cond.constantLong RX9 100 (255), Cond.methodLink RX9 92 yX9_in, Cond.static yX9_in, Cond.code yX9_in cX9_in 6 (some .boolean), Cond.methodLink RL 20 yX8_wipe, Cond.instanceMethod yX8_wipe, Cond.selects RX8 yX8_wipe yX8_wipe, Cond.code yX8_wipe cX8_wipe 2 (some .int), Cond.fieldLink RX8 80 "SaidWoven$Script" "length" "I", Cond.methodLink RL 24 yX9_wipe, Cond.instanceMethod yX9_wipe, Cond.selects RX9 yX9_wipe yX9_wipe, Cond.code yX9_wipe cX9_wipe 2 (some .int), Cond.methodLink RL 25 yX8_fault, Cond.instanceMethod yX8_fault, Cond.selects RX8 yX8_fault yX8_fault, Cond.code yX8_fault cX8_fault 1 (some .int)]
def wsL_law_r9 : List Cond := [Cond.methodLink RX8 84 yX4_readInto, Cond.instanceMethod yX4_readInto, Cond.selects RX4 yX4_readInto yX4_readInto, Cond.code yX4_readInto cX4_readInto 4 (some .int), Cond.fieldLink RX4 28 "SaidWoven$Script" "at" "I", Cond.methodLink RX4 23 yX6_forget, Cond.methodLink RX4 31 yX4_readItem, Cond.instanceMethod yX4_readItem, Cond.selects RX4 yX4_readItem yX4_readItem, Cond.code yX4_readItem cX4_readItem 3 (some .boolean), Cond.methodLink RX4 35 yX4_readNumbers, Cond.instanceMethod yX4_readNumbers, Cond.selects RX4 yX4_readNumbers yX4_readNumbers, Cond.code yX4_readNumbers cX4_readNumbers 6 (some .boolean), Cond.methodLink RX4 49 yX4_isFigure, Cond.static yX4_isFigure, Cond.code yX4_isFigure cX4_isFigure 1 (some .boolean), Cond.methodLink RX4 39 yX6_learnWord, Cond.instanceMethod yX6_learnWord, Cond.selects RX6 yX6_learnWord yX6_learnWord, Cond.code yX6_learnWord cX6_learnWord 3 (some .boolean), Cond.methodLink RX4 43 yX6_learnJoining, Cond.instanceMethod yX6_learnJoining, Cond.selects RX6 yX6_learnJoining yX6_learnJoining]
def wsL_law_r10 : List Cond := [Cond.code yX6_learnJoining cX6_learnJoining 3 (some .boolean), Cond.methodLink RX4 46 yX6_learnHours, Cond.instanceMethod yX6_learnHours, Cond.selects RX6 yX6_learnHours yX6_learnHours, Cond.code yX6_learnHours cX6_learnHours 2 (some .boolean), Cond.methodLink RL 28 yX9_fault, Cond.instanceMethod yX9_fault, Cond.selects RX9 yX9_fault yX9_fault, Cond.code yX9_fault cX9_fault 1 (some .int), Cond.methodLink RX9 133 yX9_readAll, Cond.instanceMethod yX9_readAll, Cond.selects RX9 yX9_readAll yX9_readAll, Cond.code yX9_readAll cX9_readAll 2 (some .int), Cond.fieldLink RX9 102 "SaidWovenModel" "place" "I", Cond.methodLink RX9 130 yX9_item, Cond.instanceMethod yX9_item, Cond.selects RX9 yX9_item yX9_item, Cond.code yX9_item cX9_item 2 (some .boolean), Cond.constantLong RX9 128 (4), Cond.methodLink RX9 105 yX9_byteAt, Cond.instanceMethod yX9_byteAt, Cond.selects RX9 yX9_byteAt yX9_byteAt, Cond.code yX9_byteAt cX9_byteAt 2 (some .int), Cond.methodLink RX9 124 yX9_wordItem]
def wsL_law_r11 : List Cond := [Cond.instanceMethod yX9_wordItem, Cond.selects RX9 yX9_wordItem yX9_wordItem, Cond.code yX9_wordItem cX9_wordItem 3 (some .boolean), Cond.methodLink RX9 117 yX9_figures, Cond.instanceMethod yX9_figures, Cond.selects RX9 yX9_figures yX9_figures, Cond.code yX9_figures cX9_figures 5 (some .boolean), Cond.constantLong RX9 109 (48), Cond.constantLong RX9 111 (57), Cond.constantLong RX9 113 (2), Cond.methodLink RX9 121 yX9_isEdge, Cond.static yX9_isEdge, Cond.code yX9_isEdge cX9_isEdge 1 (some .boolean), Cond.constantLong RX9 115 (7), Cond.methodLink RL 29 yX8_lay, Cond.instanceMethod yX8_lay, Cond.selects RX8 yX8_lay yX8_lay, Cond.code yX8_lay cX8_lay 2 (some .int), Cond.fieldLink RX8 94 "SaidWoven$Slips" "count" "I", Cond.fieldLink RX8 97 "SaidWoven$Heads" "count" "I", Cond.fieldLink RX8 98 "SaidWoven" "keptCount" "I", Cond.fieldLink RX8 101 "SaidWoven$Tongue" "words" "I", Cond.methodLink RX8 88 yX6_joinAll, Cond.instanceMethod yX6_joinAll]
def wsL_law_r12 : List Cond := [Cond.selects RX6 yX6_joinAll yX6_joinAll, Cond.code yX6_joinAll cX6_joinAll 5 none, Cond.methodLink RX8 91 yX0_empty, Cond.instanceMethod yX0_empty, Cond.selects RX0 yX0_empty yX0_empty, Cond.code yX0_empty cX0_empty 2 none, Cond.fieldLink RX0 23 "SaidWoven$Book" "tokenCount" "I", Cond.methodLink RL 32 yX9_lay, Cond.instanceMethod yX9_lay, Cond.selects RX9 yX9_lay yX9_lay, Cond.code yX9_lay cX9_lay 2 (some .int), Cond.fieldLink RX9 137 "SaidWovenModel" "keptMany" "I", Cond.fieldLink RX9 140 "SaidWovenModel" "slipMany" "I", Cond.fieldLink RX9 143 "SaidWovenModel" "headMany" "I", Cond.methodLink RL 33 yX8_joined, Cond.instanceMethod yX8_joined, Cond.selects RX8 yX8_joined yX8_joined, Cond.code yX8_joined cX8_joined 3 (some .int), Cond.fieldLink RX8 108 "SaidWoven$Tongue" "joining" "[I", Cond.methodLink RX8 104 yX8_isBelow, Cond.static yX8_isBelow, Cond.code yX8_isBelow cX8_isBelow 2 (some .boolean), Cond.methodLink RL 37 yX9_joined, Cond.instanceMethod yX9_joined]
def wsL_law_r13 : List Cond := [Cond.selects RX9 yX9_joined yX9_joined, Cond.code yX9_joined cX9_joined 3 (some .int), Cond.methodLink RL 38 yX8_add, Cond.instanceMethod yX8_add, Cond.selects RX8 yX8_add yX8_add, Cond.code yX8_add cX8_add 4 (some .int), Cond.fieldLink RX8 111 "SaidWoven$Book" "sizes" "[I", Cond.fieldLink RX8 114 "SaidWoven$Book" "words" "[[I", Cond.methodLink RL 41 yX9_add, Cond.instanceMethod yX9_add, Cond.selects RX9 yX9_add yX9_add, Cond.code yX9_add cX9_add 3 (some .int), Cond.methodLink RX9 148 yX9_isVerse, Cond.static yX9_isVerse, Cond.code yX9_isVerse cX9_isVerse 1 (some .boolean), Cond.constantLong RX9 146 (5), Cond.methodLink RX9 151 yX9_isWord, Cond.instanceMethod yX9_isWord, Cond.selects RX9 yX9_isWord yX9_isWord, Cond.code yX9_isWord cX9_isWord 2 (some .boolean), Cond.methodLink RL 42 yX8_clear, Cond.instanceMethod yX8_clear, Cond.selects RX8 yX8_clear yX8_clear, Cond.code yX8_clear cX8_clear 3 (some .int)]
def wsL_law_r14 : List Cond := [Cond.methodLink RL 46 yX9_clear, Cond.instanceMethod yX9_clear, Cond.selects RX9 yX9_clear yX9_clear, Cond.code yX9_clear cX9_clear 3 (some .int), Cond.methodLink RL 47 yX8_word, Cond.instanceMethod yX8_word, Cond.selects RX8 yX8_word yX8_word, Cond.code yX8_word cX8_word 3 (some .int), Cond.methodLink RL 50 yX9_word, Cond.instanceMethod yX9_word, Cond.selects RX9 yX9_word yX9_word, Cond.code yX9_word cX9_word 3 (some .int), Cond.methodLink RX9 154 yX9_isPlace, Cond.static yX9_isPlace, Cond.code yX9_isPlace cX9_isPlace 1 (some .boolean), Cond.methodLink RL 51 yX8_said, Cond.instanceMethod yX8_said, Cond.selects RX8 yX8_said yX8_said, Cond.code yX8_said cX8_said 4 (some .int), Cond.fieldLink RX8 121 "SaidWoven$Course" "count" "I", Cond.methodLink RX8 117 yX1_follow, Cond.instanceMethod yX1_follow, Cond.selects RX1 yX1_follow yX1_follow, Cond.code yX1_follow cX1_follow 3 none]
def wsL_law_r15 : List Cond := [Cond.fieldLink RX1 19 "SaidWoven$Course" "count" "I", Cond.fieldLink RX1 23 "SaidWoven$Course" "ROW" "[I", Cond.fieldLink RX1 33 "SaidWoven$Course" "BRAID" "[I", Cond.fieldLink RX1 36 "SaidWoven$Course" "THREES" "[I", Cond.methodLink RX1 26 yX1_group, Cond.instanceMethod yX1_group, Cond.selects RX1 yX1_group yX1_group, Cond.code yX1_group cX1_group 5 none, Cond.methodLink RX1 30 yX1_groups, Cond.instanceMethod yX1_groups, Cond.selects RX1 yX1_groups yX1_groups, Cond.code yX1_groups cX1_groups 5 none, Cond.methodLink RX8 122 yX1_token, Cond.instanceMethod yX1_token, Cond.selects RX1 yX1_token yX1_token, Cond.code yX1_token cX1_token 6 (some .int), Cond.methodLink RX1 39 yX1_before, Cond.instanceMethod yX1_before, Cond.selects RX1 yX1_before yX1_before, Cond.code yX1_before cX1_before 2 (some .int), Cond.methodLink RX1 43 yX1_behind, Cond.instanceMethod yX1_behind, Cond.selects RX1 yX1_behind yX1_behind, Cond.code yX1_behind cX1_behind 2 (some .int)]
def wsL_law_r16 : List Cond := [Cond.methodLink RX1 46 yX6_token, Cond.instanceMethod yX6_token, Cond.selects RX6 yX6_token yX6_token, Cond.code yX6_token cX6_token 4 (some .int), Cond.methodLink RL 55 yX9_said, Cond.instanceMethod yX9_said, Cond.selects RX9 yX9_said yX9_said, Cond.code yX9_said cX9_said 4 (some .int), Cond.fieldLink RX9 157 "SaidWovenModel" "tokenMany" "I", Cond.methodLink RX9 195 yX9_isWay, Cond.static yX9_isWay, Cond.code yX9_isWay cX9_isWay 1 (some .boolean), Cond.methodLink RX9 198 yX9_layWays, Cond.instanceMethod yX9_layWays, Cond.selects RX9 yX9_layWays yX9_layWays, Cond.code yX9_layWays cX9_layWays 5 none, Cond.methodLink RX9 176 yX9_has, Cond.static yX9_has, Cond.code yX9_has cX9_has 2 (some .boolean), Cond.methodLink RX9 180 yX9_layWay, Cond.instanceMethod yX9_layWay, Cond.selects RX9 yX9_layWay yX9_layWay, Cond.code yX9_layWay cX9_layWay 5 none, Cond.fieldLink RX9 160 "SaidWovenModel" "groupBegins" "Z"]
def wsL_law_r17 : List Cond := [Cond.methodLink RX9 164 yX9_sayPlace, Cond.instanceMethod yX9_sayPlace, Cond.selects RX9 yX9_sayPlace yX9_sayPlace, Cond.code yX9_sayPlace cX9_sayPlace 2 none, Cond.methodLink RX9 167 yX9_sayPair, Cond.instanceMethod yX9_sayPair, Cond.selects RX9 yX9_sayPair yX9_sayPair, Cond.code yX9_sayPair cX9_sayPair 2 none, Cond.methodLink RX9 173 yX9_braid, Cond.instanceMethod yX9_braid, Cond.selects RX9 yX9_braid yX9_braid, Cond.code yX9_braid cX9_braid 2 none, Cond.methodLink RX9 170 yX9_sayBack, Cond.instanceMethod yX9_sayBack, Cond.selects RX9 yX9_sayBack yX9_sayBack, Cond.code yX9_sayBack cX9_sayBack 2 none, Cond.methodLink RX9 184 yX9_later, Cond.static yX9_later, Cond.code yX9_later cX9_later 2 (some .int), Cond.methodLink RX9 201 yX9_layRow, Cond.instanceMethod yX9_layRow, Cond.selects RX9 yX9_layRow yX9_layRow, Cond.code yX9_layRow cX9_layRow 3 none, Cond.methodLink RX9 204 yX9_tokenAt]
def wsL_law_r18 : List Cond := [Cond.instanceMethod yX9_tokenAt, Cond.selects RX9 yX9_tokenAt yX9_tokenAt, Cond.code yX9_tokenAt cX9_tokenAt 2 (some .int), Cond.methodLink RX9 188 yX9_rowAt, Cond.instanceMethod yX9_rowAt, Cond.selects RX9 yX9_rowAt yX9_rowAt, Cond.code yX9_rowAt cX9_rowAt 2 (some .int), Cond.methodLink RX9 191 yX9_tokenOf, Cond.instanceMethod yX9_tokenOf, Cond.selects RX9 yX9_tokenOf yX9_tokenOf, Cond.code yX9_tokenOf cX9_tokenOf 8 (some .int), Cond.methodLink RL 56 yX8_say, Cond.instanceMethod yX8_say, Cond.selects RX8 yX8_say yX8_say, Cond.code yX8_say cX8_say 4 (some .int), Cond.fieldLink RX8 126 "SaidWoven$Book" "tokens" "[I", Cond.fieldLink RX8 129 "SaidWoven$Book" "tokenCount" "I", Cond.fieldLink RX8 132 "SaidWoven$Book" "way" "I", Cond.fieldLink RX8 135 "SaidWoven$Book" "places" "I", Cond.methodLink RL 59 yX9_say, Cond.instanceMethod yX9_say, Cond.selects RX9 yX9_say yX9_say, Cond.code yX9_say cX9_say 4 (some .int), Cond.methodLink RL 60 yX8_alter]
def wsL_law_r19 : List Cond := [Cond.instanceMethod yX8_alter, Cond.selects RX8 yX8_alter yX8_alter, Cond.code yX8_alter cX8_alter 4 (some .int), Cond.methodLink RL 63 yX9_alter, Cond.instanceMethod yX9_alter, Cond.selects RX9 yX9_alter yX9_alter, Cond.code yX9_alter cX9_alter 4 (some .int), Cond.constantLong RX9 207 (1023), Cond.methodLink RL 64 yX8_soundSo, Cond.instanceMethod yX8_soundSo, Cond.selects RX8 yX8_soundSo yX8_soundSo, Cond.code yX8_soundSo cX8_soundSo 1 (some .long), Cond.constantLong RX8 138 (-2), Cond.fieldLink RX8 143 "SaidWoven$Loom" "fewest" "I", Cond.fieldLink RX8 146 "SaidWoven$Loom" "nearestRows" "J", Cond.methodLink RX8 140 yX8_weighSaying, Cond.instanceMethod yX8_weighSaying, Cond.selects RX8 yX8_weighSaying yX8_weighSaying, Cond.code yX8_weighSaying cX8_weighSaying 2 none, Cond.fieldLink RX8 248 "SaidWoven$Loom" "wants" "LSaidWoven$Wants;", Cond.fieldLink RX8 255 "SaidWoven$Course" "places" "[I", Cond.methodLink RX8 244 yX3_begin, Cond.instanceMethod yX3_begin, Cond.selects RX3 yX3_begin yX3_begin]
def wsL_law_r20 : List Cond := [Cond.code yX3_begin cX3_begin 3 none, Cond.fieldLink RX3 34 "SaidWoven$Loom" "places" "I", Cond.fieldLink RX3 38 "SaidWoven$Tongue" "words" "I", Cond.fieldLink RX3 43 "SaidWoven$Loom" "words" "I", Cond.methodLink RX3 44 yX7_begin, Cond.instanceMethod yX7_begin, Cond.selects RX7 yX7_begin yX7_begin, Cond.code yX7_begin cX7_begin 3 none, Cond.methodLink RX8 252 yX1_before, Cond.methodLink RX8 257 yX1_behind, Cond.methodLink RX8 260 yX7_want, Cond.instanceMethod yX7_want, Cond.selects RX7 yX7_want yX7_want, Cond.code yX7_want cX7_want 5 none, Cond.methodLink RX7 51 Lib.Math.abs.name, Cond.static Lib.Math.abs.name, Cond.initialized "java/lang/Math", Cond.code Lib.Math.abs.name Lib.Math.abs.code 1 (some .int), Cond.methodLink RX7 57 yX7_wantSpan, Cond.instanceMethod yX7_wantSpan, Cond.selects RX7 yX7_wantSpan yX7_wantSpan, Cond.code yX7_wantSpan cX7_wantSpan 5 none, Cond.methodLink RX7 61 yX7_wantTie, Cond.instanceMethod yX7_wantTie]
def wsL_law_r21 : List Cond := [Cond.selects RX7 yX7_wantTie yX7_wantTie, Cond.code yX7_wantTie cX7_wantTie 10 none, Cond.methodLink RX7 65 Lib.Math.max.name, Cond.static Lib.Math.max.name, Cond.code Lib.Math.max.name Lib.Math.max.code 2 (some .int), Cond.methodLink RX7 69 yX7_seatOf, Cond.static yX7_seatOf, Cond.code yX7_seatOf cX7_seatOf 2 (some .int), Cond.methodLink RX8 266 yX3_weigh, Cond.instanceMethod yX3_weigh, Cond.selects RX3 yX3_weigh yX3_weigh, Cond.code yX3_weigh cX3_weigh 3 none, Cond.constant RX3 54 (1000000), Cond.fieldLink RX3 55 "SaidWoven$Loom" "fewest" "I", Cond.fieldLink RX3 58 "SaidWoven$Loom" "nearestRows" "J", Cond.methodLink RX3 47 yX7_unlikeSpans, Cond.instanceMethod yX7_unlikeSpans, Cond.selects RX7 yX7_unlikeSpans yX7_unlikeSpans, Cond.code yX7_unlikeSpans cX7_unlikeSpans 5 (some .int), Cond.methodLink RX3 50 yX3_weighWord, Cond.instanceMethod yX3_weighWord, Cond.selects RX3 yX3_weighWord yX3_weighWord, Cond.code yX3_weighWord cX3_weighWord 10 none, Cond.methodLink RX3 66 yX7_spansAt]
def wsL_law_r22 : List Cond := [Cond.instanceMethod yX7_spansAt, Cond.selects RX7 yX7_spansAt yX7_spansAt, Cond.code yX7_spansAt cX7_spansAt 2 (some .int), Cond.methodLink RX3 70 yX3_stateOf, Cond.instanceMethod yX3_stateOf, Cond.selects RX3 yX3_stateOf yX3_stateOf, Cond.code yX3_stateOf cX3_stateOf 4 (some .int), Cond.methodLink RX3 77 yX7_rightHalves, Cond.instanceMethod yX7_rightHalves, Cond.selects RX7 yX7_rightHalves yX7_rightHalves, Cond.code yX7_rightHalves cX7_rightHalves 10 (some .int), Cond.fieldLink RX7 78 "SaidWoven$Tongue" "front" "[I", Cond.fieldLink RX7 81 "SaidWoven$Tongue" "rear" "[I", Cond.methodLink RX3 74 yX7_unlikeTies, Cond.instanceMethod yX7_unlikeTies, Cond.selects RX7 yX7_unlikeTies yX7_unlikeTies, Cond.code yX7_unlikeTies cX7_unlikeTies 7 (some .int), Cond.methodLink RX7 72 yX6_token, Cond.methodLink RX3 81 yX3_take, Cond.instanceMethod yX3_take, Cond.selects RX3 yX3_take yX3_take, Cond.code yX3_take cX3_take 6 none, Cond.methodLink RX3 62 yX3_weighStart, Cond.instanceMethod yX3_weighStart]
def wsL_law_r23 : List Cond := [Cond.selects RX3 yX3_weighStart yX3_weighStart, Cond.code yX3_weighStart cX3_weighStart 4 none, Cond.methodLink RL 68 yX9_soundSo, Cond.instanceMethod yX9_soundSo, Cond.selects RX9 yX9_soundSo yX9_soundSo, Cond.code yX9_soundSo cX9_soundSo 1 (some .long), Cond.constantLong RX9 223 (-2), Cond.methodLink RX9 225 yX9_laySaying, Cond.instanceMethod yX9_laySaying, Cond.selects RX9 yX9_laySaying yX9_laySaying, Cond.code yX9_laySaying cX9_laySaying 2 none, Cond.methodLink RX9 220 yX9_layLeast, Cond.instanceMethod yX9_layLeast, Cond.selects RX9 yX9_layLeast yX9_layLeast, Cond.code yX9_layLeast cX9_layLeast 5 none, Cond.methodLink RX9 209 yX9_layState, Cond.instanceMethod yX9_layState, Cond.selects RX9 yX9_layState yX9_layState, Cond.code yX9_layState cX9_layState 9 none, Cond.constant RX9 216 (100000), Cond.methodLink RX9 213 yX9_at, Cond.static yX9_at, Cond.code yX9_at cX9_at 3 (some .int), Cond.methodLink RX9 217 yX9_unlikeAt]
def wsL_law_r24 : List Cond := [Cond.instanceMethod yX9_unlikeAt, Cond.selects RX9 yX9_unlikeAt yX9_unlikeAt, Cond.code yX9_unlikeAt cX9_unlikeAt 4 (some .int), Cond.methodLink RL 69 yX8_nearest, Cond.instanceMethod yX8_nearest, Cond.selects RX8 yX8_nearest yX8_nearest, Cond.code yX8_nearest cX8_nearest 2 (some .int), Cond.methodLink RX8 150 yX3_lowestRow, Cond.instanceMethod yX3_lowestRow, Cond.selects RX3 yX3_lowestRow yX3_lowestRow, Cond.code yX3_lowestRow cX3_lowestRow 9 none, Cond.methodLink RX3 85 yX3_unlikeWith, Cond.instanceMethod yX3_unlikeWith, Cond.selects RX3 yX3_unlikeWith yX3_unlikeWith, Cond.code yX3_unlikeWith cX3_unlikeWith 7 (some .int), Cond.methodLink RL 72 yX9_nearest, Cond.instanceMethod yX9_nearest, Cond.selects RX9 yX9_nearest yX9_nearest, Cond.code yX9_nearest cX9_nearest 7 (some .int), Cond.methodLink RL 73 yX8_rivals, Cond.instanceMethod yX8_rivals, Cond.selects RX8 yX8_rivals yX8_rivals, Cond.code yX8_rivals cX8_rivals 1 (some .long), Cond.methodLink RL 76 yX9_rivals]
def wsL_law_r25 : List Cond := [Cond.instanceMethod yX9_rivals, Cond.selects RX9 yX9_rivals yX9_rivals, Cond.code yX9_rivals cX9_rivals 1 (some .long), Cond.methodLink RL 77 yX8_far, Cond.instanceMethod yX8_far, Cond.selects RX8 yX8_far yX8_far, Cond.code yX8_far cX8_far 7 (some .int), Cond.methodLink RX8 162 Lib.Math.max.name, Cond.methodLink RX8 154 yX8_refusalToCompare, Cond.instanceMethod yX8_refusalToCompare, Cond.selects RX8 yX8_refusalToCompare yX8_refusalToCompare, Cond.code yX8_refusalToCompare cX8_refusalToCompare 2 (some .int), Cond.methodLink RX8 158 yX8_farBy, Cond.instanceMethod yX8_farBy, Cond.selects RX8 yX8_farBy yX8_farBy, Cond.code yX8_farBy cX8_farBy 5 (some .int), Cond.methodLink RX8 269 yX8_wantAsSaid, Cond.instanceMethod yX8_wantAsSaid, Cond.selects RX8 yX8_wantAsSaid yX8_wantAsSaid, Cond.code yX8_wantAsSaid cX8_wantAsSaid 5 none, Cond.methodLink RX8 273 yX3_farFrom, Cond.instanceMethod yX3_farFrom, Cond.selects RX3 yX3_farFrom yX3_farFrom, Cond.code yX3_farFrom cX3_farFrom 7 (some .int)]
def wsL_law_r26 : List Cond := [Cond.methodLink RX3 88 Lib.Math.min.name, Cond.static Lib.Math.min.name, Cond.code Lib.Math.min.name Lib.Math.min.code 2 (some .int), Cond.methodLink RL 80 yX9_far, Cond.instanceMethod yX9_far, Cond.selects RX9 yX9_far yX9_far, Cond.code yX9_far cX9_far 5 (some .int), Cond.constantLong RX9 228 (31), Cond.methodLink RX9 230 yX9_farOf, Cond.instanceMethod yX9_farOf, Cond.selects RX9 yX9_farOf yX9_farOf, Cond.code yX9_farOf cX9_farOf 9 (some .int), Cond.methodLink RL 81 yX8_best, Cond.instanceMethod yX8_best, Cond.selects RX8 yX8_best yX8_best, Cond.code yX8_best cX8_best 6 (some .int), Cond.methodLink RX8 167 yX8_farthestWays, Cond.instanceMethod yX8_farthestWays, Cond.selects RX8 yX8_farthestWays yX8_farthestWays, Cond.code yX8_farthestWays cX8_farthestWays 7 (some .int), Cond.constant RX8 277 (1000000), Cond.methodLink RX8 278 yX6_hoursOf, Cond.instanceMethod yX6_hoursOf, Cond.selects RX6 yX6_hoursOf yX6_hoursOf]
def wsL_law_r27 : List Cond := [Cond.code yX6_hoursOf cX6_hoursOf 4 (some .int), Cond.methodLink RX8 281 yX8_ceilingOf, Cond.instanceMethod yX8_ceilingOf, Cond.selects RX8 yX8_ceilingOf yX8_ceilingOf, Cond.code yX8_ceilingOf cX8_ceilingOf 4 (some .int), Cond.methodLink RX8 284 Lib.Math.min.name, Cond.methodLink RL 84 yX9_best, Cond.instanceMethod yX9_best, Cond.selects RX9 yX9_best yX9_best, Cond.code yX9_best cX9_best 8 (some .int), Cond.constantLong RX9 233 (495), Cond.methodLink RX9 235 yX9_hoursOf, Cond.instanceMethod yX9_hoursOf, Cond.selects RX9 yX9_hoursOf yX9_hoursOf, Cond.code yX9_hoursOf cX9_hoursOf 4 (some .int), Cond.methodLink RL 85 yX8_learnt, Cond.instanceMethod yX8_learnt, Cond.selects RX8 yX8_learnt yX8_learnt, Cond.code yX8_learnt cX8_learnt 4 (some .int), Cond.methodLink RX8 170 yX8_isSuch, Cond.instanceMethod yX8_isSuch, Cond.selects RX8 yX8_isSuch yX8_isSuch, Cond.code yX8_isSuch cX8_isSuch 4 (some .boolean), Cond.methodLink RX8 174 yX8_waysThatShow]
def wsL_law_r28 : List Cond := [Cond.instanceMethod yX8_waysThatShow, Cond.selects RX8 yX8_waysThatShow yX8_waysThatShow, Cond.code yX8_waysThatShow cX8_waysThatShow 6 (some .int), Cond.methodLink RX8 287 arraycopyName, Cond.native arraycopyName, Cond.static arraycopyName, Cond.initialized "java/lang/System", Cond.methodLink RX8 293 yX1_tells, Cond.instanceMethod yX1_tells, Cond.selects RX1 yX1_tells yX1_tells, Cond.code yX1_tells cX1_tells 5 (some .boolean), Cond.methodLink RX1 52 yX1_token, Cond.methodLink RL 88 yX9_learnt, Cond.instanceMethod yX9_learnt, Cond.selects RX9 yX9_learnt yX9_learnt, Cond.code yX9_learnt cX9_learnt 4 (some .int), Cond.methodLink RX9 238 yX9_isSlip, Cond.instanceMethod yX9_isSlip, Cond.selects RX9 yX9_isSlip yX9_isSlip, Cond.code yX9_isSlip cX9_isSlip 4 (some .boolean), Cond.methodLink RX9 242 yX9_showsBy, Cond.instanceMethod yX9_showsBy, Cond.selects RX9 yX9_showsBy yX9_showsBy, Cond.code yX9_showsBy cX9_showsBy 9 (some .int)]
def wsL_law_r29 : List Cond := [Cond.methodLink RL 89 yX8_slip, Cond.instanceMethod yX8_slip, Cond.selects RX8 yX8_slip yX8_slip, Cond.code yX8_slip cX8_slip 4 (some .int), Cond.methodLink RX8 178 yX5_append, Cond.instanceMethod yX5_append, Cond.selects RX5 yX5_append yX5_append, Cond.code yX5_append cX5_append 4 (some .int), Cond.fieldLink RX5 24 "SaidWoven$Slips" "count" "I", Cond.methodLink RL 92 yX9_slip, Cond.instanceMethod yX9_slip, Cond.selects RX9 yX9_slip yX9_slip, Cond.code yX9_slip cX9_slip 4 (some .int), Cond.methodLink RL 93 yX8_noSlips, Cond.instanceMethod yX8_noSlips, Cond.selects RX8 yX8_noSlips yX8_noSlips, Cond.code yX8_noSlips cX8_noSlips 2 (some .int), Cond.methodLink RL 96 yX9_noSlips, Cond.instanceMethod yX9_noSlips, Cond.selects RX9 yX9_noSlips yX9_noSlips, Cond.code yX9_noSlips cX9_noSlips 2 (some .int), Cond.methodLink RL 97 yX8_slips, Cond.instanceMethod yX8_slips, Cond.selects RX8 yX8_slips yX8_slips]
def wsL_law_r30 : List Cond := [Cond.code yX8_slips cX8_slips 2 (some .int), Cond.methodLink RX8 180 yX8_hiddenSlips, Cond.instanceMethod yX8_hiddenSlips, Cond.selects RX8 yX8_hiddenSlips yX8_hiddenSlips, Cond.code yX8_hiddenSlips cX8_hiddenSlips 4 (some .int), Cond.methodLink RX8 303 yX8_isSuchSlip, Cond.instanceMethod yX8_isSuchSlip, Cond.selects RX8 yX8_isSuchSlip yX8_isSuchSlip, Cond.code yX8_isSuchSlip cX8_isSuchSlip 2 (some .boolean), Cond.fieldLink RX8 297 "SaidWoven$Slips" "verses" "[I", Cond.fieldLink RX8 300 "SaidWoven$Slips" "places" "[I", Cond.fieldLink RX8 301 "SaidWoven$Slips" "words" "[I", Cond.methodLink RX8 306 yX8_waysThatShowSlip, Cond.instanceMethod yX8_waysThatShowSlip, Cond.selects RX8 yX8_waysThatShowSlip yX8_waysThatShowSlip, Cond.code yX8_waysThatShowSlip cX8_waysThatShowSlip 2 (some .int), Cond.methodLink RX8 184 yX8_fewestWays, Cond.instanceMethod yX8_fewestWays, Cond.selects RX8 yX8_fewestWays yX8_fewestWays, Cond.code yX8_fewestWays cX8_fewestWays 3 (some .int), Cond.fieldLink RX8 312 "SaidWoven$Slips" "ways" "[I", Cond.methodLink RX8 315 yX5_allShownBy, Cond.instanceMethod yX5_allShownBy, Cond.selects RX5 yX5_allShownBy yX5_allShownBy]
def wsL_law_r31 : List Cond := [Cond.code yX5_allShownBy cX5_allShownBy 3 (some .boolean), Cond.methodLink RX8 318 yJ6_bitCount_0f7a4, Cond.static yJ6_bitCount_0f7a4, Cond.initialized RJ6, Cond.code yJ6_bitCount_0f7a4 cJ6_bitCount_0f7a4 1 (some .int), Cond.constant RJ6 265 (1431655765), Cond.constant RJ6 266 (858993459), Cond.constant RJ6 267 (252645135), Cond.methodLink RX8 187 yX8_listedSlips, Cond.instanceMethod yX8_listedSlips, Cond.selects RX8 yX8_listedSlips yX8_listedSlips, Cond.code yX8_listedSlips cX8_listedSlips 4 (some .int), Cond.methodLink RX8 309 yX6_isListedAlike, Cond.instanceMethod yX6_isListedAlike, Cond.selects RX6 yX6_isListedAlike yX6_isListedAlike, Cond.code yX6_isListedAlike cX6_isListedAlike 3 (some .boolean), Cond.methodLink RX8 190 yX8_suchSlips, Cond.instanceMethod yX8_suchSlips, Cond.selects RX8 yX8_suchSlips yX8_suchSlips, Cond.code yX8_suchSlips cX8_suchSlips 3 (some .int), Cond.methodLink RL 100 yX9_slips, Cond.instanceMethod yX9_slips, Cond.selects RX9 yX9_slips yX9_slips, Cond.code yX9_slips cX9_slips 10 (some .int)]
def wsL_law_r32 : List Cond := [Cond.constantLong RX9 248 (3), Cond.methodLink RX9 250 yX9_isListed, Cond.instanceMethod yX9_isListed, Cond.selects RX9 yX9_isListed yX9_isListed, Cond.code yX9_isListed cX9_isListed 3 (some .boolean), Cond.methodLink RX9 253 yX9_fewestWays, Cond.instanceMethod yX9_fewestWays, Cond.selects RX9 yX9_fewestWays yX9_fewestWays, Cond.code yX9_fewestWays cX9_fewestWays 5 (some .int), Cond.methodLink RX9 245 yX9_bits, Cond.static yX9_bits, Cond.code yX9_bits cX9_bits 3 (some .int), Cond.methodLink RL 101 yX8_list, Cond.instanceMethod yX8_list, Cond.selects RX8 yX8_list yX8_list, Cond.code yX8_list cX8_list 7 (some .int), Cond.fieldLink RX8 193 "SaidWoven$Tongue" "first" "[I", Cond.fieldLink RX8 196 "SaidWoven$Tongue" "body" "[I", Cond.methodLink RL 104 yX9_list, Cond.instanceMethod yX9_list, Cond.selects RX9 yX9_list yX9_list, Cond.code yX9_list cX9_list 6 (some .int), Cond.methodLink RL 105 yX8_head, Cond.instanceMethod yX8_head]
def wsL_law_r33 : List Cond := [Cond.selects RX8 yX8_head yX8_head, Cond.code yX8_head cX8_head 4 (some .int), Cond.methodLink RX8 199 yX2_mayTeach, Cond.instanceMethod yX2_mayTeach, Cond.selects RX2 yX2_mayTeach yX2_mayTeach, Cond.code yX2_mayTeach cX2_mayTeach 3 (some .boolean), Cond.fieldLink RX2 25 "SaidWoven$Heads" "count" "I", Cond.methodLink RX8 202 yX2_append, Cond.instanceMethod yX2_append, Cond.selects RX2 yX2_append yX2_append, Cond.code yX2_append cX2_append 4 (some .int), Cond.methodLink RL 108 yX9_head, Cond.instanceMethod yX9_head, Cond.selects RX9 yX9_head yX9_head, Cond.code yX9_head cX9_head 5 (some .int), Cond.constantLong RX9 256 (3000), Cond.constantLong RX9 258 (-1), Cond.methodLink RL 109 yX8_alive, Cond.instanceMethod yX8_alive, Cond.selects RX8 yX8_alive yX8_alive, Cond.code yX8_alive cX8_alive 4 (some .int), Cond.fieldLink RX8 203 "SaidWoven$Heads" "living" "[Z", Cond.methodLink RL 113 yX9_alive, Cond.instanceMethod yX9_alive]
def wsL_law_r34 : List Cond := [Cond.selects RX9 yX9_alive yX9_alive, Cond.code yX9_alive cX9_alive 4 (some .int), Cond.methodLink RX9 260 yX9_isHead, Cond.instanceMethod yX9_isHead, Cond.selects RX9 yX9_isHead yX9_isHead, Cond.code yX9_isHead cX9_isHead 2 (some .boolean), Cond.methodLink RL 114 yX8_same, Cond.instanceMethod yX8_same, Cond.selects RX8 yX8_same yX8_same, Cond.code yX8_same cX8_same 2 (some .int), Cond.methodLink RX8 207 yX2_agree, Cond.instanceMethod yX2_agree, Cond.selects RX2 yX2_agree yX2_agree, Cond.code yX2_agree cX2_agree 6 (some .boolean), Cond.fieldLink RX2 33 "SaidWoven$Book" "sizes" "[I", Cond.fieldLink RX2 38 "SaidWoven$Book" "words" "[[I", Cond.methodLink RL 117 yX9_same, Cond.instanceMethod yX9_same, Cond.selects RX9 yX9_same yX9_same, Cond.code yX9_same cX9_same 6 (some .int), Cond.methodLink RX9 263 yX9_isAlive, Cond.instanceMethod yX9_isAlive, Cond.selects RX9 yX9_isAlive yX9_isAlive, Cond.code yX9_isAlive cX9_isAlive 2 (some .boolean)]
def wsL_law_r35 : List Cond := [Cond.methodLink RX9 266 yX9_wordOf, Cond.instanceMethod yX9_wordOf, Cond.selects RX9 yX9_wordOf yX9_wordOf, Cond.code yX9_wordOf cX9_wordOf 4 (some .int), Cond.methodLink RL 118 yX8_since, Cond.instanceMethod yX8_since, Cond.selects RX8 yX8_since yX8_since, Cond.code yX8_since cX8_since 3 (some .int), Cond.methodLink RX8 211 yX2_allHave, Cond.instanceMethod yX2_allHave, Cond.selects RX2 yX2_allHave yX2_allHave, Cond.code yX2_allHave cX2_allHave 5 (some .boolean), Cond.methodLink RX2 42 yX0_has, Cond.instanceMethod yX0_has, Cond.selects RX0 yX0_has yX0_has, Cond.code yX0_has cX0_has 4 (some .boolean), Cond.methodLink RX8 215 yX2_latestCommonYear, Cond.instanceMethod yX2_latestCommonYear, Cond.selects RX2 yX2_latestCommonYear yX2_latestCommonYear, Cond.code yX2_latestCommonYear cX2_latestCommonYear 5 (some .int), Cond.methodLink RX2 46 Lib.Math.max.name, Cond.methodLink RL 121 yX9_since, Cond.instanceMethod yX9_since, Cond.selects RX9 yX9_since yX9_since]
def wsL_law_r36 : List Cond := [Cond.code yX9_since cX9_since 9 (some .int), Cond.methodLink RX9 269 yX9_isFrom, Cond.instanceMethod yX9_isFrom, Cond.selects RX9 yX9_isFrom yX9_isFrom, Cond.code yX9_isFrom cX9_isFrom 4 (some .boolean), Cond.methodLink RL 122 yX8_lost, Cond.instanceMethod yX8_lost, Cond.selects RX8 yX8_lost yX8_lost, Cond.code yX8_lost cX8_lost 2 (some .int), Cond.methodLink RX8 218 yX2_isSet, Cond.instanceMethod yX2_isSet, Cond.selects RX2 yX2_isSet yX2_isSet, Cond.code yX2_isSet cX2_isSet 2 (some .boolean), Cond.methodLink RX8 222 yX2_versesOf, Cond.instanceMethod yX2_versesOf, Cond.selects RX2 yX2_versesOf yX2_versesOf, Cond.code yX2_versesOf cX2_versesOf 4 (some .int), Cond.methodLink RL 125 yX9_lost, Cond.instanceMethod yX9_lost, Cond.selects RX9 yX9_lost yX9_lost, Cond.code yX9_lost cX9_lost 6 (some .int), Cond.methodLink RX9 272 yX9_areHeads, Cond.instanceMethod yX9_areHeads, Cond.selects RX9 yX9_areHeads yX9_areHeads]
def wsL_law_r37 : List Cond := [Cond.code yX9_areHeads cX9_areHeads 2 (some .boolean), Cond.methodLink RL 126 yX8_from, Cond.instanceMethod yX8_from, Cond.selects RX8 yX8_from yX8_from, Cond.code yX8_from cX8_from 3 (some .int), Cond.methodLink RX8 225 yX2_lowestWith, Cond.instanceMethod yX2_lowestWith, Cond.selects RX2 yX2_lowestWith yX2_lowestWith, Cond.code yX2_lowestWith cX2_lowestWith 4 (some .int), Cond.methodLink RL 129 yX9_from, Cond.instanceMethod yX9_from, Cond.selects RX9 yX9_from yX9_from, Cond.code yX9_from cX9_from 4 (some .int), Cond.methodLink RL 130 yX8_odds, Cond.instanceMethod yX8_odds, Cond.selects RX8 yX8_odds yX8_odds, Cond.code yX8_odds cX8_odds 11 (some .long), Cond.constantLong RX8 228 (-1), Cond.methodLink RX8 230 yX8_commonDivisor, Cond.static yX8_commonDivisor, Cond.code yX8_commonDivisor cX8_commonDivisor 6 (some .int), Cond.methodLink RL 134 yX9_odds, Cond.instanceMethod yX9_odds, Cond.selects RX9 yX9_odds yX9_odds]
def wsL_law_r38 : List Cond := [Cond.code yX9_odds cX9_odds 18 (some .long), Cond.constantLong RX9 275 (100), Cond.constantLong RX9 277 (10000), Cond.methodLink RL 135 yX8_keep, Cond.instanceMethod yX8_keep, Cond.selects RX8 yX8_keep yX8_keep, Cond.code yX8_keep cX8_keep 1 (some .int), Cond.methodLink RX8 233 yX8_keptAt, Cond.instanceMethod yX8_keptAt, Cond.selects RX8 yX8_keptAt yX8_keptAt, Cond.code yX8_keptAt cX8_keptAt 2 (some (.object "SaidWoven$Book")), Cond.methodLink RX8 237 yX0_copy, Cond.instanceMethod yX0_copy, Cond.selects RX0 yX0_copy yX0_copy, Cond.code yX0_copy cX0_copy 3 none, Cond.methodLink RX0 27 arraycopyName, Cond.fieldLink RX0 33 "SaidWoven$Book" "way" "I", Cond.fieldLink RX0 36 "SaidWoven$Book" "places" "I", Cond.methodLink RL 138 yX9_keep, Cond.instanceMethod yX9_keep, Cond.selects RX9 yX9_keep yX9_keep, Cond.code yX9_keep cX9_keep 1 (some .int), Cond.methodLink RX9 279 yX9_copy, Cond.instanceMethod yX9_copy]
def wsL_law_r39 : List Cond := [Cond.selects RX9 yX9_copy yX9_copy, Cond.code yX9_copy cX9_copy 4 none, Cond.methodLink RL 139 yX8_back, Cond.instanceMethod yX8_back, Cond.selects RX8 yX8_back yX8_back, Cond.code yX8_back cX8_back 1 (some .int), Cond.methodLink RL 142 yX9_back, Cond.instanceMethod yX9_back, Cond.selects RX9 yX9_back yX9_back, Cond.code yX9_back cX9_back 1 (some .int), Cond.methodLink RL 143 yX8_count, Cond.instanceMethod yX8_count, Cond.selects RX8 yX8_count yX8_count, Cond.code yX8_count cX8_count 2 (some .int), Cond.methodLink RX8 241 yX0_wordsInAll, Cond.instanceMethod yX0_wordsInAll, Cond.selects RX0 yX0_wordsInAll yX0_wordsInAll, Cond.code yX0_wordsInAll cX0_wordsInAll 3 (some .int), Cond.methodLink RL 146 yX9_count, Cond.instanceMethod yX9_count, Cond.selects RX9 yX9_count yX9_count, Cond.code yX9_count cX9_count 4 (some .int)]
def wsL_law : List Cond := (wsL_law_r1 ++ (wsL_law_r2 ++ (wsL_law_r3 ++ (wsL_law_r4 ++ (wsL_law_r5 ++ (wsL_law_r6 ++ (wsL_law_r7 ++ (wsL_law_r8 ++ (wsL_law_r9 ++ (wsL_law_r10 ++ (wsL_law_r11 ++ (wsL_law_r12 ++ (wsL_law_r13 ++ (wsL_law_r14 ++ (wsL_law_r15 ++ (wsL_law_r16 ++ (wsL_law_r17 ++ (wsL_law_r18 ++ (wsL_law_r19 ++ (wsL_law_r20 ++ (wsL_law_r21 ++ (wsL_law_r22 ++ (wsL_law_r23 ++ (wsL_law_r24 ++ (wsL_law_r25 ++ (wsL_law_r26 ++ (wsL_law_r27 ++ (wsL_law_r28 ++ (wsL_law_r29 ++ (wsL_law_r30 ++ (wsL_law_r31 ++ (wsL_law_r32 ++ (wsL_law_r33 ++ (wsL_law_r34 ++ (wsL_law_r35 ++ (wsL_law_r36 ++ (wsL_law_r37 ++ (wsL_law_r38 ++ wsL_law_r39)))))))))))))))))))))))))))))))))))))) ++ wsX80 ++ wsX90 ++ wsX40 ++ wsX60 ++ wsX00 ++ wsX10 ++ wsX30 ++ wsX50 ++ wsX20 ++ wsX70 ++ ([] : List Cond)
theorem inlX0 : ∀ w ∈ wsX00, w ∈ wsL_law := fun _ h => List.mem_append_left _ (List.mem_append_left _ (List.mem_append_left _ (List.mem_append_left _ (List.mem_append_left _ (List.mem_append_left _ (List.mem_append_right _ h))))))
theorem inlX1 : ∀ w ∈ wsX10, w ∈ wsL_law := fun _ h => List.mem_append_left _ (List.mem_append_left _ (List.mem_append_left _ (List.mem_append_left _ (List.mem_append_left _ (List.mem_append_right _ h)))))
theorem inlX2 : ∀ w ∈ wsX20, w ∈ wsL_law := fun _ h => List.mem_append_left _ (List.mem_append_left _ (List.mem_append_right _ h))
theorem inlX3 : ∀ w ∈ wsX30, w ∈ wsL_law := fun _ h => List.mem_append_left _ (List.mem_append_left _ (List.mem_append_left _ (List.mem_append_left _ (List.mem_append_right _ h))))
theorem inlX4 : ∀ w ∈ wsX40, w ∈ wsL_law := fun _ h => List.mem_append_left _ (List.mem_append_left _ (List.mem_append_left _ (List.mem_append_left _ (List.mem_append_left _ (List.mem_append_left _ (List.mem_append_left _ (List.mem_append_left _ (List.mem_append_right _ h))))))))
theorem inlX5 : ∀ w ∈ wsX50, w ∈ wsL_law := fun _ h => List.mem_append_left _ (List.mem_append_left _ (List.mem_append_left _ (List.mem_append_right _ h)))
theorem inlX6 : ∀ w ∈ wsX60, w ∈ wsL_law := fun _ h => List.mem_append_left _ (List.mem_append_left _ (List.mem_append_left _ (List.mem_append_left _ (List.mem_append_left _ (List.mem_append_left _ (List.mem_append_left _ (List.mem_append_right _ h)))))))
theorem inlX7 : ∀ w ∈ wsX70, w ∈ wsL_law := fun _ h => List.mem_append_left _ (List.mem_append_right _ h)
theorem inlX8 : ∀ w ∈ wsX80, w ∈ wsL_law := fun _ h => List.mem_append_left _ (List.mem_append_left _ (List.mem_append_left _ (List.mem_append_left _ (List.mem_append_left _ (List.mem_append_left _ (List.mem_append_left _ (List.mem_append_left _ (List.mem_append_left _ (List.mem_append_left _ (List.mem_append_right _ h))))))))))
theorem inlX9 : ∀ w ∈ wsX90, w ∈ wsL_law := fun _ h => List.mem_append_left _ (List.mem_append_left _ (List.mem_append_left _ (List.mem_append_left _ (List.mem_append_left _ (List.mem_append_left _ (List.mem_append_left _ (List.mem_append_left _ (List.mem_append_left _ (List.mem_append_right _ h)))))))))
abbrev vwCl : List vw_C := [(RX0, TX0, 6), (RX1, TX1, 3), (RX2, TX2, 5), (RX3, TX3, 8), (RX4, TX4, 4), (RX5, TX5, 5), (RX6, TX6, 8), (RX7, TX7, 12), (RX8, TX8, 13), (RX9, TX9, 32)]
end
section
theorem dX0_init_0 : decode cX0_init 0 = .ok (.aload_n 0, 1) := by decide +kernel
theorem dX0_init_1 : decode cX0_init 1 = .ok (.invokespecial 3, 3) := by decide +kernel
theorem dX0_init_4 : decode cX0_init 4 = .ok (.aload_n 0, 1) := by decide +kernel
theorem dX0_init_5 : decode cX0_init 5 = .ok (.bipush 6, 2) := by decide +kernel
theorem dX0_init_7 : decode cX0_init 7 = .ok (.bipush 8, 2) := by decide +kernel
theorem dX0_init_9 : decode cX0_init 9 = .ok (.multianewarray 9 2, 4) := by decide +kernel
theorem dX0_init_13 : decode cX0_init 13 = .ok (.putfield 11, 3) := by decide +kernel
theorem dX0_init_16 : decode cX0_init 16 = .ok (.aload_n 0, 1) := by decide +kernel
theorem dX0_init_17 : decode cX0_init 17 = .ok (.bipush 6, 2) := by decide +kernel
theorem dX0_init_19 : decode cX0_init 19 = .ok (.newarray .int, 2) := by decide +kernel
theorem dX0_init_21 : decode cX0_init 21 = .ok (.putfield 16, 3) := by decide +kernel
theorem dX0_init_24 : decode cX0_init 24 = .ok (.aload_n 0, 1) := by decide +kernel
theorem dX0_init_25 : decode cX0_init 25 = .ok (.bipush 84, 2) := by decide +kernel
theorem dX0_init_27 : decode cX0_init 27 = .ok (.newarray .int, 2) := by decide +kernel
theorem dX0_init_29 : decode cX0_init 29 = .ok (.putfield 20, 3) := by decide +kernel
theorem dX0_init_32 : decode cX0_init 32 = .ok (.return_, 1) := by decide +kernel
theorem dX0_empty_0 : decode cX0_empty 0 = .ok (.iconst 0, 1) := by decide +kernel
theorem dX0_empty_1 : decode cX0_empty 1 = .ok (.istore_n 1, 1) := by decide +kernel
theorem dX0_empty_2 : decode cX0_empty 2 = .ok (.iload_n 1, 1) := by decide +kernel
theorem dX0_empty_3 : decode cX0_empty 3 = .ok (.bipush 6, 2) := by decide +kernel
theorem dX0_empty_5 : decode cX0_empty 5 = .ok (.if_icmp .ge 16, 3) := by decide +kernel
theorem dX0_empty_8 : decode cX0_empty 8 = .ok (.aload_n 0, 1) := by decide +kernel
theorem dX0_empty_9 : decode cX0_empty 9 = .ok (.getfield 16, 3) := by decide +kernel
theorem dX0_empty_12 : decode cX0_empty 12 = .ok (.iload_n 1, 1) := by decide +kernel
theorem dX0_empty_13 : decode cX0_empty 13 = .ok (.iconst 0, 1) := by decide +kernel
theorem dX0_empty_14 : decode cX0_empty 14 = .ok (.iastore, 1) := by decide +kernel
theorem dX0_empty_15 : decode cX0_empty 15 = .ok (.iinc 1 1, 3) := by decide +kernel
theorem dX0_empty_18 : decode cX0_empty 18 = .ok (.goto (-16), 3) := by decide +kernel
theorem dX0_empty_21 : decode cX0_empty 21 = .ok (.aload_n 0, 1) := by decide +kernel
theorem dX0_empty_22 : decode cX0_empty 22 = .ok (.iconst 0, 1) := by decide +kernel
theorem dX0_empty_23 : decode cX0_empty 23 = .ok (.putfield 23, 3) := by decide +kernel
theorem dX0_empty_26 : decode cX0_empty 26 = .ok (.return_, 1) := by decide +kernel
theorem dX0_copy_0 : decode cX0_copy 0 = .ok (.iconst 0, 1) := by decide +kernel
theorem dX0_copy_1 : decode cX0_copy 1 = .ok (.istore_n 2, 1) := by decide +kernel
theorem dX0_copy_2 : decode cX0_copy 2 = .ok (.iload_n 2, 1) := by decide +kernel
theorem dX0_copy_3 : decode cX0_copy 3 = .ok (.bipush 6, 2) := by decide +kernel
theorem dX0_copy_5 : decode cX0_copy 5 = .ok (.if_icmp .ge 28, 3) := by decide +kernel
theorem dX0_copy_8 : decode cX0_copy 8 = .ok (.aload_n 1, 1) := by decide +kernel
theorem dX0_copy_9 : decode cX0_copy 9 = .ok (.getfield 11, 3) := by decide +kernel
theorem dX0_copy_12 : decode cX0_copy 12 = .ok (.iload_n 2, 1) := by decide +kernel
theorem dX0_copy_13 : decode cX0_copy 13 = .ok (.aaload, 1) := by decide +kernel
theorem dX0_copy_14 : decode cX0_copy 14 = .ok (.iconst 0, 1) := by decide +kernel
theorem dX0_copy_15 : decode cX0_copy 15 = .ok (.aload_n 0, 1) := by decide +kernel
theorem dX0_copy_16 : decode cX0_copy 16 = .ok (.getfield 11, 3) := by decide +kernel
theorem dX0_copy_19 : decode cX0_copy 19 = .ok (.iload_n 2, 1) := by decide +kernel
theorem dX0_copy_20 : decode cX0_copy 20 = .ok (.aaload, 1) := by decide +kernel
theorem dX0_copy_21 : decode cX0_copy 21 = .ok (.iconst 0, 1) := by decide +kernel
theorem dX0_copy_22 : decode cX0_copy 22 = .ok (.bipush 8, 2) := by decide +kernel
theorem dX0_copy_24 : decode cX0_copy 24 = .ok (.invokestatic 27, 3) := by decide +kernel
theorem dX0_copy_27 : decode cX0_copy 27 = .ok (.iinc 2 1, 3) := by decide +kernel
theorem dX0_copy_30 : decode cX0_copy 30 = .ok (.goto (-28), 3) := by decide +kernel
theorem dX0_copy_33 : decode cX0_copy 33 = .ok (.aload_n 1, 1) := by decide +kernel
theorem dX0_copy_34 : decode cX0_copy 34 = .ok (.getfield 16, 3) := by decide +kernel
theorem dX0_copy_37 : decode cX0_copy 37 = .ok (.iconst 0, 1) := by decide +kernel
theorem dX0_copy_38 : decode cX0_copy 38 = .ok (.aload_n 0, 1) := by decide +kernel
theorem dX0_copy_39 : decode cX0_copy 39 = .ok (.getfield 16, 3) := by decide +kernel
theorem dX0_copy_42 : decode cX0_copy 42 = .ok (.iconst 0, 1) := by decide +kernel
theorem dX0_copy_43 : decode cX0_copy 43 = .ok (.bipush 6, 2) := by decide +kernel
theorem dX0_copy_45 : decode cX0_copy 45 = .ok (.invokestatic 27, 3) := by decide +kernel
theorem dX0_copy_48 : decode cX0_copy 48 = .ok (.aload_n 1, 1) := by decide +kernel
theorem dX0_copy_49 : decode cX0_copy 49 = .ok (.getfield 20, 3) := by decide +kernel
theorem dX0_copy_52 : decode cX0_copy 52 = .ok (.iconst 0, 1) := by decide +kernel
theorem dX0_copy_53 : decode cX0_copy 53 = .ok (.aload_n 0, 1) := by decide +kernel
theorem dX0_copy_54 : decode cX0_copy 54 = .ok (.getfield 20, 3) := by decide +kernel
theorem dX0_copy_57 : decode cX0_copy 57 = .ok (.iconst 0, 1) := by decide +kernel
theorem dX0_copy_58 : decode cX0_copy 58 = .ok (.bipush 84, 2) := by decide +kernel
theorem dX0_copy_60 : decode cX0_copy 60 = .ok (.invokestatic 27, 3) := by decide +kernel
theorem dX0_copy_63 : decode cX0_copy 63 = .ok (.aload_n 0, 1) := by decide +kernel
theorem dX0_copy_64 : decode cX0_copy 64 = .ok (.aload_n 1, 1) := by decide +kernel
theorem dX0_copy_65 : decode cX0_copy 65 = .ok (.getfield 23, 3) := by decide +kernel
theorem dX0_copy_68 : decode cX0_copy 68 = .ok (.putfield 23, 3) := by decide +kernel
theorem dX0_copy_71 : decode cX0_copy 71 = .ok (.aload_n 0, 1) := by decide +kernel
theorem dX0_copy_72 : decode cX0_copy 72 = .ok (.aload_n 1, 1) := by decide +kernel
theorem dX0_copy_73 : decode cX0_copy 73 = .ok (.getfield 33, 3) := by decide +kernel
theorem dX0_copy_76 : decode cX0_copy 76 = .ok (.putfield 33, 3) := by decide +kernel
theorem dX0_copy_79 : decode cX0_copy 79 = .ok (.aload_n 0, 1) := by decide +kernel
theorem dX0_copy_80 : decode cX0_copy 80 = .ok (.aload_n 1, 1) := by decide +kernel
theorem dX0_copy_81 : decode cX0_copy 81 = .ok (.getfield 36, 3) := by decide +kernel
theorem dX0_copy_84 : decode cX0_copy 84 = .ok (.putfield 36, 3) := by decide +kernel
theorem dX0_copy_87 : decode cX0_copy 87 = .ok (.return_, 1) := by decide +kernel
theorem dX0_wordsInAll_0 : decode cX0_wordsInAll 0 = .ok (.iconst 0, 1) := by decide +kernel
theorem dX0_wordsInAll_1 : decode cX0_wordsInAll 1 = .ok (.istore_n 1, 1) := by decide +kernel
theorem dX0_wordsInAll_2 : decode cX0_wordsInAll 2 = .ok (.iconst 0, 1) := by decide +kernel
theorem dX0_wordsInAll_3 : decode cX0_wordsInAll 3 = .ok (.istore_n 2, 1) := by decide +kernel
theorem dX0_wordsInAll_4 : decode cX0_wordsInAll 4 = .ok (.iload_n 2, 1) := by decide +kernel
theorem dX0_wordsInAll_5 : decode cX0_wordsInAll 5 = .ok (.bipush 6, 2) := by decide +kernel
theorem dX0_wordsInAll_7 : decode cX0_wordsInAll 7 = .ok (.if_icmp .ge 18, 3) := by decide +kernel
theorem dX0_wordsInAll_10 : decode cX0_wordsInAll 10 = .ok (.iload_n 1, 1) := by decide +kernel
theorem dX0_wordsInAll_11 : decode cX0_wordsInAll 11 = .ok (.aload_n 0, 1) := by decide +kernel
theorem dX0_wordsInAll_12 : decode cX0_wordsInAll 12 = .ok (.getfield 16, 3) := by decide +kernel
theorem dX0_wordsInAll_15 : decode cX0_wordsInAll 15 = .ok (.iload_n 2, 1) := by decide +kernel
theorem dX0_wordsInAll_16 : decode cX0_wordsInAll 16 = .ok (.iaload, 1) := by decide +kernel
theorem dX0_wordsInAll_17 : decode cX0_wordsInAll 17 = .ok (.iadd, 1) := by decide +kernel
theorem dX0_wordsInAll_18 : decode cX0_wordsInAll 18 = .ok (.istore_n 1, 1) := by decide +kernel
theorem dX0_wordsInAll_19 : decode cX0_wordsInAll 19 = .ok (.iinc 2 1, 3) := by decide +kernel
theorem dX0_wordsInAll_22 : decode cX0_wordsInAll 22 = .ok (.goto (-18), 3) := by decide +kernel
theorem dX0_wordsInAll_25 : decode cX0_wordsInAll 25 = .ok (.iload_n 1, 1) := by decide +kernel
theorem dX0_wordsInAll_26 : decode cX0_wordsInAll 26 = .ok (.ireturn, 1) := by decide +kernel
theorem dX0_has_0 : decode cX0_has 0 = .ok (.iload_n 2, 1) := by decide +kernel
theorem dX0_has_1 : decode cX0_has 1 = .ok (.aload_n 0, 1) := by decide +kernel
theorem dX0_has_2 : decode cX0_has 2 = .ok (.getfield 16, 3) := by decide +kernel
theorem dX0_has_5 : decode cX0_has 5 = .ok (.iload_n 1, 1) := by decide +kernel
theorem dX0_has_6 : decode cX0_has 6 = .ok (.iaload, 1) := by decide +kernel
theorem dX0_has_7 : decode cX0_has 7 = .ok (.if_icmp .ge 19, 3) := by decide +kernel
theorem dX0_has_10 : decode cX0_has 10 = .ok (.aload_n 0, 1) := by decide +kernel
theorem dX0_has_11 : decode cX0_has 11 = .ok (.getfield 11, 3) := by decide +kernel
theorem dX0_has_14 : decode cX0_has 14 = .ok (.iload_n 1, 1) := by decide +kernel
theorem dX0_has_15 : decode cX0_has 15 = .ok (.aaload, 1) := by decide +kernel
theorem dX0_has_16 : decode cX0_has 16 = .ok (.iload_n 2, 1) := by decide +kernel
theorem dX0_has_17 : decode cX0_has 17 = .ok (.iaload, 1) := by decide +kernel
theorem dX0_has_18 : decode cX0_has 18 = .ok (.iload_n 3, 1) := by decide +kernel
theorem dX0_has_19 : decode cX0_has 19 = .ok (.if_icmp .ne 7, 3) := by decide +kernel
theorem dX0_has_22 : decode cX0_has 22 = .ok (.iconst 1, 1) := by decide +kernel
theorem dX0_has_23 : decode cX0_has 23 = .ok (.goto 4, 3) := by decide +kernel
theorem dX0_has_26 : decode cX0_has 26 = .ok (.iconst 0, 1) := by decide +kernel
theorem dX0_has_27 : decode cX0_has 27 = .ok (.ireturn, 1) := by decide +kernel
theorem dX1_init_0 : decode cX1_init 0 = .ok (.aload_n 0, 1) := by decide +kernel
theorem dX1_init_1 : decode cX1_init 1 = .ok (.invokespecial 3, 3) := by decide +kernel
theorem dX1_init_4 : decode cX1_init 4 = .ok (.aload_n 0, 1) := by decide +kernel
theorem dX1_init_5 : decode cX1_init 5 = .ok (.bipush 84, 2) := by decide +kernel
theorem dX1_init_7 : decode cX1_init 7 = .ok (.newarray .int, 2) := by decide +kernel
theorem dX1_init_9 : decode cX1_init 9 = .ok (.putfield 9, 3) := by decide +kernel
theorem dX1_init_12 : decode cX1_init 12 = .ok (.aload_n 0, 1) := by decide +kernel
theorem dX1_init_13 : decode cX1_init 13 = .ok (.bipush 84, 2) := by decide +kernel
theorem dX1_init_15 : decode cX1_init 15 = .ok (.newarray .boolean, 2) := by decide +kernel
theorem dX1_init_17 : decode cX1_init 17 = .ok (.putfield 15, 3) := by decide +kernel
theorem dX1_init_20 : decode cX1_init 20 = .ok (.return_, 1) := by decide +kernel
theorem dX1_follow_0 : decode cX1_follow 0 = .ok (.aload_n 0, 1) := by decide +kernel
theorem dX1_follow_1 : decode cX1_follow 1 = .ok (.iconst 0, 1) := by decide +kernel
theorem dX1_follow_2 : decode cX1_follow 2 = .ok (.putfield 19, 3) := by decide +kernel
theorem dX1_follow_5 : decode cX1_follow 5 = .ok (.iload_n 2, 1) := by decide +kernel
theorem dX1_follow_6 : decode cX1_follow 6 = .ok (.iconst 1, 1) := by decide +kernel
theorem dX1_follow_7 : decode cX1_follow 7 = .ok (.if_icmp .eq 7, 3) := by decide +kernel
theorem dX1_follow_10 : decode cX1_follow 10 = .ok (.iload_n 1, 1) := by decide +kernel
theorem dX1_follow_11 : decode cX1_follow 11 = .ok (.ifCond .ne 15, 3) := by decide +kernel
theorem dX1_follow_14 : decode cX1_follow 14 = .ok (.aload_n 0, 1) := by decide +kernel
theorem dX1_follow_15 : decode cX1_follow 15 = .ok (.iconst 0, 1) := by decide +kernel
theorem dX1_follow_16 : decode cX1_follow 16 = .ok (.getstatic 23, 3) := by decide +kernel
theorem dX1_follow_19 : decode cX1_follow 19 = .ok (.iload_n 2, 1) := by decide +kernel
theorem dX1_follow_20 : decode cX1_follow 20 = .ok (.invokevirtual 26, 3) := by decide +kernel
theorem dX1_follow_23 : decode cX1_follow 23 = .ok (.goto 89, 3) := by decide +kernel
theorem dX1_follow_26 : decode cX1_follow 26 = .ok (.iload_n 1, 1) := by decide +kernel
theorem dX1_follow_27 : decode cX1_follow 27 = .ok (.iconst 1, 1) := by decide +kernel
theorem dX1_follow_28 : decode cX1_follow 28 = .ok (.if_icmp .ne 15, 3) := by decide +kernel
theorem dX1_follow_31 : decode cX1_follow 31 = .ok (.aload_n 0, 1) := by decide +kernel
theorem dX1_follow_32 : decode cX1_follow 32 = .ok (.iload_n 2, 1) := by decide +kernel
theorem dX1_follow_33 : decode cX1_follow 33 = .ok (.getstatic 23, 3) := by decide +kernel
theorem dX1_follow_36 : decode cX1_follow 36 = .ok (.iconst 1, 1) := by decide +kernel
theorem dX1_follow_37 : decode cX1_follow 37 = .ok (.invokevirtual 30, 3) := by decide +kernel
theorem dX1_follow_40 : decode cX1_follow 40 = .ok (.goto 72, 3) := by decide +kernel
theorem dX1_follow_43 : decode cX1_follow 43 = .ok (.iload_n 1, 1) := by decide +kernel
theorem dX1_follow_44 : decode cX1_follow 44 = .ok (.iconst 2, 1) := by decide +kernel
theorem dX1_follow_45 : decode cX1_follow 45 = .ok (.if_icmp .ne 17, 3) := by decide +kernel
theorem dX1_follow_48 : decode cX1_follow 48 = .ok (.aload_n 0, 1) := by decide +kernel
theorem dX1_follow_49 : decode cX1_follow 49 = .ok (.iload_n 2, 1) := by decide +kernel
theorem dX1_follow_50 : decode cX1_follow 50 = .ok (.iconst 1, 1) := by decide +kernel
theorem dX1_follow_51 : decode cX1_follow 51 = .ok (.isub, 1) := by decide +kernel
theorem dX1_follow_52 : decode cX1_follow 52 = .ok (.getstatic 23, 3) := by decide +kernel
theorem dX1_follow_55 : decode cX1_follow 55 = .ok (.iconst 2, 1) := by decide +kernel
theorem dX1_follow_56 : decode cX1_follow 56 = .ok (.invokevirtual 30, 3) := by decide +kernel
theorem dX1_follow_59 : decode cX1_follow 59 = .ok (.goto 53, 3) := by decide +kernel
theorem dX1_follow_62 : decode cX1_follow 62 = .ok (.iload_n 1, 1) := by decide +kernel
theorem dX1_follow_63 : decode cX1_follow 63 = .ok (.iconst 3, 1) := by decide +kernel
theorem dX1_follow_64 : decode cX1_follow 64 = .ok (.if_icmp .ne 20, 3) := by decide +kernel
theorem dX1_follow_67 : decode cX1_follow 67 = .ok (.aload_n 0, 1) := by decide +kernel
theorem dX1_follow_68 : decode cX1_follow 68 = .ok (.iload_n 2, 1) := by decide +kernel
theorem dX1_follow_69 : decode cX1_follow 69 = .ok (.iconst 1, 1) := by decide +kernel
theorem dX1_follow_70 : decode cX1_follow 70 = .ok (.isub, 1) := by decide +kernel
theorem dX1_follow_71 : decode cX1_follow 71 = .ok (.getstatic 33, 3) := by decide +kernel
theorem dX1_follow_74 : decode cX1_follow 74 = .ok (.getstatic 33, 3) := by decide +kernel
theorem dX1_follow_77 : decode cX1_follow 77 = .ok (.arraylength, 1) := by decide +kernel
theorem dX1_follow_78 : decode cX1_follow 78 = .ok (.invokevirtual 30, 3) := by decide +kernel
theorem dX1_follow_81 : decode cX1_follow 81 = .ok (.goto 31, 3) := by decide +kernel
theorem dX1_follow_84 : decode cX1_follow 84 = .ok (.aload_n 0, 1) := by decide +kernel
theorem dX1_follow_85 : decode cX1_follow 85 = .ok (.iload_n 2, 1) := by decide +kernel
theorem dX1_follow_86 : decode cX1_follow 86 = .ok (.iconst 2, 1) := by decide +kernel
theorem dX1_follow_87 : decode cX1_follow 87 = .ok (.isub, 1) := by decide +kernel
theorem dX1_follow_88 : decode cX1_follow 88 = .ok (.getstatic 36, 3) := by decide +kernel
theorem dX1_follow_91 : decode cX1_follow 91 = .ok (.getstatic 36, 3) := by decide +kernel
theorem dX1_follow_94 : decode cX1_follow 94 = .ok (.arraylength, 1) := by decide +kernel
theorem dX1_follow_95 : decode cX1_follow 95 = .ok (.invokevirtual 30, 3) := by decide +kernel
theorem dX1_follow_98 : decode cX1_follow 98 = .ok (.aload_n 0, 1) := by decide +kernel
theorem dX1_follow_99 : decode cX1_follow 99 = .ok (.iload_n 2, 1) := by decide +kernel
theorem dX1_follow_100 : decode cX1_follow 100 = .ok (.iconst 2, 1) := by decide +kernel
theorem dX1_follow_101 : decode cX1_follow 101 = .ok (.isub, 1) := by decide +kernel
theorem dX1_follow_102 : decode cX1_follow 102 = .ok (.getstatic 33, 3) := by decide +kernel
theorem dX1_follow_105 : decode cX1_follow 105 = .ok (.getstatic 33, 3) := by decide +kernel
theorem dX1_follow_108 : decode cX1_follow 108 = .ok (.arraylength, 1) := by decide +kernel
theorem dX1_follow_109 : decode cX1_follow 109 = .ok (.invokevirtual 26, 3) := by decide +kernel
theorem dX1_follow_112 : decode cX1_follow 112 = .ok (.return_, 1) := by decide +kernel
theorem dX1_groups_0 : decode cX1_groups 0 = .ok (.iconst 0, 1) := by decide +kernel
theorem dX1_groups_1 : decode cX1_groups 1 = .ok (.istore 4, 2) := by decide +kernel
theorem dX1_groups_3 : decode cX1_groups 3 = .ok (.iload 4, 2) := by decide +kernel
theorem dX1_groups_5 : decode cX1_groups 5 = .ok (.iload_n 1, 1) := by decide +kernel
theorem dX1_groups_6 : decode cX1_groups 6 = .ok (.if_icmp .ge 17, 3) := by decide +kernel
theorem dX1_groups_9 : decode cX1_groups 9 = .ok (.aload_n 0, 1) := by decide +kernel
theorem dX1_groups_10 : decode cX1_groups 10 = .ok (.iload 4, 2) := by decide +kernel
theorem dX1_groups_12 : decode cX1_groups 12 = .ok (.aload_n 2, 1) := by decide +kernel
theorem dX1_groups_13 : decode cX1_groups 13 = .ok (.iload_n 3, 1) := by decide +kernel
theorem dX1_groups_14 : decode cX1_groups 14 = .ok (.invokevirtual 26, 3) := by decide +kernel
theorem dX1_groups_17 : decode cX1_groups 17 = .ok (.iinc 4 1, 3) := by decide +kernel
theorem dX1_groups_20 : decode cX1_groups 20 = .ok (.goto (-17), 3) := by decide +kernel
theorem dX1_groups_23 : decode cX1_groups 23 = .ok (.return_, 1) := by decide +kernel
theorem dX1_group_0 : decode cX1_group 0 = .ok (.iconst 0, 1) := by decide +kernel
theorem dX1_group_1 : decode cX1_group 1 = .ok (.istore 4, 2) := by decide +kernel
theorem dX1_group_3 : decode cX1_group 3 = .ok (.iload 4, 2) := by decide +kernel
theorem dX1_group_5 : decode cX1_group 5 = .ok (.iload_n 3, 1) := by decide +kernel
theorem dX1_group_6 : decode cX1_group 6 = .ok (.if_icmp .ge 62, 3) := by decide +kernel
theorem dX1_group_9 : decode cX1_group 9 = .ok (.aload_n 0, 1) := by decide +kernel
theorem dX1_group_10 : decode cX1_group 10 = .ok (.getfield 19, 3) := by decide +kernel
theorem dX1_group_13 : decode cX1_group 13 = .ok (.bipush 84, 2) := by decide +kernel
theorem dX1_group_15 : decode cX1_group 15 = .ok (.if_icmp .ge 53, 3) := by decide +kernel
theorem dX1_group_18 : decode cX1_group 18 = .ok (.aload_n 0, 1) := by decide +kernel
theorem dX1_group_19 : decode cX1_group 19 = .ok (.getfield 9, 3) := by decide +kernel
theorem dX1_group_22 : decode cX1_group 22 = .ok (.aload_n 0, 1) := by decide +kernel
theorem dX1_group_23 : decode cX1_group 23 = .ok (.getfield 19, 3) := by decide +kernel
theorem dX1_group_26 : decode cX1_group 26 = .ok (.iload_n 1, 1) := by decide +kernel
theorem dX1_group_27 : decode cX1_group 27 = .ok (.aload_n 2, 1) := by decide +kernel
theorem dX1_group_28 : decode cX1_group 28 = .ok (.iload 4, 2) := by decide +kernel
theorem dX1_group_30 : decode cX1_group 30 = .ok (.iaload, 1) := by decide +kernel
theorem dX1_group_31 : decode cX1_group 31 = .ok (.iadd, 1) := by decide +kernel
theorem dX1_group_32 : decode cX1_group 32 = .ok (.iastore, 1) := by decide +kernel
theorem dX1_group_33 : decode cX1_group 33 = .ok (.aload_n 0, 1) := by decide +kernel
theorem dX1_group_34 : decode cX1_group 34 = .ok (.getfield 15, 3) := by decide +kernel
theorem dX1_group_37 : decode cX1_group 37 = .ok (.aload_n 0, 1) := by decide +kernel
theorem dX1_group_38 : decode cX1_group 38 = .ok (.getfield 19, 3) := by decide +kernel
theorem dX1_group_41 : decode cX1_group 41 = .ok (.iload 4, 2) := by decide +kernel
theorem dX1_group_43 : decode cX1_group 43 = .ok (.ifCond .ne 7, 3) := by decide +kernel
theorem dX1_group_46 : decode cX1_group 46 = .ok (.iconst 1, 1) := by decide +kernel
theorem dX1_group_47 : decode cX1_group 47 = .ok (.goto 4, 3) := by decide +kernel
theorem dX1_group_50 : decode cX1_group 50 = .ok (.iconst 0, 1) := by decide +kernel
theorem dX1_group_51 : decode cX1_group 51 = .ok (.bastore, 1) := by decide +kernel
theorem dX1_group_52 : decode cX1_group 52 = .ok (.aload_n 0, 1) := by decide +kernel
theorem dX1_group_53 : decode cX1_group 53 = .ok (.dup, 1) := by decide +kernel
theorem dX1_group_54 : decode cX1_group 54 = .ok (.getfield 19, 3) := by decide +kernel
theorem dX1_group_57 : decode cX1_group 57 = .ok (.iconst 1, 1) := by decide +kernel
theorem dX1_group_58 : decode cX1_group 58 = .ok (.iadd, 1) := by decide +kernel
theorem dX1_group_59 : decode cX1_group 59 = .ok (.putfield 19, 3) := by decide +kernel
theorem dX1_group_62 : decode cX1_group 62 = .ok (.iinc 4 1, 3) := by decide +kernel
theorem dX1_group_65 : decode cX1_group 65 = .ok (.goto (-62), 3) := by decide +kernel
theorem dX1_group_68 : decode cX1_group 68 = .ok (.return_, 1) := by decide +kernel
theorem dX1_before_0 : decode cX1_before 0 = .ok (.iload_n 1, 1) := by decide +kernel
theorem dX1_before_1 : decode cX1_before 1 = .ok (.ifCond .eq 12, 3) := by decide +kernel
theorem dX1_before_4 : decode cX1_before 4 = .ok (.aload_n 0, 1) := by decide +kernel
theorem dX1_before_5 : decode cX1_before 5 = .ok (.getfield 15, 3) := by decide +kernel
theorem dX1_before_8 : decode cX1_before 8 = .ok (.iload_n 1, 1) := by decide +kernel
theorem dX1_before_9 : decode cX1_before 9 = .ok (.baload, 1) := by decide +kernel
theorem dX1_before_10 : decode cX1_before 10 = .ok (.ifCond .eq 7, 3) := by decide +kernel
theorem dX1_before_13 : decode cX1_before 13 = .ok (.iconst (-1), 1) := by decide +kernel
theorem dX1_before_14 : decode cX1_before 14 = .ok (.goto 11, 3) := by decide +kernel
theorem dX1_before_17 : decode cX1_before 17 = .ok (.aload_n 0, 1) := by decide +kernel
theorem dX1_before_18 : decode cX1_before 18 = .ok (.getfield 9, 3) := by decide +kernel
theorem dX1_before_21 : decode cX1_before 21 = .ok (.iload_n 1, 1) := by decide +kernel
theorem dX1_before_22 : decode cX1_before 22 = .ok (.iconst 1, 1) := by decide +kernel
theorem dX1_before_23 : decode cX1_before 23 = .ok (.isub, 1) := by decide +kernel
theorem dX1_before_24 : decode cX1_before 24 = .ok (.iaload, 1) := by decide +kernel
theorem dX1_before_25 : decode cX1_before 25 = .ok (.ireturn, 1) := by decide +kernel
theorem dX1_behind_0 : decode cX1_behind 0 = .ok (.iload_n 1, 1) := by decide +kernel
theorem dX1_behind_1 : decode cX1_behind 1 = .ok (.iconst 1, 1) := by decide +kernel
theorem dX1_behind_2 : decode cX1_behind 2 = .ok (.iadd, 1) := by decide +kernel
theorem dX1_behind_3 : decode cX1_behind 3 = .ok (.aload_n 0, 1) := by decide +kernel
theorem dX1_behind_4 : decode cX1_behind 4 = .ok (.getfield 19, 3) := by decide +kernel
theorem dX1_behind_7 : decode cX1_behind 7 = .ok (.if_icmp .ge 14, 3) := by decide +kernel
theorem dX1_behind_10 : decode cX1_behind 10 = .ok (.aload_n 0, 1) := by decide +kernel
theorem dX1_behind_11 : decode cX1_behind 11 = .ok (.getfield 15, 3) := by decide +kernel
theorem dX1_behind_14 : decode cX1_behind 14 = .ok (.iload_n 1, 1) := by decide +kernel
theorem dX1_behind_15 : decode cX1_behind 15 = .ok (.iconst 1, 1) := by decide +kernel
theorem dX1_behind_16 : decode cX1_behind 16 = .ok (.iadd, 1) := by decide +kernel
theorem dX1_behind_17 : decode cX1_behind 17 = .ok (.baload, 1) := by decide +kernel
theorem dX1_behind_18 : decode cX1_behind 18 = .ok (.ifCond .eq 7, 3) := by decide +kernel
theorem dX1_behind_21 : decode cX1_behind 21 = .ok (.iconst (-1), 1) := by decide +kernel
theorem dX1_behind_22 : decode cX1_behind 22 = .ok (.goto 11, 3) := by decide +kernel
theorem dX1_behind_25 : decode cX1_behind 25 = .ok (.aload_n 0, 1) := by decide +kernel
theorem dX1_behind_26 : decode cX1_behind 26 = .ok (.getfield 9, 3) := by decide +kernel
theorem dX1_behind_29 : decode cX1_behind 29 = .ok (.iload_n 1, 1) := by decide +kernel
theorem dX1_behind_30 : decode cX1_behind 30 = .ok (.iconst 1, 1) := by decide +kernel
theorem dX1_behind_31 : decode cX1_behind 31 = .ok (.iadd, 1) := by decide +kernel
theorem dX1_behind_32 : decode cX1_behind 32 = .ok (.iaload, 1) := by decide +kernel
theorem dX1_behind_33 : decode cX1_behind 33 = .ok (.ireturn, 1) := by decide +kernel
theorem dX1_token_0 : decode cX1_token 0 = .ok (.aload_n 0, 1) := by decide +kernel
theorem dX1_token_1 : decode cX1_token 1 = .ok (.iload_n 3, 1) := by decide +kernel
theorem dX1_token_2 : decode cX1_token 2 = .ok (.invokevirtual 39, 3) := by decide +kernel
theorem dX1_token_5 : decode cX1_token 5 = .ok (.istore 4, 2) := by decide +kernel
theorem dX1_token_7 : decode cX1_token 7 = .ok (.aload_n 0, 1) := by decide +kernel
theorem dX1_token_8 : decode cX1_token 8 = .ok (.iload_n 3, 1) := by decide +kernel
theorem dX1_token_9 : decode cX1_token 9 = .ok (.invokevirtual 43, 3) := by decide +kernel
theorem dX1_token_12 : decode cX1_token 12 = .ok (.istore 5, 2) := by decide +kernel
theorem dX1_token_14 : decode cX1_token 14 = .ok (.aload_n 1, 1) := by decide +kernel
theorem dX1_token_15 : decode cX1_token 15 = .ok (.iload 4, 2) := by decide +kernel
theorem dX1_token_17 : decode cX1_token 17 = .ok (.ifCond .ge 8, 3) := by decide +kernel
theorem dX1_token_20 : decode cX1_token 20 = .ok (.bipush 16, 2) := by decide +kernel
theorem dX1_token_22 : decode cX1_token 22 = .ok (.goto 7, 3) := by decide +kernel
theorem dX1_token_25 : decode cX1_token 25 = .ok (.aload_n 2, 1) := by decide +kernel
theorem dX1_token_26 : decode cX1_token 26 = .ok (.iload 4, 2) := by decide +kernel
theorem dX1_token_28 : decode cX1_token 28 = .ok (.iaload, 1) := by decide +kernel
theorem dX1_token_29 : decode cX1_token 29 = .ok (.aload_n 2, 1) := by decide +kernel
theorem dX1_token_30 : decode cX1_token 30 = .ok (.aload_n 0, 1) := by decide +kernel
theorem dX1_token_31 : decode cX1_token 31 = .ok (.getfield 9, 3) := by decide +kernel
theorem dX1_token_34 : decode cX1_token 34 = .ok (.iload_n 3, 1) := by decide +kernel
theorem dX1_token_35 : decode cX1_token 35 = .ok (.iaload, 1) := by decide +kernel
theorem dX1_token_36 : decode cX1_token 36 = .ok (.iaload, 1) := by decide +kernel
theorem dX1_token_37 : decode cX1_token 37 = .ok (.iload 5, 2) := by decide +kernel
theorem dX1_token_39 : decode cX1_token 39 = .ok (.ifCond .ge 8, 3) := by decide +kernel
theorem dX1_token_42 : decode cX1_token 42 = .ok (.bipush 16, 2) := by decide +kernel
theorem dX1_token_44 : decode cX1_token 44 = .ok (.goto 7, 3) := by decide +kernel
theorem dX1_token_47 : decode cX1_token 47 = .ok (.aload_n 2, 1) := by decide +kernel
theorem dX1_token_48 : decode cX1_token 48 = .ok (.iload 5, 2) := by decide +kernel
theorem dX1_token_50 : decode cX1_token 50 = .ok (.iaload, 1) := by decide +kernel
theorem dX1_token_51 : decode cX1_token 51 = .ok (.invokevirtual 46, 3) := by decide +kernel
theorem dX1_token_54 : decode cX1_token 54 = .ok (.ireturn, 1) := by decide +kernel
theorem dX1_tells_0 : decode cX1_tells 0 = .ok (.iconst 0, 1) := by decide +kernel
theorem dX1_tells_1 : decode cX1_tells 1 = .ok (.istore 4, 2) := by decide +kernel
theorem dX1_tells_3 : decode cX1_tells 3 = .ok (.iload 4, 2) := by decide +kernel
theorem dX1_tells_5 : decode cX1_tells 5 = .ok (.aload_n 0, 1) := by decide +kernel
theorem dX1_tells_6 : decode cX1_tells 6 = .ok (.getfield 19, 3) := by decide +kernel
theorem dX1_tells_9 : decode cX1_tells 9 = .ok (.if_icmp .ge 30, 3) := by decide +kernel
theorem dX1_tells_12 : decode cX1_tells 12 = .ok (.aload_n 0, 1) := by decide +kernel
theorem dX1_tells_13 : decode cX1_tells 13 = .ok (.aload_n 1, 1) := by decide +kernel
theorem dX1_tells_14 : decode cX1_tells 14 = .ok (.aload_n 2, 1) := by decide +kernel
theorem dX1_tells_15 : decode cX1_tells 15 = .ok (.iload 4, 2) := by decide +kernel
theorem dX1_tells_17 : decode cX1_tells 17 = .ok (.invokevirtual 52, 3) := by decide +kernel
theorem dX1_tells_20 : decode cX1_tells 20 = .ok (.aload_n 0, 1) := by decide +kernel
theorem dX1_tells_21 : decode cX1_tells 21 = .ok (.aload_n 1, 1) := by decide +kernel
theorem dX1_tells_22 : decode cX1_tells 22 = .ok (.aload_n 3, 1) := by decide +kernel
theorem dX1_tells_23 : decode cX1_tells 23 = .ok (.iload 4, 2) := by decide +kernel
theorem dX1_tells_25 : decode cX1_tells 25 = .ok (.invokevirtual 52, 3) := by decide +kernel
theorem dX1_tells_28 : decode cX1_tells 28 = .ok (.if_icmp .eq 5, 3) := by decide +kernel
theorem dX1_tells_31 : decode cX1_tells 31 = .ok (.iconst 1, 1) := by decide +kernel
theorem dX1_tells_32 : decode cX1_tells 32 = .ok (.ireturn, 1) := by decide +kernel
theorem dX1_tells_33 : decode cX1_tells 33 = .ok (.iinc 4 1, 3) := by decide +kernel
theorem dX1_tells_36 : decode cX1_tells 36 = .ok (.goto (-33), 3) := by decide +kernel
theorem dX1_tells_39 : decode cX1_tells 39 = .ok (.iconst 0, 1) := by decide +kernel
theorem dX1_tells_40 : decode cX1_tells 40 = .ok (.ireturn, 1) := by decide +kernel
theorem dX2_init_0 : decode cX2_init 0 = .ok (.aload_n 0, 1) := by decide +kernel
theorem dX2_init_1 : decode cX2_init 1 = .ok (.invokespecial 3, 3) := by decide +kernel
theorem dX2_init_4 : decode cX2_init 4 = .ok (.aload_n 0, 1) := by decide +kernel
theorem dX2_init_5 : decode cX2_init 5 = .ok (.bipush 16, 2) := by decide +kernel
theorem dX2_init_7 : decode cX2_init 7 = .ok (.newarray .boolean, 2) := by decide +kernel
theorem dX2_init_9 : decode cX2_init 9 = .ok (.putfield 9, 3) := by decide +kernel
theorem dX2_init_12 : decode cX2_init 12 = .ok (.aload_n 0, 1) := by decide +kernel
theorem dX2_init_13 : decode cX2_init 13 = .ok (.bipush 16, 2) := by decide +kernel
theorem dX2_init_15 : decode cX2_init 15 = .ok (.newarray .int, 2) := by decide +kernel
theorem dX2_init_17 : decode cX2_init 17 = .ok (.putfield 15, 3) := by decide +kernel
theorem dX2_init_20 : decode cX2_init 20 = .ok (.aload_n 0, 1) := by decide +kernel
theorem dX2_init_21 : decode cX2_init 21 = .ok (.bipush 16, 2) := by decide +kernel
theorem dX2_init_23 : decode cX2_init 23 = .ok (.newarray .int, 2) := by decide +kernel
theorem dX2_init_25 : decode cX2_init 25 = .ok (.putfield 19, 3) := by decide +kernel
theorem dX2_init_28 : decode cX2_init 28 = .ok (.aload_n 0, 1) := by decide +kernel
theorem dX2_init_29 : decode cX2_init 29 = .ok (.bipush 16, 2) := by decide +kernel
theorem dX2_init_31 : decode cX2_init 31 = .ok (.newarray .int, 2) := by decide +kernel
theorem dX2_init_33 : decode cX2_init 33 = .ok (.putfield 22, 3) := by decide +kernel
theorem dX2_init_36 : decode cX2_init 36 = .ok (.return_, 1) := by decide +kernel
theorem dX2_mayTeach_0 : decode cX2_mayTeach 0 = .ok (.iload_n 1, 1) := by decide +kernel
theorem dX2_mayTeach_1 : decode cX2_mayTeach 1 = .ok (.iconst (-1), 1) := by decide +kernel
theorem dX2_mayTeach_2 : decode cX2_mayTeach 2 = .ok (.if_icmp .eq 24, 3) := by decide +kernel
theorem dX2_mayTeach_5 : decode cX2_mayTeach 5 = .ok (.iload_n 1, 1) := by decide +kernel
theorem dX2_mayTeach_6 : decode cX2_mayTeach 6 = .ok (.aload_n 0, 1) := by decide +kernel
theorem dX2_mayTeach_7 : decode cX2_mayTeach 7 = .ok (.getfield 25, 3) := by decide +kernel
theorem dX2_mayTeach_10 : decode cX2_mayTeach 10 = .ok (.invokestatic 29, 3) := by decide +kernel
theorem dX2_mayTeach_13 : decode cX2_mayTeach 13 = .ok (.ifCond .eq 17, 3) := by decide +kernel
theorem dX2_mayTeach_16 : decode cX2_mayTeach 16 = .ok (.aload_n 0, 1) := by decide +kernel
theorem dX2_mayTeach_17 : decode cX2_mayTeach 17 = .ok (.getfield 15, 3) := by decide +kernel
theorem dX2_mayTeach_20 : decode cX2_mayTeach 20 = .ok (.iload_n 1, 1) := by decide +kernel
theorem dX2_mayTeach_21 : decode cX2_mayTeach 21 = .ok (.iaload, 1) := by decide +kernel
theorem dX2_mayTeach_22 : decode cX2_mayTeach 22 = .ok (.iload_n 2, 1) := by decide +kernel
theorem dX2_mayTeach_23 : decode cX2_mayTeach 23 = .ok (.if_icmp .ge 7, 3) := by decide +kernel
theorem dX2_mayTeach_26 : decode cX2_mayTeach 26 = .ok (.iconst 1, 1) := by decide +kernel
theorem dX2_mayTeach_27 : decode cX2_mayTeach 27 = .ok (.goto 4, 3) := by decide +kernel
theorem dX2_mayTeach_30 : decode cX2_mayTeach 30 = .ok (.iconst 0, 1) := by decide +kernel
theorem dX2_mayTeach_31 : decode cX2_mayTeach 31 = .ok (.ireturn, 1) := by decide +kernel
theorem dX2_append_0 : decode cX2_append 0 = .ok (.aload_n 0, 1) := by decide +kernel
theorem dX2_append_1 : decode cX2_append 1 = .ok (.getfield 25, 3) := by decide +kernel
theorem dX2_append_4 : decode cX2_append 4 = .ok (.bipush 16, 2) := by decide +kernel
theorem dX2_append_6 : decode cX2_append 6 = .ok (.if_icmp .lt 6, 3) := by decide +kernel
theorem dX2_append_9 : decode cX2_append 9 = .ok (.bipush (-3), 2) := by decide +kernel
theorem dX2_append_11 : decode cX2_append 11 = .ok (.ireturn, 1) := by decide +kernel
theorem dX2_append_12 : decode cX2_append 12 = .ok (.aload_n 0, 1) := by decide +kernel
theorem dX2_append_13 : decode cX2_append 13 = .ok (.getfield 15, 3) := by decide +kernel
theorem dX2_append_16 : decode cX2_append 16 = .ok (.aload_n 0, 1) := by decide +kernel
theorem dX2_append_17 : decode cX2_append 17 = .ok (.getfield 25, 3) := by decide +kernel
theorem dX2_append_20 : decode cX2_append 20 = .ok (.iload_n 1, 1) := by decide +kernel
theorem dX2_append_21 : decode cX2_append 21 = .ok (.iastore, 1) := by decide +kernel
theorem dX2_append_22 : decode cX2_append 22 = .ok (.aload_n 0, 1) := by decide +kernel
theorem dX2_append_23 : decode cX2_append 23 = .ok (.getfield 19, 3) := by decide +kernel
theorem dX2_append_26 : decode cX2_append 26 = .ok (.aload_n 0, 1) := by decide +kernel
theorem dX2_append_27 : decode cX2_append 27 = .ok (.getfield 25, 3) := by decide +kernel
theorem dX2_append_30 : decode cX2_append 30 = .ok (.iload_n 3, 1) := by decide +kernel
theorem dX2_append_31 : decode cX2_append 31 = .ok (.iastore, 1) := by decide +kernel
theorem dX2_append_32 : decode cX2_append 32 = .ok (.aload_n 0, 1) := by decide +kernel
theorem dX2_append_33 : decode cX2_append 33 = .ok (.getfield 22, 3) := by decide +kernel
theorem dX2_append_36 : decode cX2_append 36 = .ok (.aload_n 0, 1) := by decide +kernel
theorem dX2_append_37 : decode cX2_append 37 = .ok (.getfield 25, 3) := by decide +kernel
theorem dX2_append_40 : decode cX2_append 40 = .ok (.iconst 1, 1) := by decide +kernel
theorem dX2_append_41 : decode cX2_append 41 = .ok (.aload_n 0, 1) := by decide +kernel
theorem dX2_append_42 : decode cX2_append 42 = .ok (.getfield 25, 3) := by decide +kernel
theorem dX2_append_45 : decode cX2_append 45 = .ok (.ishl, 1) := by decide +kernel
theorem dX2_append_46 : decode cX2_append 46 = .ok (.iload_n 2, 1) := by decide +kernel
theorem dX2_append_47 : decode cX2_append 47 = .ok (.ifCond .ge 7, 3) := by decide +kernel
theorem dX2_append_50 : decode cX2_append 50 = .ok (.iconst 0, 1) := by decide +kernel
theorem dX2_append_51 : decode cX2_append 51 = .ok (.goto 9, 3) := by decide +kernel
theorem dX2_append_54 : decode cX2_append 54 = .ok (.aload_n 0, 1) := by decide +kernel
theorem dX2_append_55 : decode cX2_append 55 = .ok (.getfield 22, 3) := by decide +kernel
theorem dX2_append_58 : decode cX2_append 58 = .ok (.iload_n 2, 1) := by decide +kernel
theorem dX2_append_59 : decode cX2_append 59 = .ok (.iaload, 1) := by decide +kernel
theorem dX2_append_60 : decode cX2_append 60 = .ok (.ior, 1) := by decide +kernel
theorem dX2_append_61 : decode cX2_append 61 = .ok (.iastore, 1) := by decide +kernel
theorem dX2_append_62 : decode cX2_append 62 = .ok (.aload_n 0, 1) := by decide +kernel
theorem dX2_append_63 : decode cX2_append 63 = .ok (.getfield 9, 3) := by decide +kernel
theorem dX2_append_66 : decode cX2_append 66 = .ok (.aload_n 0, 1) := by decide +kernel
theorem dX2_append_67 : decode cX2_append 67 = .ok (.getfield 25, 3) := by decide +kernel
theorem dX2_append_70 : decode cX2_append 70 = .ok (.iconst 1, 1) := by decide +kernel
theorem dX2_append_71 : decode cX2_append 71 = .ok (.bastore, 1) := by decide +kernel
theorem dX2_append_72 : decode cX2_append 72 = .ok (.aload_n 0, 1) := by decide +kernel
theorem dX2_append_73 : decode cX2_append 73 = .ok (.dup, 1) := by decide +kernel
theorem dX2_append_74 : decode cX2_append 74 = .ok (.getfield 25, 3) := by decide +kernel
theorem dX2_append_77 : decode cX2_append 77 = .ok (.iconst 1, 1) := by decide +kernel
theorem dX2_append_78 : decode cX2_append 78 = .ok (.iadd, 1) := by decide +kernel
theorem dX2_append_79 : decode cX2_append 79 = .ok (.putfield 25, 3) := by decide +kernel
theorem dX2_append_82 : decode cX2_append 82 = .ok (.aload_n 0, 1) := by decide +kernel
theorem dX2_append_83 : decode cX2_append 83 = .ok (.getfield 25, 3) := by decide +kernel
theorem dX2_append_86 : decode cX2_append 86 = .ok (.iconst 1, 1) := by decide +kernel
theorem dX2_append_87 : decode cX2_append 87 = .ok (.isub, 1) := by decide +kernel
theorem dX2_append_88 : decode cX2_append 88 = .ok (.ireturn, 1) := by decide +kernel
theorem dX2_isSet_0 : decode cX2_isSet 0 = .ok (.iload_n 1, 1) := by decide +kernel
theorem dX2_isSet_1 : decode cX2_isSet 1 = .ok (.ifCond .lt 16, 3) := by decide +kernel
theorem dX2_isSet_4 : decode cX2_isSet 4 = .ok (.iload_n 1, 1) := by decide +kernel
theorem dX2_isSet_5 : decode cX2_isSet 5 = .ok (.aload_n 0, 1) := by decide +kernel
theorem dX2_isSet_6 : decode cX2_isSet 6 = .ok (.getfield 25, 3) := by decide +kernel
theorem dX2_isSet_9 : decode cX2_isSet 9 = .ok (.ishr, 1) := by decide +kernel
theorem dX2_isSet_10 : decode cX2_isSet 10 = .ok (.ifCond .ne 7, 3) := by decide +kernel
theorem dX2_isSet_13 : decode cX2_isSet 13 = .ok (.iconst 1, 1) := by decide +kernel
theorem dX2_isSet_14 : decode cX2_isSet 14 = .ok (.goto 4, 3) := by decide +kernel
theorem dX2_isSet_17 : decode cX2_isSet 17 = .ok (.iconst 0, 1) := by decide +kernel
theorem dX2_isSet_18 : decode cX2_isSet 18 = .ok (.ireturn, 1) := by decide +kernel
theorem dX2_agree_0 : decode cX2_agree 0 = .ok (.bipush (-4), 2) := by decide +kernel
theorem dX2_agree_2 : decode cX2_agree 2 = .ok (.istore_n 3, 1) := by decide +kernel
theorem dX2_agree_3 : decode cX2_agree 3 = .ok (.iconst 0, 1) := by decide +kernel
theorem dX2_agree_4 : decode cX2_agree 4 = .ok (.istore 4, 2) := by decide +kernel
theorem dX2_agree_6 : decode cX2_agree 6 = .ok (.iload 4, 2) := by decide +kernel
theorem dX2_agree_8 : decode cX2_agree 8 = .ok (.aload_n 0, 1) := by decide +kernel
theorem dX2_agree_9 : decode cX2_agree 9 = .ok (.getfield 25, 3) := by decide +kernel
theorem dX2_agree_12 : decode cX2_agree 12 = .ok (.if_icmp .ge 68, 3) := by decide +kernel
theorem dX2_agree_15 : decode cX2_agree 15 = .ok (.aload_n 0, 1) := by decide +kernel
theorem dX2_agree_16 : decode cX2_agree 16 = .ok (.getfield 9, 3) := by decide +kernel
theorem dX2_agree_19 : decode cX2_agree 19 = .ok (.iload 4, 2) := by decide +kernel
theorem dX2_agree_21 : decode cX2_agree 21 = .ok (.baload, 1) := by decide +kernel
theorem dX2_agree_22 : decode cX2_agree 22 = .ok (.ifCond .eq 52, 3) := by decide +kernel
theorem dX2_agree_25 : decode cX2_agree 25 = .ok (.iload_n 2, 1) := by decide +kernel
theorem dX2_agree_26 : decode cX2_agree 26 = .ok (.aload_n 1, 1) := by decide +kernel
theorem dX2_agree_27 : decode cX2_agree 27 = .ok (.getfield 33, 3) := by decide +kernel
theorem dX2_agree_30 : decode cX2_agree 30 = .ok (.aload_n 0, 1) := by decide +kernel
theorem dX2_agree_31 : decode cX2_agree 31 = .ok (.getfield 19, 3) := by decide +kernel
theorem dX2_agree_34 : decode cX2_agree 34 = .ok (.iload 4, 2) := by decide +kernel
theorem dX2_agree_36 : decode cX2_agree 36 = .ok (.iaload, 1) := by decide +kernel
theorem dX2_agree_37 : decode cX2_agree 37 = .ok (.iaload, 1) := by decide +kernel
theorem dX2_agree_38 : decode cX2_agree 38 = .ok (.if_icmp .ge 36, 3) := by decide +kernel
theorem dX2_agree_41 : decode cX2_agree 41 = .ok (.aload_n 1, 1) := by decide +kernel
theorem dX2_agree_42 : decode cX2_agree 42 = .ok (.getfield 38, 3) := by decide +kernel
theorem dX2_agree_45 : decode cX2_agree 45 = .ok (.aload_n 0, 1) := by decide +kernel
theorem dX2_agree_46 : decode cX2_agree 46 = .ok (.getfield 19, 3) := by decide +kernel
theorem dX2_agree_49 : decode cX2_agree 49 = .ok (.iload 4, 2) := by decide +kernel
theorem dX2_agree_51 : decode cX2_agree 51 = .ok (.iaload, 1) := by decide +kernel
theorem dX2_agree_52 : decode cX2_agree 52 = .ok (.aaload, 1) := by decide +kernel
theorem dX2_agree_53 : decode cX2_agree 53 = .ok (.iload_n 2, 1) := by decide +kernel
theorem dX2_agree_54 : decode cX2_agree 54 = .ok (.iaload, 1) := by decide +kernel
theorem dX2_agree_55 : decode cX2_agree 55 = .ok (.istore 5, 2) := by decide +kernel
theorem dX2_agree_57 : decode cX2_agree 57 = .ok (.iload_n 3, 1) := by decide +kernel
theorem dX2_agree_58 : decode cX2_agree 58 = .ok (.bipush (-4), 2) := by decide +kernel
theorem dX2_agree_60 : decode cX2_agree 60 = .ok (.if_icmp .eq 11, 3) := by decide +kernel
theorem dX2_agree_63 : decode cX2_agree 63 = .ok (.iload_n 3, 1) := by decide +kernel
theorem dX2_agree_64 : decode cX2_agree 64 = .ok (.iload 5, 2) := by decide +kernel
theorem dX2_agree_66 : decode cX2_agree 66 = .ok (.if_icmp .eq 5, 3) := by decide +kernel
theorem dX2_agree_69 : decode cX2_agree 69 = .ok (.iconst 0, 1) := by decide +kernel
theorem dX2_agree_70 : decode cX2_agree 70 = .ok (.ireturn, 1) := by decide +kernel
theorem dX2_agree_71 : decode cX2_agree 71 = .ok (.iload 5, 2) := by decide +kernel
theorem dX2_agree_73 : decode cX2_agree 73 = .ok (.istore_n 3, 1) := by decide +kernel
theorem dX2_agree_74 : decode cX2_agree 74 = .ok (.iinc 4 1, 3) := by decide +kernel
theorem dX2_agree_77 : decode cX2_agree 77 = .ok (.goto (-71), 3) := by decide +kernel
theorem dX2_agree_80 : decode cX2_agree 80 = .ok (.iconst 1, 1) := by decide +kernel
theorem dX2_agree_81 : decode cX2_agree 81 = .ok (.ireturn, 1) := by decide +kernel
theorem dX2_allHave_0 : decode cX2_allHave 0 = .ok (.iconst 0, 1) := by decide +kernel
theorem dX2_allHave_1 : decode cX2_allHave 1 = .ok (.istore 4, 2) := by decide +kernel
theorem dX2_allHave_3 : decode cX2_allHave 3 = .ok (.iload 4, 2) := by decide +kernel
theorem dX2_allHave_5 : decode cX2_allHave 5 = .ok (.aload_n 0, 1) := by decide +kernel
theorem dX2_allHave_6 : decode cX2_allHave 6 = .ok (.getfield 25, 3) := by decide +kernel
theorem dX2_allHave_9 : decode cX2_allHave 9 = .ok (.if_icmp .ge 37, 3) := by decide +kernel
theorem dX2_allHave_12 : decode cX2_allHave 12 = .ok (.aload_n 0, 1) := by decide +kernel
theorem dX2_allHave_13 : decode cX2_allHave 13 = .ok (.getfield 9, 3) := by decide +kernel
theorem dX2_allHave_16 : decode cX2_allHave 16 = .ok (.iload 4, 2) := by decide +kernel
theorem dX2_allHave_18 : decode cX2_allHave 18 = .ok (.baload, 1) := by decide +kernel
theorem dX2_allHave_19 : decode cX2_allHave 19 = .ok (.ifCond .eq 21, 3) := by decide +kernel
theorem dX2_allHave_22 : decode cX2_allHave 22 = .ok (.aload_n 1, 1) := by decide +kernel
theorem dX2_allHave_23 : decode cX2_allHave 23 = .ok (.aload_n 0, 1) := by decide +kernel
theorem dX2_allHave_24 : decode cX2_allHave 24 = .ok (.getfield 19, 3) := by decide +kernel
theorem dX2_allHave_27 : decode cX2_allHave 27 = .ok (.iload 4, 2) := by decide +kernel
theorem dX2_allHave_29 : decode cX2_allHave 29 = .ok (.iaload, 1) := by decide +kernel
theorem dX2_allHave_30 : decode cX2_allHave 30 = .ok (.iload_n 2, 1) := by decide +kernel
theorem dX2_allHave_31 : decode cX2_allHave 31 = .ok (.iload_n 3, 1) := by decide +kernel
theorem dX2_allHave_32 : decode cX2_allHave 32 = .ok (.invokevirtual 42, 3) := by decide +kernel
theorem dX2_allHave_35 : decode cX2_allHave 35 = .ok (.ifCond .ne 5, 3) := by decide +kernel
theorem dX2_allHave_38 : decode cX2_allHave 38 = .ok (.iconst 0, 1) := by decide +kernel
theorem dX2_allHave_39 : decode cX2_allHave 39 = .ok (.ireturn, 1) := by decide +kernel
theorem dX2_allHave_40 : decode cX2_allHave 40 = .ok (.iinc 4 1, 3) := by decide +kernel
theorem dX2_allHave_43 : decode cX2_allHave 43 = .ok (.goto (-40), 3) := by decide +kernel
theorem dX2_allHave_46 : decode cX2_allHave 46 = .ok (.iconst 1, 1) := by decide +kernel
theorem dX2_allHave_47 : decode cX2_allHave 47 = .ok (.ireturn, 1) := by decide +kernel
theorem dX2_latestCommonYear_0 : decode cX2_latestCommonYear 0 = .ok (.iconst 0, 1) := by decide +kernel
theorem dX2_latestCommonYear_1 : decode cX2_latestCommonYear 1 = .ok (.istore_n 1, 1) := by decide +kernel
theorem dX2_latestCommonYear_2 : decode cX2_latestCommonYear 2 = .ok (.iconst 0, 1) := by decide +kernel
theorem dX2_latestCommonYear_3 : decode cX2_latestCommonYear 3 = .ok (.istore_n 2, 1) := by decide +kernel
theorem dX2_latestCommonYear_4 : decode cX2_latestCommonYear 4 = .ok (.iconst 0, 1) := by decide +kernel
theorem dX2_latestCommonYear_5 : decode cX2_latestCommonYear 5 = .ok (.istore_n 3, 1) := by decide +kernel
theorem dX2_latestCommonYear_6 : decode cX2_latestCommonYear 6 = .ok (.iload_n 3, 1) := by decide +kernel
theorem dX2_latestCommonYear_7 : decode cX2_latestCommonYear 7 = .ok (.aload_n 0, 1) := by decide +kernel
theorem dX2_latestCommonYear_8 : decode cX2_latestCommonYear 8 = .ok (.getfield 25, 3) := by decide +kernel
theorem dX2_latestCommonYear_11 : decode cX2_latestCommonYear 11 = .ok (.if_icmp .ge 42, 3) := by decide +kernel
theorem dX2_latestCommonYear_14 : decode cX2_latestCommonYear 14 = .ok (.aload_n 0, 1) := by decide +kernel
theorem dX2_latestCommonYear_15 : decode cX2_latestCommonYear 15 = .ok (.getfield 9, 3) := by decide +kernel
theorem dX2_latestCommonYear_18 : decode cX2_latestCommonYear 18 = .ok (.iload_n 3, 1) := by decide +kernel
theorem dX2_latestCommonYear_19 : decode cX2_latestCommonYear 19 = .ok (.baload, 1) := by decide +kernel
theorem dX2_latestCommonYear_20 : decode cX2_latestCommonYear 20 = .ok (.ifCond .eq 27, 3) := by decide +kernel
theorem dX2_latestCommonYear_23 : decode cX2_latestCommonYear 23 = .ok (.iload_n 2, 1) := by decide +kernel
theorem dX2_latestCommonYear_24 : decode cX2_latestCommonYear 24 = .ok (.ifCond .eq 14, 3) := by decide +kernel
theorem dX2_latestCommonYear_27 : decode cX2_latestCommonYear 27 = .ok (.iload_n 1, 1) := by decide +kernel
theorem dX2_latestCommonYear_28 : decode cX2_latestCommonYear 28 = .ok (.aload_n 0, 1) := by decide +kernel
theorem dX2_latestCommonYear_29 : decode cX2_latestCommonYear 29 = .ok (.getfield 22, 3) := by decide +kernel
theorem dX2_latestCommonYear_32 : decode cX2_latestCommonYear 32 = .ok (.iload_n 3, 1) := by decide +kernel
theorem dX2_latestCommonYear_33 : decode cX2_latestCommonYear 33 = .ok (.iaload, 1) := by decide +kernel
theorem dX2_latestCommonYear_34 : decode cX2_latestCommonYear 34 = .ok (.iand, 1) := by decide +kernel
theorem dX2_latestCommonYear_35 : decode cX2_latestCommonYear 35 = .ok (.goto 9, 3) := by decide +kernel
theorem dX2_latestCommonYear_38 : decode cX2_latestCommonYear 38 = .ok (.aload_n 0, 1) := by decide +kernel
theorem dX2_latestCommonYear_39 : decode cX2_latestCommonYear 39 = .ok (.getfield 22, 3) := by decide +kernel
theorem dX2_latestCommonYear_42 : decode cX2_latestCommonYear 42 = .ok (.iload_n 3, 1) := by decide +kernel
theorem dX2_latestCommonYear_43 : decode cX2_latestCommonYear 43 = .ok (.iaload, 1) := by decide +kernel
theorem dX2_latestCommonYear_44 : decode cX2_latestCommonYear 44 = .ok (.istore_n 1, 1) := by decide +kernel
theorem dX2_latestCommonYear_45 : decode cX2_latestCommonYear 45 = .ok (.iconst 1, 1) := by decide +kernel
theorem dX2_latestCommonYear_46 : decode cX2_latestCommonYear 46 = .ok (.istore_n 2, 1) := by decide +kernel
theorem dX2_latestCommonYear_47 : decode cX2_latestCommonYear 47 = .ok (.iinc 3 1, 3) := by decide +kernel
theorem dX2_latestCommonYear_50 : decode cX2_latestCommonYear 50 = .ok (.goto (-44), 3) := by decide +kernel
theorem dX2_latestCommonYear_53 : decode cX2_latestCommonYear 53 = .ok (.bipush (-4), 2) := by decide +kernel
theorem dX2_latestCommonYear_55 : decode cX2_latestCommonYear 55 = .ok (.istore_n 3, 1) := by decide +kernel
theorem dX2_latestCommonYear_56 : decode cX2_latestCommonYear 56 = .ok (.iconst 0, 1) := by decide +kernel
theorem dX2_latestCommonYear_57 : decode cX2_latestCommonYear 57 = .ok (.istore 4, 2) := by decide +kernel
theorem dX2_latestCommonYear_59 : decode cX2_latestCommonYear 59 = .ok (.iload 4, 2) := by decide +kernel
theorem dX2_latestCommonYear_61 : decode cX2_latestCommonYear 61 = .ok (.aload_n 0, 1) := by decide +kernel
theorem dX2_latestCommonYear_62 : decode cX2_latestCommonYear 62 = .ok (.getfield 25, 3) := by decide +kernel
theorem dX2_latestCommonYear_65 : decode cX2_latestCommonYear 65 = .ok (.if_icmp .ge 31, 3) := by decide +kernel
theorem dX2_latestCommonYear_68 : decode cX2_latestCommonYear 68 = .ok (.iload_n 1, 1) := by decide +kernel
theorem dX2_latestCommonYear_69 : decode cX2_latestCommonYear 69 = .ok (.iload 4, 2) := by decide +kernel
theorem dX2_latestCommonYear_71 : decode cX2_latestCommonYear 71 = .ok (.ishr, 1) := by decide +kernel
theorem dX2_latestCommonYear_72 : decode cX2_latestCommonYear 72 = .ok (.iconst 1, 1) := by decide +kernel
theorem dX2_latestCommonYear_73 : decode cX2_latestCommonYear 73 = .ok (.iand, 1) := by decide +kernel
theorem dX2_latestCommonYear_74 : decode cX2_latestCommonYear 74 = .ok (.iconst 1, 1) := by decide +kernel
theorem dX2_latestCommonYear_75 : decode cX2_latestCommonYear 75 = .ok (.if_icmp .ne 15, 3) := by decide +kernel
theorem dX2_latestCommonYear_78 : decode cX2_latestCommonYear 78 = .ok (.iload_n 3, 1) := by decide +kernel
theorem dX2_latestCommonYear_79 : decode cX2_latestCommonYear 79 = .ok (.aload_n 0, 1) := by decide +kernel
theorem dX2_latestCommonYear_80 : decode cX2_latestCommonYear 80 = .ok (.getfield 15, 3) := by decide +kernel
theorem dX2_latestCommonYear_83 : decode cX2_latestCommonYear 83 = .ok (.iload 4, 2) := by decide +kernel
theorem dX2_latestCommonYear_85 : decode cX2_latestCommonYear 85 = .ok (.iaload, 1) := by decide +kernel
theorem dX2_latestCommonYear_86 : decode cX2_latestCommonYear 86 = .ok (.invokestatic 46, 3) := by decide +kernel
theorem dX2_latestCommonYear_89 : decode cX2_latestCommonYear 89 = .ok (.istore_n 3, 1) := by decide +kernel
theorem dX2_latestCommonYear_90 : decode cX2_latestCommonYear 90 = .ok (.iinc 4 1, 3) := by decide +kernel
theorem dX2_latestCommonYear_93 : decode cX2_latestCommonYear 93 = .ok (.goto (-34), 3) := by decide +kernel
theorem dX2_latestCommonYear_96 : decode cX2_latestCommonYear 96 = .ok (.iload_n 3, 1) := by decide +kernel
theorem dX2_latestCommonYear_97 : decode cX2_latestCommonYear 97 = .ok (.ireturn, 1) := by decide +kernel
theorem dX2_versesOf_0 : decode cX2_versesOf 0 = .ok (.iconst 0, 1) := by decide +kernel
theorem dX2_versesOf_1 : decode cX2_versesOf 1 = .ok (.istore_n 2, 1) := by decide +kernel
theorem dX2_versesOf_2 : decode cX2_versesOf 2 = .ok (.iconst 0, 1) := by decide +kernel
theorem dX2_versesOf_3 : decode cX2_versesOf 3 = .ok (.istore_n 3, 1) := by decide +kernel
theorem dX2_versesOf_4 : decode cX2_versesOf 4 = .ok (.iload_n 3, 1) := by decide +kernel
theorem dX2_versesOf_5 : decode cX2_versesOf 5 = .ok (.aload_n 0, 1) := by decide +kernel
theorem dX2_versesOf_6 : decode cX2_versesOf 6 = .ok (.getfield 25, 3) := by decide +kernel
theorem dX2_versesOf_9 : decode cX2_versesOf 9 = .ok (.if_icmp .ge 38, 3) := by decide +kernel
theorem dX2_versesOf_12 : decode cX2_versesOf 12 = .ok (.aload_n 0, 1) := by decide +kernel
theorem dX2_versesOf_13 : decode cX2_versesOf 13 = .ok (.getfield 9, 3) := by decide +kernel
theorem dX2_versesOf_16 : decode cX2_versesOf 16 = .ok (.iload_n 3, 1) := by decide +kernel
theorem dX2_versesOf_17 : decode cX2_versesOf 17 = .ok (.baload, 1) := by decide +kernel
theorem dX2_versesOf_18 : decode cX2_versesOf 18 = .ok (.ifCond .eq 23, 3) := by decide +kernel
theorem dX2_versesOf_21 : decode cX2_versesOf 21 = .ok (.iload_n 1, 1) := by decide +kernel
theorem dX2_versesOf_22 : decode cX2_versesOf 22 = .ok (.iload_n 3, 1) := by decide +kernel
theorem dX2_versesOf_23 : decode cX2_versesOf 23 = .ok (.ishr, 1) := by decide +kernel
theorem dX2_versesOf_24 : decode cX2_versesOf 24 = .ok (.iconst 1, 1) := by decide +kernel
theorem dX2_versesOf_25 : decode cX2_versesOf 25 = .ok (.iand, 1) := by decide +kernel
theorem dX2_versesOf_26 : decode cX2_versesOf 26 = .ok (.iconst 1, 1) := by decide +kernel
theorem dX2_versesOf_27 : decode cX2_versesOf 27 = .ok (.if_icmp .ne 14, 3) := by decide +kernel
theorem dX2_versesOf_30 : decode cX2_versesOf 30 = .ok (.iload_n 2, 1) := by decide +kernel
theorem dX2_versesOf_31 : decode cX2_versesOf 31 = .ok (.iconst 1, 1) := by decide +kernel
theorem dX2_versesOf_32 : decode cX2_versesOf 32 = .ok (.aload_n 0, 1) := by decide +kernel
theorem dX2_versesOf_33 : decode cX2_versesOf 33 = .ok (.getfield 19, 3) := by decide +kernel
theorem dX2_versesOf_36 : decode cX2_versesOf 36 = .ok (.iload_n 3, 1) := by decide +kernel
theorem dX2_versesOf_37 : decode cX2_versesOf 37 = .ok (.iaload, 1) := by decide +kernel
theorem dX2_versesOf_38 : decode cX2_versesOf 38 = .ok (.ishl, 1) := by decide +kernel
theorem dX2_versesOf_39 : decode cX2_versesOf 39 = .ok (.ior, 1) := by decide +kernel
theorem dX2_versesOf_40 : decode cX2_versesOf 40 = .ok (.istore_n 2, 1) := by decide +kernel
theorem dX2_versesOf_41 : decode cX2_versesOf 41 = .ok (.iinc 3 1, 3) := by decide +kernel
theorem dX2_versesOf_44 : decode cX2_versesOf 44 = .ok (.goto (-40), 3) := by decide +kernel
theorem dX2_versesOf_47 : decode cX2_versesOf 47 = .ok (.iload_n 2, 1) := by decide +kernel
theorem dX2_versesOf_48 : decode cX2_versesOf 48 = .ok (.ireturn, 1) := by decide +kernel
theorem dX2_lowestWith_0 : decode cX2_lowestWith 0 = .ok (.iconst 0, 1) := by decide +kernel
theorem dX2_lowestWith_1 : decode cX2_lowestWith 1 = .ok (.istore_n 3, 1) := by decide +kernel
theorem dX2_lowestWith_2 : decode cX2_lowestWith 2 = .ok (.iload_n 3, 1) := by decide +kernel
theorem dX2_lowestWith_3 : decode cX2_lowestWith 3 = .ok (.aload_n 0, 1) := by decide +kernel
theorem dX2_lowestWith_4 : decode cX2_lowestWith 4 = .ok (.getfield 25, 3) := by decide +kernel
theorem dX2_lowestWith_7 : decode cX2_lowestWith 7 = .ok (.if_icmp .ge 39, 3) := by decide +kernel
theorem dX2_lowestWith_10 : decode cX2_lowestWith 10 = .ok (.aload_n 0, 1) := by decide +kernel
theorem dX2_lowestWith_11 : decode cX2_lowestWith 11 = .ok (.getfield 9, 3) := by decide +kernel
theorem dX2_lowestWith_14 : decode cX2_lowestWith 14 = .ok (.iload_n 3, 1) := by decide +kernel
theorem dX2_lowestWith_15 : decode cX2_lowestWith 15 = .ok (.baload, 1) := by decide +kernel
theorem dX2_lowestWith_16 : decode cX2_lowestWith 16 = .ok (.ifCond .eq 24, 3) := by decide +kernel
theorem dX2_lowestWith_19 : decode cX2_lowestWith 19 = .ok (.iload_n 1, 1) := by decide +kernel
theorem dX2_lowestWith_20 : decode cX2_lowestWith 20 = .ok (.iload_n 3, 1) := by decide +kernel
theorem dX2_lowestWith_21 : decode cX2_lowestWith 21 = .ok (.ishr, 1) := by decide +kernel
theorem dX2_lowestWith_22 : decode cX2_lowestWith 22 = .ok (.iconst 1, 1) := by decide +kernel
theorem dX2_lowestWith_23 : decode cX2_lowestWith 23 = .ok (.iand, 1) := by decide +kernel
theorem dX2_lowestWith_24 : decode cX2_lowestWith 24 = .ok (.iconst 1, 1) := by decide +kernel
theorem dX2_lowestWith_25 : decode cX2_lowestWith 25 = .ok (.if_icmp .ne 15, 3) := by decide +kernel
theorem dX2_lowestWith_28 : decode cX2_lowestWith 28 = .ok (.aload_n 0, 1) := by decide +kernel
theorem dX2_lowestWith_29 : decode cX2_lowestWith 29 = .ok (.getfield 19, 3) := by decide +kernel
theorem dX2_lowestWith_32 : decode cX2_lowestWith 32 = .ok (.iload_n 3, 1) := by decide +kernel
theorem dX2_lowestWith_33 : decode cX2_lowestWith 33 = .ok (.iaload, 1) := by decide +kernel
theorem dX2_lowestWith_34 : decode cX2_lowestWith 34 = .ok (.iload_n 2, 1) := by decide +kernel
theorem dX2_lowestWith_35 : decode cX2_lowestWith 35 = .ok (.if_icmp .ne 5, 3) := by decide +kernel
theorem dX2_lowestWith_38 : decode cX2_lowestWith 38 = .ok (.iload_n 3, 1) := by decide +kernel
theorem dX2_lowestWith_39 : decode cX2_lowestWith 39 = .ok (.ireturn, 1) := by decide +kernel
theorem dX2_lowestWith_40 : decode cX2_lowestWith 40 = .ok (.iinc 3 1, 3) := by decide +kernel
theorem dX2_lowestWith_43 : decode cX2_lowestWith 43 = .ok (.goto (-41), 3) := by decide +kernel
theorem dX2_lowestWith_46 : decode cX2_lowestWith 46 = .ok (.bipush (-4), 2) := by decide +kernel
theorem dX2_lowestWith_48 : decode cX2_lowestWith 48 = .ok (.ireturn, 1) := by decide +kernel
theorem dX3_init_0 : decode cX3_init 0 = .ok (.aload_n 0, 1) := by decide +kernel
theorem dX3_init_1 : decode cX3_init 1 = .ok (.invokespecial 5, 3) := by decide +kernel
theorem dX3_init_4 : decode cX3_init 4 = .ok (.aload_n 0, 1) := by decide +kernel
theorem dX3_init_5 : decode cX3_init 5 = .ok (.bipush 8, 2) := by decide +kernel
theorem dX3_init_7 : decode cX3_init 7 = .ok (.sipush 128, 3) := by decide +kernel
theorem dX3_init_10 : decode cX3_init 10 = .ok (.multianewarray 11 2, 4) := by decide +kernel
theorem dX3_init_14 : decode cX3_init 14 = .ok (.putfield 13, 3) := by decide +kernel
theorem dX3_init_17 : decode cX3_init 17 = .ok (.aload_n 0, 1) := by decide +kernel
theorem dX3_init_18 : decode cX3_init 18 = .ok (.bipush 8, 2) := by decide +kernel
theorem dX3_init_20 : decode cX3_init 20 = .ok (.sipush 128, 3) := by decide +kernel
theorem dX3_init_23 : decode cX3_init 23 = .ok (.multianewarray 16 2, 4) := by decide +kernel
theorem dX3_init_27 : decode cX3_init 27 = .ok (.putfield 18, 3) := by decide +kernel
theorem dX3_init_30 : decode cX3_init 30 = .ok (.aload_n 0, 1) := by decide +kernel
theorem dX3_init_31 : decode cX3_init 31 = .ok (.bipush 8, 2) := by decide +kernel
theorem dX3_init_33 : decode cX3_init 33 = .ok (.newarray .int, 2) := by decide +kernel
theorem dX3_init_35 : decode cX3_init 35 = .ok (.putfield 21, 3) := by decide +kernel
theorem dX3_init_38 : decode cX3_init 38 = .ok (.aload_n 0, 1) := by decide +kernel
theorem dX3_init_39 : decode cX3_init 39 = .ok (.new 25, 3) := by decide +kernel
theorem dX3_init_42 : decode cX3_init 42 = .ok (.dup, 1) := by decide +kernel
theorem dX3_init_43 : decode cX3_init 43 = .ok (.aload_n 1, 1) := by decide +kernel
theorem dX3_init_44 : decode cX3_init 44 = .ok (.invokespecial 27, 3) := by decide +kernel
theorem dX3_init_47 : decode cX3_init 47 = .ok (.putfield 30, 3) := by decide +kernel
theorem dX3_init_50 : decode cX3_init 50 = .ok (.return_, 1) := by decide +kernel
theorem dX3_begin_0 : decode cX3_begin 0 = .ok (.aload_n 0, 1) := by decide +kernel
theorem dX3_begin_1 : decode cX3_begin 1 = .ok (.iload_n 2, 1) := by decide +kernel
theorem dX3_begin_2 : decode cX3_begin 2 = .ok (.putfield 34, 3) := by decide +kernel
theorem dX3_begin_5 : decode cX3_begin 5 = .ok (.aload_n 0, 1) := by decide +kernel
theorem dX3_begin_6 : decode cX3_begin 6 = .ok (.aload_n 1, 1) := by decide +kernel
theorem dX3_begin_7 : decode cX3_begin 7 = .ok (.getfield 38, 3) := by decide +kernel
theorem dX3_begin_10 : decode cX3_begin 10 = .ok (.putfield 43, 3) := by decide +kernel
theorem dX3_begin_13 : decode cX3_begin 13 = .ok (.aload_n 0, 1) := by decide +kernel
theorem dX3_begin_14 : decode cX3_begin 14 = .ok (.getfield 30, 3) := by decide +kernel
theorem dX3_begin_17 : decode cX3_begin 17 = .ok (.aload_n 1, 1) := by decide +kernel
theorem dX3_begin_18 : decode cX3_begin 18 = .ok (.invokevirtual 44, 3) := by decide +kernel
theorem dX3_begin_21 : decode cX3_begin 21 = .ok (.return_, 1) := by decide +kernel
theorem dX3_weigh_0 : decode cX3_weigh 0 = .ok (.aload_n 0, 1) := by decide +kernel
theorem dX3_weigh_1 : decode cX3_weigh 1 = .ok (.getfield 34, 3) := by decide +kernel
theorem dX3_weigh_4 : decode cX3_weigh 4 = .ok (.iconst 1, 1) := by decide +kernel
theorem dX3_weigh_5 : decode cX3_weigh 5 = .ok (.isub, 1) := by decide +kernel
theorem dX3_weigh_6 : decode cX3_weigh 6 = .ok (.istore_n 1, 1) := by decide +kernel
theorem dX3_weigh_7 : decode cX3_weigh 7 = .ok (.iload_n 1, 1) := by decide +kernel
theorem dX3_weigh_8 : decode cX3_weigh 8 = .ok (.ifCond .lt 60, 3) := by decide +kernel
theorem dX3_weigh_11 : decode cX3_weigh 11 = .ok (.iconst 0, 1) := by decide +kernel
theorem dX3_weigh_12 : decode cX3_weigh 12 = .ok (.istore_n 2, 1) := by decide +kernel
theorem dX3_weigh_13 : decode cX3_weigh 13 = .ok (.iload_n 2, 1) := by decide +kernel
theorem dX3_weigh_14 : decode cX3_weigh 14 = .ok (.bipush 8, 2) := by decide +kernel
theorem dX3_weigh_16 : decode cX3_weigh 16 = .ok (.if_icmp .ge 24, 3) := by decide +kernel
theorem dX3_weigh_19 : decode cX3_weigh 19 = .ok (.aload_n 0, 1) := by decide +kernel
theorem dX3_weigh_20 : decode cX3_weigh 20 = .ok (.getfield 21, 3) := by decide +kernel
theorem dX3_weigh_23 : decode cX3_weigh 23 = .ok (.iload_n 2, 1) := by decide +kernel
theorem dX3_weigh_24 : decode cX3_weigh 24 = .ok (.aload_n 0, 1) := by decide +kernel
theorem dX3_weigh_25 : decode cX3_weigh 25 = .ok (.getfield 30, 3) := by decide +kernel
theorem dX3_weigh_28 : decode cX3_weigh 28 = .ok (.iload_n 1, 1) := by decide +kernel
theorem dX3_weigh_29 : decode cX3_weigh 29 = .ok (.iload_n 2, 1) := by decide +kernel
theorem dX3_weigh_30 : decode cX3_weigh 30 = .ok (.invokevirtual 47, 3) := by decide +kernel
theorem dX3_weigh_33 : decode cX3_weigh 33 = .ok (.iastore, 1) := by decide +kernel
theorem dX3_weigh_34 : decode cX3_weigh 34 = .ok (.iinc 2 1, 3) := by decide +kernel
theorem dX3_weigh_37 : decode cX3_weigh 37 = .ok (.goto (-24), 3) := by decide +kernel
theorem dX3_weigh_40 : decode cX3_weigh 40 = .ok (.iconst 0, 1) := by decide +kernel
theorem dX3_weigh_41 : decode cX3_weigh 41 = .ok (.istore_n 2, 1) := by decide +kernel
theorem dX3_weigh_42 : decode cX3_weigh 42 = .ok (.iload_n 2, 1) := by decide +kernel
theorem dX3_weigh_43 : decode cX3_weigh 43 = .ok (.aload_n 0, 1) := by decide +kernel
theorem dX3_weigh_44 : decode cX3_weigh 44 = .ok (.getfield 43, 3) := by decide +kernel
theorem dX3_weigh_47 : decode cX3_weigh 47 = .ok (.if_icmp .ge 15, 3) := by decide +kernel
theorem dX3_weigh_50 : decode cX3_weigh 50 = .ok (.aload_n 0, 1) := by decide +kernel
theorem dX3_weigh_51 : decode cX3_weigh 51 = .ok (.iload_n 1, 1) := by decide +kernel
theorem dX3_weigh_52 : decode cX3_weigh 52 = .ok (.iload_n 2, 1) := by decide +kernel
theorem dX3_weigh_53 : decode cX3_weigh 53 = .ok (.invokevirtual 50, 3) := by decide +kernel
theorem dX3_weigh_56 : decode cX3_weigh 56 = .ok (.iinc 2 1, 3) := by decide +kernel
theorem dX3_weigh_59 : decode cX3_weigh 59 = .ok (.goto (-17), 3) := by decide +kernel
theorem dX3_weigh_62 : decode cX3_weigh 62 = .ok (.iinc 1 (-1), 3) := by decide +kernel
theorem dX3_weigh_65 : decode cX3_weigh 65 = .ok (.goto (-58), 3) := by decide +kernel
theorem dX3_weigh_68 : decode cX3_weigh 68 = .ok (.aload_n 0, 1) := by decide +kernel
theorem dX3_weigh_69 : decode cX3_weigh 69 = .ok (.ldc 54, 2) := by decide +kernel
theorem dX3_weigh_71 : decode cX3_weigh 71 = .ok (.putfield 55, 3) := by decide +kernel
theorem dX3_weigh_74 : decode cX3_weigh 74 = .ok (.aload_n 0, 1) := by decide +kernel
theorem dX3_weigh_75 : decode cX3_weigh 75 = .ok (.lconst 0, 1) := by decide +kernel
theorem dX3_weigh_76 : decode cX3_weigh 76 = .ok (.putfield 58, 3) := by decide +kernel
theorem dX3_weigh_79 : decode cX3_weigh 79 = .ok (.iconst 0, 1) := by decide +kernel
theorem dX3_weigh_80 : decode cX3_weigh 80 = .ok (.istore_n 1, 1) := by decide +kernel
theorem dX3_weigh_81 : decode cX3_weigh 81 = .ok (.iload_n 1, 1) := by decide +kernel
theorem dX3_weigh_82 : decode cX3_weigh 82 = .ok (.aload_n 0, 1) := by decide +kernel
theorem dX3_weigh_83 : decode cX3_weigh 83 = .ok (.getfield 43, 3) := by decide +kernel
theorem dX3_weigh_86 : decode cX3_weigh 86 = .ok (.if_icmp .ge 14, 3) := by decide +kernel
theorem dX3_weigh_89 : decode cX3_weigh 89 = .ok (.aload_n 0, 1) := by decide +kernel
theorem dX3_weigh_90 : decode cX3_weigh 90 = .ok (.iload_n 1, 1) := by decide +kernel
theorem dX3_weigh_91 : decode cX3_weigh 91 = .ok (.invokevirtual 62, 3) := by decide +kernel
theorem dX3_weigh_94 : decode cX3_weigh 94 = .ok (.iinc 1 1, 3) := by decide +kernel
theorem dX3_weigh_97 : decode cX3_weigh 97 = .ok (.goto (-16), 3) := by decide +kernel
theorem dX3_weigh_100 : decode cX3_weigh 100 = .ok (.return_, 1) := by decide +kernel
theorem dX3_weighWord_0 : decode cX3_weighWord 0 = .ok (.iconst 1, 1) := by decide +kernel
theorem dX3_weighWord_1 : decode cX3_weighWord 1 = .ok (.aload_n 0, 1) := by decide +kernel
theorem dX3_weighWord_2 : decode cX3_weighWord 2 = .ok (.getfield 30, 3) := by decide +kernel
theorem dX3_weighWord_5 : decode cX3_weighWord 5 = .ok (.iload_n 1, 1) := by decide +kernel
theorem dX3_weighWord_6 : decode cX3_weighWord 6 = .ok (.invokevirtual 66, 3) := by decide +kernel
theorem dX3_weighWord_9 : decode cX3_weighWord 9 = .ok (.ishl, 1) := by decide +kernel
theorem dX3_weighWord_10 : decode cX3_weighWord 10 = .ok (.istore_n 3, 1) := by decide +kernel
theorem dX3_weighWord_11 : decode cX3_weighWord 11 = .ok (.iload_n 1, 1) := by decide +kernel
theorem dX3_weighWord_12 : decode cX3_weighWord 12 = .ok (.aload_n 0, 1) := by decide +kernel
theorem dX3_weighWord_13 : decode cX3_weighWord 13 = .ok (.getfield 34, 3) := by decide +kernel
theorem dX3_weighWord_16 : decode cX3_weighWord 16 = .ok (.iconst 1, 1) := by decide +kernel
theorem dX3_weighWord_17 : decode cX3_weighWord 17 = .ok (.isub, 1) := by decide +kernel
theorem dX3_weighWord_18 : decode cX3_weighWord 18 = .ok (.if_icmp .ne 7, 3) := by decide +kernel
theorem dX3_weighWord_21 : decode cX3_weighWord 21 = .ok (.iconst 1, 1) := by decide +kernel
theorem dX3_weighWord_22 : decode cX3_weighWord 22 = .ok (.goto 4, 3) := by decide +kernel
theorem dX3_weighWord_25 : decode cX3_weighWord 25 = .ok (.iconst 0, 1) := by decide +kernel
theorem dX3_weighWord_26 : decode cX3_weighWord 26 = .ok (.istore 4, 2) := by decide +kernel
theorem dX3_weighWord_28 : decode cX3_weighWord 28 = .ok (.iconst 0, 1) := by decide +kernel
theorem dX3_weighWord_29 : decode cX3_weighWord 29 = .ok (.istore 5, 2) := by decide +kernel
theorem dX3_weighWord_31 : decode cX3_weighWord 31 = .ok (.iload 5, 2) := by decide +kernel
theorem dX3_weighWord_33 : decode cX3_weighWord 33 = .ok (.iload_n 3, 1) := by decide +kernel
theorem dX3_weighWord_34 : decode cX3_weighWord 34 = .ok (.if_icmp .ge 58, 3) := by decide +kernel
theorem dX3_weighWord_37 : decode cX3_weighWord 37 = .ok (.aload_n 0, 1) := by decide +kernel
theorem dX3_weighWord_38 : decode cX3_weighWord 38 = .ok (.getfield 13, 3) := by decide +kernel
theorem dX3_weighWord_41 : decode cX3_weighWord 41 = .ok (.iload_n 1, 1) := by decide +kernel
theorem dX3_weighWord_42 : decode cX3_weighWord 42 = .ok (.aaload, 1) := by decide +kernel
theorem dX3_weighWord_43 : decode cX3_weighWord 43 = .ok (.bipush 8, 2) := by decide +kernel
theorem dX3_weighWord_45 : decode cX3_weighWord 45 = .ok (.iload_n 2, 1) := by decide +kernel
theorem dX3_weighWord_46 : decode cX3_weighWord 46 = .ok (.imul, 1) := by decide +kernel
theorem dX3_weighWord_47 : decode cX3_weighWord 47 = .ok (.iload 5, 2) := by decide +kernel
theorem dX3_weighWord_49 : decode cX3_weighWord 49 = .ok (.iadd, 1) := by decide +kernel
theorem dX3_weighWord_50 : decode cX3_weighWord 50 = .ok (.iload 4, 2) := by decide +kernel
theorem dX3_weighWord_52 : decode cX3_weighWord 52 = .ok (.ifCond .eq 7, 3) := by decide +kernel
theorem dX3_weighWord_55 : decode cX3_weighWord 55 = .ok (.iconst 0, 1) := by decide +kernel
theorem dX3_weighWord_56 : decode cX3_weighWord 56 = .ok (.goto 5, 3) := by decide +kernel
theorem dX3_weighWord_59 : decode cX3_weighWord 59 = .ok (.ldc 54, 2) := by decide +kernel
theorem dX3_weighWord_61 : decode cX3_weighWord 61 = .ok (.iastore, 1) := by decide +kernel
theorem dX3_weighWord_62 : decode cX3_weighWord 62 = .ok (.aload_n 0, 1) := by decide +kernel
theorem dX3_weighWord_63 : decode cX3_weighWord 63 = .ok (.getfield 18, 3) := by decide +kernel
theorem dX3_weighWord_66 : decode cX3_weighWord 66 = .ok (.iload_n 1, 1) := by decide +kernel
theorem dX3_weighWord_67 : decode cX3_weighWord 67 = .ok (.aaload, 1) := by decide +kernel
theorem dX3_weighWord_68 : decode cX3_weighWord 68 = .ok (.bipush 8, 2) := by decide +kernel
theorem dX3_weighWord_70 : decode cX3_weighWord 70 = .ok (.iload_n 2, 1) := by decide +kernel
theorem dX3_weighWord_71 : decode cX3_weighWord 71 = .ok (.imul, 1) := by decide +kernel
theorem dX3_weighWord_72 : decode cX3_weighWord 72 = .ok (.iload 5, 2) := by decide +kernel
theorem dX3_weighWord_74 : decode cX3_weighWord 74 = .ok (.iadd, 1) := by decide +kernel
theorem dX3_weighWord_75 : decode cX3_weighWord 75 = .ok (.iload 4, 2) := by decide +kernel
theorem dX3_weighWord_77 : decode cX3_weighWord 77 = .ok (.ifCond .eq 7, 3) := by decide +kernel
theorem dX3_weighWord_80 : decode cX3_weighWord 80 = .ok (.lconst 1, 1) := by decide +kernel
theorem dX3_weighWord_81 : decode cX3_weighWord 81 = .ok (.goto 4, 3) := by decide +kernel
theorem dX3_weighWord_84 : decode cX3_weighWord 84 = .ok (.lconst 0, 1) := by decide +kernel
theorem dX3_weighWord_85 : decode cX3_weighWord 85 = .ok (.lastore, 1) := by decide +kernel
theorem dX3_weighWord_86 : decode cX3_weighWord 86 = .ok (.iinc 5 1, 3) := by decide +kernel
theorem dX3_weighWord_89 : decode cX3_weighWord 89 = .ok (.goto (-58), 3) := by decide +kernel
theorem dX3_weighWord_92 : decode cX3_weighWord 92 = .ok (.iconst 0, 1) := by decide +kernel
theorem dX3_weighWord_93 : decode cX3_weighWord 93 = .ok (.istore 5, 2) := by decide +kernel
theorem dX3_weighWord_95 : decode cX3_weighWord 95 = .ok (.iload 5, 2) := by decide +kernel
theorem dX3_weighWord_97 : decode cX3_weighWord 97 = .ok (.aload_n 0, 1) := by decide +kernel
theorem dX3_weighWord_98 : decode cX3_weighWord 98 = .ok (.getfield 43, 3) := by decide +kernel
theorem dX3_weighWord_101 : decode cX3_weighWord 101 = .ok (.if_icmp .ge 118, 3) := by decide +kernel
theorem dX3_weighWord_104 : decode cX3_weighWord 104 = .ok (.iload 4, 2) := by decide +kernel
theorem dX3_weighWord_106 : decode cX3_weighWord 106 = .ok (.ifCond .ne 113, 3) := by decide +kernel
theorem dX3_weighWord_109 : decode cX3_weighWord 109 = .ok (.aload_n 0, 1) := by decide +kernel
theorem dX3_weighWord_110 : decode cX3_weighWord 110 = .ok (.iload_n 1, 1) := by decide +kernel
theorem dX3_weighWord_111 : decode cX3_weighWord 111 = .ok (.iconst 1, 1) := by decide +kernel
theorem dX3_weighWord_112 : decode cX3_weighWord 112 = .ok (.iadd, 1) := by decide +kernel
theorem dX3_weighWord_113 : decode cX3_weighWord 113 = .ok (.iload_n 2, 1) := by decide +kernel
theorem dX3_weighWord_114 : decode cX3_weighWord 114 = .ok (.iload 5, 2) := by decide +kernel
theorem dX3_weighWord_116 : decode cX3_weighWord 116 = .ok (.invokevirtual 70, 3) := by decide +kernel
theorem dX3_weighWord_119 : decode cX3_weighWord 119 = .ok (.istore 6, 2) := by decide +kernel
theorem dX3_weighWord_121 : decode cX3_weighWord 121 = .ok (.aload_n 0, 1) := by decide +kernel
theorem dX3_weighWord_122 : decode cX3_weighWord 122 = .ok (.getfield 30, 3) := by decide +kernel
theorem dX3_weighWord_125 : decode cX3_weighWord 125 = .ok (.iload_n 1, 1) := by decide +kernel
theorem dX3_weighWord_126 : decode cX3_weighWord 126 = .ok (.iconst 1, 1) := by decide +kernel
theorem dX3_weighWord_127 : decode cX3_weighWord 127 = .ok (.iadd, 1) := by decide +kernel
theorem dX3_weighWord_128 : decode cX3_weighWord 128 = .ok (.iload_n 2, 1) := by decide +kernel
theorem dX3_weighWord_129 : decode cX3_weighWord 129 = .ok (.iload 5, 2) := by decide +kernel
theorem dX3_weighWord_131 : decode cX3_weighWord 131 = .ok (.invokevirtual 74, 3) := by decide +kernel
theorem dX3_weighWord_134 : decode cX3_weighWord 134 = .ok (.aload_n 0, 1) := by decide +kernel
theorem dX3_weighWord_135 : decode cX3_weighWord 135 = .ok (.getfield 13, 3) := by decide +kernel
theorem dX3_weighWord_138 : decode cX3_weighWord 138 = .ok (.iload_n 1, 1) := by decide +kernel
theorem dX3_weighWord_139 : decode cX3_weighWord 139 = .ok (.iconst 1, 1) := by decide +kernel
theorem dX3_weighWord_140 : decode cX3_weighWord 140 = .ok (.iadd, 1) := by decide +kernel
theorem dX3_weighWord_141 : decode cX3_weighWord 141 = .ok (.aaload, 1) := by decide +kernel
theorem dX3_weighWord_142 : decode cX3_weighWord 142 = .ok (.iload 6, 2) := by decide +kernel
theorem dX3_weighWord_144 : decode cX3_weighWord 144 = .ok (.iaload, 1) := by decide +kernel
theorem dX3_weighWord_145 : decode cX3_weighWord 145 = .ok (.iadd, 1) := by decide +kernel
theorem dX3_weighWord_146 : decode cX3_weighWord 146 = .ok (.istore 7, 2) := by decide +kernel
theorem dX3_weighWord_148 : decode cX3_weighWord 148 = .ok (.aload_n 0, 1) := by decide +kernel
theorem dX3_weighWord_149 : decode cX3_weighWord 149 = .ok (.getfield 30, 3) := by decide +kernel
theorem dX3_weighWord_152 : decode cX3_weighWord 152 = .ok (.iload_n 1, 1) := by decide +kernel
theorem dX3_weighWord_153 : decode cX3_weighWord 153 = .ok (.iconst 1, 1) := by decide +kernel
theorem dX3_weighWord_154 : decode cX3_weighWord 154 = .ok (.iload_n 2, 1) := by decide +kernel
theorem dX3_weighWord_155 : decode cX3_weighWord 155 = .ok (.iload 5, 2) := by decide +kernel
theorem dX3_weighWord_157 : decode cX3_weighWord 157 = .ok (.invokevirtual 77, 3) := by decide +kernel
theorem dX3_weighWord_160 : decode cX3_weighWord 160 = .ok (.istore 8, 2) := by decide +kernel
theorem dX3_weighWord_162 : decode cX3_weighWord 162 = .ok (.iconst 0, 1) := by decide +kernel
theorem dX3_weighWord_163 : decode cX3_weighWord 163 = .ok (.istore 9, 2) := by decide +kernel
theorem dX3_weighWord_165 : decode cX3_weighWord 165 = .ok (.iload 9, 2) := by decide +kernel
theorem dX3_weighWord_167 : decode cX3_weighWord 167 = .ok (.iload_n 3, 1) := by decide +kernel
theorem dX3_weighWord_168 : decode cX3_weighWord 168 = .ok (.if_icmp .ge 45, 3) := by decide +kernel
theorem dX3_weighWord_171 : decode cX3_weighWord 171 = .ok (.aload_n 0, 1) := by decide +kernel
theorem dX3_weighWord_172 : decode cX3_weighWord 172 = .ok (.iload_n 1, 1) := by decide +kernel
theorem dX3_weighWord_173 : decode cX3_weighWord 173 = .ok (.bipush 8, 2) := by decide +kernel
theorem dX3_weighWord_175 : decode cX3_weighWord 175 = .ok (.iload_n 2, 1) := by decide +kernel
theorem dX3_weighWord_176 : decode cX3_weighWord 176 = .ok (.imul, 1) := by decide +kernel
theorem dX3_weighWord_177 : decode cX3_weighWord 177 = .ok (.iload 9, 2) := by decide +kernel
theorem dX3_weighWord_179 : decode cX3_weighWord 179 = .ok (.iadd, 1) := by decide +kernel
theorem dX3_weighWord_180 : decode cX3_weighWord 180 = .ok (.iload 7, 2) := by decide +kernel
theorem dX3_weighWord_182 : decode cX3_weighWord 182 = .ok (.aload_n 0, 1) := by decide +kernel
theorem dX3_weighWord_183 : decode cX3_weighWord 183 = .ok (.getfield 21, 3) := by decide +kernel
theorem dX3_weighWord_186 : decode cX3_weighWord 186 = .ok (.iload 9, 2) := by decide +kernel
theorem dX3_weighWord_188 : decode cX3_weighWord 188 = .ok (.iload 8, 2) := by decide +kernel
theorem dX3_weighWord_190 : decode cX3_weighWord 190 = .ok (.iand, 1) := by decide +kernel
theorem dX3_weighWord_191 : decode cX3_weighWord 191 = .ok (.iaload, 1) := by decide +kernel
theorem dX3_weighWord_192 : decode cX3_weighWord 192 = .ok (.iadd, 1) := by decide +kernel
theorem dX3_weighWord_193 : decode cX3_weighWord 193 = .ok (.aload_n 0, 1) := by decide +kernel
theorem dX3_weighWord_194 : decode cX3_weighWord 194 = .ok (.getfield 18, 3) := by decide +kernel
theorem dX3_weighWord_197 : decode cX3_weighWord 197 = .ok (.iload_n 1, 1) := by decide +kernel
theorem dX3_weighWord_198 : decode cX3_weighWord 198 = .ok (.iconst 1, 1) := by decide +kernel
theorem dX3_weighWord_199 : decode cX3_weighWord 199 = .ok (.iadd, 1) := by decide +kernel
theorem dX3_weighWord_200 : decode cX3_weighWord 200 = .ok (.aaload, 1) := by decide +kernel
theorem dX3_weighWord_201 : decode cX3_weighWord 201 = .ok (.iload 6, 2) := by decide +kernel
theorem dX3_weighWord_203 : decode cX3_weighWord 203 = .ok (.laload, 1) := by decide +kernel
theorem dX3_weighWord_204 : decode cX3_weighWord 204 = .ok (.invokevirtual 81, 3) := by decide +kernel
theorem dX3_weighWord_207 : decode cX3_weighWord 207 = .ok (.iinc 9 1, 3) := by decide +kernel
theorem dX3_weighWord_210 : decode cX3_weighWord 210 = .ok (.goto (-45), 3) := by decide +kernel
theorem dX3_weighWord_213 : decode cX3_weighWord 213 = .ok (.iinc 5 1, 3) := by decide +kernel
theorem dX3_weighWord_216 : decode cX3_weighWord 216 = .ok (.goto (-121), 3) := by decide +kernel
theorem dX3_weighWord_219 : decode cX3_weighWord 219 = .ok (.return_, 1) := by decide +kernel
theorem dX3_take_0 : decode cX3_take 0 = .ok (.iload_n 3, 1) := by decide +kernel
theorem dX3_take_1 : decode cX3_take 1 = .ok (.aload_n 0, 1) := by decide +kernel
theorem dX3_take_2 : decode cX3_take 2 = .ok (.getfield 13, 3) := by decide +kernel
theorem dX3_take_5 : decode cX3_take 5 = .ok (.iload_n 1, 1) := by decide +kernel
theorem dX3_take_6 : decode cX3_take 6 = .ok (.aaload, 1) := by decide +kernel
theorem dX3_take_7 : decode cX3_take 7 = .ok (.iload_n 2, 1) := by decide +kernel
theorem dX3_take_8 : decode cX3_take 8 = .ok (.iaload, 1) := by decide +kernel
theorem dX3_take_9 : decode cX3_take 9 = .ok (.if_icmp .ge 25, 3) := by decide +kernel
theorem dX3_take_12 : decode cX3_take 12 = .ok (.aload_n 0, 1) := by decide +kernel
theorem dX3_take_13 : decode cX3_take 13 = .ok (.getfield 13, 3) := by decide +kernel
theorem dX3_take_16 : decode cX3_take 16 = .ok (.iload_n 1, 1) := by decide +kernel
theorem dX3_take_17 : decode cX3_take 17 = .ok (.aaload, 1) := by decide +kernel
theorem dX3_take_18 : decode cX3_take 18 = .ok (.iload_n 2, 1) := by decide +kernel
theorem dX3_take_19 : decode cX3_take 19 = .ok (.iload_n 3, 1) := by decide +kernel
theorem dX3_take_20 : decode cX3_take 20 = .ok (.iastore, 1) := by decide +kernel
theorem dX3_take_21 : decode cX3_take 21 = .ok (.aload_n 0, 1) := by decide +kernel
theorem dX3_take_22 : decode cX3_take 22 = .ok (.getfield 18, 3) := by decide +kernel
theorem dX3_take_25 : decode cX3_take 25 = .ok (.iload_n 1, 1) := by decide +kernel
theorem dX3_take_26 : decode cX3_take 26 = .ok (.aaload, 1) := by decide +kernel
theorem dX3_take_27 : decode cX3_take 27 = .ok (.iload_n 2, 1) := by decide +kernel
theorem dX3_take_28 : decode cX3_take 28 = .ok (.lload 4, 2) := by decide +kernel
theorem dX3_take_30 : decode cX3_take 30 = .ok (.lastore, 1) := by decide +kernel
theorem dX3_take_31 : decode cX3_take 31 = .ok (.goto 28, 3) := by decide +kernel
theorem dX3_take_34 : decode cX3_take 34 = .ok (.iload_n 3, 1) := by decide +kernel
theorem dX3_take_35 : decode cX3_take 35 = .ok (.aload_n 0, 1) := by decide +kernel
theorem dX3_take_36 : decode cX3_take 36 = .ok (.getfield 13, 3) := by decide +kernel
theorem dX3_take_39 : decode cX3_take 39 = .ok (.iload_n 1, 1) := by decide +kernel
theorem dX3_take_40 : decode cX3_take 40 = .ok (.aaload, 1) := by decide +kernel
theorem dX3_take_41 : decode cX3_take 41 = .ok (.iload_n 2, 1) := by decide +kernel
theorem dX3_take_42 : decode cX3_take 42 = .ok (.iaload, 1) := by decide +kernel
theorem dX3_take_43 : decode cX3_take 43 = .ok (.if_icmp .ne 16, 3) := by decide +kernel
theorem dX3_take_46 : decode cX3_take 46 = .ok (.aload_n 0, 1) := by decide +kernel
theorem dX3_take_47 : decode cX3_take 47 = .ok (.getfield 18, 3) := by decide +kernel
theorem dX3_take_50 : decode cX3_take 50 = .ok (.iload_n 1, 1) := by decide +kernel
theorem dX3_take_51 : decode cX3_take 51 = .ok (.aaload, 1) := by decide +kernel
theorem dX3_take_52 : decode cX3_take 52 = .ok (.iload_n 2, 1) := by decide +kernel
theorem dX3_take_53 : decode cX3_take 53 = .ok (.dup2, 1) := by decide +kernel
theorem dX3_take_54 : decode cX3_take 54 = .ok (.laload, 1) := by decide +kernel
theorem dX3_take_55 : decode cX3_take 55 = .ok (.lload 4, 2) := by decide +kernel
theorem dX3_take_57 : decode cX3_take 57 = .ok (.ladd, 1) := by decide +kernel
theorem dX3_take_58 : decode cX3_take 58 = .ok (.lastore, 1) := by decide +kernel
theorem dX3_take_59 : decode cX3_take 59 = .ok (.return_, 1) := by decide +kernel
theorem dX3_weighStart_0 : decode cX3_weighStart 0 = .ok (.aload_n 0, 1) := by decide +kernel
theorem dX3_weighStart_1 : decode cX3_weighStart 1 = .ok (.iconst 0, 1) := by decide +kernel
theorem dX3_weighStart_2 : decode cX3_weighStart 2 = .ok (.bipush 16, 2) := by decide +kernel
theorem dX3_weighStart_4 : decode cX3_weighStart 4 = .ok (.iload_n 1, 1) := by decide +kernel
theorem dX3_weighStart_5 : decode cX3_weighStart 5 = .ok (.invokevirtual 70, 3) := by decide +kernel
theorem dX3_weighStart_8 : decode cX3_weighStart 8 = .ok (.istore_n 2, 1) := by decide +kernel
theorem dX3_weighStart_9 : decode cX3_weighStart 9 = .ok (.aload_n 0, 1) := by decide +kernel
theorem dX3_weighStart_10 : decode cX3_weighStart 10 = .ok (.getfield 30, 3) := by decide +kernel
theorem dX3_weighStart_13 : decode cX3_weighStart 13 = .ok (.iconst 0, 1) := by decide +kernel
theorem dX3_weighStart_14 : decode cX3_weighStart 14 = .ok (.bipush 16, 2) := by decide +kernel
theorem dX3_weighStart_16 : decode cX3_weighStart 16 = .ok (.iload_n 1, 1) := by decide +kernel
theorem dX3_weighStart_17 : decode cX3_weighStart 17 = .ok (.invokevirtual 74, 3) := by decide +kernel
theorem dX3_weighStart_20 : decode cX3_weighStart 20 = .ok (.aload_n 0, 1) := by decide +kernel
theorem dX3_weighStart_21 : decode cX3_weighStart 21 = .ok (.getfield 13, 3) := by decide +kernel
theorem dX3_weighStart_24 : decode cX3_weighStart 24 = .ok (.iconst 0, 1) := by decide +kernel
theorem dX3_weighStart_25 : decode cX3_weighStart 25 = .ok (.aaload, 1) := by decide +kernel
theorem dX3_weighStart_26 : decode cX3_weighStart 26 = .ok (.iload_n 2, 1) := by decide +kernel
theorem dX3_weighStart_27 : decode cX3_weighStart 27 = .ok (.iaload, 1) := by decide +kernel
theorem dX3_weighStart_28 : decode cX3_weighStart 28 = .ok (.iadd, 1) := by decide +kernel
theorem dX3_weighStart_29 : decode cX3_weighStart 29 = .ok (.istore_n 3, 1) := by decide +kernel
theorem dX3_weighStart_30 : decode cX3_weighStart 30 = .ok (.iload_n 3, 1) := by decide +kernel
theorem dX3_weighStart_31 : decode cX3_weighStart 31 = .ok (.aload_n 0, 1) := by decide +kernel
theorem dX3_weighStart_32 : decode cX3_weighStart 32 = .ok (.getfield 55, 3) := by decide +kernel
theorem dX3_weighStart_35 : decode cX3_weighStart 35 = .ok (.if_icmp .ge 13, 3) := by decide +kernel
theorem dX3_weighStart_38 : decode cX3_weighStart 38 = .ok (.aload_n 0, 1) := by decide +kernel
theorem dX3_weighStart_39 : decode cX3_weighStart 39 = .ok (.iload_n 3, 1) := by decide +kernel
theorem dX3_weighStart_40 : decode cX3_weighStart 40 = .ok (.putfield 55, 3) := by decide +kernel
theorem dX3_weighStart_43 : decode cX3_weighStart 43 = .ok (.aload_n 0, 1) := by decide +kernel
theorem dX3_weighStart_44 : decode cX3_weighStart 44 = .ok (.lconst 0, 1) := by decide +kernel
theorem dX3_weighStart_45 : decode cX3_weighStart 45 = .ok (.putfield 58, 3) := by decide +kernel
theorem dX3_weighStart_48 : decode cX3_weighStart 48 = .ok (.iload_n 3, 1) := by decide +kernel
theorem dX3_weighStart_49 : decode cX3_weighStart 49 = .ok (.aload_n 0, 1) := by decide +kernel
theorem dX3_weighStart_50 : decode cX3_weighStart 50 = .ok (.getfield 55, 3) := by decide +kernel
theorem dX3_weighStart_53 : decode cX3_weighStart 53 = .ok (.if_icmp .ne 20, 3) := by decide +kernel
theorem dX3_weighStart_56 : decode cX3_weighStart 56 = .ok (.aload_n 0, 1) := by decide +kernel
theorem dX3_weighStart_57 : decode cX3_weighStart 57 = .ok (.dup, 1) := by decide +kernel
theorem dX3_weighStart_58 : decode cX3_weighStart 58 = .ok (.getfield 58, 3) := by decide +kernel
theorem dX3_weighStart_61 : decode cX3_weighStart 61 = .ok (.aload_n 0, 1) := by decide +kernel
theorem dX3_weighStart_62 : decode cX3_weighStart 62 = .ok (.getfield 18, 3) := by decide +kernel
theorem dX3_weighStart_65 : decode cX3_weighStart 65 = .ok (.iconst 0, 1) := by decide +kernel
theorem dX3_weighStart_66 : decode cX3_weighStart 66 = .ok (.aaload, 1) := by decide +kernel
theorem dX3_weighStart_67 : decode cX3_weighStart 67 = .ok (.iload_n 2, 1) := by decide +kernel
theorem dX3_weighStart_68 : decode cX3_weighStart 68 = .ok (.laload, 1) := by decide +kernel
theorem dX3_weighStart_69 : decode cX3_weighStart 69 = .ok (.ladd, 1) := by decide +kernel
theorem dX3_weighStart_70 : decode cX3_weighStart 70 = .ok (.putfield 58, 3) := by decide +kernel
theorem dX3_weighStart_73 : decode cX3_weighStart 73 = .ok (.return_, 1) := by decide +kernel
theorem dX3_stateOf_0 : decode cX3_stateOf 0 = .ok (.bipush 8, 2) := by decide +kernel
theorem dX3_stateOf_2 : decode cX3_stateOf 2 = .ok (.iload_n 3, 1) := by decide +kernel
theorem dX3_stateOf_3 : decode cX3_stateOf 3 = .ok (.imul, 1) := by decide +kernel
theorem dX3_stateOf_4 : decode cX3_stateOf 4 = .ok (.aload_n 0, 1) := by decide +kernel
theorem dX3_stateOf_5 : decode cX3_stateOf 5 = .ok (.getfield 30, 3) := by decide +kernel
theorem dX3_stateOf_8 : decode cX3_stateOf 8 = .ok (.iload_n 1, 1) := by decide +kernel
theorem dX3_stateOf_9 : decode cX3_stateOf 9 = .ok (.iconst 0, 1) := by decide +kernel
theorem dX3_stateOf_10 : decode cX3_stateOf 10 = .ok (.iload_n 3, 1) := by decide +kernel
theorem dX3_stateOf_11 : decode cX3_stateOf 11 = .ok (.iload_n 2, 1) := by decide +kernel
theorem dX3_stateOf_12 : decode cX3_stateOf 12 = .ok (.invokevirtual 77, 3) := by decide +kernel
theorem dX3_stateOf_15 : decode cX3_stateOf 15 = .ok (.iadd, 1) := by decide +kernel
theorem dX3_stateOf_16 : decode cX3_stateOf 16 = .ok (.ireturn, 1) := by decide +kernel
theorem dX3_unlikeWith_0 : decode cX3_unlikeWith 0 = .ok (.aload_n 0, 1) := by decide +kernel
theorem dX3_unlikeWith_1 : decode cX3_unlikeWith 1 = .ok (.getfield 30, 3) := by decide +kernel
theorem dX3_unlikeWith_4 : decode cX3_unlikeWith 4 = .ok (.iload_n 1, 1) := by decide +kernel
theorem dX3_unlikeWith_5 : decode cX3_unlikeWith 5 = .ok (.iload_n 2, 1) := by decide +kernel
theorem dX3_unlikeWith_6 : decode cX3_unlikeWith 6 = .ok (.iload 4, 2) := by decide +kernel
theorem dX3_unlikeWith_8 : decode cX3_unlikeWith 8 = .ok (.invokevirtual 74, 3) := by decide +kernel
theorem dX3_unlikeWith_11 : decode cX3_unlikeWith 11 = .ok (.istore 5, 2) := by decide +kernel
theorem dX3_unlikeWith_13 : decode cX3_unlikeWith 13 = .ok (.iload_n 1, 1) := by decide +kernel
theorem dX3_unlikeWith_14 : decode cX3_unlikeWith 14 = .ok (.ifCond .ne 6, 3) := by decide +kernel
theorem dX3_unlikeWith_17 : decode cX3_unlikeWith 17 = .ok (.iload 5, 2) := by decide +kernel
theorem dX3_unlikeWith_19 : decode cX3_unlikeWith 19 = .ok (.ireturn, 1) := by decide +kernel
theorem dX3_unlikeWith_20 : decode cX3_unlikeWith 20 = .ok (.iload_n 3, 1) := by decide +kernel
theorem dX3_unlikeWith_21 : decode cX3_unlikeWith 21 = .ok (.aload_n 0, 1) := by decide +kernel
theorem dX3_unlikeWith_22 : decode cX3_unlikeWith 22 = .ok (.getfield 30, 3) := by decide +kernel
theorem dX3_unlikeWith_25 : decode cX3_unlikeWith 25 = .ok (.iload_n 1, 1) := by decide +kernel
theorem dX3_unlikeWith_26 : decode cX3_unlikeWith 26 = .ok (.iconst 1, 1) := by decide +kernel
theorem dX3_unlikeWith_27 : decode cX3_unlikeWith 27 = .ok (.isub, 1) := by decide +kernel
theorem dX3_unlikeWith_28 : decode cX3_unlikeWith 28 = .ok (.iconst 1, 1) := by decide +kernel
theorem dX3_unlikeWith_29 : decode cX3_unlikeWith 29 = .ok (.iload_n 2, 1) := by decide +kernel
theorem dX3_unlikeWith_30 : decode cX3_unlikeWith 30 = .ok (.iload 4, 2) := by decide +kernel
theorem dX3_unlikeWith_32 : decode cX3_unlikeWith 32 = .ok (.invokevirtual 77, 3) := by decide +kernel
theorem dX3_unlikeWith_35 : decode cX3_unlikeWith 35 = .ok (.iand, 1) := by decide +kernel
theorem dX3_unlikeWith_36 : decode cX3_unlikeWith 36 = .ok (.istore 6, 2) := by decide +kernel
theorem dX3_unlikeWith_38 : decode cX3_unlikeWith 38 = .ok (.iload 5, 2) := by decide +kernel
theorem dX3_unlikeWith_40 : decode cX3_unlikeWith 40 = .ok (.aload_n 0, 1) := by decide +kernel
theorem dX3_unlikeWith_41 : decode cX3_unlikeWith 41 = .ok (.getfield 30, 3) := by decide +kernel
theorem dX3_unlikeWith_44 : decode cX3_unlikeWith 44 = .ok (.iload_n 1, 1) := by decide +kernel
theorem dX3_unlikeWith_45 : decode cX3_unlikeWith 45 = .ok (.iconst 1, 1) := by decide +kernel
theorem dX3_unlikeWith_46 : decode cX3_unlikeWith 46 = .ok (.isub, 1) := by decide +kernel
theorem dX3_unlikeWith_47 : decode cX3_unlikeWith 47 = .ok (.iload 6, 2) := by decide +kernel
theorem dX3_unlikeWith_49 : decode cX3_unlikeWith 49 = .ok (.invokevirtual 47, 3) := by decide +kernel
theorem dX3_unlikeWith_52 : decode cX3_unlikeWith 52 = .ok (.iadd, 1) := by decide +kernel
theorem dX3_unlikeWith_53 : decode cX3_unlikeWith 53 = .ok (.ireturn, 1) := by decide +kernel
theorem dX3_lowestRow_0 : decode cX3_lowestRow 0 = .ok (.aload_n 0, 1) := by decide +kernel
theorem dX3_lowestRow_1 : decode cX3_lowestRow 1 = .ok (.getfield 55, 3) := by decide +kernel
theorem dX3_lowestRow_4 : decode cX3_lowestRow 4 = .ok (.istore_n 2, 1) := by decide +kernel
theorem dX3_lowestRow_5 : decode cX3_lowestRow 5 = .ok (.bipush 16, 2) := by decide +kernel
theorem dX3_lowestRow_7 : decode cX3_lowestRow 7 = .ok (.istore_n 3, 1) := by decide +kernel
theorem dX3_lowestRow_8 : decode cX3_lowestRow 8 = .ok (.iconst 0, 1) := by decide +kernel
theorem dX3_lowestRow_9 : decode cX3_lowestRow 9 = .ok (.istore 4, 2) := by decide +kernel
theorem dX3_lowestRow_11 : decode cX3_lowestRow 11 = .ok (.iconst 0, 1) := by decide +kernel
theorem dX3_lowestRow_12 : decode cX3_lowestRow 12 = .ok (.istore 5, 2) := by decide +kernel
theorem dX3_lowestRow_14 : decode cX3_lowestRow 14 = .ok (.iload 5, 2) := by decide +kernel
theorem dX3_lowestRow_16 : decode cX3_lowestRow 16 = .ok (.aload_n 0, 1) := by decide +kernel
theorem dX3_lowestRow_17 : decode cX3_lowestRow 17 = .ok (.getfield 34, 3) := by decide +kernel
theorem dX3_lowestRow_20 : decode cX3_lowestRow 20 = .ok (.if_icmp .ge 92, 3) := by decide +kernel
theorem dX3_lowestRow_23 : decode cX3_lowestRow 23 = .ok (.iconst 0, 1) := by decide +kernel
theorem dX3_lowestRow_24 : decode cX3_lowestRow 24 = .ok (.istore 6, 2) := by decide +kernel
theorem dX3_lowestRow_26 : decode cX3_lowestRow 26 = .ok (.iload 6, 2) := by decide +kernel
theorem dX3_lowestRow_28 : decode cX3_lowestRow 28 = .ok (.aload_n 0, 1) := by decide +kernel
theorem dX3_lowestRow_29 : decode cX3_lowestRow 29 = .ok (.getfield 43, 3) := by decide +kernel
theorem dX3_lowestRow_32 : decode cX3_lowestRow 32 = .ok (.if_icmp .ge 74, 3) := by decide +kernel
theorem dX3_lowestRow_35 : decode cX3_lowestRow 35 = .ok (.aload_n 0, 1) := by decide +kernel
theorem dX3_lowestRow_36 : decode cX3_lowestRow 36 = .ok (.iload 5, 2) := by decide +kernel
theorem dX3_lowestRow_38 : decode cX3_lowestRow 38 = .ok (.iload_n 3, 1) := by decide +kernel
theorem dX3_lowestRow_39 : decode cX3_lowestRow 39 = .ok (.iload 4, 2) := by decide +kernel
theorem dX3_lowestRow_41 : decode cX3_lowestRow 41 = .ok (.iload 6, 2) := by decide +kernel
theorem dX3_lowestRow_43 : decode cX3_lowestRow 43 = .ok (.invokevirtual 85, 3) := by decide +kernel
theorem dX3_lowestRow_46 : decode cX3_lowestRow 46 = .ok (.istore 7, 2) := by decide +kernel
theorem dX3_lowestRow_48 : decode cX3_lowestRow 48 = .ok (.aload_n 0, 1) := by decide +kernel
theorem dX3_lowestRow_49 : decode cX3_lowestRow 49 = .ok (.iload 5, 2) := by decide +kernel
theorem dX3_lowestRow_51 : decode cX3_lowestRow 51 = .ok (.iload_n 3, 1) := by decide +kernel
theorem dX3_lowestRow_52 : decode cX3_lowestRow 52 = .ok (.iload 6, 2) := by decide +kernel
theorem dX3_lowestRow_54 : decode cX3_lowestRow 54 = .ok (.invokevirtual 70, 3) := by decide +kernel
theorem dX3_lowestRow_57 : decode cX3_lowestRow 57 = .ok (.istore 8, 2) := by decide +kernel
theorem dX3_lowestRow_59 : decode cX3_lowestRow 59 = .ok (.iload 7, 2) := by decide +kernel
theorem dX3_lowestRow_61 : decode cX3_lowestRow 61 = .ok (.aload_n 0, 1) := by decide +kernel
theorem dX3_lowestRow_62 : decode cX3_lowestRow 62 = .ok (.getfield 13, 3) := by decide +kernel
theorem dX3_lowestRow_65 : decode cX3_lowestRow 65 = .ok (.iload 5, 2) := by decide +kernel
theorem dX3_lowestRow_67 : decode cX3_lowestRow 67 = .ok (.aaload, 1) := by decide +kernel
theorem dX3_lowestRow_68 : decode cX3_lowestRow 68 = .ok (.iload 8, 2) := by decide +kernel
theorem dX3_lowestRow_70 : decode cX3_lowestRow 70 = .ok (.iaload, 1) := by decide +kernel
theorem dX3_lowestRow_71 : decode cX3_lowestRow 71 = .ok (.iadd, 1) := by decide +kernel
theorem dX3_lowestRow_72 : decode cX3_lowestRow 72 = .ok (.iload_n 2, 1) := by decide +kernel
theorem dX3_lowestRow_73 : decode cX3_lowestRow 73 = .ok (.if_icmp .ne 27, 3) := by decide +kernel
theorem dX3_lowestRow_76 : decode cX3_lowestRow 76 = .ok (.aload_n 1, 1) := by decide +kernel
theorem dX3_lowestRow_77 : decode cX3_lowestRow 77 = .ok (.iload 5, 2) := by decide +kernel
theorem dX3_lowestRow_79 : decode cX3_lowestRow 79 = .ok (.iload 6, 2) := by decide +kernel
theorem dX3_lowestRow_81 : decode cX3_lowestRow 81 = .ok (.iastore, 1) := by decide +kernel
theorem dX3_lowestRow_82 : decode cX3_lowestRow 82 = .ok (.iload_n 2, 1) := by decide +kernel
theorem dX3_lowestRow_83 : decode cX3_lowestRow 83 = .ok (.iload 7, 2) := by decide +kernel
theorem dX3_lowestRow_85 : decode cX3_lowestRow 85 = .ok (.isub, 1) := by decide +kernel
theorem dX3_lowestRow_86 : decode cX3_lowestRow 86 = .ok (.istore_n 2, 1) := by decide +kernel
theorem dX3_lowestRow_87 : decode cX3_lowestRow 87 = .ok (.iload 8, 2) := by decide +kernel
theorem dX3_lowestRow_89 : decode cX3_lowestRow 89 = .ok (.bipush 8, 2) := by decide +kernel
theorem dX3_lowestRow_91 : decode cX3_lowestRow 91 = .ok (.irem, 1) := by decide +kernel
theorem dX3_lowestRow_92 : decode cX3_lowestRow 92 = .ok (.istore 4, 2) := by decide +kernel
theorem dX3_lowestRow_94 : decode cX3_lowestRow 94 = .ok (.iload 6, 2) := by decide +kernel
theorem dX3_lowestRow_96 : decode cX3_lowestRow 96 = .ok (.istore_n 3, 1) := by decide +kernel
theorem dX3_lowestRow_97 : decode cX3_lowestRow 97 = .ok (.goto 9, 3) := by decide +kernel
theorem dX3_lowestRow_100 : decode cX3_lowestRow 100 = .ok (.iinc 6 1, 3) := by decide +kernel
theorem dX3_lowestRow_103 : decode cX3_lowestRow 103 = .ok (.goto (-77), 3) := by decide +kernel
theorem dX3_lowestRow_106 : decode cX3_lowestRow 106 = .ok (.iinc 5 1, 3) := by decide +kernel
theorem dX3_lowestRow_109 : decode cX3_lowestRow 109 = .ok (.goto (-95), 3) := by decide +kernel
theorem dX3_lowestRow_112 : decode cX3_lowestRow 112 = .ok (.return_, 1) := by decide +kernel
theorem dX3_farFrom_0 : decode cX3_farFrom 0 = .ok (.ldc 54, 2) := by decide +kernel
theorem dX3_farFrom_2 : decode cX3_farFrom 2 = .ok (.istore_n 2, 1) := by decide +kernel
theorem dX3_farFrom_3 : decode cX3_farFrom 3 = .ok (.bipush 16, 2) := by decide +kernel
theorem dX3_farFrom_5 : decode cX3_farFrom 5 = .ok (.istore_n 3, 1) := by decide +kernel
theorem dX3_farFrom_6 : decode cX3_farFrom 6 = .ok (.iconst 0, 1) := by decide +kernel
theorem dX3_farFrom_7 : decode cX3_farFrom 7 = .ok (.istore 4, 2) := by decide +kernel
theorem dX3_farFrom_9 : decode cX3_farFrom 9 = .ok (.iload 4, 2) := by decide +kernel
theorem dX3_farFrom_11 : decode cX3_farFrom 11 = .ok (.aload_n 0, 1) := by decide +kernel
theorem dX3_farFrom_12 : decode cX3_farFrom 12 = .ok (.getfield 34, 3) := by decide +kernel
theorem dX3_farFrom_15 : decode cX3_farFrom 15 = .ok (.if_icmp .ge 79, 3) := by decide +kernel
theorem dX3_farFrom_18 : decode cX3_farFrom 18 = .ok (.iconst 0, 1) := by decide +kernel
theorem dX3_farFrom_19 : decode cX3_farFrom 19 = .ok (.istore 5, 2) := by decide +kernel
theorem dX3_farFrom_21 : decode cX3_farFrom 21 = .ok (.iload 5, 2) := by decide +kernel
theorem dX3_farFrom_23 : decode cX3_farFrom 23 = .ok (.aload_n 0, 1) := by decide +kernel
theorem dX3_farFrom_24 : decode cX3_farFrom 24 = .ok (.getfield 43, 3) := by decide +kernel
theorem dX3_farFrom_27 : decode cX3_farFrom 27 = .ok (.if_icmp .ge 56, 3) := by decide +kernel
theorem dX3_farFrom_30 : decode cX3_farFrom 30 = .ok (.iload 5, 2) := by decide +kernel
theorem dX3_farFrom_32 : decode cX3_farFrom 32 = .ok (.aload_n 1, 1) := by decide +kernel
theorem dX3_farFrom_33 : decode cX3_farFrom 33 = .ok (.iload 4, 2) := by decide +kernel
theorem dX3_farFrom_35 : decode cX3_farFrom 35 = .ok (.iaload, 1) := by decide +kernel
theorem dX3_farFrom_36 : decode cX3_farFrom 36 = .ok (.if_icmp .eq 41, 3) := by decide +kernel
theorem dX3_farFrom_39 : decode cX3_farFrom 39 = .ok (.aload_n 0, 1) := by decide +kernel
theorem dX3_farFrom_40 : decode cX3_farFrom 40 = .ok (.iload 4, 2) := by decide +kernel
theorem dX3_farFrom_42 : decode cX3_farFrom 42 = .ok (.iload_n 3, 1) := by decide +kernel
theorem dX3_farFrom_43 : decode cX3_farFrom 43 = .ok (.bipush 7, 2) := by decide +kernel
theorem dX3_farFrom_45 : decode cX3_farFrom 45 = .ok (.iload 5, 2) := by decide +kernel
theorem dX3_farFrom_47 : decode cX3_farFrom 47 = .ok (.invokevirtual 85, 3) := by decide +kernel
theorem dX3_farFrom_50 : decode cX3_farFrom 50 = .ok (.aload_n 0, 1) := by decide +kernel
theorem dX3_farFrom_51 : decode cX3_farFrom 51 = .ok (.getfield 13, 3) := by decide +kernel
theorem dX3_farFrom_54 : decode cX3_farFrom 54 = .ok (.iload 4, 2) := by decide +kernel
theorem dX3_farFrom_56 : decode cX3_farFrom 56 = .ok (.aaload, 1) := by decide +kernel
theorem dX3_farFrom_57 : decode cX3_farFrom 57 = .ok (.aload_n 0, 1) := by decide +kernel
theorem dX3_farFrom_58 : decode cX3_farFrom 58 = .ok (.iload 4, 2) := by decide +kernel
theorem dX3_farFrom_60 : decode cX3_farFrom 60 = .ok (.iload_n 3, 1) := by decide +kernel
theorem dX3_farFrom_61 : decode cX3_farFrom 61 = .ok (.iload 5, 2) := by decide +kernel
theorem dX3_farFrom_63 : decode cX3_farFrom 63 = .ok (.invokevirtual 70, 3) := by decide +kernel
theorem dX3_farFrom_66 : decode cX3_farFrom 66 = .ok (.iaload, 1) := by decide +kernel
theorem dX3_farFrom_67 : decode cX3_farFrom 67 = .ok (.iadd, 1) := by decide +kernel
theorem dX3_farFrom_68 : decode cX3_farFrom 68 = .ok (.istore 6, 2) := by decide +kernel
theorem dX3_farFrom_70 : decode cX3_farFrom 70 = .ok (.iload_n 2, 1) := by decide +kernel
theorem dX3_farFrom_71 : decode cX3_farFrom 71 = .ok (.iload 6, 2) := by decide +kernel
theorem dX3_farFrom_73 : decode cX3_farFrom 73 = .ok (.invokestatic 88, 3) := by decide +kernel
theorem dX3_farFrom_76 : decode cX3_farFrom 76 = .ok (.istore_n 2, 1) := by decide +kernel
theorem dX3_farFrom_77 : decode cX3_farFrom 77 = .ok (.iinc 5 1, 3) := by decide +kernel
theorem dX3_farFrom_80 : decode cX3_farFrom 80 = .ok (.goto (-59), 3) := by decide +kernel
theorem dX3_farFrom_83 : decode cX3_farFrom 83 = .ok (.aload_n 1, 1) := by decide +kernel
theorem dX3_farFrom_84 : decode cX3_farFrom 84 = .ok (.iload 4, 2) := by decide +kernel
theorem dX3_farFrom_86 : decode cX3_farFrom 86 = .ok (.iaload, 1) := by decide +kernel
theorem dX3_farFrom_87 : decode cX3_farFrom 87 = .ok (.istore_n 3, 1) := by decide +kernel
theorem dX3_farFrom_88 : decode cX3_farFrom 88 = .ok (.iinc 4 1, 3) := by decide +kernel
theorem dX3_farFrom_91 : decode cX3_farFrom 91 = .ok (.goto (-82), 3) := by decide +kernel
theorem dX3_farFrom_94 : decode cX3_farFrom 94 = .ok (.iload_n 2, 1) := by decide +kernel
theorem dX3_farFrom_95 : decode cX3_farFrom 95 = .ok (.ireturn, 1) := by decide +kernel
theorem dX4_init_0 : decode cX4_init 0 = .ok (.aload_n 0, 1) := by decide +kernel
theorem dX4_init_1 : decode cX4_init 1 = .ok (.invokespecial 3, 3) := by decide +kernel
theorem dX4_init_4 : decode cX4_init 4 = .ok (.aload_n 0, 1) := by decide +kernel
theorem dX4_init_5 : decode cX4_init 5 = .ok (.sipush 300, 3) := by decide +kernel
theorem dX4_init_8 : decode cX4_init 8 = .ok (.newarray .byte, 2) := by decide +kernel
theorem dX4_init_10 : decode cX4_init 10 = .ok (.putfield 9, 3) := by decide +kernel
theorem dX4_init_13 : decode cX4_init 13 = .ok (.aload_n 0, 1) := by decide +kernel
theorem dX4_init_14 : decode cX4_init 14 = .ok (.iconst 4, 1) := by decide +kernel
theorem dX4_init_15 : decode cX4_init 15 = .ok (.newarray .int, 2) := by decide +kernel
theorem dX4_init_17 : decode cX4_init 17 = .ok (.putfield 15, 3) := by decide +kernel
theorem dX4_init_20 : decode cX4_init 20 = .ok (.return_, 1) := by decide +kernel
theorem dX4_append_0 : decode cX4_append 0 = .ok (.aload_n 0, 1) := by decide +kernel
theorem dX4_append_1 : decode cX4_append 1 = .ok (.getfield 19, 3) := by decide +kernel
theorem dX4_append_4 : decode cX4_append 4 = .ok (.iload_n 1, 1) := by decide +kernel
theorem dX4_append_5 : decode cX4_append 5 = .ok (.iadd, 1) := by decide +kernel
theorem dX4_append_6 : decode cX4_append 6 = .ok (.sipush 300, 3) := by decide +kernel
theorem dX4_append_9 : decode cX4_append 9 = .ok (.if_icmp .le 6, 3) := by decide +kernel
theorem dX4_append_12 : decode cX4_append 12 = .ok (.bipush (-3), 2) := by decide +kernel
theorem dX4_append_14 : decode cX4_append 14 = .ok (.ireturn, 1) := by decide +kernel
theorem dX4_append_15 : decode cX4_append 15 = .ok (.iload_n 1, 1) := by decide +kernel
theorem dX4_append_16 : decode cX4_append 16 = .ok (.iconst 1, 1) := by decide +kernel
theorem dX4_append_17 : decode cX4_append 17 = .ok (.isub, 1) := by decide +kernel
theorem dX4_append_18 : decode cX4_append 18 = .ok (.istore 4, 2) := by decide +kernel
theorem dX4_append_20 : decode cX4_append 20 = .ok (.iload 4, 2) := by decide +kernel
theorem dX4_append_22 : decode cX4_append 22 = .ok (.ifCond .lt 37, 3) := by decide +kernel
theorem dX4_append_25 : decode cX4_append 25 = .ok (.aload_n 0, 1) := by decide +kernel
theorem dX4_append_26 : decode cX4_append 26 = .ok (.getfield 9, 3) := by decide +kernel
theorem dX4_append_29 : decode cX4_append 29 = .ok (.aload_n 0, 1) := by decide +kernel
theorem dX4_append_30 : decode cX4_append 30 = .ok (.getfield 19, 3) := by decide +kernel
theorem dX4_append_33 : decode cX4_append 33 = .ok (.lload_n 2, 1) := by decide +kernel
theorem dX4_append_34 : decode cX4_append 34 = .ok (.bipush 8, 2) := by decide +kernel
theorem dX4_append_36 : decode cX4_append 36 = .ok (.iload 4, 2) := by decide +kernel
theorem dX4_append_38 : decode cX4_append 38 = .ok (.imul, 1) := by decide +kernel
theorem dX4_append_39 : decode cX4_append 39 = .ok (.lshr, 1) := by decide +kernel
theorem dX4_append_40 : decode cX4_append 40 = .ok (.l2i, 1) := by decide +kernel
theorem dX4_append_41 : decode cX4_append 41 = .ok (.i2b, 1) := by decide +kernel
theorem dX4_append_42 : decode cX4_append 42 = .ok (.bastore, 1) := by decide +kernel
theorem dX4_append_43 : decode cX4_append 43 = .ok (.aload_n 0, 1) := by decide +kernel
theorem dX4_append_44 : decode cX4_append 44 = .ok (.dup, 1) := by decide +kernel
theorem dX4_append_45 : decode cX4_append 45 = .ok (.getfield 19, 3) := by decide +kernel
theorem dX4_append_48 : decode cX4_append 48 = .ok (.iconst 1, 1) := by decide +kernel
theorem dX4_append_49 : decode cX4_append 49 = .ok (.iadd, 1) := by decide +kernel
theorem dX4_append_50 : decode cX4_append 50 = .ok (.putfield 19, 3) := by decide +kernel
theorem dX4_append_53 : decode cX4_append 53 = .ok (.iinc 4 (-1), 3) := by decide +kernel
theorem dX4_append_56 : decode cX4_append 56 = .ok (.goto (-36), 3) := by decide +kernel
theorem dX4_append_59 : decode cX4_append 59 = .ok (.aload_n 0, 1) := by decide +kernel
theorem dX4_append_60 : decode cX4_append 60 = .ok (.getfield 19, 3) := by decide +kernel
theorem dX4_append_63 : decode cX4_append 63 = .ok (.ireturn, 1) := by decide +kernel
theorem dX4_readInto_0 : decode cX4_readInto 0 = .ok (.aload_n 1, 1) := by decide +kernel
theorem dX4_readInto_1 : decode cX4_readInto 1 = .ok (.invokevirtual 23, 3) := by decide +kernel
theorem dX4_readInto_4 : decode cX4_readInto 4 = .ok (.aload_n 0, 1) := by decide +kernel
theorem dX4_readInto_5 : decode cX4_readInto 5 = .ok (.iconst 0, 1) := by decide +kernel
theorem dX4_readInto_6 : decode cX4_readInto 6 = .ok (.putfield 28, 3) := by decide +kernel
theorem dX4_readInto_9 : decode cX4_readInto 9 = .ok (.iconst 0, 1) := by decide +kernel
theorem dX4_readInto_10 : decode cX4_readInto 10 = .ok (.istore_n 2, 1) := by decide +kernel
theorem dX4_readInto_11 : decode cX4_readInto 11 = .ok (.iload_n 2, 1) := by decide +kernel
theorem dX4_readInto_12 : decode cX4_readInto 12 = .ok (.sipush 300, 3) := by decide +kernel
theorem dX4_readInto_15 : decode cX4_readInto 15 = .ok (.if_icmp .ge 35, 3) := by decide +kernel
theorem dX4_readInto_18 : decode cX4_readInto 18 = .ok (.aload_n 0, 1) := by decide +kernel
theorem dX4_readInto_19 : decode cX4_readInto 19 = .ok (.getfield 28, 3) := by decide +kernel
theorem dX4_readInto_22 : decode cX4_readInto 22 = .ok (.aload_n 0, 1) := by decide +kernel
theorem dX4_readInto_23 : decode cX4_readInto 23 = .ok (.getfield 19, 3) := by decide +kernel
theorem dX4_readInto_26 : decode cX4_readInto 26 = .ok (.if_icmp .ge 24, 3) := by decide +kernel
theorem dX4_readInto_29 : decode cX4_readInto 29 = .ok (.aload_n 0, 1) := by decide +kernel
theorem dX4_readInto_30 : decode cX4_readInto 30 = .ok (.getfield 28, 3) := by decide +kernel
theorem dX4_readInto_33 : decode cX4_readInto 33 = .ok (.istore_n 3, 1) := by decide +kernel
theorem dX4_readInto_34 : decode cX4_readInto 34 = .ok (.aload_n 0, 1) := by decide +kernel
theorem dX4_readInto_35 : decode cX4_readInto 35 = .ok (.aload_n 1, 1) := by decide +kernel
theorem dX4_readInto_36 : decode cX4_readInto 36 = .ok (.invokevirtual 31, 3) := by decide +kernel
theorem dX4_readInto_39 : decode cX4_readInto 39 = .ok (.ifCond .ne 5, 3) := by decide +kernel
theorem dX4_readInto_42 : decode cX4_readInto 42 = .ok (.iload_n 3, 1) := by decide +kernel
theorem dX4_readInto_43 : decode cX4_readInto 43 = .ok (.ireturn, 1) := by decide +kernel
theorem dX4_readInto_44 : decode cX4_readInto 44 = .ok (.iinc 2 1, 3) := by decide +kernel
theorem dX4_readInto_47 : decode cX4_readInto 47 = .ok (.goto (-36), 3) := by decide +kernel
theorem dX4_readInto_50 : decode cX4_readInto 50 = .ok (.bipush (-4), 2) := by decide +kernel
theorem dX4_readInto_52 : decode cX4_readInto 52 = .ok (.ireturn, 1) := by decide +kernel
theorem dX4_readItem_0 : decode cX4_readItem 0 = .ok (.aload_n 0, 1) := by decide +kernel
theorem dX4_readItem_1 : decode cX4_readItem 1 = .ok (.getfield 9, 3) := by decide +kernel
theorem dX4_readItem_4 : decode cX4_readItem 4 = .ok (.aload_n 0, 1) := by decide +kernel
theorem dX4_readItem_5 : decode cX4_readItem 5 = .ok (.getfield 28, 3) := by decide +kernel
theorem dX4_readItem_8 : decode cX4_readItem 8 = .ok (.baload, 1) := by decide +kernel
theorem dX4_readItem_9 : decode cX4_readItem 9 = .ok (.istore_n 2, 1) := by decide +kernel
theorem dX4_readItem_10 : decode cX4_readItem 10 = .ok (.aload_n 0, 1) := by decide +kernel
theorem dX4_readItem_11 : decode cX4_readItem 11 = .ok (.dup, 1) := by decide +kernel
theorem dX4_readItem_12 : decode cX4_readItem 12 = .ok (.getfield 28, 3) := by decide +kernel
theorem dX4_readItem_15 : decode cX4_readItem 15 = .ok (.iconst 1, 1) := by decide +kernel
theorem dX4_readItem_16 : decode cX4_readItem 16 = .ok (.iadd, 1) := by decide +kernel
theorem dX4_readItem_17 : decode cX4_readItem 17 = .ok (.putfield 28, 3) := by decide +kernel
theorem dX4_readItem_20 : decode cX4_readItem 20 = .ok (.iload_n 2, 1) := by decide +kernel
theorem dX4_readItem_21 : decode cX4_readItem 21 = .ok (.lookupswitch 110 #[(104, 85), (106, 60), (119, 35)], 35) := by decide +kernel
theorem dX4_readItem_56 : decode cX4_readItem 56 = .ok (.aload_n 0, 1) := by decide +kernel
theorem dX4_readItem_57 : decode cX4_readItem 57 = .ok (.iconst 3, 1) := by decide +kernel
theorem dX4_readItem_58 : decode cX4_readItem 58 = .ok (.invokevirtual 35, 3) := by decide +kernel
theorem dX4_readItem_61 : decode cX4_readItem 61 = .ok (.ifCond .eq 18, 3) := by decide +kernel
theorem dX4_readItem_64 : decode cX4_readItem 64 = .ok (.aload_n 1, 1) := by decide +kernel
theorem dX4_readItem_65 : decode cX4_readItem 65 = .ok (.aload_n 0, 1) := by decide +kernel
theorem dX4_readItem_66 : decode cX4_readItem 66 = .ok (.getfield 15, 3) := by decide +kernel
theorem dX4_readItem_69 : decode cX4_readItem 69 = .ok (.invokevirtual 39, 3) := by decide +kernel
theorem dX4_readItem_72 : decode cX4_readItem 72 = .ok (.ifCond .eq 7, 3) := by decide +kernel
theorem dX4_readItem_75 : decode cX4_readItem 75 = .ok (.iconst 1, 1) := by decide +kernel
theorem dX4_readItem_76 : decode cX4_readItem 76 = .ok (.goto 4, 3) := by decide +kernel
theorem dX4_readItem_79 : decode cX4_readItem 79 = .ok (.iconst 0, 1) := by decide +kernel
theorem dX4_readItem_80 : decode cX4_readItem 80 = .ok (.ireturn, 1) := by decide +kernel
theorem dX4_readItem_81 : decode cX4_readItem 81 = .ok (.aload_n 0, 1) := by decide +kernel
theorem dX4_readItem_82 : decode cX4_readItem 82 = .ok (.iconst 4, 1) := by decide +kernel
theorem dX4_readItem_83 : decode cX4_readItem 83 = .ok (.invokevirtual 35, 3) := by decide +kernel
theorem dX4_readItem_86 : decode cX4_readItem 86 = .ok (.ifCond .eq 18, 3) := by decide +kernel
theorem dX4_readItem_89 : decode cX4_readItem 89 = .ok (.aload_n 1, 1) := by decide +kernel
theorem dX4_readItem_90 : decode cX4_readItem 90 = .ok (.aload_n 0, 1) := by decide +kernel
theorem dX4_readItem_91 : decode cX4_readItem 91 = .ok (.getfield 15, 3) := by decide +kernel
theorem dX4_readItem_94 : decode cX4_readItem 94 = .ok (.invokevirtual 43, 3) := by decide +kernel
theorem dX4_readItem_97 : decode cX4_readItem 97 = .ok (.ifCond .eq 7, 3) := by decide +kernel
theorem dX4_readItem_100 : decode cX4_readItem 100 = .ok (.iconst 1, 1) := by decide +kernel
theorem dX4_readItem_101 : decode cX4_readItem 101 = .ok (.goto 4, 3) := by decide +kernel
theorem dX4_readItem_104 : decode cX4_readItem 104 = .ok (.iconst 0, 1) := by decide +kernel
theorem dX4_readItem_105 : decode cX4_readItem 105 = .ok (.ireturn, 1) := by decide +kernel
theorem dX4_readItem_106 : decode cX4_readItem 106 = .ok (.aload_n 0, 1) := by decide +kernel
theorem dX4_readItem_107 : decode cX4_readItem 107 = .ok (.iconst 2, 1) := by decide +kernel
theorem dX4_readItem_108 : decode cX4_readItem 108 = .ok (.invokevirtual 35, 3) := by decide +kernel
theorem dX4_readItem_111 : decode cX4_readItem 111 = .ok (.ifCond .eq 18, 3) := by decide +kernel
theorem dX4_readItem_114 : decode cX4_readItem 114 = .ok (.aload_n 1, 1) := by decide +kernel
theorem dX4_readItem_115 : decode cX4_readItem 115 = .ok (.aload_n 0, 1) := by decide +kernel
theorem dX4_readItem_116 : decode cX4_readItem 116 = .ok (.getfield 15, 3) := by decide +kernel
theorem dX4_readItem_119 : decode cX4_readItem 119 = .ok (.invokevirtual 46, 3) := by decide +kernel
theorem dX4_readItem_122 : decode cX4_readItem 122 = .ok (.ifCond .eq 7, 3) := by decide +kernel
theorem dX4_readItem_125 : decode cX4_readItem 125 = .ok (.iconst 1, 1) := by decide +kernel
theorem dX4_readItem_126 : decode cX4_readItem 126 = .ok (.goto 4, 3) := by decide +kernel
theorem dX4_readItem_129 : decode cX4_readItem 129 = .ok (.iconst 0, 1) := by decide +kernel
theorem dX4_readItem_130 : decode cX4_readItem 130 = .ok (.ireturn, 1) := by decide +kernel
theorem dX4_readItem_131 : decode cX4_readItem 131 = .ok (.iconst 0, 1) := by decide +kernel
theorem dX4_readItem_132 : decode cX4_readItem 132 = .ok (.ireturn, 1) := by decide +kernel
theorem dX4_readNumbers_0 : decode cX4_readNumbers 0 = .ok (.iconst 0, 1) := by decide +kernel
theorem dX4_readNumbers_1 : decode cX4_readNumbers 1 = .ok (.istore_n 2, 1) := by decide +kernel
theorem dX4_readNumbers_2 : decode cX4_readNumbers 2 = .ok (.iload_n 2, 1) := by decide +kernel
theorem dX4_readNumbers_3 : decode cX4_readNumbers 3 = .ok (.iload_n 1, 1) := by decide +kernel
theorem dX4_readNumbers_4 : decode cX4_readNumbers 4 = .ok (.if_icmp .ge 155, 3) := by decide +kernel
theorem dX4_readNumbers_7 : decode cX4_readNumbers 7 = .ok (.aload_n 0, 1) := by decide +kernel
theorem dX4_readNumbers_8 : decode cX4_readNumbers 8 = .ok (.getfield 28, 3) := by decide +kernel
theorem dX4_readNumbers_11 : decode cX4_readNumbers 11 = .ok (.istore_n 3, 1) := by decide +kernel
theorem dX4_readNumbers_12 : decode cX4_readNumbers 12 = .ok (.iconst 0, 1) := by decide +kernel
theorem dX4_readNumbers_13 : decode cX4_readNumbers 13 = .ok (.istore 4, 2) := by decide +kernel
theorem dX4_readNumbers_15 : decode cX4_readNumbers 15 = .ok (.aload_n 0, 1) := by decide +kernel
theorem dX4_readNumbers_16 : decode cX4_readNumbers 16 = .ok (.getfield 28, 3) := by decide +kernel
theorem dX4_readNumbers_19 : decode cX4_readNumbers 19 = .ok (.aload_n 0, 1) := by decide +kernel
theorem dX4_readNumbers_20 : decode cX4_readNumbers 20 = .ok (.getfield 19, 3) := by decide +kernel
theorem dX4_readNumbers_23 : decode cX4_readNumbers 23 = .ok (.if_icmp .ge 61, 3) := by decide +kernel
theorem dX4_readNumbers_26 : decode cX4_readNumbers 26 = .ok (.aload_n 0, 1) := by decide +kernel
theorem dX4_readNumbers_27 : decode cX4_readNumbers 27 = .ok (.getfield 28, 3) := by decide +kernel
theorem dX4_readNumbers_30 : decode cX4_readNumbers 30 = .ok (.iload_n 3, 1) := by decide +kernel
theorem dX4_readNumbers_31 : decode cX4_readNumbers 31 = .ok (.iconst 2, 1) := by decide +kernel
theorem dX4_readNumbers_32 : decode cX4_readNumbers 32 = .ok (.iadd, 1) := by decide +kernel
theorem dX4_readNumbers_33 : decode cX4_readNumbers 33 = .ok (.if_icmp .ge 51, 3) := by decide +kernel
theorem dX4_readNumbers_36 : decode cX4_readNumbers 36 = .ok (.aload_n 0, 1) := by decide +kernel
theorem dX4_readNumbers_37 : decode cX4_readNumbers 37 = .ok (.getfield 9, 3) := by decide +kernel
theorem dX4_readNumbers_40 : decode cX4_readNumbers 40 = .ok (.aload_n 0, 1) := by decide +kernel
theorem dX4_readNumbers_41 : decode cX4_readNumbers 41 = .ok (.getfield 28, 3) := by decide +kernel
theorem dX4_readNumbers_44 : decode cX4_readNumbers 44 = .ok (.baload, 1) := by decide +kernel
theorem dX4_readNumbers_45 : decode cX4_readNumbers 45 = .ok (.invokestatic 49, 3) := by decide +kernel
theorem dX4_readNumbers_48 : decode cX4_readNumbers 48 = .ok (.ifCond .eq 36, 3) := by decide +kernel
theorem dX4_readNumbers_51 : decode cX4_readNumbers 51 = .ok (.bipush 10, 2) := by decide +kernel
theorem dX4_readNumbers_53 : decode cX4_readNumbers 53 = .ok (.iload 4, 2) := by decide +kernel
theorem dX4_readNumbers_55 : decode cX4_readNumbers 55 = .ok (.imul, 1) := by decide +kernel
theorem dX4_readNumbers_56 : decode cX4_readNumbers 56 = .ok (.aload_n 0, 1) := by decide +kernel
theorem dX4_readNumbers_57 : decode cX4_readNumbers 57 = .ok (.getfield 9, 3) := by decide +kernel
theorem dX4_readNumbers_60 : decode cX4_readNumbers 60 = .ok (.aload_n 0, 1) := by decide +kernel
theorem dX4_readNumbers_61 : decode cX4_readNumbers 61 = .ok (.getfield 28, 3) := by decide +kernel
theorem dX4_readNumbers_64 : decode cX4_readNumbers 64 = .ok (.baload, 1) := by decide +kernel
theorem dX4_readNumbers_65 : decode cX4_readNumbers 65 = .ok (.iadd, 1) := by decide +kernel
theorem dX4_readNumbers_66 : decode cX4_readNumbers 66 = .ok (.bipush 48, 2) := by decide +kernel
theorem dX4_readNumbers_68 : decode cX4_readNumbers 68 = .ok (.isub, 1) := by decide +kernel
theorem dX4_readNumbers_69 : decode cX4_readNumbers 69 = .ok (.istore 4, 2) := by decide +kernel
theorem dX4_readNumbers_71 : decode cX4_readNumbers 71 = .ok (.aload_n 0, 1) := by decide +kernel
theorem dX4_readNumbers_72 : decode cX4_readNumbers 72 = .ok (.dup, 1) := by decide +kernel
theorem dX4_readNumbers_73 : decode cX4_readNumbers 73 = .ok (.getfield 28, 3) := by decide +kernel
theorem dX4_readNumbers_76 : decode cX4_readNumbers 76 = .ok (.iconst 1, 1) := by decide +kernel
theorem dX4_readNumbers_77 : decode cX4_readNumbers 77 = .ok (.iadd, 1) := by decide +kernel
theorem dX4_readNumbers_78 : decode cX4_readNumbers 78 = .ok (.putfield 28, 3) := by decide +kernel
theorem dX4_readNumbers_81 : decode cX4_readNumbers 81 = .ok (.goto (-66), 3) := by decide +kernel
theorem dX4_readNumbers_84 : decode cX4_readNumbers 84 = .ok (.iload_n 2, 1) := by decide +kernel
theorem dX4_readNumbers_85 : decode cX4_readNumbers 85 = .ok (.iload_n 1, 1) := by decide +kernel
theorem dX4_readNumbers_86 : decode cX4_readNumbers 86 = .ok (.iconst 1, 1) := by decide +kernel
theorem dX4_readNumbers_87 : decode cX4_readNumbers 87 = .ok (.isub, 1) := by decide +kernel
theorem dX4_readNumbers_88 : decode cX4_readNumbers 88 = .ok (.if_icmp .ne 8, 3) := by decide +kernel
theorem dX4_readNumbers_91 : decode cX4_readNumbers 91 = .ok (.bipush 59, 2) := by decide +kernel
theorem dX4_readNumbers_93 : decode cX4_readNumbers 93 = .ok (.goto 5, 3) := by decide +kernel
theorem dX4_readNumbers_96 : decode cX4_readNumbers 96 = .ok (.bipush 44, 2) := by decide +kernel
theorem dX4_readNumbers_98 : decode cX4_readNumbers 98 = .ok (.istore 5, 2) := by decide +kernel
theorem dX4_readNumbers_100 : decode cX4_readNumbers 100 = .ok (.aload_n 0, 1) := by decide +kernel
theorem dX4_readNumbers_101 : decode cX4_readNumbers 101 = .ok (.getfield 28, 3) := by decide +kernel
theorem dX4_readNumbers_104 : decode cX4_readNumbers 104 = .ok (.iload_n 3, 1) := by decide +kernel
theorem dX4_readNumbers_105 : decode cX4_readNumbers 105 = .ok (.if_icmp .eq 28, 3) := by decide +kernel
theorem dX4_readNumbers_108 : decode cX4_readNumbers 108 = .ok (.aload_n 0, 1) := by decide +kernel
theorem dX4_readNumbers_109 : decode cX4_readNumbers 109 = .ok (.getfield 28, 3) := by decide +kernel
theorem dX4_readNumbers_112 : decode cX4_readNumbers 112 = .ok (.aload_n 0, 1) := by decide +kernel
theorem dX4_readNumbers_113 : decode cX4_readNumbers 113 = .ok (.getfield 19, 3) := by decide +kernel
theorem dX4_readNumbers_116 : decode cX4_readNumbers 116 = .ok (.if_icmp .ge 17, 3) := by decide +kernel
theorem dX4_readNumbers_119 : decode cX4_readNumbers 119 = .ok (.aload_n 0, 1) := by decide +kernel
theorem dX4_readNumbers_120 : decode cX4_readNumbers 120 = .ok (.getfield 9, 3) := by decide +kernel
theorem dX4_readNumbers_123 : decode cX4_readNumbers 123 = .ok (.aload_n 0, 1) := by decide +kernel
theorem dX4_readNumbers_124 : decode cX4_readNumbers 124 = .ok (.getfield 28, 3) := by decide +kernel
theorem dX4_readNumbers_127 : decode cX4_readNumbers 127 = .ok (.baload, 1) := by decide +kernel
theorem dX4_readNumbers_128 : decode cX4_readNumbers 128 = .ok (.iload 5, 2) := by decide +kernel
theorem dX4_readNumbers_130 : decode cX4_readNumbers 130 = .ok (.if_icmp .eq 5, 3) := by decide +kernel
theorem dX4_readNumbers_133 : decode cX4_readNumbers 133 = .ok (.iconst 0, 1) := by decide +kernel
theorem dX4_readNumbers_134 : decode cX4_readNumbers 134 = .ok (.ireturn, 1) := by decide +kernel
theorem dX4_readNumbers_135 : decode cX4_readNumbers 135 = .ok (.aload_n 0, 1) := by decide +kernel
theorem dX4_readNumbers_136 : decode cX4_readNumbers 136 = .ok (.dup, 1) := by decide +kernel
theorem dX4_readNumbers_137 : decode cX4_readNumbers 137 = .ok (.getfield 28, 3) := by decide +kernel
theorem dX4_readNumbers_140 : decode cX4_readNumbers 140 = .ok (.iconst 1, 1) := by decide +kernel
theorem dX4_readNumbers_141 : decode cX4_readNumbers 141 = .ok (.iadd, 1) := by decide +kernel
theorem dX4_readNumbers_142 : decode cX4_readNumbers 142 = .ok (.putfield 28, 3) := by decide +kernel
theorem dX4_readNumbers_145 : decode cX4_readNumbers 145 = .ok (.aload_n 0, 1) := by decide +kernel
theorem dX4_readNumbers_146 : decode cX4_readNumbers 146 = .ok (.getfield 15, 3) := by decide +kernel
theorem dX4_readNumbers_149 : decode cX4_readNumbers 149 = .ok (.iload_n 2, 1) := by decide +kernel
theorem dX4_readNumbers_150 : decode cX4_readNumbers 150 = .ok (.iload 4, 2) := by decide +kernel
theorem dX4_readNumbers_152 : decode cX4_readNumbers 152 = .ok (.iastore, 1) := by decide +kernel
theorem dX4_readNumbers_153 : decode cX4_readNumbers 153 = .ok (.iinc 2 1, 3) := by decide +kernel
theorem dX4_readNumbers_156 : decode cX4_readNumbers 156 = .ok (.goto (-154), 3) := by decide +kernel
theorem dX4_readNumbers_159 : decode cX4_readNumbers 159 = .ok (.iconst 1, 1) := by decide +kernel
theorem dX4_readNumbers_160 : decode cX4_readNumbers 160 = .ok (.ireturn, 1) := by decide +kernel
theorem dX4_isFigure_0 : decode cX4_isFigure 0 = .ok (.iload_n 0, 1) := by decide +kernel
theorem dX4_isFigure_1 : decode cX4_isFigure 1 = .ok (.bipush 48, 2) := by decide +kernel
theorem dX4_isFigure_3 : decode cX4_isFigure 3 = .ok (.if_icmp .lt 13, 3) := by decide +kernel
theorem dX4_isFigure_6 : decode cX4_isFigure 6 = .ok (.iload_n 0, 1) := by decide +kernel
theorem dX4_isFigure_7 : decode cX4_isFigure 7 = .ok (.bipush 57, 2) := by decide +kernel
theorem dX4_isFigure_9 : decode cX4_isFigure 9 = .ok (.if_icmp .gt 7, 3) := by decide +kernel
theorem dX4_isFigure_12 : decode cX4_isFigure 12 = .ok (.iconst 1, 1) := by decide +kernel
theorem dX4_isFigure_13 : decode cX4_isFigure 13 = .ok (.goto 4, 3) := by decide +kernel
theorem dX4_isFigure_16 : decode cX4_isFigure 16 = .ok (.iconst 0, 1) := by decide +kernel
theorem dX4_isFigure_17 : decode cX4_isFigure 17 = .ok (.ireturn, 1) := by decide +kernel
theorem dX5_init_0 : decode cX5_init 0 = .ok (.aload_n 0, 1) := by decide +kernel
theorem dX5_init_1 : decode cX5_init 1 = .ok (.invokespecial 3, 3) := by decide +kernel
theorem dX5_init_4 : decode cX5_init 4 = .ok (.aload_n 0, 1) := by decide +kernel
theorem dX5_init_5 : decode cX5_init 5 = .ok (.bipush 20, 2) := by decide +kernel
theorem dX5_init_7 : decode cX5_init 7 = .ok (.newarray .int, 2) := by decide +kernel
theorem dX5_init_9 : decode cX5_init 9 = .ok (.putfield 9, 3) := by decide +kernel
theorem dX5_init_12 : decode cX5_init 12 = .ok (.aload_n 0, 1) := by decide +kernel
theorem dX5_init_13 : decode cX5_init 13 = .ok (.bipush 20, 2) := by decide +kernel
theorem dX5_init_15 : decode cX5_init 15 = .ok (.newarray .int, 2) := by decide +kernel
theorem dX5_init_17 : decode cX5_init 17 = .ok (.putfield 15, 3) := by decide +kernel
theorem dX5_init_20 : decode cX5_init 20 = .ok (.aload_n 0, 1) := by decide +kernel
theorem dX5_init_21 : decode cX5_init 21 = .ok (.bipush 20, 2) := by decide +kernel
theorem dX5_init_23 : decode cX5_init 23 = .ok (.newarray .int, 2) := by decide +kernel
theorem dX5_init_25 : decode cX5_init 25 = .ok (.putfield 18, 3) := by decide +kernel
theorem dX5_init_28 : decode cX5_init 28 = .ok (.aload_n 0, 1) := by decide +kernel
theorem dX5_init_29 : decode cX5_init 29 = .ok (.bipush 20, 2) := by decide +kernel
theorem dX5_init_31 : decode cX5_init 31 = .ok (.newarray .int, 2) := by decide +kernel
theorem dX5_init_33 : decode cX5_init 33 = .ok (.putfield 21, 3) := by decide +kernel
theorem dX5_init_36 : decode cX5_init 36 = .ok (.return_, 1) := by decide +kernel
theorem dX5_append_0 : decode cX5_append 0 = .ok (.aload_n 0, 1) := by decide +kernel
theorem dX5_append_1 : decode cX5_append 1 = .ok (.getfield 24, 3) := by decide +kernel
theorem dX5_append_4 : decode cX5_append 4 = .ok (.bipush 20, 2) := by decide +kernel
theorem dX5_append_6 : decode cX5_append 6 = .ok (.if_icmp .lt 6, 3) := by decide +kernel
theorem dX5_append_9 : decode cX5_append 9 = .ok (.bipush (-3), 2) := by decide +kernel
theorem dX5_append_11 : decode cX5_append 11 = .ok (.ireturn, 1) := by decide +kernel
theorem dX5_append_12 : decode cX5_append 12 = .ok (.aload_n 0, 1) := by decide +kernel
theorem dX5_append_13 : decode cX5_append 13 = .ok (.getfield 9, 3) := by decide +kernel
theorem dX5_append_16 : decode cX5_append 16 = .ok (.aload_n 0, 1) := by decide +kernel
theorem dX5_append_17 : decode cX5_append 17 = .ok (.getfield 24, 3) := by decide +kernel
theorem dX5_append_20 : decode cX5_append 20 = .ok (.iload_n 1, 1) := by decide +kernel
theorem dX5_append_21 : decode cX5_append 21 = .ok (.iastore, 1) := by decide +kernel
theorem dX5_append_22 : decode cX5_append 22 = .ok (.aload_n 0, 1) := by decide +kernel
theorem dX5_append_23 : decode cX5_append 23 = .ok (.getfield 15, 3) := by decide +kernel
theorem dX5_append_26 : decode cX5_append 26 = .ok (.aload_n 0, 1) := by decide +kernel
theorem dX5_append_27 : decode cX5_append 27 = .ok (.getfield 24, 3) := by decide +kernel
theorem dX5_append_30 : decode cX5_append 30 = .ok (.iload_n 2, 1) := by decide +kernel
theorem dX5_append_31 : decode cX5_append 31 = .ok (.iastore, 1) := by decide +kernel
theorem dX5_append_32 : decode cX5_append 32 = .ok (.aload_n 0, 1) := by decide +kernel
theorem dX5_append_33 : decode cX5_append 33 = .ok (.getfield 18, 3) := by decide +kernel
theorem dX5_append_36 : decode cX5_append 36 = .ok (.aload_n 0, 1) := by decide +kernel
theorem dX5_append_37 : decode cX5_append 37 = .ok (.getfield 24, 3) := by decide +kernel
theorem dX5_append_40 : decode cX5_append 40 = .ok (.iload_n 3, 1) := by decide +kernel
theorem dX5_append_41 : decode cX5_append 41 = .ok (.iastore, 1) := by decide +kernel
theorem dX5_append_42 : decode cX5_append 42 = .ok (.aload_n 0, 1) := by decide +kernel
theorem dX5_append_43 : decode cX5_append 43 = .ok (.dup, 1) := by decide +kernel
theorem dX5_append_44 : decode cX5_append 44 = .ok (.getfield 24, 3) := by decide +kernel
theorem dX5_append_47 : decode cX5_append 47 = .ok (.iconst 1, 1) := by decide +kernel
theorem dX5_append_48 : decode cX5_append 48 = .ok (.iadd, 1) := by decide +kernel
theorem dX5_append_49 : decode cX5_append 49 = .ok (.putfield 24, 3) := by decide +kernel
theorem dX5_append_52 : decode cX5_append 52 = .ok (.aload_n 0, 1) := by decide +kernel
theorem dX5_append_53 : decode cX5_append 53 = .ok (.getfield 24, 3) := by decide +kernel
theorem dX5_append_56 : decode cX5_append 56 = .ok (.ireturn, 1) := by decide +kernel
theorem dX5_allShownBy_0 : decode cX5_allShownBy 0 = .ok (.iconst 0, 1) := by decide +kernel
theorem dX5_allShownBy_1 : decode cX5_allShownBy 1 = .ok (.istore_n 2, 1) := by decide +kernel
theorem dX5_allShownBy_2 : decode cX5_allShownBy 2 = .ok (.iload_n 2, 1) := by decide +kernel
theorem dX5_allShownBy_3 : decode cX5_allShownBy 3 = .ok (.aload_n 0, 1) := by decide +kernel
theorem dX5_allShownBy_4 : decode cX5_allShownBy 4 = .ok (.getfield 24, 3) := by decide +kernel
theorem dX5_allShownBy_7 : decode cX5_allShownBy 7 = .ok (.if_icmp .ge 31, 3) := by decide +kernel
theorem dX5_allShownBy_10 : decode cX5_allShownBy 10 = .ok (.aload_n 0, 1) := by decide +kernel
theorem dX5_allShownBy_11 : decode cX5_allShownBy 11 = .ok (.getfield 21, 3) := by decide +kernel
theorem dX5_allShownBy_14 : decode cX5_allShownBy 14 = .ok (.iload_n 2, 1) := by decide +kernel
theorem dX5_allShownBy_15 : decode cX5_allShownBy 15 = .ok (.iaload, 1) := by decide +kernel
theorem dX5_allShownBy_16 : decode cX5_allShownBy 16 = .ok (.ifCond .eq 16, 3) := by decide +kernel
theorem dX5_allShownBy_19 : decode cX5_allShownBy 19 = .ok (.aload_n 0, 1) := by decide +kernel
theorem dX5_allShownBy_20 : decode cX5_allShownBy 20 = .ok (.getfield 21, 3) := by decide +kernel
theorem dX5_allShownBy_23 : decode cX5_allShownBy 23 = .ok (.iload_n 2, 1) := by decide +kernel
theorem dX5_allShownBy_24 : decode cX5_allShownBy 24 = .ok (.iaload, 1) := by decide +kernel
theorem dX5_allShownBy_25 : decode cX5_allShownBy 25 = .ok (.iload_n 1, 1) := by decide +kernel
theorem dX5_allShownBy_26 : decode cX5_allShownBy 26 = .ok (.iand, 1) := by decide +kernel
theorem dX5_allShownBy_27 : decode cX5_allShownBy 27 = .ok (.ifCond .ne 5, 3) := by decide +kernel
theorem dX5_allShownBy_30 : decode cX5_allShownBy 30 = .ok (.iconst 0, 1) := by decide +kernel
theorem dX5_allShownBy_31 : decode cX5_allShownBy 31 = .ok (.ireturn, 1) := by decide +kernel
theorem dX5_allShownBy_32 : decode cX5_allShownBy 32 = .ok (.iinc 2 1, 3) := by decide +kernel
theorem dX5_allShownBy_35 : decode cX5_allShownBy 35 = .ok (.goto (-33), 3) := by decide +kernel
theorem dX5_allShownBy_38 : decode cX5_allShownBy 38 = .ok (.iconst 1, 1) := by decide +kernel
theorem dX5_allShownBy_39 : decode cX5_allShownBy 39 = .ok (.ireturn, 1) := by decide +kernel
theorem dX6_init_0 : decode cX6_init 0 = .ok (.aload_n 0, 1) := by decide +kernel
theorem dX6_init_1 : decode cX6_init 1 = .ok (.invokespecial 3, 3) := by decide +kernel
theorem dX6_init_4 : decode cX6_init 4 = .ok (.aload_n 0, 1) := by decide +kernel
theorem dX6_init_5 : decode cX6_init 5 = .ok (.bipush 16, 2) := by decide +kernel
theorem dX6_init_7 : decode cX6_init 7 = .ok (.newarray .int, 2) := by decide +kernel
theorem dX6_init_9 : decode cX6_init 9 = .ok (.putfield 9, 3) := by decide +kernel
theorem dX6_init_12 : decode cX6_init 12 = .ok (.aload_n 0, 1) := by decide +kernel
theorem dX6_init_13 : decode cX6_init 13 = .ok (.bipush 16, 2) := by decide +kernel
theorem dX6_init_15 : decode cX6_init 15 = .ok (.newarray .int, 2) := by decide +kernel
theorem dX6_init_17 : decode cX6_init 17 = .ok (.putfield 15, 3) := by decide +kernel
theorem dX6_init_20 : decode cX6_init 20 = .ok (.aload_n 0, 1) := by decide +kernel
theorem dX6_init_21 : decode cX6_init 21 = .ok (.bipush 16, 2) := by decide +kernel
theorem dX6_init_23 : decode cX6_init 23 = .ok (.newarray .int, 2) := by decide +kernel
theorem dX6_init_25 : decode cX6_init 25 = .ok (.putfield 18, 3) := by decide +kernel
theorem dX6_init_28 : decode cX6_init 28 = .ok (.aload_n 0, 1) := by decide +kernel
theorem dX6_init_29 : decode cX6_init 29 = .ok (.bipush 64, 2) := by decide +kernel
theorem dX6_init_31 : decode cX6_init 31 = .ok (.newarray .int, 2) := by decide +kernel
theorem dX6_init_33 : decode cX6_init 33 = .ok (.putfield 21, 3) := by decide +kernel
theorem dX6_init_36 : decode cX6_init 36 = .ok (.aload_n 0, 1) := by decide +kernel
theorem dX6_init_37 : decode cX6_init 37 = .ok (.iconst 5, 1) := by decide +kernel
theorem dX6_init_38 : decode cX6_init 38 = .ok (.newarray .int, 2) := by decide +kernel
theorem dX6_init_40 : decode cX6_init 40 = .ok (.putfield 24, 3) := by decide +kernel
theorem dX6_init_43 : decode cX6_init 43 = .ok (.aload_n 0, 1) := by decide +kernel
theorem dX6_init_44 : decode cX6_init 44 = .ok (.sipush 289, 3) := by decide +kernel
theorem dX6_init_47 : decode cX6_init 47 = .ok (.newarray .int, 2) := by decide +kernel
theorem dX6_init_49 : decode cX6_init 49 = .ok (.putfield 27, 3) := by decide +kernel
theorem dX6_init_52 : decode cX6_init 52 = .ok (.aload_n 0, 1) := by decide +kernel
theorem dX6_init_53 : decode cX6_init 53 = .ok (.sipush 289, 3) := by decide +kernel
theorem dX6_init_56 : decode cX6_init 56 = .ok (.newarray .int, 2) := by decide +kernel
theorem dX6_init_58 : decode cX6_init 58 = .ok (.putfield 30, 3) := by decide +kernel
theorem dX6_init_61 : decode cX6_init 61 = .ok (.aload_n 0, 1) := by decide +kernel
theorem dX6_init_62 : decode cX6_init 62 = .ok (.invokevirtual 33, 3) := by decide +kernel
theorem dX6_init_65 : decode cX6_init 65 = .ok (.return_, 1) := by decide +kernel
theorem dX6_forget_0 : decode cX6_forget 0 = .ok (.aload_n 0, 1) := by decide +kernel
theorem dX6_forget_1 : decode cX6_forget 1 = .ok (.iconst 0, 1) := by decide +kernel
theorem dX6_forget_2 : decode cX6_forget 2 = .ok (.putfield 36, 3) := by decide +kernel
theorem dX6_forget_5 : decode cX6_forget 5 = .ok (.iconst 0, 1) := by decide +kernel
theorem dX6_forget_6 : decode cX6_forget 6 = .ok (.istore_n 1, 1) := by decide +kernel
theorem dX6_forget_7 : decode cX6_forget 7 = .ok (.iload_n 1, 1) := by decide +kernel
theorem dX6_forget_8 : decode cX6_forget 8 = .ok (.bipush 64, 2) := by decide +kernel
theorem dX6_forget_10 : decode cX6_forget 10 = .ok (.if_icmp .ge 16, 3) := by decide +kernel
theorem dX6_forget_13 : decode cX6_forget 13 = .ok (.aload_n 0, 1) := by decide +kernel
theorem dX6_forget_14 : decode cX6_forget 14 = .ok (.getfield 21, 3) := by decide +kernel
theorem dX6_forget_17 : decode cX6_forget 17 = .ok (.iload_n 1, 1) := by decide +kernel
theorem dX6_forget_18 : decode cX6_forget 18 = .ok (.iload_n 1, 1) := by decide +kernel
theorem dX6_forget_19 : decode cX6_forget 19 = .ok (.iastore, 1) := by decide +kernel
theorem dX6_forget_20 : decode cX6_forget 20 = .ok (.iinc 1 1, 3) := by decide +kernel
theorem dX6_forget_23 : decode cX6_forget 23 = .ok (.goto (-16), 3) := by decide +kernel
theorem dX6_forget_26 : decode cX6_forget 26 = .ok (.iconst 0, 1) := by decide +kernel
theorem dX6_forget_27 : decode cX6_forget 27 = .ok (.istore_n 1, 1) := by decide +kernel
theorem dX6_forget_28 : decode cX6_forget 28 = .ok (.iload_n 1, 1) := by decide +kernel
theorem dX6_forget_29 : decode cX6_forget 29 = .ok (.iconst 5, 1) := by decide +kernel
theorem dX6_forget_30 : decode cX6_forget 30 = .ok (.if_icmp .ge 16, 3) := by decide +kernel
theorem dX6_forget_33 : decode cX6_forget 33 = .ok (.aload_n 0, 1) := by decide +kernel
theorem dX6_forget_34 : decode cX6_forget 34 = .ok (.getfield 24, 3) := by decide +kernel
theorem dX6_forget_37 : decode cX6_forget 37 = .ok (.iload_n 1, 1) := by decide +kernel
theorem dX6_forget_38 : decode cX6_forget 38 = .ok (.iconst 1, 1) := by decide +kernel
theorem dX6_forget_39 : decode cX6_forget 39 = .ok (.iastore, 1) := by decide +kernel
theorem dX6_forget_40 : decode cX6_forget 40 = .ok (.iinc 1 1, 3) := by decide +kernel
theorem dX6_forget_43 : decode cX6_forget 43 = .ok (.goto (-15), 3) := by decide +kernel
theorem dX6_forget_46 : decode cX6_forget 46 = .ok (.return_, 1) := by decide +kernel
theorem dX6_learnWord_0 : decode cX6_learnWord 0 = .ok (.aload_n 0, 1) := by decide +kernel
theorem dX6_learnWord_1 : decode cX6_learnWord 1 = .ok (.getfield 36, 3) := by decide +kernel
theorem dX6_learnWord_4 : decode cX6_learnWord 4 = .ok (.bipush 16, 2) := by decide +kernel
theorem dX6_learnWord_6 : decode cX6_learnWord 6 = .ok (.if_icmp .ge 27, 3) := by decide +kernel
theorem dX6_learnWord_9 : decode cX6_learnWord 9 = .ok (.aload_n 1, 1) := by decide +kernel
theorem dX6_learnWord_10 : decode cX6_learnWord 10 = .ok (.iconst 0, 1) := by decide +kernel
theorem dX6_learnWord_11 : decode cX6_learnWord 11 = .ok (.iaload, 1) := by decide +kernel
theorem dX6_learnWord_12 : decode cX6_learnWord 12 = .ok (.bipush 8, 2) := by decide +kernel
theorem dX6_learnWord_14 : decode cX6_learnWord 14 = .ok (.if_icmp .ge 19, 3) := by decide +kernel
theorem dX6_learnWord_17 : decode cX6_learnWord 17 = .ok (.aload_n 1, 1) := by decide +kernel
theorem dX6_learnWord_18 : decode cX6_learnWord 18 = .ok (.iconst 1, 1) := by decide +kernel
theorem dX6_learnWord_19 : decode cX6_learnWord 19 = .ok (.iaload, 1) := by decide +kernel
theorem dX6_learnWord_20 : decode cX6_learnWord 20 = .ok (.bipush 16, 2) := by decide +kernel
theorem dX6_learnWord_22 : decode cX6_learnWord 22 = .ok (.if_icmp .ge 11, 3) := by decide +kernel
theorem dX6_learnWord_25 : decode cX6_learnWord 25 = .ok (.aload_n 1, 1) := by decide +kernel
theorem dX6_learnWord_26 : decode cX6_learnWord 26 = .ok (.iconst 2, 1) := by decide +kernel
theorem dX6_learnWord_27 : decode cX6_learnWord 27 = .ok (.iaload, 1) := by decide +kernel
theorem dX6_learnWord_28 : decode cX6_learnWord 28 = .ok (.bipush 8, 2) := by decide +kernel
theorem dX6_learnWord_30 : decode cX6_learnWord 30 = .ok (.if_icmp .lt 5, 3) := by decide +kernel
theorem dX6_learnWord_33 : decode cX6_learnWord 33 = .ok (.iconst 0, 1) := by decide +kernel
theorem dX6_learnWord_34 : decode cX6_learnWord 34 = .ok (.ireturn, 1) := by decide +kernel
theorem dX6_learnWord_35 : decode cX6_learnWord 35 = .ok (.iconst 0, 1) := by decide +kernel
theorem dX6_learnWord_36 : decode cX6_learnWord 36 = .ok (.istore_n 2, 1) := by decide +kernel
theorem dX6_learnWord_37 : decode cX6_learnWord 37 = .ok (.iload_n 2, 1) := by decide +kernel
theorem dX6_learnWord_38 : decode cX6_learnWord 38 = .ok (.aload_n 0, 1) := by decide +kernel
theorem dX6_learnWord_39 : decode cX6_learnWord 39 = .ok (.getfield 36, 3) := by decide +kernel
theorem dX6_learnWord_42 : decode cX6_learnWord 42 = .ok (.if_icmp .ge 47, 3) := by decide +kernel
theorem dX6_learnWord_45 : decode cX6_learnWord 45 = .ok (.aload_n 0, 1) := by decide +kernel
theorem dX6_learnWord_46 : decode cX6_learnWord 46 = .ok (.getfield 9, 3) := by decide +kernel
theorem dX6_learnWord_49 : decode cX6_learnWord 49 = .ok (.iload_n 2, 1) := by decide +kernel
theorem dX6_learnWord_50 : decode cX6_learnWord 50 = .ok (.iaload, 1) := by decide +kernel
theorem dX6_learnWord_51 : decode cX6_learnWord 51 = .ok (.aload_n 1, 1) := by decide +kernel
theorem dX6_learnWord_52 : decode cX6_learnWord 52 = .ok (.iconst 0, 1) := by decide +kernel
theorem dX6_learnWord_53 : decode cX6_learnWord 53 = .ok (.iaload, 1) := by decide +kernel
theorem dX6_learnWord_54 : decode cX6_learnWord 54 = .ok (.if_icmp .ne 29, 3) := by decide +kernel
theorem dX6_learnWord_57 : decode cX6_learnWord 57 = .ok (.aload_n 0, 1) := by decide +kernel
theorem dX6_learnWord_58 : decode cX6_learnWord 58 = .ok (.getfield 15, 3) := by decide +kernel
theorem dX6_learnWord_61 : decode cX6_learnWord 61 = .ok (.iload_n 2, 1) := by decide +kernel
theorem dX6_learnWord_62 : decode cX6_learnWord 62 = .ok (.iaload, 1) := by decide +kernel
theorem dX6_learnWord_63 : decode cX6_learnWord 63 = .ok (.aload_n 1, 1) := by decide +kernel
theorem dX6_learnWord_64 : decode cX6_learnWord 64 = .ok (.iconst 1, 1) := by decide +kernel
theorem dX6_learnWord_65 : decode cX6_learnWord 65 = .ok (.iaload, 1) := by decide +kernel
theorem dX6_learnWord_66 : decode cX6_learnWord 66 = .ok (.if_icmp .ne 17, 3) := by decide +kernel
theorem dX6_learnWord_69 : decode cX6_learnWord 69 = .ok (.aload_n 0, 1) := by decide +kernel
theorem dX6_learnWord_70 : decode cX6_learnWord 70 = .ok (.getfield 18, 3) := by decide +kernel
theorem dX6_learnWord_73 : decode cX6_learnWord 73 = .ok (.iload_n 2, 1) := by decide +kernel
theorem dX6_learnWord_74 : decode cX6_learnWord 74 = .ok (.iaload, 1) := by decide +kernel
theorem dX6_learnWord_75 : decode cX6_learnWord 75 = .ok (.aload_n 1, 1) := by decide +kernel
theorem dX6_learnWord_76 : decode cX6_learnWord 76 = .ok (.iconst 2, 1) := by decide +kernel
theorem dX6_learnWord_77 : decode cX6_learnWord 77 = .ok (.iaload, 1) := by decide +kernel
theorem dX6_learnWord_78 : decode cX6_learnWord 78 = .ok (.if_icmp .ne 5, 3) := by decide +kernel
theorem dX6_learnWord_81 : decode cX6_learnWord 81 = .ok (.iconst 0, 1) := by decide +kernel
theorem dX6_learnWord_82 : decode cX6_learnWord 82 = .ok (.ireturn, 1) := by decide +kernel
theorem dX6_learnWord_83 : decode cX6_learnWord 83 = .ok (.iinc 2 1, 3) := by decide +kernel
theorem dX6_learnWord_86 : decode cX6_learnWord 86 = .ok (.goto (-49), 3) := by decide +kernel
theorem dX6_learnWord_89 : decode cX6_learnWord 89 = .ok (.aload_n 0, 1) := by decide +kernel
theorem dX6_learnWord_90 : decode cX6_learnWord 90 = .ok (.getfield 9, 3) := by decide +kernel
theorem dX6_learnWord_93 : decode cX6_learnWord 93 = .ok (.aload_n 0, 1) := by decide +kernel
theorem dX6_learnWord_94 : decode cX6_learnWord 94 = .ok (.getfield 36, 3) := by decide +kernel
theorem dX6_learnWord_97 : decode cX6_learnWord 97 = .ok (.aload_n 1, 1) := by decide +kernel
theorem dX6_learnWord_98 : decode cX6_learnWord 98 = .ok (.iconst 0, 1) := by decide +kernel
theorem dX6_learnWord_99 : decode cX6_learnWord 99 = .ok (.iaload, 1) := by decide +kernel
theorem dX6_learnWord_100 : decode cX6_learnWord 100 = .ok (.iastore, 1) := by decide +kernel
theorem dX6_learnWord_101 : decode cX6_learnWord 101 = .ok (.aload_n 0, 1) := by decide +kernel
theorem dX6_learnWord_102 : decode cX6_learnWord 102 = .ok (.getfield 15, 3) := by decide +kernel
theorem dX6_learnWord_105 : decode cX6_learnWord 105 = .ok (.aload_n 0, 1) := by decide +kernel
theorem dX6_learnWord_106 : decode cX6_learnWord 106 = .ok (.getfield 36, 3) := by decide +kernel
theorem dX6_learnWord_109 : decode cX6_learnWord 109 = .ok (.aload_n 1, 1) := by decide +kernel
theorem dX6_learnWord_110 : decode cX6_learnWord 110 = .ok (.iconst 1, 1) := by decide +kernel
theorem dX6_learnWord_111 : decode cX6_learnWord 111 = .ok (.iaload, 1) := by decide +kernel
theorem dX6_learnWord_112 : decode cX6_learnWord 112 = .ok (.iastore, 1) := by decide +kernel
theorem dX6_learnWord_113 : decode cX6_learnWord 113 = .ok (.aload_n 0, 1) := by decide +kernel
theorem dX6_learnWord_114 : decode cX6_learnWord 114 = .ok (.getfield 18, 3) := by decide +kernel
theorem dX6_learnWord_117 : decode cX6_learnWord 117 = .ok (.aload_n 0, 1) := by decide +kernel
theorem dX6_learnWord_118 : decode cX6_learnWord 118 = .ok (.getfield 36, 3) := by decide +kernel
theorem dX6_learnWord_121 : decode cX6_learnWord 121 = .ok (.aload_n 1, 1) := by decide +kernel
theorem dX6_learnWord_122 : decode cX6_learnWord 122 = .ok (.iconst 2, 1) := by decide +kernel
theorem dX6_learnWord_123 : decode cX6_learnWord 123 = .ok (.iaload, 1) := by decide +kernel
theorem dX6_learnWord_124 : decode cX6_learnWord 124 = .ok (.iastore, 1) := by decide +kernel
theorem dX6_learnWord_125 : decode cX6_learnWord 125 = .ok (.aload_n 0, 1) := by decide +kernel
theorem dX6_learnWord_126 : decode cX6_learnWord 126 = .ok (.dup, 1) := by decide +kernel
theorem dX6_learnWord_127 : decode cX6_learnWord 127 = .ok (.getfield 36, 3) := by decide +kernel
theorem dX6_learnWord_130 : decode cX6_learnWord 130 = .ok (.iconst 1, 1) := by decide +kernel
theorem dX6_learnWord_131 : decode cX6_learnWord 131 = .ok (.iadd, 1) := by decide +kernel
theorem dX6_learnWord_132 : decode cX6_learnWord 132 = .ok (.putfield 36, 3) := by decide +kernel
theorem dX6_learnWord_135 : decode cX6_learnWord 135 = .ok (.iconst 1, 1) := by decide +kernel
theorem dX6_learnWord_136 : decode cX6_learnWord 136 = .ok (.ireturn, 1) := by decide +kernel
theorem dX6_learnJoining_0 : decode cX6_learnJoining 0 = .ok (.iconst 0, 1) := by decide +kernel
theorem dX6_learnJoining_1 : decode cX6_learnJoining 1 = .ok (.istore_n 2, 1) := by decide +kernel
theorem dX6_learnJoining_2 : decode cX6_learnJoining 2 = .ok (.iload_n 2, 1) := by decide +kernel
theorem dX6_learnJoining_3 : decode cX6_learnJoining 3 = .ok (.iconst 4, 1) := by decide +kernel
theorem dX6_learnJoining_4 : decode cX6_learnJoining 4 = .ok (.if_icmp .ge 19, 3) := by decide +kernel
theorem dX6_learnJoining_7 : decode cX6_learnJoining 7 = .ok (.aload_n 1, 1) := by decide +kernel
theorem dX6_learnJoining_8 : decode cX6_learnJoining 8 = .ok (.iload_n 2, 1) := by decide +kernel
theorem dX6_learnJoining_9 : decode cX6_learnJoining 9 = .ok (.iaload, 1) := by decide +kernel
theorem dX6_learnJoining_10 : decode cX6_learnJoining 10 = .ok (.bipush 8, 2) := by decide +kernel
theorem dX6_learnJoining_12 : decode cX6_learnJoining 12 = .ok (.if_icmp .lt 5, 3) := by decide +kernel
theorem dX6_learnJoining_15 : decode cX6_learnJoining 15 = .ok (.iconst 0, 1) := by decide +kernel
theorem dX6_learnJoining_16 : decode cX6_learnJoining 16 = .ok (.ireturn, 1) := by decide +kernel
theorem dX6_learnJoining_17 : decode cX6_learnJoining 17 = .ok (.iinc 2 1, 3) := by decide +kernel
theorem dX6_learnJoining_20 : decode cX6_learnJoining 20 = .ok (.goto (-18), 3) := by decide +kernel
theorem dX6_learnJoining_23 : decode cX6_learnJoining 23 = .ok (.aload_n 0, 1) := by decide +kernel
theorem dX6_learnJoining_24 : decode cX6_learnJoining 24 = .ok (.getfield 21, 3) := by decide +kernel
theorem dX6_learnJoining_27 : decode cX6_learnJoining 27 = .ok (.bipush 8, 2) := by decide +kernel
theorem dX6_learnJoining_29 : decode cX6_learnJoining 29 = .ok (.aload_n 1, 1) := by decide +kernel
theorem dX6_learnJoining_30 : decode cX6_learnJoining 30 = .ok (.iconst 0, 1) := by decide +kernel
theorem dX6_learnJoining_31 : decode cX6_learnJoining 31 = .ok (.iaload, 1) := by decide +kernel
theorem dX6_learnJoining_32 : decode cX6_learnJoining 32 = .ok (.imul, 1) := by decide +kernel
theorem dX6_learnJoining_33 : decode cX6_learnJoining 33 = .ok (.aload_n 1, 1) := by decide +kernel
theorem dX6_learnJoining_34 : decode cX6_learnJoining 34 = .ok (.iconst 1, 1) := by decide +kernel
theorem dX6_learnJoining_35 : decode cX6_learnJoining 35 = .ok (.iaload, 1) := by decide +kernel
theorem dX6_learnJoining_36 : decode cX6_learnJoining 36 = .ok (.iadd, 1) := by decide +kernel
theorem dX6_learnJoining_37 : decode cX6_learnJoining 37 = .ok (.bipush 8, 2) := by decide +kernel
theorem dX6_learnJoining_39 : decode cX6_learnJoining 39 = .ok (.aload_n 1, 1) := by decide +kernel
theorem dX6_learnJoining_40 : decode cX6_learnJoining 40 = .ok (.iconst 2, 1) := by decide +kernel
theorem dX6_learnJoining_41 : decode cX6_learnJoining 41 = .ok (.iaload, 1) := by decide +kernel
theorem dX6_learnJoining_42 : decode cX6_learnJoining 42 = .ok (.imul, 1) := by decide +kernel
theorem dX6_learnJoining_43 : decode cX6_learnJoining 43 = .ok (.aload_n 1, 1) := by decide +kernel
theorem dX6_learnJoining_44 : decode cX6_learnJoining 44 = .ok (.iconst 3, 1) := by decide +kernel
theorem dX6_learnJoining_45 : decode cX6_learnJoining 45 = .ok (.iaload, 1) := by decide +kernel
theorem dX6_learnJoining_46 : decode cX6_learnJoining 46 = .ok (.iadd, 1) := by decide +kernel
theorem dX6_learnJoining_47 : decode cX6_learnJoining 47 = .ok (.iastore, 1) := by decide +kernel
theorem dX6_learnJoining_48 : decode cX6_learnJoining 48 = .ok (.iconst 1, 1) := by decide +kernel
theorem dX6_learnJoining_49 : decode cX6_learnJoining 49 = .ok (.ireturn, 1) := by decide +kernel
theorem dX6_learnHours_0 : decode cX6_learnHours 0 = .ok (.aload_n 1, 1) := by decide +kernel
theorem dX6_learnHours_1 : decode cX6_learnHours 1 = .ok (.iconst 0, 1) := by decide +kernel
theorem dX6_learnHours_2 : decode cX6_learnHours 2 = .ok (.iaload, 1) := by decide +kernel
theorem dX6_learnHours_3 : decode cX6_learnHours 3 = .ok (.iconst 5, 1) := by decide +kernel
theorem dX6_learnHours_4 : decode cX6_learnHours 4 = .ok (.if_icmp .lt 5, 3) := by decide +kernel
theorem dX6_learnHours_7 : decode cX6_learnHours 7 = .ok (.iconst 0, 1) := by decide +kernel
theorem dX6_learnHours_8 : decode cX6_learnHours 8 = .ok (.ireturn, 1) := by decide +kernel
theorem dX6_learnHours_9 : decode cX6_learnHours 9 = .ok (.aload_n 0, 1) := by decide +kernel
theorem dX6_learnHours_10 : decode cX6_learnHours 10 = .ok (.getfield 24, 3) := by decide +kernel
theorem dX6_learnHours_13 : decode cX6_learnHours 13 = .ok (.aload_n 1, 1) := by decide +kernel
theorem dX6_learnHours_14 : decode cX6_learnHours 14 = .ok (.iconst 0, 1) := by decide +kernel
theorem dX6_learnHours_15 : decode cX6_learnHours 15 = .ok (.iaload, 1) := by decide +kernel
theorem dX6_learnHours_16 : decode cX6_learnHours 16 = .ok (.aload_n 1, 1) := by decide +kernel
theorem dX6_learnHours_17 : decode cX6_learnHours 17 = .ok (.iconst 1, 1) := by decide +kernel
theorem dX6_learnHours_18 : decode cX6_learnHours 18 = .ok (.iaload, 1) := by decide +kernel
theorem dX6_learnHours_19 : decode cX6_learnHours 19 = .ok (.iastore, 1) := by decide +kernel
theorem dX6_learnHours_20 : decode cX6_learnHours 20 = .ok (.iconst 1, 1) := by decide +kernel
theorem dX6_learnHours_21 : decode cX6_learnHours 21 = .ok (.ireturn, 1) := by decide +kernel
theorem dX6_joinAll_0 : decode cX6_joinAll 0 = .ok (.iconst 0, 1) := by decide +kernel
theorem dX6_joinAll_1 : decode cX6_joinAll 1 = .ok (.istore_n 1, 1) := by decide +kernel
theorem dX6_joinAll_2 : decode cX6_joinAll 2 = .ok (.iload_n 1, 1) := by decide +kernel
theorem dX6_joinAll_3 : decode cX6_joinAll 3 = .ok (.aload_n 0, 1) := by decide +kernel
theorem dX6_joinAll_4 : decode cX6_joinAll 4 = .ok (.getfield 36, 3) := by decide +kernel
theorem dX6_joinAll_7 : decode cX6_joinAll 7 = .ok (.if_icmp .ge 161, 3) := by decide +kernel
theorem dX6_joinAll_10 : decode cX6_joinAll 10 = .ok (.aload_n 0, 1) := by decide +kernel
theorem dX6_joinAll_11 : decode cX6_joinAll 11 = .ok (.getfield 27, 3) := by decide +kernel
theorem dX6_joinAll_14 : decode cX6_joinAll 14 = .ok (.sipush 272, 3) := by decide +kernel
theorem dX6_joinAll_17 : decode cX6_joinAll 17 = .ok (.iload_n 1, 1) := by decide +kernel
theorem dX6_joinAll_18 : decode cX6_joinAll 18 = .ok (.iadd, 1) := by decide +kernel
theorem dX6_joinAll_19 : decode cX6_joinAll 19 = .ok (.sipush 128, 3) := by decide +kernel
theorem dX6_joinAll_22 : decode cX6_joinAll 22 = .ok (.aload_n 0, 1) := by decide +kernel
theorem dX6_joinAll_23 : decode cX6_joinAll 23 = .ok (.getfield 9, 3) := by decide +kernel
theorem dX6_joinAll_26 : decode cX6_joinAll 26 = .ok (.iload_n 1, 1) := by decide +kernel
theorem dX6_joinAll_27 : decode cX6_joinAll 27 = .ok (.iaload, 1) := by decide +kernel
theorem dX6_joinAll_28 : decode cX6_joinAll 28 = .ok (.imul, 1) := by decide +kernel
theorem dX6_joinAll_29 : decode cX6_joinAll 29 = .ok (.bipush 8, 2) := by decide +kernel
theorem dX6_joinAll_31 : decode cX6_joinAll 31 = .ok (.aload_n 0, 1) := by decide +kernel
theorem dX6_joinAll_32 : decode cX6_joinAll 32 = .ok (.getfield 15, 3) := by decide +kernel
theorem dX6_joinAll_35 : decode cX6_joinAll 35 = .ok (.iload_n 1, 1) := by decide +kernel
theorem dX6_joinAll_36 : decode cX6_joinAll 36 = .ok (.iaload, 1) := by decide +kernel
theorem dX6_joinAll_37 : decode cX6_joinAll 37 = .ok (.imul, 1) := by decide +kernel
theorem dX6_joinAll_38 : decode cX6_joinAll 38 = .ok (.iadd, 1) := by decide +kernel
theorem dX6_joinAll_39 : decode cX6_joinAll 39 = .ok (.iastore, 1) := by decide +kernel
theorem dX6_joinAll_40 : decode cX6_joinAll 40 = .ok (.aload_n 0, 1) := by decide +kernel
theorem dX6_joinAll_41 : decode cX6_joinAll 41 = .ok (.getfield 30, 3) := by decide +kernel
theorem dX6_joinAll_44 : decode cX6_joinAll 44 = .ok (.sipush 272, 3) := by decide +kernel
theorem dX6_joinAll_47 : decode cX6_joinAll 47 = .ok (.iload_n 1, 1) := by decide +kernel
theorem dX6_joinAll_48 : decode cX6_joinAll 48 = .ok (.iadd, 1) := by decide +kernel
theorem dX6_joinAll_49 : decode cX6_joinAll 49 = .ok (.aload_n 0, 1) := by decide +kernel
theorem dX6_joinAll_50 : decode cX6_joinAll 50 = .ok (.getfield 18, 3) := by decide +kernel
theorem dX6_joinAll_53 : decode cX6_joinAll 53 = .ok (.iload_n 1, 1) := by decide +kernel
theorem dX6_joinAll_54 : decode cX6_joinAll 54 = .ok (.iaload, 1) := by decide +kernel
theorem dX6_joinAll_55 : decode cX6_joinAll 55 = .ok (.iastore, 1) := by decide +kernel
theorem dX6_joinAll_56 : decode cX6_joinAll 56 = .ok (.iconst 0, 1) := by decide +kernel
theorem dX6_joinAll_57 : decode cX6_joinAll 57 = .ok (.istore_n 2, 1) := by decide +kernel
theorem dX6_joinAll_58 : decode cX6_joinAll 58 = .ok (.iload_n 2, 1) := by decide +kernel
theorem dX6_joinAll_59 : decode cX6_joinAll 59 = .ok (.aload_n 0, 1) := by decide +kernel
theorem dX6_joinAll_60 : decode cX6_joinAll 60 = .ok (.getfield 36, 3) := by decide +kernel
theorem dX6_joinAll_63 : decode cX6_joinAll 63 = .ok (.if_icmp .ge 99, 3) := by decide +kernel
theorem dX6_joinAll_66 : decode cX6_joinAll 66 = .ok (.aload_n 0, 1) := by decide +kernel
theorem dX6_joinAll_67 : decode cX6_joinAll 67 = .ok (.getfield 21, 3) := by decide +kernel
theorem dX6_joinAll_70 : decode cX6_joinAll 70 = .ok (.bipush 8, 2) := by decide +kernel
theorem dX6_joinAll_72 : decode cX6_joinAll 72 = .ok (.aload_n 0, 1) := by decide +kernel
theorem dX6_joinAll_73 : decode cX6_joinAll 73 = .ok (.getfield 18, 3) := by decide +kernel
theorem dX6_joinAll_76 : decode cX6_joinAll 76 = .ok (.iload_n 2, 1) := by decide +kernel
theorem dX6_joinAll_77 : decode cX6_joinAll 77 = .ok (.iaload, 1) := by decide +kernel
theorem dX6_joinAll_78 : decode cX6_joinAll 78 = .ok (.imul, 1) := by decide +kernel
theorem dX6_joinAll_79 : decode cX6_joinAll 79 = .ok (.aload_n 0, 1) := by decide +kernel
theorem dX6_joinAll_80 : decode cX6_joinAll 80 = .ok (.getfield 9, 3) := by decide +kernel
theorem dX6_joinAll_83 : decode cX6_joinAll 83 = .ok (.iload_n 1, 1) := by decide +kernel
theorem dX6_joinAll_84 : decode cX6_joinAll 84 = .ok (.iaload, 1) := by decide +kernel
theorem dX6_joinAll_85 : decode cX6_joinAll 85 = .ok (.iadd, 1) := by decide +kernel
theorem dX6_joinAll_86 : decode cX6_joinAll 86 = .ok (.iaload, 1) := by decide +kernel
theorem dX6_joinAll_87 : decode cX6_joinAll 87 = .ok (.istore_n 3, 1) := by decide +kernel
theorem dX6_joinAll_88 : decode cX6_joinAll 88 = .ok (.aload_n 0, 1) := by decide +kernel
theorem dX6_joinAll_89 : decode cX6_joinAll 89 = .ok (.getfield 21, 3) := by decide +kernel
theorem dX6_joinAll_92 : decode cX6_joinAll 92 = .ok (.bipush 8, 2) := by decide +kernel
theorem dX6_joinAll_94 : decode cX6_joinAll 94 = .ok (.aload_n 0, 1) := by decide +kernel
theorem dX6_joinAll_95 : decode cX6_joinAll 95 = .ok (.getfield 18, 3) := by decide +kernel
theorem dX6_joinAll_98 : decode cX6_joinAll 98 = .ok (.iload_n 1, 1) := by decide +kernel
theorem dX6_joinAll_99 : decode cX6_joinAll 99 = .ok (.iaload, 1) := by decide +kernel
theorem dX6_joinAll_100 : decode cX6_joinAll 100 = .ok (.imul, 1) := by decide +kernel
theorem dX6_joinAll_101 : decode cX6_joinAll 101 = .ok (.aload_n 0, 1) := by decide +kernel
theorem dX6_joinAll_102 : decode cX6_joinAll 102 = .ok (.getfield 9, 3) := by decide +kernel
theorem dX6_joinAll_105 : decode cX6_joinAll 105 = .ok (.iload_n 2, 1) := by decide +kernel
theorem dX6_joinAll_106 : decode cX6_joinAll 106 = .ok (.iaload, 1) := by decide +kernel
theorem dX6_joinAll_107 : decode cX6_joinAll 107 = .ok (.iadd, 1) := by decide +kernel
theorem dX6_joinAll_108 : decode cX6_joinAll 108 = .ok (.iaload, 1) := by decide +kernel
theorem dX6_joinAll_109 : decode cX6_joinAll 109 = .ok (.istore 4, 2) := by decide +kernel
theorem dX6_joinAll_111 : decode cX6_joinAll 111 = .ok (.aload_n 0, 1) := by decide +kernel
theorem dX6_joinAll_112 : decode cX6_joinAll 112 = .ok (.getfield 27, 3) := by decide +kernel
theorem dX6_joinAll_115 : decode cX6_joinAll 115 = .ok (.bipush 17, 2) := by decide +kernel
theorem dX6_joinAll_117 : decode cX6_joinAll 117 = .ok (.iload_n 2, 1) := by decide +kernel
theorem dX6_joinAll_118 : decode cX6_joinAll 118 = .ok (.imul, 1) := by decide +kernel
theorem dX6_joinAll_119 : decode cX6_joinAll 119 = .ok (.iload_n 1, 1) := by decide +kernel
theorem dX6_joinAll_120 : decode cX6_joinAll 120 = .ok (.iadd, 1) := by decide +kernel
theorem dX6_joinAll_121 : decode cX6_joinAll 121 = .ok (.sipush 128, 3) := by decide +kernel
theorem dX6_joinAll_124 : decode cX6_joinAll 124 = .ok (.iload_n 3, 1) := by decide +kernel
theorem dX6_joinAll_125 : decode cX6_joinAll 125 = .ok (.bipush 8, 2) := by decide +kernel
theorem dX6_joinAll_127 : decode cX6_joinAll 127 = .ok (.irem, 1) := by decide +kernel
theorem dX6_joinAll_128 : decode cX6_joinAll 128 = .ok (.imul, 1) := by decide +kernel
theorem dX6_joinAll_129 : decode cX6_joinAll 129 = .ok (.bipush 8, 2) := by decide +kernel
theorem dX6_joinAll_131 : decode cX6_joinAll 131 = .ok (.aload_n 0, 1) := by decide +kernel
theorem dX6_joinAll_132 : decode cX6_joinAll 132 = .ok (.getfield 15, 3) := by decide +kernel
theorem dX6_joinAll_135 : decode cX6_joinAll 135 = .ok (.iload_n 1, 1) := by decide +kernel
theorem dX6_joinAll_136 : decode cX6_joinAll 136 = .ok (.iaload, 1) := by decide +kernel
theorem dX6_joinAll_137 : decode cX6_joinAll 137 = .ok (.imul, 1) := by decide +kernel
theorem dX6_joinAll_138 : decode cX6_joinAll 138 = .ok (.iadd, 1) := by decide +kernel
theorem dX6_joinAll_139 : decode cX6_joinAll 139 = .ok (.iastore, 1) := by decide +kernel
theorem dX6_joinAll_140 : decode cX6_joinAll 140 = .ok (.aload_n 0, 1) := by decide +kernel
theorem dX6_joinAll_141 : decode cX6_joinAll 141 = .ok (.getfield 30, 3) := by decide +kernel
theorem dX6_joinAll_144 : decode cX6_joinAll 144 = .ok (.bipush 17, 2) := by decide +kernel
theorem dX6_joinAll_146 : decode cX6_joinAll 146 = .ok (.iload_n 2, 1) := by decide +kernel
theorem dX6_joinAll_147 : decode cX6_joinAll 147 = .ok (.imul, 1) := by decide +kernel
theorem dX6_joinAll_148 : decode cX6_joinAll 148 = .ok (.iload_n 1, 1) := by decide +kernel
theorem dX6_joinAll_149 : decode cX6_joinAll 149 = .ok (.iadd, 1) := by decide +kernel
theorem dX6_joinAll_150 : decode cX6_joinAll 150 = .ok (.iload 4, 2) := by decide +kernel
theorem dX6_joinAll_152 : decode cX6_joinAll 152 = .ok (.bipush 8, 2) := by decide +kernel
theorem dX6_joinAll_154 : decode cX6_joinAll 154 = .ok (.idiv, 1) := by decide +kernel
theorem dX6_joinAll_155 : decode cX6_joinAll 155 = .ok (.iastore, 1) := by decide +kernel
theorem dX6_joinAll_156 : decode cX6_joinAll 156 = .ok (.iinc 2 1, 3) := by decide +kernel
theorem dX6_joinAll_159 : decode cX6_joinAll 159 = .ok (.goto (-101), 3) := by decide +kernel
theorem dX6_joinAll_162 : decode cX6_joinAll 162 = .ok (.iinc 1 1, 3) := by decide +kernel
theorem dX6_joinAll_165 : decode cX6_joinAll 165 = .ok (.goto (-163), 3) := by decide +kernel
theorem dX6_joinAll_168 : decode cX6_joinAll 168 = .ok (.return_, 1) := by decide +kernel
end
section
theorem dX6_token_0 : decode cX6_token 0 = .ok (.aload_n 0, 1) := by decide +kernel
theorem dX6_token_1 : decode cX6_token 1 = .ok (.getfield 27, 3) := by decide +kernel
theorem dX6_token_4 : decode cX6_token 4 = .ok (.bipush 17, 2) := by decide +kernel
theorem dX6_token_6 : decode cX6_token 6 = .ok (.iload_n 1, 1) := by decide +kernel
theorem dX6_token_7 : decode cX6_token 7 = .ok (.imul, 1) := by decide +kernel
theorem dX6_token_8 : decode cX6_token 8 = .ok (.iload_n 2, 1) := by decide +kernel
theorem dX6_token_9 : decode cX6_token 9 = .ok (.iadd, 1) := by decide +kernel
theorem dX6_token_10 : decode cX6_token 10 = .ok (.iaload, 1) := by decide +kernel
theorem dX6_token_11 : decode cX6_token 11 = .ok (.aload_n 0, 1) := by decide +kernel
theorem dX6_token_12 : decode cX6_token 12 = .ok (.getfield 30, 3) := by decide +kernel
theorem dX6_token_15 : decode cX6_token 15 = .ok (.bipush 17, 2) := by decide +kernel
theorem dX6_token_17 : decode cX6_token 17 = .ok (.iload_n 3, 1) := by decide +kernel
theorem dX6_token_18 : decode cX6_token 18 = .ok (.imul, 1) := by decide +kernel
theorem dX6_token_19 : decode cX6_token 19 = .ok (.iload_n 2, 1) := by decide +kernel
theorem dX6_token_20 : decode cX6_token 20 = .ok (.iadd, 1) := by decide +kernel
theorem dX6_token_21 : decode cX6_token 21 = .ok (.iaload, 1) := by decide +kernel
theorem dX6_token_22 : decode cX6_token 22 = .ok (.iadd, 1) := by decide +kernel
theorem dX6_token_23 : decode cX6_token 23 = .ok (.ireturn, 1) := by decide +kernel
theorem dX6_hoursOf_0 : decode cX6_hoursOf 0 = .ok (.iconst 0, 1) := by decide +kernel
theorem dX6_hoursOf_1 : decode cX6_hoursOf 1 = .ok (.istore_n 2, 1) := by decide +kernel
theorem dX6_hoursOf_2 : decode cX6_hoursOf 2 = .ok (.iconst 0, 1) := by decide +kernel
theorem dX6_hoursOf_3 : decode cX6_hoursOf 3 = .ok (.istore_n 3, 1) := by decide +kernel
theorem dX6_hoursOf_4 : decode cX6_hoursOf 4 = .ok (.iload_n 3, 1) := by decide +kernel
theorem dX6_hoursOf_5 : decode cX6_hoursOf 5 = .ok (.iconst 5, 1) := by decide +kernel
theorem dX6_hoursOf_6 : decode cX6_hoursOf 6 = .ok (.if_icmp .ge 24, 3) := by decide +kernel
theorem dX6_hoursOf_9 : decode cX6_hoursOf 9 = .ok (.iload_n 2, 1) := by decide +kernel
theorem dX6_hoursOf_10 : decode cX6_hoursOf 10 = .ok (.iload_n 1, 1) := by decide +kernel
theorem dX6_hoursOf_11 : decode cX6_hoursOf 11 = .ok (.iload_n 3, 1) := by decide +kernel
theorem dX6_hoursOf_12 : decode cX6_hoursOf 12 = .ok (.ishr, 1) := by decide +kernel
theorem dX6_hoursOf_13 : decode cX6_hoursOf 13 = .ok (.iconst 1, 1) := by decide +kernel
theorem dX6_hoursOf_14 : decode cX6_hoursOf 14 = .ok (.iand, 1) := by decide +kernel
theorem dX6_hoursOf_15 : decode cX6_hoursOf 15 = .ok (.aload_n 0, 1) := by decide +kernel
theorem dX6_hoursOf_16 : decode cX6_hoursOf 16 = .ok (.getfield 24, 3) := by decide +kernel
theorem dX6_hoursOf_19 : decode cX6_hoursOf 19 = .ok (.iload_n 3, 1) := by decide +kernel
theorem dX6_hoursOf_20 : decode cX6_hoursOf 20 = .ok (.iaload, 1) := by decide +kernel
theorem dX6_hoursOf_21 : decode cX6_hoursOf 21 = .ok (.imul, 1) := by decide +kernel
theorem dX6_hoursOf_22 : decode cX6_hoursOf 22 = .ok (.iadd, 1) := by decide +kernel
theorem dX6_hoursOf_23 : decode cX6_hoursOf 23 = .ok (.istore_n 2, 1) := by decide +kernel
theorem dX6_hoursOf_24 : decode cX6_hoursOf 24 = .ok (.iinc 3 1, 3) := by decide +kernel
theorem dX6_hoursOf_27 : decode cX6_hoursOf 27 = .ok (.goto (-23), 3) := by decide +kernel
theorem dX6_hoursOf_30 : decode cX6_hoursOf 30 = .ok (.iload_n 2, 1) := by decide +kernel
theorem dX6_hoursOf_31 : decode cX6_hoursOf 31 = .ok (.ireturn, 1) := by decide +kernel
theorem dX6_isListedAlike_0 : decode cX6_isListedAlike 0 = .ok (.aload_n 0, 1) := by decide +kernel
theorem dX6_isListedAlike_1 : decode cX6_isListedAlike 1 = .ok (.getfield 9, 3) := by decide +kernel
theorem dX6_isListedAlike_4 : decode cX6_isListedAlike 4 = .ok (.iload_n 1, 1) := by decide +kernel
theorem dX6_isListedAlike_5 : decode cX6_isListedAlike 5 = .ok (.iaload, 1) := by decide +kernel
theorem dX6_isListedAlike_6 : decode cX6_isListedAlike 6 = .ok (.aload_n 0, 1) := by decide +kernel
theorem dX6_isListedAlike_7 : decode cX6_isListedAlike 7 = .ok (.getfield 9, 3) := by decide +kernel
theorem dX6_isListedAlike_10 : decode cX6_isListedAlike 10 = .ok (.iload_n 2, 1) := by decide +kernel
theorem dX6_isListedAlike_11 : decode cX6_isListedAlike 11 = .ok (.iaload, 1) := by decide +kernel
theorem dX6_isListedAlike_12 : decode cX6_isListedAlike 12 = .ok (.if_icmp .ne 22, 3) := by decide +kernel
theorem dX6_isListedAlike_15 : decode cX6_isListedAlike 15 = .ok (.aload_n 0, 1) := by decide +kernel
theorem dX6_isListedAlike_16 : decode cX6_isListedAlike 16 = .ok (.getfield 15, 3) := by decide +kernel
theorem dX6_isListedAlike_19 : decode cX6_isListedAlike 19 = .ok (.iload_n 1, 1) := by decide +kernel
theorem dX6_isListedAlike_20 : decode cX6_isListedAlike 20 = .ok (.iaload, 1) := by decide +kernel
theorem dX6_isListedAlike_21 : decode cX6_isListedAlike 21 = .ok (.aload_n 0, 1) := by decide +kernel
theorem dX6_isListedAlike_22 : decode cX6_isListedAlike 22 = .ok (.getfield 15, 3) := by decide +kernel
theorem dX6_isListedAlike_25 : decode cX6_isListedAlike 25 = .ok (.iload_n 2, 1) := by decide +kernel
theorem dX6_isListedAlike_26 : decode cX6_isListedAlike 26 = .ok (.iaload, 1) := by decide +kernel
theorem dX6_isListedAlike_27 : decode cX6_isListedAlike 27 = .ok (.if_icmp .ne 7, 3) := by decide +kernel
theorem dX6_isListedAlike_30 : decode cX6_isListedAlike 30 = .ok (.iconst 1, 1) := by decide +kernel
theorem dX6_isListedAlike_31 : decode cX6_isListedAlike 31 = .ok (.goto 4, 3) := by decide +kernel
theorem dX6_isListedAlike_34 : decode cX6_isListedAlike 34 = .ok (.iconst 0, 1) := by decide +kernel
theorem dX6_isListedAlike_35 : decode cX6_isListedAlike 35 = .ok (.ireturn, 1) := by decide +kernel
theorem dX7_init_0 : decode cX7_init 0 = .ok (.aload_n 0, 1) := by decide +kernel
theorem dX7_init_1 : decode cX7_init 1 = .ok (.invokespecial 3, 3) := by decide +kernel
theorem dX7_init_4 : decode cX7_init 4 = .ok (.aload_n 0, 1) := by decide +kernel
theorem dX7_init_5 : decode cX7_init 5 = .ok (.bipush 8, 2) := by decide +kernel
theorem dX7_init_7 : decode cX7_init 7 = .ok (.newarray .int, 2) := by decide +kernel
theorem dX7_init_9 : decode cX7_init 9 = .ok (.putfield 9, 3) := by decide +kernel
theorem dX7_init_12 : decode cX7_init 12 = .ok (.aload_n 0, 1) := by decide +kernel
theorem dX7_init_13 : decode cX7_init 13 = .ok (.bipush 8, 2) := by decide +kernel
theorem dX7_init_15 : decode cX7_init 15 = .ok (.bipush 16, 2) := by decide +kernel
theorem dX7_init_17 : decode cX7_init 17 = .ok (.multianewarray 15 2, 4) := by decide +kernel
theorem dX7_init_21 : decode cX7_init 21 = .ok (.putfield 17, 3) := by decide +kernel
theorem dX7_init_24 : decode cX7_init 24 = .ok (.aload_n 0, 1) := by decide +kernel
theorem dX7_init_25 : decode cX7_init 25 = .ok (.bipush 8, 2) := by decide +kernel
theorem dX7_init_27 : decode cX7_init 27 = .ok (.bipush 16, 2) := by decide +kernel
theorem dX7_init_29 : decode cX7_init 29 = .ok (.multianewarray 15 2, 4) := by decide +kernel
theorem dX7_init_33 : decode cX7_init 33 = .ok (.putfield 20, 3) := by decide +kernel
theorem dX7_init_36 : decode cX7_init 36 = .ok (.aload_n 0, 1) := by decide +kernel
theorem dX7_init_37 : decode cX7_init 37 = .ok (.bipush 8, 2) := by decide +kernel
theorem dX7_init_39 : decode cX7_init 39 = .ok (.bipush 16, 2) := by decide +kernel
theorem dX7_init_41 : decode cX7_init 41 = .ok (.multianewarray 15 2, 4) := by decide +kernel
theorem dX7_init_45 : decode cX7_init 45 = .ok (.putfield 23, 3) := by decide +kernel
theorem dX7_init_48 : decode cX7_init 48 = .ok (.aload_n 0, 1) := by decide +kernel
theorem dX7_init_49 : decode cX7_init 49 = .ok (.bipush 8, 2) := by decide +kernel
theorem dX7_init_51 : decode cX7_init 51 = .ok (.bipush 16, 2) := by decide +kernel
theorem dX7_init_53 : decode cX7_init 53 = .ok (.multianewarray 15 2, 4) := by decide +kernel
theorem dX7_init_57 : decode cX7_init 57 = .ok (.putfield 26, 3) := by decide +kernel
theorem dX7_init_60 : decode cX7_init 60 = .ok (.aload_n 0, 1) := by decide +kernel
theorem dX7_init_61 : decode cX7_init 61 = .ok (.bipush 8, 2) := by decide +kernel
theorem dX7_init_63 : decode cX7_init 63 = .ok (.bipush 16, 2) := by decide +kernel
theorem dX7_init_65 : decode cX7_init 65 = .ok (.multianewarray 15 2, 4) := by decide +kernel
theorem dX7_init_69 : decode cX7_init 69 = .ok (.putfield 29, 3) := by decide +kernel
theorem dX7_init_72 : decode cX7_init 72 = .ok (.aload_n 0, 1) := by decide +kernel
theorem dX7_init_73 : decode cX7_init 73 = .ok (.bipush 8, 2) := by decide +kernel
theorem dX7_init_75 : decode cX7_init 75 = .ok (.newarray .int, 2) := by decide +kernel
theorem dX7_init_77 : decode cX7_init 77 = .ok (.putfield 32, 3) := by decide +kernel
theorem dX7_init_80 : decode cX7_init 80 = .ok (.aload_n 0, 1) := by decide +kernel
theorem dX7_init_81 : decode cX7_init 81 = .ok (.bipush 8, 2) := by decide +kernel
theorem dX7_init_83 : decode cX7_init 83 = .ok (.iconst 3, 1) := by decide +kernel
theorem dX7_init_84 : decode cX7_init 84 = .ok (.multianewarray 15 2, 4) := by decide +kernel
theorem dX7_init_88 : decode cX7_init 88 = .ok (.putfield 35, 3) := by decide +kernel
theorem dX7_init_91 : decode cX7_init 91 = .ok (.aload_n 0, 1) := by decide +kernel
theorem dX7_init_92 : decode cX7_init 92 = .ok (.bipush 8, 2) := by decide +kernel
theorem dX7_init_94 : decode cX7_init 94 = .ok (.iconst 3, 1) := by decide +kernel
theorem dX7_init_95 : decode cX7_init 95 = .ok (.multianewarray 15 2, 4) := by decide +kernel
theorem dX7_init_99 : decode cX7_init 99 = .ok (.putfield 38, 3) := by decide +kernel
theorem dX7_init_102 : decode cX7_init 102 = .ok (.aload_n 0, 1) := by decide +kernel
theorem dX7_init_103 : decode cX7_init 103 = .ok (.bipush 8, 2) := by decide +kernel
theorem dX7_init_105 : decode cX7_init 105 = .ok (.iconst 3, 1) := by decide +kernel
theorem dX7_init_106 : decode cX7_init 106 = .ok (.multianewarray 15 2, 4) := by decide +kernel
theorem dX7_init_110 : decode cX7_init 110 = .ok (.putfield 41, 3) := by decide +kernel
theorem dX7_init_113 : decode cX7_init 113 = .ok (.aload_n 0, 1) := by decide +kernel
theorem dX7_init_114 : decode cX7_init 114 = .ok (.iconst 3, 1) := by decide +kernel
theorem dX7_init_115 : decode cX7_init 115 = .ok (.newarray .int, 2) := by decide +kernel
theorem dX7_init_117 : decode cX7_init 117 = .ok (.dup, 1) := by decide +kernel
theorem dX7_init_118 : decode cX7_init 118 = .ok (.iconst 0, 1) := by decide +kernel
theorem dX7_init_119 : decode cX7_init 119 = .ok (.bipush 16, 2) := by decide +kernel
theorem dX7_init_121 : decode cX7_init 121 = .ok (.iastore, 1) := by decide +kernel
theorem dX7_init_122 : decode cX7_init 122 = .ok (.dup, 1) := by decide +kernel
theorem dX7_init_123 : decode cX7_init 123 = .ok (.iconst 1, 1) := by decide +kernel
theorem dX7_init_124 : decode cX7_init 124 = .ok (.bipush 16, 2) := by decide +kernel
theorem dX7_init_126 : decode cX7_init 126 = .ok (.iastore, 1) := by decide +kernel
theorem dX7_init_127 : decode cX7_init 127 = .ok (.dup, 1) := by decide +kernel
theorem dX7_init_128 : decode cX7_init 128 = .ok (.iconst 2, 1) := by decide +kernel
theorem dX7_init_129 : decode cX7_init 129 = .ok (.bipush 16, 2) := by decide +kernel
theorem dX7_init_131 : decode cX7_init 131 = .ok (.iastore, 1) := by decide +kernel
theorem dX7_init_132 : decode cX7_init 132 = .ok (.putfield 44, 3) := by decide +kernel
theorem dX7_init_135 : decode cX7_init 135 = .ok (.aload_n 0, 1) := by decide +kernel
theorem dX7_init_136 : decode cX7_init 136 = .ok (.aload_n 1, 1) := by decide +kernel
theorem dX7_init_137 : decode cX7_init 137 = .ok (.putfield 47, 3) := by decide +kernel
theorem dX7_init_140 : decode cX7_init 140 = .ok (.return_, 1) := by decide +kernel
theorem dX7_begin_0 : decode cX7_begin 0 = .ok (.aload_n 0, 1) := by decide +kernel
theorem dX7_begin_1 : decode cX7_begin 1 = .ok (.aload_n 1, 1) := by decide +kernel
theorem dX7_begin_2 : decode cX7_begin 2 = .ok (.putfield 47, 3) := by decide +kernel
theorem dX7_begin_5 : decode cX7_begin 5 = .ok (.iconst 0, 1) := by decide +kernel
theorem dX7_begin_6 : decode cX7_begin 6 = .ok (.istore_n 2, 1) := by decide +kernel
theorem dX7_begin_7 : decode cX7_begin 7 = .ok (.iload_n 2, 1) := by decide +kernel
theorem dX7_begin_8 : decode cX7_begin 8 = .ok (.bipush 8, 2) := by decide +kernel
theorem dX7_begin_10 : decode cX7_begin 10 = .ok (.if_icmp .ge 23, 3) := by decide +kernel
theorem dX7_begin_13 : decode cX7_begin 13 = .ok (.aload_n 0, 1) := by decide +kernel
theorem dX7_begin_14 : decode cX7_begin 14 = .ok (.getfield 9, 3) := by decide +kernel
theorem dX7_begin_17 : decode cX7_begin 17 = .ok (.iload_n 2, 1) := by decide +kernel
theorem dX7_begin_18 : decode cX7_begin 18 = .ok (.iconst 0, 1) := by decide +kernel
theorem dX7_begin_19 : decode cX7_begin 19 = .ok (.iastore, 1) := by decide +kernel
theorem dX7_begin_20 : decode cX7_begin 20 = .ok (.aload_n 0, 1) := by decide +kernel
theorem dX7_begin_21 : decode cX7_begin 21 = .ok (.getfield 32, 3) := by decide +kernel
theorem dX7_begin_24 : decode cX7_begin 24 = .ok (.iload_n 2, 1) := by decide +kernel
theorem dX7_begin_25 : decode cX7_begin 25 = .ok (.iconst 0, 1) := by decide +kernel
theorem dX7_begin_26 : decode cX7_begin 26 = .ok (.iastore, 1) := by decide +kernel
theorem dX7_begin_27 : decode cX7_begin 27 = .ok (.iinc 2 1, 3) := by decide +kernel
theorem dX7_begin_30 : decode cX7_begin 30 = .ok (.goto (-23), 3) := by decide +kernel
theorem dX7_begin_33 : decode cX7_begin 33 = .ok (.return_, 1) := by decide +kernel
theorem dX7_want_0 : decode cX7_want 0 = .ok (.iload_n 1, 1) := by decide +kernel
theorem dX7_want_1 : decode cX7_want 1 = .ok (.ifCond .lt 37, 3) := by decide +kernel
theorem dX7_want_4 : decode cX7_want 4 = .ok (.iload_n 3, 1) := by decide +kernel
theorem dX7_want_5 : decode cX7_want 5 = .ok (.ifCond .lt 33, 3) := by decide +kernel
theorem dX7_want_8 : decode cX7_want 8 = .ok (.iload_n 1, 1) := by decide +kernel
theorem dX7_want_9 : decode cX7_want 9 = .ok (.iload_n 3, 1) := by decide +kernel
theorem dX7_want_10 : decode cX7_want 10 = .ok (.isub, 1) := by decide +kernel
theorem dX7_want_11 : decode cX7_want 11 = .ok (.invokestatic 51, 3) := by decide +kernel
theorem dX7_want_14 : decode cX7_want 14 = .ok (.iconst 2, 1) := by decide +kernel
theorem dX7_want_15 : decode cX7_want 15 = .ok (.if_icmp .ne 23, 3) := by decide +kernel
theorem dX7_want_18 : decode cX7_want 18 = .ok (.aload_n 0, 1) := by decide +kernel
theorem dX7_want_19 : decode cX7_want 19 = .ok (.iload_n 2, 1) := by decide +kernel
theorem dX7_want_20 : decode cX7_want 20 = .ok (.iload_n 1, 1) := by decide +kernel
theorem dX7_want_21 : decode cX7_want 21 = .ok (.iload_n 3, 1) := by decide +kernel
theorem dX7_want_22 : decode cX7_want 22 = .ok (.if_icmp .le 7, 3) := by decide +kernel
theorem dX7_want_25 : decode cX7_want 25 = .ok (.iconst 1, 1) := by decide +kernel
theorem dX7_want_26 : decode cX7_want 26 = .ok (.goto 4, 3) := by decide +kernel
theorem dX7_want_29 : decode cX7_want 29 = .ok (.iconst 0, 1) := by decide +kernel
theorem dX7_want_30 : decode cX7_want 30 = .ok (.iload 4, 2) := by decide +kernel
theorem dX7_want_32 : decode cX7_want 32 = .ok (.invokevirtual 57, 3) := by decide +kernel
theorem dX7_want_35 : decode cX7_want 35 = .ok (.goto 12, 3) := by decide +kernel
theorem dX7_want_38 : decode cX7_want 38 = .ok (.aload_n 0, 1) := by decide +kernel
theorem dX7_want_39 : decode cX7_want 39 = .ok (.iload_n 1, 1) := by decide +kernel
theorem dX7_want_40 : decode cX7_want 40 = .ok (.iload_n 2, 1) := by decide +kernel
theorem dX7_want_41 : decode cX7_want 41 = .ok (.iload_n 3, 1) := by decide +kernel
theorem dX7_want_42 : decode cX7_want 42 = .ok (.iload 4, 2) := by decide +kernel
theorem dX7_want_44 : decode cX7_want 44 = .ok (.invokevirtual 61, 3) := by decide +kernel
theorem dX7_want_47 : decode cX7_want 47 = .ok (.return_, 1) := by decide +kernel
theorem dX7_wantSpan_0 : decode cX7_wantSpan 0 = .ok (.iconst 0, 1) := by decide +kernel
theorem dX7_wantSpan_1 : decode cX7_wantSpan 1 = .ok (.istore 4, 2) := by decide +kernel
theorem dX7_wantSpan_3 : decode cX7_wantSpan 3 = .ok (.iload 4, 2) := by decide +kernel
theorem dX7_wantSpan_5 : decode cX7_wantSpan 5 = .ok (.aload_n 0, 1) := by decide +kernel
theorem dX7_wantSpan_6 : decode cX7_wantSpan 6 = .ok (.getfield 32, 3) := by decide +kernel
theorem dX7_wantSpan_9 : decode cX7_wantSpan 9 = .ok (.iload_n 1, 1) := by decide +kernel
theorem dX7_wantSpan_10 : decode cX7_wantSpan 10 = .ok (.iaload, 1) := by decide +kernel
theorem dX7_wantSpan_11 : decode cX7_wantSpan 11 = .ok (.if_icmp .ge 49, 3) := by decide +kernel
theorem dX7_wantSpan_14 : decode cX7_wantSpan 14 = .ok (.aload_n 0, 1) := by decide +kernel
theorem dX7_wantSpan_15 : decode cX7_wantSpan 15 = .ok (.getfield 35, 3) := by decide +kernel
theorem dX7_wantSpan_18 : decode cX7_wantSpan 18 = .ok (.iload_n 1, 1) := by decide +kernel
theorem dX7_wantSpan_19 : decode cX7_wantSpan 19 = .ok (.aaload, 1) := by decide +kernel
theorem dX7_wantSpan_20 : decode cX7_wantSpan 20 = .ok (.iload 4, 2) := by decide +kernel
theorem dX7_wantSpan_22 : decode cX7_wantSpan 22 = .ok (.iaload, 1) := by decide +kernel
theorem dX7_wantSpan_23 : decode cX7_wantSpan 23 = .ok (.iload_n 2, 1) := by decide +kernel
theorem dX7_wantSpan_24 : decode cX7_wantSpan 24 = .ok (.if_icmp .ne 30, 3) := by decide +kernel
theorem dX7_wantSpan_27 : decode cX7_wantSpan 27 = .ok (.aload_n 0, 1) := by decide +kernel
theorem dX7_wantSpan_28 : decode cX7_wantSpan 28 = .ok (.getfield 38, 3) := by decide +kernel
theorem dX7_wantSpan_31 : decode cX7_wantSpan 31 = .ok (.iload_n 1, 1) := by decide +kernel
theorem dX7_wantSpan_32 : decode cX7_wantSpan 32 = .ok (.aaload, 1) := by decide +kernel
theorem dX7_wantSpan_33 : decode cX7_wantSpan 33 = .ok (.iload 4, 2) := by decide +kernel
theorem dX7_wantSpan_35 : decode cX7_wantSpan 35 = .ok (.iaload, 1) := by decide +kernel
theorem dX7_wantSpan_36 : decode cX7_wantSpan 36 = .ok (.iload_n 3, 1) := by decide +kernel
theorem dX7_wantSpan_37 : decode cX7_wantSpan 37 = .ok (.if_icmp .ne 17, 3) := by decide +kernel
theorem dX7_wantSpan_40 : decode cX7_wantSpan 40 = .ok (.aload_n 0, 1) := by decide +kernel
theorem dX7_wantSpan_41 : decode cX7_wantSpan 41 = .ok (.getfield 41, 3) := by decide +kernel
theorem dX7_wantSpan_44 : decode cX7_wantSpan 44 = .ok (.iload_n 1, 1) := by decide +kernel
theorem dX7_wantSpan_45 : decode cX7_wantSpan 45 = .ok (.aaload, 1) := by decide +kernel
theorem dX7_wantSpan_46 : decode cX7_wantSpan 46 = .ok (.iload 4, 2) := by decide +kernel
theorem dX7_wantSpan_48 : decode cX7_wantSpan 48 = .ok (.dup2, 1) := by decide +kernel
theorem dX7_wantSpan_49 : decode cX7_wantSpan 49 = .ok (.iaload, 1) := by decide +kernel
theorem dX7_wantSpan_50 : decode cX7_wantSpan 50 = .ok (.iconst 1, 1) := by decide +kernel
theorem dX7_wantSpan_51 : decode cX7_wantSpan 51 = .ok (.iadd, 1) := by decide +kernel
theorem dX7_wantSpan_52 : decode cX7_wantSpan 52 = .ok (.iastore, 1) := by decide +kernel
theorem dX7_wantSpan_53 : decode cX7_wantSpan 53 = .ok (.return_, 1) := by decide +kernel
theorem dX7_wantSpan_54 : decode cX7_wantSpan 54 = .ok (.iinc 4 1, 3) := by decide +kernel
theorem dX7_wantSpan_57 : decode cX7_wantSpan 57 = .ok (.goto (-54), 3) := by decide +kernel
theorem dX7_wantSpan_60 : decode cX7_wantSpan 60 = .ok (.aload_n 0, 1) := by decide +kernel
theorem dX7_wantSpan_61 : decode cX7_wantSpan 61 = .ok (.getfield 32, 3) := by decide +kernel
theorem dX7_wantSpan_64 : decode cX7_wantSpan 64 = .ok (.iload_n 1, 1) := by decide +kernel
theorem dX7_wantSpan_65 : decode cX7_wantSpan 65 = .ok (.iaload, 1) := by decide +kernel
theorem dX7_wantSpan_66 : decode cX7_wantSpan 66 = .ok (.iconst 3, 1) := by decide +kernel
theorem dX7_wantSpan_67 : decode cX7_wantSpan 67 = .ok (.if_icmp .ge 51, 3) := by decide +kernel
theorem dX7_wantSpan_70 : decode cX7_wantSpan 70 = .ok (.aload_n 0, 1) := by decide +kernel
theorem dX7_wantSpan_71 : decode cX7_wantSpan 71 = .ok (.getfield 32, 3) := by decide +kernel
theorem dX7_wantSpan_74 : decode cX7_wantSpan 74 = .ok (.iload_n 1, 1) := by decide +kernel
theorem dX7_wantSpan_75 : decode cX7_wantSpan 75 = .ok (.iaload, 1) := by decide +kernel
theorem dX7_wantSpan_76 : decode cX7_wantSpan 76 = .ok (.istore 4, 2) := by decide +kernel
theorem dX7_wantSpan_78 : decode cX7_wantSpan 78 = .ok (.aload_n 0, 1) := by decide +kernel
theorem dX7_wantSpan_79 : decode cX7_wantSpan 79 = .ok (.getfield 35, 3) := by decide +kernel
theorem dX7_wantSpan_82 : decode cX7_wantSpan 82 = .ok (.iload_n 1, 1) := by decide +kernel
theorem dX7_wantSpan_83 : decode cX7_wantSpan 83 = .ok (.aaload, 1) := by decide +kernel
theorem dX7_wantSpan_84 : decode cX7_wantSpan 84 = .ok (.iload 4, 2) := by decide +kernel
theorem dX7_wantSpan_86 : decode cX7_wantSpan 86 = .ok (.iload_n 2, 1) := by decide +kernel
theorem dX7_wantSpan_87 : decode cX7_wantSpan 87 = .ok (.iastore, 1) := by decide +kernel
theorem dX7_wantSpan_88 : decode cX7_wantSpan 88 = .ok (.aload_n 0, 1) := by decide +kernel
theorem dX7_wantSpan_89 : decode cX7_wantSpan 89 = .ok (.getfield 38, 3) := by decide +kernel
theorem dX7_wantSpan_92 : decode cX7_wantSpan 92 = .ok (.iload_n 1, 1) := by decide +kernel
theorem dX7_wantSpan_93 : decode cX7_wantSpan 93 = .ok (.aaload, 1) := by decide +kernel
theorem dX7_wantSpan_94 : decode cX7_wantSpan 94 = .ok (.iload 4, 2) := by decide +kernel
theorem dX7_wantSpan_96 : decode cX7_wantSpan 96 = .ok (.iload_n 3, 1) := by decide +kernel
theorem dX7_wantSpan_97 : decode cX7_wantSpan 97 = .ok (.iastore, 1) := by decide +kernel
theorem dX7_wantSpan_98 : decode cX7_wantSpan 98 = .ok (.aload_n 0, 1) := by decide +kernel
theorem dX7_wantSpan_99 : decode cX7_wantSpan 99 = .ok (.getfield 41, 3) := by decide +kernel
theorem dX7_wantSpan_102 : decode cX7_wantSpan 102 = .ok (.iload_n 1, 1) := by decide +kernel
theorem dX7_wantSpan_103 : decode cX7_wantSpan 103 = .ok (.aaload, 1) := by decide +kernel
theorem dX7_wantSpan_104 : decode cX7_wantSpan 104 = .ok (.iload 4, 2) := by decide +kernel
theorem dX7_wantSpan_106 : decode cX7_wantSpan 106 = .ok (.iconst 1, 1) := by decide +kernel
theorem dX7_wantSpan_107 : decode cX7_wantSpan 107 = .ok (.iastore, 1) := by decide +kernel
theorem dX7_wantSpan_108 : decode cX7_wantSpan 108 = .ok (.aload_n 0, 1) := by decide +kernel
theorem dX7_wantSpan_109 : decode cX7_wantSpan 109 = .ok (.getfield 32, 3) := by decide +kernel
theorem dX7_wantSpan_112 : decode cX7_wantSpan 112 = .ok (.iload_n 1, 1) := by decide +kernel
theorem dX7_wantSpan_113 : decode cX7_wantSpan 113 = .ok (.dup2, 1) := by decide +kernel
theorem dX7_wantSpan_114 : decode cX7_wantSpan 114 = .ok (.iaload, 1) := by decide +kernel
theorem dX7_wantSpan_115 : decode cX7_wantSpan 115 = .ok (.iconst 1, 1) := by decide +kernel
theorem dX7_wantSpan_116 : decode cX7_wantSpan 116 = .ok (.iadd, 1) := by decide +kernel
theorem dX7_wantSpan_117 : decode cX7_wantSpan 117 = .ok (.iastore, 1) := by decide +kernel
theorem dX7_wantSpan_118 : decode cX7_wantSpan 118 = .ok (.return_, 1) := by decide +kernel
theorem dX7_wantTie_0 : decode cX7_wantTie 0 = .ok (.iload_n 2, 1) := by decide +kernel
theorem dX7_wantTie_1 : decode cX7_wantTie 1 = .ok (.iload_n 1, 1) := by decide +kernel
theorem dX7_wantTie_2 : decode cX7_wantTie 2 = .ok (.iload_n 3, 1) := by decide +kernel
theorem dX7_wantTie_3 : decode cX7_wantTie 3 = .ok (.invokestatic 65, 3) := by decide +kernel
theorem dX7_wantTie_6 : decode cX7_wantTie 6 = .ok (.invokestatic 65, 3) := by decide +kernel
theorem dX7_wantTie_9 : decode cX7_wantTie 9 = .ok (.istore 5, 2) := by decide +kernel
theorem dX7_wantTie_11 : decode cX7_wantTie 11 = .ok (.iload_n 1, 1) := by decide +kernel
theorem dX7_wantTie_12 : decode cX7_wantTie 12 = .ok (.iload 5, 2) := by decide +kernel
theorem dX7_wantTie_14 : decode cX7_wantTie 14 = .ok (.invokestatic 69, 3) := by decide +kernel
theorem dX7_wantTie_17 : decode cX7_wantTie 17 = .ok (.istore 6, 2) := by decide +kernel
theorem dX7_wantTie_19 : decode cX7_wantTie 19 = .ok (.iload_n 2, 1) := by decide +kernel
theorem dX7_wantTie_20 : decode cX7_wantTie 20 = .ok (.iload 5, 2) := by decide +kernel
theorem dX7_wantTie_22 : decode cX7_wantTie 22 = .ok (.invokestatic 69, 3) := by decide +kernel
theorem dX7_wantTie_25 : decode cX7_wantTie 25 = .ok (.istore 7, 2) := by decide +kernel
theorem dX7_wantTie_27 : decode cX7_wantTie 27 = .ok (.iload_n 3, 1) := by decide +kernel
theorem dX7_wantTie_28 : decode cX7_wantTie 28 = .ok (.iload 5, 2) := by decide +kernel
theorem dX7_wantTie_30 : decode cX7_wantTie 30 = .ok (.invokestatic 69, 3) := by decide +kernel
theorem dX7_wantTie_33 : decode cX7_wantTie 33 = .ok (.istore 8, 2) := by decide +kernel
theorem dX7_wantTie_35 : decode cX7_wantTie 35 = .ok (.iconst 0, 1) := by decide +kernel
theorem dX7_wantTie_36 : decode cX7_wantTie 36 = .ok (.istore 9, 2) := by decide +kernel
theorem dX7_wantTie_38 : decode cX7_wantTie 38 = .ok (.iload 9, 2) := by decide +kernel
theorem dX7_wantTie_40 : decode cX7_wantTie 40 = .ok (.aload_n 0, 1) := by decide +kernel
theorem dX7_wantTie_41 : decode cX7_wantTie 41 = .ok (.getfield 9, 3) := by decide +kernel
theorem dX7_wantTie_44 : decode cX7_wantTie 44 = .ok (.iload 5, 2) := by decide +kernel
theorem dX7_wantTie_46 : decode cX7_wantTie 46 = .ok (.iaload, 1) := by decide +kernel
theorem dX7_wantTie_47 : decode cX7_wantTie 47 = .ok (.if_icmp .ge 84, 3) := by decide +kernel
theorem dX7_wantTie_50 : decode cX7_wantTie 50 = .ok (.aload_n 0, 1) := by decide +kernel
theorem dX7_wantTie_51 : decode cX7_wantTie 51 = .ok (.getfield 17, 3) := by decide +kernel
theorem dX7_wantTie_54 : decode cX7_wantTie 54 = .ok (.iload 5, 2) := by decide +kernel
theorem dX7_wantTie_56 : decode cX7_wantTie 56 = .ok (.aaload, 1) := by decide +kernel
theorem dX7_wantTie_57 : decode cX7_wantTie 57 = .ok (.iload 9, 2) := by decide +kernel
theorem dX7_wantTie_59 : decode cX7_wantTie 59 = .ok (.iaload, 1) := by decide +kernel
theorem dX7_wantTie_60 : decode cX7_wantTie 60 = .ok (.iload 6, 2) := by decide +kernel
theorem dX7_wantTie_62 : decode cX7_wantTie 62 = .ok (.if_icmp .ne 63, 3) := by decide +kernel
theorem dX7_wantTie_65 : decode cX7_wantTie 65 = .ok (.aload_n 0, 1) := by decide +kernel
theorem dX7_wantTie_66 : decode cX7_wantTie 66 = .ok (.getfield 20, 3) := by decide +kernel
theorem dX7_wantTie_69 : decode cX7_wantTie 69 = .ok (.iload 5, 2) := by decide +kernel
theorem dX7_wantTie_71 : decode cX7_wantTie 71 = .ok (.aaload, 1) := by decide +kernel
theorem dX7_wantTie_72 : decode cX7_wantTie 72 = .ok (.iload 9, 2) := by decide +kernel
theorem dX7_wantTie_74 : decode cX7_wantTie 74 = .ok (.iaload, 1) := by decide +kernel
theorem dX7_wantTie_75 : decode cX7_wantTie 75 = .ok (.iload 7, 2) := by decide +kernel
theorem dX7_wantTie_77 : decode cX7_wantTie 77 = .ok (.if_icmp .ne 48, 3) := by decide +kernel
theorem dX7_wantTie_80 : decode cX7_wantTie 80 = .ok (.aload_n 0, 1) := by decide +kernel
theorem dX7_wantTie_81 : decode cX7_wantTie 81 = .ok (.getfield 23, 3) := by decide +kernel
theorem dX7_wantTie_84 : decode cX7_wantTie 84 = .ok (.iload 5, 2) := by decide +kernel
theorem dX7_wantTie_86 : decode cX7_wantTie 86 = .ok (.aaload, 1) := by decide +kernel
theorem dX7_wantTie_87 : decode cX7_wantTie 87 = .ok (.iload 9, 2) := by decide +kernel
theorem dX7_wantTie_89 : decode cX7_wantTie 89 = .ok (.iaload, 1) := by decide +kernel
theorem dX7_wantTie_90 : decode cX7_wantTie 90 = .ok (.iload 8, 2) := by decide +kernel
theorem dX7_wantTie_92 : decode cX7_wantTie 92 = .ok (.if_icmp .ne 33, 3) := by decide +kernel
theorem dX7_wantTie_95 : decode cX7_wantTie 95 = .ok (.aload_n 0, 1) := by decide +kernel
theorem dX7_wantTie_96 : decode cX7_wantTie 96 = .ok (.getfield 26, 3) := by decide +kernel
theorem dX7_wantTie_99 : decode cX7_wantTie 99 = .ok (.iload 5, 2) := by decide +kernel
theorem dX7_wantTie_101 : decode cX7_wantTie 101 = .ok (.aaload, 1) := by decide +kernel
theorem dX7_wantTie_102 : decode cX7_wantTie 102 = .ok (.iload 9, 2) := by decide +kernel
theorem dX7_wantTie_104 : decode cX7_wantTie 104 = .ok (.iaload, 1) := by decide +kernel
theorem dX7_wantTie_105 : decode cX7_wantTie 105 = .ok (.iload 4, 2) := by decide +kernel
theorem dX7_wantTie_107 : decode cX7_wantTie 107 = .ok (.if_icmp .ne 18, 3) := by decide +kernel
theorem dX7_wantTie_110 : decode cX7_wantTie 110 = .ok (.aload_n 0, 1) := by decide +kernel
theorem dX7_wantTie_111 : decode cX7_wantTie 111 = .ok (.getfield 29, 3) := by decide +kernel
theorem dX7_wantTie_114 : decode cX7_wantTie 114 = .ok (.iload 5, 2) := by decide +kernel
theorem dX7_wantTie_116 : decode cX7_wantTie 116 = .ok (.aaload, 1) := by decide +kernel
theorem dX7_wantTie_117 : decode cX7_wantTie 117 = .ok (.iload 9, 2) := by decide +kernel
theorem dX7_wantTie_119 : decode cX7_wantTie 119 = .ok (.dup2, 1) := by decide +kernel
theorem dX7_wantTie_120 : decode cX7_wantTie 120 = .ok (.iaload, 1) := by decide +kernel
theorem dX7_wantTie_121 : decode cX7_wantTie 121 = .ok (.iconst 1, 1) := by decide +kernel
theorem dX7_wantTie_122 : decode cX7_wantTie 122 = .ok (.iadd, 1) := by decide +kernel
theorem dX7_wantTie_123 : decode cX7_wantTie 123 = .ok (.iastore, 1) := by decide +kernel
theorem dX7_wantTie_124 : decode cX7_wantTie 124 = .ok (.return_, 1) := by decide +kernel
theorem dX7_wantTie_125 : decode cX7_wantTie 125 = .ok (.iinc 9 1, 3) := by decide +kernel
theorem dX7_wantTie_128 : decode cX7_wantTie 128 = .ok (.goto (-90), 3) := by decide +kernel
theorem dX7_wantTie_131 : decode cX7_wantTie 131 = .ok (.aload_n 0, 1) := by decide +kernel
theorem dX7_wantTie_132 : decode cX7_wantTie 132 = .ok (.getfield 9, 3) := by decide +kernel
theorem dX7_wantTie_135 : decode cX7_wantTie 135 = .ok (.iload 5, 2) := by decide +kernel
theorem dX7_wantTie_137 : decode cX7_wantTie 137 = .ok (.iaload, 1) := by decide +kernel
theorem dX7_wantTie_138 : decode cX7_wantTie 138 = .ok (.bipush 16, 2) := by decide +kernel
theorem dX7_wantTie_140 : decode cX7_wantTie 140 = .ok (.if_icmp .ge 82, 3) := by decide +kernel
theorem dX7_wantTie_143 : decode cX7_wantTie 143 = .ok (.aload_n 0, 1) := by decide +kernel
theorem dX7_wantTie_144 : decode cX7_wantTie 144 = .ok (.getfield 9, 3) := by decide +kernel
theorem dX7_wantTie_147 : decode cX7_wantTie 147 = .ok (.iload 5, 2) := by decide +kernel
theorem dX7_wantTie_149 : decode cX7_wantTie 149 = .ok (.iaload, 1) := by decide +kernel
theorem dX7_wantTie_150 : decode cX7_wantTie 150 = .ok (.istore 9, 2) := by decide +kernel
theorem dX7_wantTie_152 : decode cX7_wantTie 152 = .ok (.aload_n 0, 1) := by decide +kernel
theorem dX7_wantTie_153 : decode cX7_wantTie 153 = .ok (.getfield 17, 3) := by decide +kernel
theorem dX7_wantTie_156 : decode cX7_wantTie 156 = .ok (.iload 5, 2) := by decide +kernel
theorem dX7_wantTie_158 : decode cX7_wantTie 158 = .ok (.aaload, 1) := by decide +kernel
theorem dX7_wantTie_159 : decode cX7_wantTie 159 = .ok (.iload 9, 2) := by decide +kernel
theorem dX7_wantTie_161 : decode cX7_wantTie 161 = .ok (.iload 6, 2) := by decide +kernel
theorem dX7_wantTie_163 : decode cX7_wantTie 163 = .ok (.iastore, 1) := by decide +kernel
theorem dX7_wantTie_164 : decode cX7_wantTie 164 = .ok (.aload_n 0, 1) := by decide +kernel
theorem dX7_wantTie_165 : decode cX7_wantTie 165 = .ok (.getfield 20, 3) := by decide +kernel
theorem dX7_wantTie_168 : decode cX7_wantTie 168 = .ok (.iload 5, 2) := by decide +kernel
theorem dX7_wantTie_170 : decode cX7_wantTie 170 = .ok (.aaload, 1) := by decide +kernel
theorem dX7_wantTie_171 : decode cX7_wantTie 171 = .ok (.iload 9, 2) := by decide +kernel
theorem dX7_wantTie_173 : decode cX7_wantTie 173 = .ok (.iload 7, 2) := by decide +kernel
theorem dX7_wantTie_175 : decode cX7_wantTie 175 = .ok (.iastore, 1) := by decide +kernel
theorem dX7_wantTie_176 : decode cX7_wantTie 176 = .ok (.aload_n 0, 1) := by decide +kernel
theorem dX7_wantTie_177 : decode cX7_wantTie 177 = .ok (.getfield 23, 3) := by decide +kernel
theorem dX7_wantTie_180 : decode cX7_wantTie 180 = .ok (.iload 5, 2) := by decide +kernel
theorem dX7_wantTie_182 : decode cX7_wantTie 182 = .ok (.aaload, 1) := by decide +kernel
theorem dX7_wantTie_183 : decode cX7_wantTie 183 = .ok (.iload 9, 2) := by decide +kernel
theorem dX7_wantTie_185 : decode cX7_wantTie 185 = .ok (.iload 8, 2) := by decide +kernel
theorem dX7_wantTie_187 : decode cX7_wantTie 187 = .ok (.iastore, 1) := by decide +kernel
theorem dX7_wantTie_188 : decode cX7_wantTie 188 = .ok (.aload_n 0, 1) := by decide +kernel
theorem dX7_wantTie_189 : decode cX7_wantTie 189 = .ok (.getfield 26, 3) := by decide +kernel
theorem dX7_wantTie_192 : decode cX7_wantTie 192 = .ok (.iload 5, 2) := by decide +kernel
theorem dX7_wantTie_194 : decode cX7_wantTie 194 = .ok (.aaload, 1) := by decide +kernel
theorem dX7_wantTie_195 : decode cX7_wantTie 195 = .ok (.iload 9, 2) := by decide +kernel
theorem dX7_wantTie_197 : decode cX7_wantTie 197 = .ok (.iload 4, 2) := by decide +kernel
theorem dX7_wantTie_199 : decode cX7_wantTie 199 = .ok (.iastore, 1) := by decide +kernel
theorem dX7_wantTie_200 : decode cX7_wantTie 200 = .ok (.aload_n 0, 1) := by decide +kernel
theorem dX7_wantTie_201 : decode cX7_wantTie 201 = .ok (.getfield 29, 3) := by decide +kernel
theorem dX7_wantTie_204 : decode cX7_wantTie 204 = .ok (.iload 5, 2) := by decide +kernel
theorem dX7_wantTie_206 : decode cX7_wantTie 206 = .ok (.aaload, 1) := by decide +kernel
theorem dX7_wantTie_207 : decode cX7_wantTie 207 = .ok (.iload 9, 2) := by decide +kernel
theorem dX7_wantTie_209 : decode cX7_wantTie 209 = .ok (.iconst 1, 1) := by decide +kernel
theorem dX7_wantTie_210 : decode cX7_wantTie 210 = .ok (.iastore, 1) := by decide +kernel
theorem dX7_wantTie_211 : decode cX7_wantTie 211 = .ok (.aload_n 0, 1) := by decide +kernel
theorem dX7_wantTie_212 : decode cX7_wantTie 212 = .ok (.getfield 9, 3) := by decide +kernel
theorem dX7_wantTie_215 : decode cX7_wantTie 215 = .ok (.iload 5, 2) := by decide +kernel
theorem dX7_wantTie_217 : decode cX7_wantTie 217 = .ok (.dup2, 1) := by decide +kernel
theorem dX7_wantTie_218 : decode cX7_wantTie 218 = .ok (.iaload, 1) := by decide +kernel
theorem dX7_wantTie_219 : decode cX7_wantTie 219 = .ok (.iconst 1, 1) := by decide +kernel
theorem dX7_wantTie_220 : decode cX7_wantTie 220 = .ok (.iadd, 1) := by decide +kernel
theorem dX7_wantTie_221 : decode cX7_wantTie 221 = .ok (.iastore, 1) := by decide +kernel
theorem dX7_wantTie_222 : decode cX7_wantTie 222 = .ok (.return_, 1) := by decide +kernel
theorem dX7_seatOf_0 : decode cX7_seatOf 0 = .ok (.iload_n 0, 1) := by decide +kernel
theorem dX7_seatOf_1 : decode cX7_seatOf 1 = .ok (.ifCond .ge 5, 3) := by decide +kernel
theorem dX7_seatOf_4 : decode cX7_seatOf 4 = .ok (.iconst 0, 1) := by decide +kernel
theorem dX7_seatOf_5 : decode cX7_seatOf 5 = .ok (.ireturn, 1) := by decide +kernel
theorem dX7_seatOf_6 : decode cX7_seatOf 6 = .ok (.iload_n 0, 1) := by decide +kernel
theorem dX7_seatOf_7 : decode cX7_seatOf 7 = .ok (.iload_n 1, 1) := by decide +kernel
theorem dX7_seatOf_8 : decode cX7_seatOf 8 = .ok (.if_icmp .ne 7, 3) := by decide +kernel
theorem dX7_seatOf_11 : decode cX7_seatOf 11 = .ok (.iconst 2, 1) := by decide +kernel
theorem dX7_seatOf_12 : decode cX7_seatOf 12 = .ok (.goto 4, 3) := by decide +kernel
theorem dX7_seatOf_15 : decode cX7_seatOf 15 = .ok (.iconst 1, 1) := by decide +kernel
theorem dX7_seatOf_16 : decode cX7_seatOf 16 = .ok (.ireturn, 1) := by decide +kernel
theorem dX7_unlikeTies_0 : decode cX7_unlikeTies 0 = .ok (.aload_n 0, 1) := by decide +kernel
theorem dX7_unlikeTies_1 : decode cX7_unlikeTies 1 = .ok (.getfield 44, 3) := by decide +kernel
theorem dX7_unlikeTies_4 : decode cX7_unlikeTies 4 = .ok (.iconst 1, 1) := by decide +kernel
theorem dX7_unlikeTies_5 : decode cX7_unlikeTies 5 = .ok (.iload_n 2, 1) := by decide +kernel
theorem dX7_unlikeTies_6 : decode cX7_unlikeTies 6 = .ok (.iastore, 1) := by decide +kernel
theorem dX7_unlikeTies_7 : decode cX7_unlikeTies 7 = .ok (.aload_n 0, 1) := by decide +kernel
theorem dX7_unlikeTies_8 : decode cX7_unlikeTies 8 = .ok (.getfield 44, 3) := by decide +kernel
theorem dX7_unlikeTies_11 : decode cX7_unlikeTies 11 = .ok (.iconst 2, 1) := by decide +kernel
theorem dX7_unlikeTies_12 : decode cX7_unlikeTies 12 = .ok (.iload_n 3, 1) := by decide +kernel
theorem dX7_unlikeTies_13 : decode cX7_unlikeTies 13 = .ok (.iastore, 1) := by decide +kernel
theorem dX7_unlikeTies_14 : decode cX7_unlikeTies 14 = .ok (.iconst 0, 1) := by decide +kernel
theorem dX7_unlikeTies_15 : decode cX7_unlikeTies 15 = .ok (.istore 4, 2) := by decide +kernel
theorem dX7_unlikeTies_17 : decode cX7_unlikeTies 17 = .ok (.iconst 0, 1) := by decide +kernel
theorem dX7_unlikeTies_18 : decode cX7_unlikeTies 18 = .ok (.istore 5, 2) := by decide +kernel
theorem dX7_unlikeTies_20 : decode cX7_unlikeTies 20 = .ok (.iload 5, 2) := by decide +kernel
theorem dX7_unlikeTies_22 : decode cX7_unlikeTies 22 = .ok (.aload_n 0, 1) := by decide +kernel
theorem dX7_unlikeTies_23 : decode cX7_unlikeTies 23 = .ok (.getfield 9, 3) := by decide +kernel
theorem dX7_unlikeTies_26 : decode cX7_unlikeTies 26 = .ok (.iload_n 1, 1) := by decide +kernel
theorem dX7_unlikeTies_27 : decode cX7_unlikeTies 27 = .ok (.iaload, 1) := by decide +kernel
theorem dX7_unlikeTies_28 : decode cX7_unlikeTies 28 = .ok (.if_icmp .ge 92, 3) := by decide +kernel
theorem dX7_unlikeTies_31 : decode cX7_unlikeTies 31 = .ok (.aload_n 0, 1) := by decide +kernel
theorem dX7_unlikeTies_32 : decode cX7_unlikeTies 32 = .ok (.getfield 47, 3) := by decide +kernel
theorem dX7_unlikeTies_35 : decode cX7_unlikeTies 35 = .ok (.aload_n 0, 1) := by decide +kernel
theorem dX7_unlikeTies_36 : decode cX7_unlikeTies 36 = .ok (.getfield 44, 3) := by decide +kernel
theorem dX7_unlikeTies_39 : decode cX7_unlikeTies 39 = .ok (.aload_n 0, 1) := by decide +kernel
theorem dX7_unlikeTies_40 : decode cX7_unlikeTies 40 = .ok (.getfield 17, 3) := by decide +kernel
theorem dX7_unlikeTies_43 : decode cX7_unlikeTies 43 = .ok (.iload_n 1, 1) := by decide +kernel
theorem dX7_unlikeTies_44 : decode cX7_unlikeTies 44 = .ok (.aaload, 1) := by decide +kernel
theorem dX7_unlikeTies_45 : decode cX7_unlikeTies 45 = .ok (.iload 5, 2) := by decide +kernel
theorem dX7_unlikeTies_47 : decode cX7_unlikeTies 47 = .ok (.iaload, 1) := by decide +kernel
theorem dX7_unlikeTies_48 : decode cX7_unlikeTies 48 = .ok (.iaload, 1) := by decide +kernel
theorem dX7_unlikeTies_49 : decode cX7_unlikeTies 49 = .ok (.aload_n 0, 1) := by decide +kernel
theorem dX7_unlikeTies_50 : decode cX7_unlikeTies 50 = .ok (.getfield 44, 3) := by decide +kernel
theorem dX7_unlikeTies_53 : decode cX7_unlikeTies 53 = .ok (.aload_n 0, 1) := by decide +kernel
theorem dX7_unlikeTies_54 : decode cX7_unlikeTies 54 = .ok (.getfield 20, 3) := by decide +kernel
theorem dX7_unlikeTies_57 : decode cX7_unlikeTies 57 = .ok (.iload_n 1, 1) := by decide +kernel
theorem dX7_unlikeTies_58 : decode cX7_unlikeTies 58 = .ok (.aaload, 1) := by decide +kernel
theorem dX7_unlikeTies_59 : decode cX7_unlikeTies 59 = .ok (.iload 5, 2) := by decide +kernel
theorem dX7_unlikeTies_61 : decode cX7_unlikeTies 61 = .ok (.iaload, 1) := by decide +kernel
theorem dX7_unlikeTies_62 : decode cX7_unlikeTies 62 = .ok (.iaload, 1) := by decide +kernel
theorem dX7_unlikeTies_63 : decode cX7_unlikeTies 63 = .ok (.aload_n 0, 1) := by decide +kernel
theorem dX7_unlikeTies_64 : decode cX7_unlikeTies 64 = .ok (.getfield 44, 3) := by decide +kernel
theorem dX7_unlikeTies_67 : decode cX7_unlikeTies 67 = .ok (.aload_n 0, 1) := by decide +kernel
theorem dX7_unlikeTies_68 : decode cX7_unlikeTies 68 = .ok (.getfield 23, 3) := by decide +kernel
theorem dX7_unlikeTies_71 : decode cX7_unlikeTies 71 = .ok (.iload_n 1, 1) := by decide +kernel
theorem dX7_unlikeTies_72 : decode cX7_unlikeTies 72 = .ok (.aaload, 1) := by decide +kernel
theorem dX7_unlikeTies_73 : decode cX7_unlikeTies 73 = .ok (.iload 5, 2) := by decide +kernel
theorem dX7_unlikeTies_75 : decode cX7_unlikeTies 75 = .ok (.iaload, 1) := by decide +kernel
theorem dX7_unlikeTies_76 : decode cX7_unlikeTies 76 = .ok (.iaload, 1) := by decide +kernel
theorem dX7_unlikeTies_77 : decode cX7_unlikeTies 77 = .ok (.invokevirtual 72, 3) := by decide +kernel
theorem dX7_unlikeTies_80 : decode cX7_unlikeTies 80 = .ok (.istore 6, 2) := by decide +kernel
theorem dX7_unlikeTies_82 : decode cX7_unlikeTies 82 = .ok (.iload 4, 2) := by decide +kernel
theorem dX7_unlikeTies_84 : decode cX7_unlikeTies 84 = .ok (.iload 6, 2) := by decide +kernel
theorem dX7_unlikeTies_86 : decode cX7_unlikeTies 86 = .ok (.aload_n 0, 1) := by decide +kernel
theorem dX7_unlikeTies_87 : decode cX7_unlikeTies 87 = .ok (.getfield 26, 3) := by decide +kernel
theorem dX7_unlikeTies_90 : decode cX7_unlikeTies 90 = .ok (.iload_n 1, 1) := by decide +kernel
theorem dX7_unlikeTies_91 : decode cX7_unlikeTies 91 = .ok (.aaload, 1) := by decide +kernel
theorem dX7_unlikeTies_92 : decode cX7_unlikeTies 92 = .ok (.iload 5, 2) := by decide +kernel
theorem dX7_unlikeTies_94 : decode cX7_unlikeTies 94 = .ok (.iaload, 1) := by decide +kernel
theorem dX7_unlikeTies_95 : decode cX7_unlikeTies 95 = .ok (.if_icmp .ne 7, 3) := by decide +kernel
theorem dX7_unlikeTies_98 : decode cX7_unlikeTies 98 = .ok (.iconst 0, 1) := by decide +kernel
theorem dX7_unlikeTies_99 : decode cX7_unlikeTies 99 = .ok (.goto 12, 3) := by decide +kernel
theorem dX7_unlikeTies_102 : decode cX7_unlikeTies 102 = .ok (.aload_n 0, 1) := by decide +kernel
theorem dX7_unlikeTies_103 : decode cX7_unlikeTies 103 = .ok (.getfield 29, 3) := by decide +kernel
theorem dX7_unlikeTies_106 : decode cX7_unlikeTies 106 = .ok (.iload_n 1, 1) := by decide +kernel
theorem dX7_unlikeTies_107 : decode cX7_unlikeTies 107 = .ok (.aaload, 1) := by decide +kernel
theorem dX7_unlikeTies_108 : decode cX7_unlikeTies 108 = .ok (.iload 5, 2) := by decide +kernel
theorem dX7_unlikeTies_110 : decode cX7_unlikeTies 110 = .ok (.iaload, 1) := by decide +kernel
theorem dX7_unlikeTies_111 : decode cX7_unlikeTies 111 = .ok (.iadd, 1) := by decide +kernel
theorem dX7_unlikeTies_112 : decode cX7_unlikeTies 112 = .ok (.istore 4, 2) := by decide +kernel
theorem dX7_unlikeTies_114 : decode cX7_unlikeTies 114 = .ok (.iinc 5 1, 3) := by decide +kernel
theorem dX7_unlikeTies_117 : decode cX7_unlikeTies 117 = .ok (.goto (-97), 3) := by decide +kernel
theorem dX7_unlikeTies_120 : decode cX7_unlikeTies 120 = .ok (.iload 4, 2) := by decide +kernel
theorem dX7_unlikeTies_122 : decode cX7_unlikeTies 122 = .ok (.ireturn, 1) := by decide +kernel
theorem dX7_spansAt_0 : decode cX7_spansAt 0 = .ok (.aload_n 0, 1) := by decide +kernel
theorem dX7_spansAt_1 : decode cX7_spansAt 1 = .ok (.getfield 32, 3) := by decide +kernel
theorem dX7_spansAt_4 : decode cX7_spansAt 4 = .ok (.iload_n 1, 1) := by decide +kernel
theorem dX7_spansAt_5 : decode cX7_spansAt 5 = .ok (.iaload, 1) := by decide +kernel
theorem dX7_spansAt_6 : decode cX7_spansAt 6 = .ok (.ireturn, 1) := by decide +kernel
theorem dX7_rightHalves_0 : decode cX7_rightHalves 0 = .ok (.bipush 17, 2) := by decide +kernel
theorem dX7_rightHalves_2 : decode cX7_rightHalves 2 = .ok (.iload 4, 2) := by decide +kernel
theorem dX7_rightHalves_4 : decode cX7_rightHalves 4 = .ok (.imul, 1) := by decide +kernel
theorem dX7_rightHalves_5 : decode cX7_rightHalves 5 = .ok (.iload_n 3, 1) := by decide +kernel
theorem dX7_rightHalves_6 : decode cX7_rightHalves 6 = .ok (.iadd, 1) := by decide +kernel
theorem dX7_rightHalves_7 : decode cX7_rightHalves 7 = .ok (.istore 5, 2) := by decide +kernel
theorem dX7_rightHalves_9 : decode cX7_rightHalves 9 = .ok (.iconst 0, 1) := by decide +kernel
theorem dX7_rightHalves_10 : decode cX7_rightHalves 10 = .ok (.istore 6, 2) := by decide +kernel
theorem dX7_rightHalves_12 : decode cX7_rightHalves 12 = .ok (.iconst 0, 1) := by decide +kernel
theorem dX7_rightHalves_13 : decode cX7_rightHalves 13 = .ok (.istore 7, 2) := by decide +kernel
theorem dX7_rightHalves_15 : decode cX7_rightHalves 15 = .ok (.iload 7, 2) := by decide +kernel
theorem dX7_rightHalves_17 : decode cX7_rightHalves 17 = .ok (.aload_n 0, 1) := by decide +kernel
theorem dX7_rightHalves_18 : decode cX7_rightHalves 18 = .ok (.getfield 32, 3) := by decide +kernel
theorem dX7_rightHalves_21 : decode cX7_rightHalves 21 = .ok (.iload_n 1, 1) := by decide +kernel
theorem dX7_rightHalves_22 : decode cX7_rightHalves 22 = .ok (.iaload, 1) := by decide +kernel
theorem dX7_rightHalves_23 : decode cX7_rightHalves 23 = .ok (.if_icmp .ge 109, 3) := by decide +kernel
theorem dX7_rightHalves_26 : decode cX7_rightHalves 26 = .ok (.aload_n 0, 1) := by decide +kernel
theorem dX7_rightHalves_27 : decode cX7_rightHalves 27 = .ok (.getfield 38, 3) := by decide +kernel
theorem dX7_rightHalves_30 : decode cX7_rightHalves 30 = .ok (.iload_n 1, 1) := by decide +kernel
theorem dX7_rightHalves_31 : decode cX7_rightHalves 31 = .ok (.aaload, 1) := by decide +kernel
theorem dX7_rightHalves_32 : decode cX7_rightHalves 32 = .ok (.iload 7, 2) := by decide +kernel
theorem dX7_rightHalves_34 : decode cX7_rightHalves 34 = .ok (.iaload, 1) := by decide +kernel
theorem dX7_rightHalves_35 : decode cX7_rightHalves 35 = .ok (.bipush 8, 2) := by decide +kernel
theorem dX7_rightHalves_37 : decode cX7_rightHalves 37 = .ok (.irem, 1) := by decide +kernel
theorem dX7_rightHalves_38 : decode cX7_rightHalves 38 = .ok (.istore 8, 2) := by decide +kernel
theorem dX7_rightHalves_40 : decode cX7_rightHalves 40 = .ok (.aload_n 0, 1) := by decide +kernel
theorem dX7_rightHalves_41 : decode cX7_rightHalves 41 = .ok (.getfield 35, 3) := by decide +kernel
theorem dX7_rightHalves_44 : decode cX7_rightHalves 44 = .ok (.iload_n 1, 1) := by decide +kernel
theorem dX7_rightHalves_45 : decode cX7_rightHalves 45 = .ok (.aaload, 1) := by decide +kernel
theorem dX7_rightHalves_46 : decode cX7_rightHalves 46 = .ok (.iload 7, 2) := by decide +kernel
theorem dX7_rightHalves_48 : decode cX7_rightHalves 48 = .ok (.iaload, 1) := by decide +kernel
theorem dX7_rightHalves_49 : decode cX7_rightHalves 49 = .ok (.iload_n 2, 1) := by decide +kernel
theorem dX7_rightHalves_50 : decode cX7_rightHalves 50 = .ok (.if_icmp .ne 36, 3) := by decide +kernel
theorem dX7_rightHalves_53 : decode cX7_rightHalves 53 = .ok (.aload_n 0, 1) := by decide +kernel
theorem dX7_rightHalves_54 : decode cX7_rightHalves 54 = .ok (.getfield 47, 3) := by decide +kernel
theorem dX7_rightHalves_57 : decode cX7_rightHalves 57 = .ok (.getfield 78, 3) := by decide +kernel
theorem dX7_rightHalves_60 : decode cX7_rightHalves 60 = .ok (.iload 5, 2) := by decide +kernel
theorem dX7_rightHalves_62 : decode cX7_rightHalves 62 = .ok (.iaload, 1) := by decide +kernel
theorem dX7_rightHalves_63 : decode cX7_rightHalves 63 = .ok (.aload_n 0, 1) := by decide +kernel
theorem dX7_rightHalves_64 : decode cX7_rightHalves 64 = .ok (.getfield 38, 3) := by decide +kernel
theorem dX7_rightHalves_67 : decode cX7_rightHalves 67 = .ok (.iload_n 1, 1) := by decide +kernel
theorem dX7_rightHalves_68 : decode cX7_rightHalves 68 = .ok (.aaload, 1) := by decide +kernel
theorem dX7_rightHalves_69 : decode cX7_rightHalves 69 = .ok (.iload 7, 2) := by decide +kernel
theorem dX7_rightHalves_71 : decode cX7_rightHalves 71 = .ok (.iaload, 1) := by decide +kernel
theorem dX7_rightHalves_72 : decode cX7_rightHalves 72 = .ok (.iload 8, 2) := by decide +kernel
theorem dX7_rightHalves_74 : decode cX7_rightHalves 74 = .ok (.isub, 1) := by decide +kernel
theorem dX7_rightHalves_75 : decode cX7_rightHalves 75 = .ok (.if_icmp .ne 7, 3) := by decide +kernel
theorem dX7_rightHalves_78 : decode cX7_rightHalves 78 = .ok (.iconst 1, 1) := by decide +kernel
theorem dX7_rightHalves_79 : decode cX7_rightHalves 79 = .ok (.goto 27, 3) := by decide +kernel
theorem dX7_rightHalves_82 : decode cX7_rightHalves 82 = .ok (.iconst 0, 1) := by decide +kernel
theorem dX7_rightHalves_83 : decode cX7_rightHalves 83 = .ok (.goto 23, 3) := by decide +kernel
theorem dX7_rightHalves_86 : decode cX7_rightHalves 86 = .ok (.aload_n 0, 1) := by decide +kernel
theorem dX7_rightHalves_87 : decode cX7_rightHalves 87 = .ok (.getfield 47, 3) := by decide +kernel
theorem dX7_rightHalves_90 : decode cX7_rightHalves 90 = .ok (.getfield 81, 3) := by decide +kernel
theorem dX7_rightHalves_93 : decode cX7_rightHalves 93 = .ok (.iload 5, 2) := by decide +kernel
theorem dX7_rightHalves_95 : decode cX7_rightHalves 95 = .ok (.iaload, 1) := by decide +kernel
theorem dX7_rightHalves_96 : decode cX7_rightHalves 96 = .ok (.iload 8, 2) := by decide +kernel
theorem dX7_rightHalves_98 : decode cX7_rightHalves 98 = .ok (.if_icmp .ne 7, 3) := by decide +kernel
theorem dX7_rightHalves_101 : decode cX7_rightHalves 101 = .ok (.iconst 1, 1) := by decide +kernel
theorem dX7_rightHalves_102 : decode cX7_rightHalves 102 = .ok (.goto 4, 3) := by decide +kernel
theorem dX7_rightHalves_105 : decode cX7_rightHalves 105 = .ok (.iconst 0, 1) := by decide +kernel
theorem dX7_rightHalves_106 : decode cX7_rightHalves 106 = .ok (.istore 9, 2) := by decide +kernel
theorem dX7_rightHalves_108 : decode cX7_rightHalves 108 = .ok (.iload 6, 2) := by decide +kernel
theorem dX7_rightHalves_110 : decode cX7_rightHalves 110 = .ok (.iload 9, 2) := by decide +kernel
theorem dX7_rightHalves_112 : decode cX7_rightHalves 112 = .ok (.ifCond .eq 10, 3) := by decide +kernel
theorem dX7_rightHalves_115 : decode cX7_rightHalves 115 = .ok (.iconst 1, 1) := by decide +kernel
theorem dX7_rightHalves_116 : decode cX7_rightHalves 116 = .ok (.iload 7, 2) := by decide +kernel
theorem dX7_rightHalves_118 : decode cX7_rightHalves 118 = .ok (.ishl, 1) := by decide +kernel
theorem dX7_rightHalves_119 : decode cX7_rightHalves 119 = .ok (.goto 4, 3) := by decide +kernel
theorem dX7_rightHalves_122 : decode cX7_rightHalves 122 = .ok (.iconst 0, 1) := by decide +kernel
theorem dX7_rightHalves_123 : decode cX7_rightHalves 123 = .ok (.ior, 1) := by decide +kernel
theorem dX7_rightHalves_124 : decode cX7_rightHalves 124 = .ok (.istore 6, 2) := by decide +kernel
theorem dX7_rightHalves_126 : decode cX7_rightHalves 126 = .ok (.iinc 7 1, 3) := by decide +kernel
theorem dX7_rightHalves_129 : decode cX7_rightHalves 129 = .ok (.goto (-114), 3) := by decide +kernel
theorem dX7_rightHalves_132 : decode cX7_rightHalves 132 = .ok (.iload 6, 2) := by decide +kernel
theorem dX7_rightHalves_134 : decode cX7_rightHalves 134 = .ok (.ireturn, 1) := by decide +kernel
theorem dX7_unlikeSpans_0 : decode cX7_unlikeSpans 0 = .ok (.iconst 0, 1) := by decide +kernel
theorem dX7_unlikeSpans_1 : decode cX7_unlikeSpans 1 = .ok (.istore_n 3, 1) := by decide +kernel
theorem dX7_unlikeSpans_2 : decode cX7_unlikeSpans 2 = .ok (.iconst 0, 1) := by decide +kernel
theorem dX7_unlikeSpans_3 : decode cX7_unlikeSpans 3 = .ok (.istore 4, 2) := by decide +kernel
theorem dX7_unlikeSpans_5 : decode cX7_unlikeSpans 5 = .ok (.iload 4, 2) := by decide +kernel
theorem dX7_unlikeSpans_7 : decode cX7_unlikeSpans 7 = .ok (.aload_n 0, 1) := by decide +kernel
theorem dX7_unlikeSpans_8 : decode cX7_unlikeSpans 8 = .ok (.getfield 32, 3) := by decide +kernel
theorem dX7_unlikeSpans_11 : decode cX7_unlikeSpans 11 = .ok (.iload_n 1, 1) := by decide +kernel
theorem dX7_unlikeSpans_12 : decode cX7_unlikeSpans 12 = .ok (.iaload, 1) := by decide +kernel
theorem dX7_unlikeSpans_13 : decode cX7_unlikeSpans 13 = .ok (.if_icmp .ge 35, 3) := by decide +kernel
theorem dX7_unlikeSpans_16 : decode cX7_unlikeSpans 16 = .ok (.iload_n 3, 1) := by decide +kernel
theorem dX7_unlikeSpans_17 : decode cX7_unlikeSpans 17 = .ok (.iload_n 2, 1) := by decide +kernel
theorem dX7_unlikeSpans_18 : decode cX7_unlikeSpans 18 = .ok (.iload 4, 2) := by decide +kernel
theorem dX7_unlikeSpans_20 : decode cX7_unlikeSpans 20 = .ok (.ishr, 1) := by decide +kernel
theorem dX7_unlikeSpans_21 : decode cX7_unlikeSpans 21 = .ok (.iconst 1, 1) := by decide +kernel
theorem dX7_unlikeSpans_22 : decode cX7_unlikeSpans 22 = .ok (.iand, 1) := by decide +kernel
theorem dX7_unlikeSpans_23 : decode cX7_unlikeSpans 23 = .ok (.iconst 1, 1) := by decide +kernel
theorem dX7_unlikeSpans_24 : decode cX7_unlikeSpans 24 = .ok (.if_icmp .ne 7, 3) := by decide +kernel
theorem dX7_unlikeSpans_27 : decode cX7_unlikeSpans 27 = .ok (.iconst 0, 1) := by decide +kernel
theorem dX7_unlikeSpans_28 : decode cX7_unlikeSpans 28 = .ok (.goto 12, 3) := by decide +kernel
theorem dX7_unlikeSpans_31 : decode cX7_unlikeSpans 31 = .ok (.aload_n 0, 1) := by decide +kernel
theorem dX7_unlikeSpans_32 : decode cX7_unlikeSpans 32 = .ok (.getfield 41, 3) := by decide +kernel
theorem dX7_unlikeSpans_35 : decode cX7_unlikeSpans 35 = .ok (.iload_n 1, 1) := by decide +kernel
theorem dX7_unlikeSpans_36 : decode cX7_unlikeSpans 36 = .ok (.aaload, 1) := by decide +kernel
theorem dX7_unlikeSpans_37 : decode cX7_unlikeSpans 37 = .ok (.iload 4, 2) := by decide +kernel
theorem dX7_unlikeSpans_39 : decode cX7_unlikeSpans 39 = .ok (.iaload, 1) := by decide +kernel
theorem dX7_unlikeSpans_40 : decode cX7_unlikeSpans 40 = .ok (.iadd, 1) := by decide +kernel
theorem dX7_unlikeSpans_41 : decode cX7_unlikeSpans 41 = .ok (.istore_n 3, 1) := by decide +kernel
theorem dX7_unlikeSpans_42 : decode cX7_unlikeSpans 42 = .ok (.iinc 4 1, 3) := by decide +kernel
theorem dX7_unlikeSpans_45 : decode cX7_unlikeSpans 45 = .ok (.goto (-40), 3) := by decide +kernel
theorem dX7_unlikeSpans_48 : decode cX7_unlikeSpans 48 = .ok (.iload_n 3, 1) := by decide +kernel
theorem dX7_unlikeSpans_49 : decode cX7_unlikeSpans 49 = .ok (.ireturn, 1) := by decide +kernel
theorem dX8_init_0 : decode cX8_init 0 = .ok (.aload_n 0, 1) := by decide +kernel
theorem dX8_init_1 : decode cX8_init 1 = .ok (.invokespecial 3, 3) := by decide +kernel
theorem dX8_init_4 : decode cX8_init 4 = .ok (.aload_n 0, 1) := by decide +kernel
theorem dX8_init_5 : decode cX8_init 5 = .ok (.new 9, 3) := by decide +kernel
theorem dX8_init_8 : decode cX8_init 8 = .ok (.dup, 1) := by decide +kernel
theorem dX8_init_9 : decode cX8_init 9 = .ok (.invokespecial 11, 3) := by decide +kernel
theorem dX8_init_12 : decode cX8_init 12 = .ok (.putfield 12, 3) := by decide +kernel
theorem dX8_init_15 : decode cX8_init 15 = .ok (.aload_n 0, 1) := by decide +kernel
theorem dX8_init_16 : decode cX8_init 16 = .ok (.new 16, 3) := by decide +kernel
theorem dX8_init_19 : decode cX8_init 19 = .ok (.dup, 1) := by decide +kernel
theorem dX8_init_20 : decode cX8_init 20 = .ok (.invokespecial 18, 3) := by decide +kernel
theorem dX8_init_23 : decode cX8_init 23 = .ok (.putfield 19, 3) := by decide +kernel
theorem dX8_init_26 : decode cX8_init 26 = .ok (.aload_n 0, 1) := by decide +kernel
theorem dX8_init_27 : decode cX8_init 27 = .ok (.new 16, 3) := by decide +kernel
theorem dX8_init_30 : decode cX8_init 30 = .ok (.dup, 1) := by decide +kernel
theorem dX8_init_31 : decode cX8_init 31 = .ok (.invokespecial 18, 3) := by decide +kernel
theorem dX8_init_34 : decode cX8_init 34 = .ok (.putfield 23, 3) := by decide +kernel
theorem dX8_init_37 : decode cX8_init 37 = .ok (.aload_n 0, 1) := by decide +kernel
theorem dX8_init_38 : decode cX8_init 38 = .ok (.new 26, 3) := by decide +kernel
theorem dX8_init_41 : decode cX8_init 41 = .ok (.dup, 1) := by decide +kernel
theorem dX8_init_42 : decode cX8_init 42 = .ok (.invokespecial 28, 3) := by decide +kernel
theorem dX8_init_45 : decode cX8_init 45 = .ok (.putfield 29, 3) := by decide +kernel
theorem dX8_init_48 : decode cX8_init 48 = .ok (.aload_n 0, 1) := by decide +kernel
theorem dX8_init_49 : decode cX8_init 49 = .ok (.new 26, 3) := by decide +kernel
theorem dX8_init_52 : decode cX8_init 52 = .ok (.dup, 1) := by decide +kernel
theorem dX8_init_53 : decode cX8_init 53 = .ok (.invokespecial 28, 3) := by decide +kernel
theorem dX8_init_56 : decode cX8_init 56 = .ok (.putfield 33, 3) := by decide +kernel
theorem dX8_init_59 : decode cX8_init 59 = .ok (.aload_n 0, 1) := by decide +kernel
theorem dX8_init_60 : decode cX8_init 60 = .ok (.new 26, 3) := by decide +kernel
theorem dX8_init_63 : decode cX8_init 63 = .ok (.dup, 1) := by decide +kernel
theorem dX8_init_64 : decode cX8_init 64 = .ok (.invokespecial 28, 3) := by decide +kernel
theorem dX8_init_67 : decode cX8_init 67 = .ok (.putfield 36, 3) := by decide +kernel
theorem dX8_init_70 : decode cX8_init 70 = .ok (.aload_n 0, 1) := by decide +kernel
theorem dX8_init_71 : decode cX8_init 71 = .ok (.new 39, 3) := by decide +kernel
theorem dX8_init_74 : decode cX8_init 74 = .ok (.dup, 1) := by decide +kernel
theorem dX8_init_75 : decode cX8_init 75 = .ok (.invokespecial 41, 3) := by decide +kernel
theorem dX8_init_78 : decode cX8_init 78 = .ok (.putfield 42, 3) := by decide +kernel
theorem dX8_init_81 : decode cX8_init 81 = .ok (.aload_n 0, 1) := by decide +kernel
theorem dX8_init_82 : decode cX8_init 82 = .ok (.new 46, 3) := by decide +kernel
theorem dX8_init_85 : decode cX8_init 85 = .ok (.dup, 1) := by decide +kernel
theorem dX8_init_86 : decode cX8_init 86 = .ok (.aload_n 0, 1) := by decide +kernel
theorem dX8_init_87 : decode cX8_init 87 = .ok (.getfield 19, 3) := by decide +kernel
theorem dX8_init_90 : decode cX8_init 90 = .ok (.invokespecial 48, 3) := by decide +kernel
theorem dX8_init_93 : decode cX8_init 93 = .ok (.putfield 51, 3) := by decide +kernel
theorem dX8_init_96 : decode cX8_init 96 = .ok (.aload_n 0, 1) := by decide +kernel
theorem dX8_init_97 : decode cX8_init 97 = .ok (.new 55, 3) := by decide +kernel
theorem dX8_init_100 : decode cX8_init 100 = .ok (.dup, 1) := by decide +kernel
theorem dX8_init_101 : decode cX8_init 101 = .ok (.invokespecial 57, 3) := by decide +kernel
theorem dX8_init_104 : decode cX8_init 104 = .ok (.putfield 58, 3) := by decide +kernel
theorem dX8_init_107 : decode cX8_init 107 = .ok (.aload_n 0, 1) := by decide +kernel
theorem dX8_init_108 : decode cX8_init 108 = .ok (.new 62, 3) := by decide +kernel
theorem dX8_init_111 : decode cX8_init 111 = .ok (.dup, 1) := by decide +kernel
theorem dX8_init_112 : decode cX8_init 112 = .ok (.invokespecial 64, 3) := by decide +kernel
theorem dX8_init_115 : decode cX8_init 115 = .ok (.putfield 65, 3) := by decide +kernel
theorem dX8_init_118 : decode cX8_init 118 = .ok (.aload_n 0, 1) := by decide +kernel
theorem dX8_init_119 : decode cX8_init 119 = .ok (.bipush 8, 2) := by decide +kernel
theorem dX8_init_121 : decode cX8_init 121 = .ok (.newarray .int, 2) := by decide +kernel
theorem dX8_init_123 : decode cX8_init 123 = .ok (.putfield 69, 3) := by decide +kernel
theorem dX8_init_126 : decode cX8_init 126 = .ok (.aload_n 0, 1) := by decide +kernel
theorem dX8_init_127 : decode cX8_init 127 = .ok (.bipush 32, 2) := by decide +kernel
theorem dX8_init_129 : decode cX8_init 129 = .ok (.newarray .int, 2) := by decide +kernel
theorem dX8_init_131 : decode cX8_init 131 = .ok (.putfield 73, 3) := by decide +kernel
theorem dX8_init_134 : decode cX8_init 134 = .ok (.return_, 1) := by decide +kernel
theorem dX8_write_0 : decode cX8_write 0 = .ok (.iload_n 1, 1) := by decide +kernel
theorem dX8_write_1 : decode cX8_write 1 = .ok (.iconst 1, 1) := by decide +kernel
theorem dX8_write_2 : decode cX8_write 2 = .ok (.if_icmp .lt 9, 3) := by decide +kernel
theorem dX8_write_5 : decode cX8_write 5 = .ok (.iload_n 1, 1) := by decide +kernel
theorem dX8_write_6 : decode cX8_write 6 = .ok (.bipush 8, 2) := by decide +kernel
theorem dX8_write_8 : decode cX8_write 8 = .ok (.if_icmp .le 5, 3) := by decide +kernel
theorem dX8_write_11 : decode cX8_write 11 = .ok (.iconst (-1), 1) := by decide +kernel
theorem dX8_write_12 : decode cX8_write 12 = .ok (.ireturn, 1) := by decide +kernel
theorem dX8_write_13 : decode cX8_write 13 = .ok (.aload_n 0, 1) := by decide +kernel
theorem dX8_write_14 : decode cX8_write 14 = .ok (.getfield 12, 3) := by decide +kernel
theorem dX8_write_17 : decode cX8_write 17 = .ok (.iload_n 1, 1) := by decide +kernel
theorem dX8_write_18 : decode cX8_write 18 = .ok (.lload_n 2, 1) := by decide +kernel
theorem dX8_write_19 : decode cX8_write 19 = .ok (.invokevirtual 76, 3) := by decide +kernel
theorem dX8_write_22 : decode cX8_write 22 = .ok (.ireturn, 1) := by decide +kernel
theorem dX8_wipe_0 : decode cX8_wipe 0 = .ok (.aload_n 0, 1) := by decide +kernel
theorem dX8_wipe_1 : decode cX8_wipe 1 = .ok (.getfield 12, 3) := by decide +kernel
theorem dX8_wipe_4 : decode cX8_wipe 4 = .ok (.getfield 80, 3) := by decide +kernel
theorem dX8_wipe_7 : decode cX8_wipe 7 = .ok (.istore_n 1, 1) := by decide +kernel
theorem dX8_wipe_8 : decode cX8_wipe 8 = .ok (.aload_n 0, 1) := by decide +kernel
theorem dX8_wipe_9 : decode cX8_wipe 9 = .ok (.getfield 12, 3) := by decide +kernel
theorem dX8_wipe_12 : decode cX8_wipe 12 = .ok (.iconst 0, 1) := by decide +kernel
theorem dX8_wipe_13 : decode cX8_wipe 13 = .ok (.putfield 80, 3) := by decide +kernel
theorem dX8_wipe_16 : decode cX8_wipe 16 = .ok (.iload_n 1, 1) := by decide +kernel
theorem dX8_wipe_17 : decode cX8_wipe 17 = .ok (.ireturn, 1) := by decide +kernel
theorem dX8_fault_0 : decode cX8_fault 0 = .ok (.aload_n 0, 1) := by decide +kernel
theorem dX8_fault_1 : decode cX8_fault 1 = .ok (.getfield 12, 3) := by decide +kernel
theorem dX8_fault_4 : decode cX8_fault 4 = .ok (.aload_n 0, 1) := by decide +kernel
theorem dX8_fault_5 : decode cX8_fault 5 = .ok (.getfield 23, 3) := by decide +kernel
theorem dX8_fault_8 : decode cX8_fault 8 = .ok (.invokevirtual 84, 3) := by decide +kernel
theorem dX8_fault_11 : decode cX8_fault 11 = .ok (.ireturn, 1) := by decide +kernel
theorem dX8_lay_0 : decode cX8_lay 0 = .ok (.aload_n 0, 1) := by decide +kernel
theorem dX8_lay_1 : decode cX8_lay 1 = .ok (.getfield 12, 3) := by decide +kernel
theorem dX8_lay_4 : decode cX8_lay 4 = .ok (.aload_n 0, 1) := by decide +kernel
theorem dX8_lay_5 : decode cX8_lay 5 = .ok (.getfield 23, 3) := by decide +kernel
theorem dX8_lay_8 : decode cX8_lay 8 = .ok (.invokevirtual 84, 3) := by decide +kernel
theorem dX8_lay_11 : decode cX8_lay 11 = .ok (.bipush (-4), 2) := by decide +kernel
theorem dX8_lay_13 : decode cX8_lay 13 = .ok (.if_icmp .eq 6, 3) := by decide +kernel
theorem dX8_lay_16 : decode cX8_lay 16 = .ok (.bipush (-2), 2) := by decide +kernel
theorem dX8_lay_18 : decode cX8_lay 18 = .ok (.ireturn, 1) := by decide +kernel
theorem dX8_lay_19 : decode cX8_lay 19 = .ok (.aload_n 0, 1) := by decide +kernel
theorem dX8_lay_20 : decode cX8_lay 20 = .ok (.getfield 23, 3) := by decide +kernel
theorem dX8_lay_23 : decode cX8_lay 23 = .ok (.astore_n 1, 1) := by decide +kernel
theorem dX8_lay_24 : decode cX8_lay 24 = .ok (.aload_n 0, 1) := by decide +kernel
theorem dX8_lay_25 : decode cX8_lay 25 = .ok (.aload_n 0, 1) := by decide +kernel
theorem dX8_lay_26 : decode cX8_lay 26 = .ok (.getfield 19, 3) := by decide +kernel
theorem dX8_lay_29 : decode cX8_lay 29 = .ok (.putfield 23, 3) := by decide +kernel
theorem dX8_lay_32 : decode cX8_lay 32 = .ok (.aload_n 0, 1) := by decide +kernel
theorem dX8_lay_33 : decode cX8_lay 33 = .ok (.aload_n 1, 1) := by decide +kernel
theorem dX8_lay_34 : decode cX8_lay 34 = .ok (.putfield 19, 3) := by decide +kernel
theorem dX8_lay_37 : decode cX8_lay 37 = .ok (.aload_n 0, 1) := by decide +kernel
theorem dX8_lay_38 : decode cX8_lay 38 = .ok (.getfield 19, 3) := by decide +kernel
theorem dX8_lay_41 : decode cX8_lay 41 = .ok (.invokevirtual 88, 3) := by decide +kernel
theorem dX8_lay_44 : decode cX8_lay 44 = .ok (.aload_n 0, 1) := by decide +kernel
theorem dX8_lay_45 : decode cX8_lay 45 = .ok (.getfield 29, 3) := by decide +kernel
theorem dX8_lay_48 : decode cX8_lay 48 = .ok (.invokevirtual 91, 3) := by decide +kernel
theorem dX8_lay_51 : decode cX8_lay 51 = .ok (.aload_n 0, 1) := by decide +kernel
theorem dX8_lay_52 : decode cX8_lay 52 = .ok (.getfield 58, 3) := by decide +kernel
theorem dX8_lay_55 : decode cX8_lay 55 = .ok (.iconst 0, 1) := by decide +kernel
theorem dX8_lay_56 : decode cX8_lay 56 = .ok (.putfield 94, 3) := by decide +kernel
theorem dX8_lay_59 : decode cX8_lay 59 = .ok (.aload_n 0, 1) := by decide +kernel
theorem dX8_lay_60 : decode cX8_lay 60 = .ok (.getfield 65, 3) := by decide +kernel
theorem dX8_lay_63 : decode cX8_lay 63 = .ok (.iconst 0, 1) := by decide +kernel
theorem dX8_lay_64 : decode cX8_lay 64 = .ok (.putfield 97, 3) := by decide +kernel
theorem dX8_lay_67 : decode cX8_lay 67 = .ok (.aload_n 0, 1) := by decide +kernel
theorem dX8_lay_68 : decode cX8_lay 68 = .ok (.iconst 0, 1) := by decide +kernel
theorem dX8_lay_69 : decode cX8_lay 69 = .ok (.putfield 98, 3) := by decide +kernel
theorem dX8_lay_72 : decode cX8_lay 72 = .ok (.aload_n 0, 1) := by decide +kernel
theorem dX8_lay_73 : decode cX8_lay 73 = .ok (.getfield 19, 3) := by decide +kernel
theorem dX8_lay_76 : decode cX8_lay 76 = .ok (.getfield 101, 3) := by decide +kernel
theorem dX8_lay_79 : decode cX8_lay 79 = .ok (.ireturn, 1) := by decide +kernel
theorem dX8_joined_0 : decode cX8_joined 0 = .ok (.iload_n 1, 1) := by decide +kernel
theorem dX8_joined_1 : decode cX8_joined 1 = .ok (.bipush 8, 2) := by decide +kernel
theorem dX8_joined_3 : decode cX8_joined 3 = .ok (.invokestatic 104, 3) := by decide +kernel
theorem dX8_joined_6 : decode cX8_joined 6 = .ok (.ifCond .eq 12, 3) := by decide +kernel
theorem dX8_joined_9 : decode cX8_joined 9 = .ok (.iload_n 2, 1) := by decide +kernel
theorem dX8_joined_10 : decode cX8_joined 10 = .ok (.bipush 8, 2) := by decide +kernel
theorem dX8_joined_12 : decode cX8_joined 12 = .ok (.invokestatic 104, 3) := by decide +kernel
theorem dX8_joined_15 : decode cX8_joined 15 = .ok (.ifCond .ne 5, 3) := by decide +kernel
theorem dX8_joined_18 : decode cX8_joined 18 = .ok (.iconst (-1), 1) := by decide +kernel
theorem dX8_joined_19 : decode cX8_joined 19 = .ok (.ireturn, 1) := by decide +kernel
theorem dX8_joined_20 : decode cX8_joined 20 = .ok (.aload_n 0, 1) := by decide +kernel
theorem dX8_joined_21 : decode cX8_joined 21 = .ok (.getfield 19, 3) := by decide +kernel
theorem dX8_joined_24 : decode cX8_joined 24 = .ok (.getfield 108, 3) := by decide +kernel
theorem dX8_joined_27 : decode cX8_joined 27 = .ok (.bipush 8, 2) := by decide +kernel
theorem dX8_joined_29 : decode cX8_joined 29 = .ok (.iload_n 1, 1) := by decide +kernel
theorem dX8_joined_30 : decode cX8_joined 30 = .ok (.imul, 1) := by decide +kernel
theorem dX8_joined_31 : decode cX8_joined 31 = .ok (.iload_n 2, 1) := by decide +kernel
theorem dX8_joined_32 : decode cX8_joined 32 = .ok (.iadd, 1) := by decide +kernel
theorem dX8_joined_33 : decode cX8_joined 33 = .ok (.iaload, 1) := by decide +kernel
theorem dX8_joined_34 : decode cX8_joined 34 = .ok (.ireturn, 1) := by decide +kernel
theorem dX8_add_0 : decode cX8_add 0 = .ok (.iload_n 1, 1) := by decide +kernel
theorem dX8_add_1 : decode cX8_add 1 = .ok (.bipush 6, 2) := by decide +kernel
theorem dX8_add_3 : decode cX8_add 3 = .ok (.invokestatic 104, 3) := by decide +kernel
theorem dX8_add_6 : decode cX8_add 6 = .ok (.ifCond .eq 17, 3) := by decide +kernel
theorem dX8_add_9 : decode cX8_add 9 = .ok (.iload_n 2, 1) := by decide +kernel
theorem dX8_add_10 : decode cX8_add 10 = .ok (.aload_n 0, 1) := by decide +kernel
theorem dX8_add_11 : decode cX8_add 11 = .ok (.getfield 19, 3) := by decide +kernel
theorem dX8_add_14 : decode cX8_add 14 = .ok (.getfield 101, 3) := by decide +kernel
theorem dX8_add_17 : decode cX8_add 17 = .ok (.invokestatic 104, 3) := by decide +kernel
theorem dX8_add_20 : decode cX8_add 20 = .ok (.ifCond .ne 5, 3) := by decide +kernel
theorem dX8_add_23 : decode cX8_add 23 = .ok (.iconst (-1), 1) := by decide +kernel
theorem dX8_add_24 : decode cX8_add 24 = .ok (.ireturn, 1) := by decide +kernel
theorem dX8_add_25 : decode cX8_add 25 = .ok (.aload_n 0, 1) := by decide +kernel
theorem dX8_add_26 : decode cX8_add 26 = .ok (.getfield 29, 3) := by decide +kernel
theorem dX8_add_29 : decode cX8_add 29 = .ok (.getfield 111, 3) := by decide +kernel
theorem dX8_add_32 : decode cX8_add 32 = .ok (.iload_n 1, 1) := by decide +kernel
theorem dX8_add_33 : decode cX8_add 33 = .ok (.iaload, 1) := by decide +kernel
theorem dX8_add_34 : decode cX8_add 34 = .ok (.istore_n 3, 1) := by decide +kernel
theorem dX8_add_35 : decode cX8_add 35 = .ok (.iload_n 3, 1) := by decide +kernel
theorem dX8_add_36 : decode cX8_add 36 = .ok (.bipush 8, 2) := by decide +kernel
theorem dX8_add_38 : decode cX8_add 38 = .ok (.if_icmp .lt 6, 3) := by decide +kernel
theorem dX8_add_41 : decode cX8_add 41 = .ok (.bipush (-3), 2) := by decide +kernel
theorem dX8_add_43 : decode cX8_add 43 = .ok (.ireturn, 1) := by decide +kernel
theorem dX8_add_44 : decode cX8_add 44 = .ok (.aload_n 0, 1) := by decide +kernel
theorem dX8_add_45 : decode cX8_add 45 = .ok (.getfield 29, 3) := by decide +kernel
theorem dX8_add_48 : decode cX8_add 48 = .ok (.getfield 114, 3) := by decide +kernel
theorem dX8_add_51 : decode cX8_add 51 = .ok (.iload_n 1, 1) := by decide +kernel
theorem dX8_add_52 : decode cX8_add 52 = .ok (.aaload, 1) := by decide +kernel
theorem dX8_add_53 : decode cX8_add 53 = .ok (.iload_n 3, 1) := by decide +kernel
theorem dX8_add_54 : decode cX8_add 54 = .ok (.iload_n 2, 1) := by decide +kernel
theorem dX8_add_55 : decode cX8_add 55 = .ok (.iastore, 1) := by decide +kernel
theorem dX8_add_56 : decode cX8_add 56 = .ok (.aload_n 0, 1) := by decide +kernel
theorem dX8_add_57 : decode cX8_add 57 = .ok (.getfield 29, 3) := by decide +kernel
theorem dX8_add_60 : decode cX8_add 60 = .ok (.getfield 111, 3) := by decide +kernel
theorem dX8_add_63 : decode cX8_add 63 = .ok (.iload_n 1, 1) := by decide +kernel
theorem dX8_add_64 : decode cX8_add 64 = .ok (.iload_n 3, 1) := by decide +kernel
theorem dX8_add_65 : decode cX8_add 65 = .ok (.iconst 1, 1) := by decide +kernel
theorem dX8_add_66 : decode cX8_add 66 = .ok (.iadd, 1) := by decide +kernel
theorem dX8_add_67 : decode cX8_add 67 = .ok (.iastore, 1) := by decide +kernel
theorem dX8_add_68 : decode cX8_add 68 = .ok (.iload_n 3, 1) := by decide +kernel
theorem dX8_add_69 : decode cX8_add 69 = .ok (.iconst 1, 1) := by decide +kernel
theorem dX8_add_70 : decode cX8_add 70 = .ok (.iadd, 1) := by decide +kernel
theorem dX8_add_71 : decode cX8_add 71 = .ok (.ireturn, 1) := by decide +kernel
theorem dX8_clear_0 : decode cX8_clear 0 = .ok (.iload_n 1, 1) := by decide +kernel
theorem dX8_clear_1 : decode cX8_clear 1 = .ok (.bipush 6, 2) := by decide +kernel
theorem dX8_clear_3 : decode cX8_clear 3 = .ok (.invokestatic 104, 3) := by decide +kernel
theorem dX8_clear_6 : decode cX8_clear 6 = .ok (.ifCond .ne 5, 3) := by decide +kernel
theorem dX8_clear_9 : decode cX8_clear 9 = .ok (.iconst (-1), 1) := by decide +kernel
theorem dX8_clear_10 : decode cX8_clear 10 = .ok (.ireturn, 1) := by decide +kernel
theorem dX8_clear_11 : decode cX8_clear 11 = .ok (.aload_n 0, 1) := by decide +kernel
theorem dX8_clear_12 : decode cX8_clear 12 = .ok (.getfield 29, 3) := by decide +kernel
theorem dX8_clear_15 : decode cX8_clear 15 = .ok (.getfield 111, 3) := by decide +kernel
theorem dX8_clear_18 : decode cX8_clear 18 = .ok (.iload_n 1, 1) := by decide +kernel
theorem dX8_clear_19 : decode cX8_clear 19 = .ok (.iaload, 1) := by decide +kernel
theorem dX8_clear_20 : decode cX8_clear 20 = .ok (.istore_n 2, 1) := by decide +kernel
theorem dX8_clear_21 : decode cX8_clear 21 = .ok (.aload_n 0, 1) := by decide +kernel
theorem dX8_clear_22 : decode cX8_clear 22 = .ok (.getfield 29, 3) := by decide +kernel
theorem dX8_clear_25 : decode cX8_clear 25 = .ok (.getfield 111, 3) := by decide +kernel
theorem dX8_clear_28 : decode cX8_clear 28 = .ok (.iload_n 1, 1) := by decide +kernel
theorem dX8_clear_29 : decode cX8_clear 29 = .ok (.iconst 0, 1) := by decide +kernel
theorem dX8_clear_30 : decode cX8_clear 30 = .ok (.iastore, 1) := by decide +kernel
theorem dX8_clear_31 : decode cX8_clear 31 = .ok (.iload_n 2, 1) := by decide +kernel
theorem dX8_clear_32 : decode cX8_clear 32 = .ok (.ireturn, 1) := by decide +kernel
theorem dX8_word_0 : decode cX8_word 0 = .ok (.iload_n 1, 1) := by decide +kernel
theorem dX8_word_1 : decode cX8_word 1 = .ok (.bipush 6, 2) := by decide +kernel
theorem dX8_word_3 : decode cX8_word 3 = .ok (.invokestatic 104, 3) := by decide +kernel
theorem dX8_word_6 : decode cX8_word 6 = .ok (.ifCond .eq 12, 3) := by decide +kernel
theorem dX8_word_9 : decode cX8_word 9 = .ok (.iload_n 2, 1) := by decide +kernel
theorem dX8_word_10 : decode cX8_word 10 = .ok (.bipush 8, 2) := by decide +kernel
theorem dX8_word_12 : decode cX8_word 12 = .ok (.invokestatic 104, 3) := by decide +kernel
theorem dX8_word_15 : decode cX8_word 15 = .ok (.ifCond .ne 5, 3) := by decide +kernel
theorem dX8_word_18 : decode cX8_word 18 = .ok (.iconst (-1), 1) := by decide +kernel
theorem dX8_word_19 : decode cX8_word 19 = .ok (.ireturn, 1) := by decide +kernel
theorem dX8_word_20 : decode cX8_word 20 = .ok (.iload_n 2, 1) := by decide +kernel
theorem dX8_word_21 : decode cX8_word 21 = .ok (.aload_n 0, 1) := by decide +kernel
theorem dX8_word_22 : decode cX8_word 22 = .ok (.getfield 29, 3) := by decide +kernel
theorem dX8_word_25 : decode cX8_word 25 = .ok (.getfield 111, 3) := by decide +kernel
theorem dX8_word_28 : decode cX8_word 28 = .ok (.iload_n 1, 1) := by decide +kernel
theorem dX8_word_29 : decode cX8_word 29 = .ok (.iaload, 1) := by decide +kernel
theorem dX8_word_30 : decode cX8_word 30 = .ok (.if_icmp .ge 17, 3) := by decide +kernel
theorem dX8_word_33 : decode cX8_word 33 = .ok (.aload_n 0, 1) := by decide +kernel
theorem dX8_word_34 : decode cX8_word 34 = .ok (.getfield 29, 3) := by decide +kernel
theorem dX8_word_37 : decode cX8_word 37 = .ok (.getfield 114, 3) := by decide +kernel
theorem dX8_word_40 : decode cX8_word 40 = .ok (.iload_n 1, 1) := by decide +kernel
theorem dX8_word_41 : decode cX8_word 41 = .ok (.aaload, 1) := by decide +kernel
theorem dX8_word_42 : decode cX8_word 42 = .ok (.iload_n 2, 1) := by decide +kernel
theorem dX8_word_43 : decode cX8_word 43 = .ok (.iaload, 1) := by decide +kernel
theorem dX8_word_44 : decode cX8_word 44 = .ok (.goto 5, 3) := by decide +kernel
theorem dX8_word_47 : decode cX8_word 47 = .ok (.bipush (-4), 2) := by decide +kernel
theorem dX8_word_49 : decode cX8_word 49 = .ok (.ireturn, 1) := by decide +kernel
theorem dX8_said_0 : decode cX8_said 0 = .ok (.iload_n 1, 1) := by decide +kernel
theorem dX8_said_1 : decode cX8_said 1 = .ok (.bipush 6, 2) := by decide +kernel
theorem dX8_said_3 : decode cX8_said 3 = .ok (.invokestatic 104, 3) := by decide +kernel
theorem dX8_said_6 : decode cX8_said 6 = .ok (.ifCond .eq 16, 3) := by decide +kernel
theorem dX8_said_9 : decode cX8_said 9 = .ok (.iload_n 2, 1) := by decide +kernel
theorem dX8_said_10 : decode cX8_said 10 = .ok (.iconst 5, 1) := by decide +kernel
theorem dX8_said_11 : decode cX8_said 11 = .ok (.invokestatic 104, 3) := by decide +kernel
theorem dX8_said_14 : decode cX8_said 14 = .ok (.ifCond .eq 8, 3) := by decide +kernel
theorem dX8_said_17 : decode cX8_said 17 = .ok (.iload_n 3, 1) := by decide +kernel
theorem dX8_said_18 : decode cX8_said 18 = .ok (.iconst (-1), 1) := by decide +kernel
theorem dX8_said_19 : decode cX8_said 19 = .ok (.if_icmp .ge 5, 3) := by decide +kernel
theorem dX8_said_22 : decode cX8_said 22 = .ok (.iconst (-1), 1) := by decide +kernel
theorem dX8_said_23 : decode cX8_said 23 = .ok (.ireturn, 1) := by decide +kernel
theorem dX8_said_24 : decode cX8_said 24 = .ok (.aload_n 0, 1) := by decide +kernel
theorem dX8_said_25 : decode cX8_said 25 = .ok (.getfield 29, 3) := by decide +kernel
theorem dX8_said_28 : decode cX8_said 28 = .ok (.getfield 111, 3) := by decide +kernel
theorem dX8_said_31 : decode cX8_said 31 = .ok (.iload_n 1, 1) := by decide +kernel
theorem dX8_said_32 : decode cX8_said 32 = .ok (.iaload, 1) := by decide +kernel
theorem dX8_said_33 : decode cX8_said 33 = .ok (.ifCond .ne 6, 3) := by decide +kernel
theorem dX8_said_36 : decode cX8_said 36 = .ok (.bipush (-2), 2) := by decide +kernel
theorem dX8_said_38 : decode cX8_said 38 = .ok (.ireturn, 1) := by decide +kernel
theorem dX8_said_39 : decode cX8_said 39 = .ok (.aload_n 0, 1) := by decide +kernel
theorem dX8_said_40 : decode cX8_said 40 = .ok (.getfield 42, 3) := by decide +kernel
theorem dX8_said_43 : decode cX8_said 43 = .ok (.iload_n 2, 1) := by decide +kernel
theorem dX8_said_44 : decode cX8_said 44 = .ok (.aload_n 0, 1) := by decide +kernel
theorem dX8_said_45 : decode cX8_said 45 = .ok (.getfield 29, 3) := by decide +kernel
theorem dX8_said_48 : decode cX8_said 48 = .ok (.getfield 111, 3) := by decide +kernel
theorem dX8_said_51 : decode cX8_said 51 = .ok (.iload_n 1, 1) := by decide +kernel
theorem dX8_said_52 : decode cX8_said 52 = .ok (.iaload, 1) := by decide +kernel
theorem dX8_said_53 : decode cX8_said 53 = .ok (.invokevirtual 117, 3) := by decide +kernel
theorem dX8_said_56 : decode cX8_said 56 = .ok (.iload_n 3, 1) := by decide +kernel
theorem dX8_said_57 : decode cX8_said 57 = .ok (.iconst (-1), 1) := by decide +kernel
theorem dX8_said_58 : decode cX8_said 58 = .ok (.if_icmp .ne 11, 3) := by decide +kernel
theorem dX8_said_61 : decode cX8_said 61 = .ok (.aload_n 0, 1) := by decide +kernel
theorem dX8_said_62 : decode cX8_said 62 = .ok (.getfield 42, 3) := by decide +kernel
theorem dX8_said_65 : decode cX8_said 65 = .ok (.getfield 121, 3) := by decide +kernel
theorem dX8_said_68 : decode cX8_said 68 = .ok (.ireturn, 1) := by decide +kernel
theorem dX8_said_69 : decode cX8_said 69 = .ok (.iload_n 3, 1) := by decide +kernel
theorem dX8_said_70 : decode cX8_said 70 = .ok (.aload_n 0, 1) := by decide +kernel
theorem dX8_said_71 : decode cX8_said 71 = .ok (.getfield 42, 3) := by decide +kernel
theorem dX8_said_74 : decode cX8_said 74 = .ok (.getfield 121, 3) := by decide +kernel
theorem dX8_said_77 : decode cX8_said 77 = .ok (.if_icmp .ge 27, 3) := by decide +kernel
theorem dX8_said_80 : decode cX8_said 80 = .ok (.aload_n 0, 1) := by decide +kernel
theorem dX8_said_81 : decode cX8_said 81 = .ok (.getfield 42, 3) := by decide +kernel
theorem dX8_said_84 : decode cX8_said 84 = .ok (.aload_n 0, 1) := by decide +kernel
theorem dX8_said_85 : decode cX8_said 85 = .ok (.getfield 19, 3) := by decide +kernel
theorem dX8_said_88 : decode cX8_said 88 = .ok (.aload_n 0, 1) := by decide +kernel
theorem dX8_said_89 : decode cX8_said 89 = .ok (.getfield 29, 3) := by decide +kernel
theorem dX8_said_92 : decode cX8_said 92 = .ok (.getfield 114, 3) := by decide +kernel
theorem dX8_said_95 : decode cX8_said 95 = .ok (.iload_n 1, 1) := by decide +kernel
theorem dX8_said_96 : decode cX8_said 96 = .ok (.aaload, 1) := by decide +kernel
theorem dX8_said_97 : decode cX8_said 97 = .ok (.iload_n 3, 1) := by decide +kernel
theorem dX8_said_98 : decode cX8_said 98 = .ok (.invokevirtual 122, 3) := by decide +kernel
theorem dX8_said_101 : decode cX8_said 101 = .ok (.goto 5, 3) := by decide +kernel
theorem dX8_said_104 : decode cX8_said 104 = .ok (.bipush (-4), 2) := by decide +kernel
theorem dX8_said_106 : decode cX8_said 106 = .ok (.ireturn, 1) := by decide +kernel
theorem dX8_say_0 : decode cX8_say 0 = .ok (.iload_n 1, 1) := by decide +kernel
theorem dX8_say_1 : decode cX8_say 1 = .ok (.bipush 6, 2) := by decide +kernel
theorem dX8_say_3 : decode cX8_say 3 = .ok (.invokestatic 104, 3) := by decide +kernel
theorem dX8_say_6 : decode cX8_say 6 = .ok (.ifCond .eq 11, 3) := by decide +kernel
theorem dX8_say_9 : decode cX8_say 9 = .ok (.iload_n 2, 1) := by decide +kernel
theorem dX8_say_10 : decode cX8_say 10 = .ok (.iconst 5, 1) := by decide +kernel
theorem dX8_say_11 : decode cX8_say 11 = .ok (.invokestatic 104, 3) := by decide +kernel
theorem dX8_say_14 : decode cX8_say 14 = .ok (.ifCond .ne 5, 3) := by decide +kernel
theorem dX8_say_17 : decode cX8_say 17 = .ok (.iconst (-1), 1) := by decide +kernel
theorem dX8_say_18 : decode cX8_say 18 = .ok (.ireturn, 1) := by decide +kernel
theorem dX8_say_19 : decode cX8_say 19 = .ok (.aload_n 0, 1) := by decide +kernel
theorem dX8_say_20 : decode cX8_say 20 = .ok (.getfield 29, 3) := by decide +kernel
theorem dX8_say_23 : decode cX8_say 23 = .ok (.getfield 111, 3) := by decide +kernel
theorem dX8_say_26 : decode cX8_say 26 = .ok (.iload_n 1, 1) := by decide +kernel
theorem dX8_say_27 : decode cX8_say 27 = .ok (.iaload, 1) := by decide +kernel
theorem dX8_say_28 : decode cX8_say 28 = .ok (.ifCond .ne 6, 3) := by decide +kernel
theorem dX8_say_31 : decode cX8_say 31 = .ok (.bipush (-2), 2) := by decide +kernel
theorem dX8_say_33 : decode cX8_say 33 = .ok (.ireturn, 1) := by decide +kernel
theorem dX8_say_34 : decode cX8_say 34 = .ok (.aload_n 0, 1) := by decide +kernel
theorem dX8_say_35 : decode cX8_say 35 = .ok (.getfield 42, 3) := by decide +kernel
theorem dX8_say_38 : decode cX8_say 38 = .ok (.iload_n 2, 1) := by decide +kernel
theorem dX8_say_39 : decode cX8_say 39 = .ok (.aload_n 0, 1) := by decide +kernel
theorem dX8_say_40 : decode cX8_say 40 = .ok (.getfield 29, 3) := by decide +kernel
theorem dX8_say_43 : decode cX8_say 43 = .ok (.getfield 111, 3) := by decide +kernel
theorem dX8_say_46 : decode cX8_say 46 = .ok (.iload_n 1, 1) := by decide +kernel
theorem dX8_say_47 : decode cX8_say 47 = .ok (.iaload, 1) := by decide +kernel
theorem dX8_say_48 : decode cX8_say 48 = .ok (.invokevirtual 117, 3) := by decide +kernel
theorem dX8_say_51 : decode cX8_say 51 = .ok (.iconst 0, 1) := by decide +kernel
theorem dX8_say_52 : decode cX8_say 52 = .ok (.istore_n 3, 1) := by decide +kernel
theorem dX8_say_53 : decode cX8_say 53 = .ok (.iload_n 3, 1) := by decide +kernel
theorem dX8_say_54 : decode cX8_say 54 = .ok (.aload_n 0, 1) := by decide +kernel
theorem dX8_say_55 : decode cX8_say 55 = .ok (.getfield 42, 3) := by decide +kernel
theorem dX8_say_58 : decode cX8_say 58 = .ok (.getfield 121, 3) := by decide +kernel
theorem dX8_say_61 : decode cX8_say 61 = .ok (.if_icmp .ge 39, 3) := by decide +kernel
theorem dX8_say_64 : decode cX8_say 64 = .ok (.aload_n 0, 1) := by decide +kernel
theorem dX8_say_65 : decode cX8_say 65 = .ok (.getfield 29, 3) := by decide +kernel
theorem dX8_say_68 : decode cX8_say 68 = .ok (.getfield 126, 3) := by decide +kernel
theorem dX8_say_71 : decode cX8_say 71 = .ok (.iload_n 3, 1) := by decide +kernel
theorem dX8_say_72 : decode cX8_say 72 = .ok (.aload_n 0, 1) := by decide +kernel
theorem dX8_say_73 : decode cX8_say 73 = .ok (.getfield 42, 3) := by decide +kernel
theorem dX8_say_76 : decode cX8_say 76 = .ok (.aload_n 0, 1) := by decide +kernel
theorem dX8_say_77 : decode cX8_say 77 = .ok (.getfield 19, 3) := by decide +kernel
theorem dX8_say_80 : decode cX8_say 80 = .ok (.aload_n 0, 1) := by decide +kernel
theorem dX8_say_81 : decode cX8_say 81 = .ok (.getfield 29, 3) := by decide +kernel
theorem dX8_say_84 : decode cX8_say 84 = .ok (.getfield 114, 3) := by decide +kernel
theorem dX8_say_87 : decode cX8_say 87 = .ok (.iload_n 1, 1) := by decide +kernel
theorem dX8_say_88 : decode cX8_say 88 = .ok (.aaload, 1) := by decide +kernel
theorem dX8_say_89 : decode cX8_say 89 = .ok (.iload_n 3, 1) := by decide +kernel
theorem dX8_say_90 : decode cX8_say 90 = .ok (.invokevirtual 122, 3) := by decide +kernel
theorem dX8_say_93 : decode cX8_say 93 = .ok (.iastore, 1) := by decide +kernel
theorem dX8_say_94 : decode cX8_say 94 = .ok (.iinc 3 1, 3) := by decide +kernel
theorem dX8_say_97 : decode cX8_say 97 = .ok (.goto (-44), 3) := by decide +kernel
theorem dX8_say_100 : decode cX8_say 100 = .ok (.aload_n 0, 1) := by decide +kernel
theorem dX8_say_101 : decode cX8_say 101 = .ok (.getfield 29, 3) := by decide +kernel
theorem dX8_say_104 : decode cX8_say 104 = .ok (.aload_n 0, 1) := by decide +kernel
theorem dX8_say_105 : decode cX8_say 105 = .ok (.getfield 42, 3) := by decide +kernel
theorem dX8_say_108 : decode cX8_say 108 = .ok (.getfield 121, 3) := by decide +kernel
theorem dX8_say_111 : decode cX8_say 111 = .ok (.putfield 129, 3) := by decide +kernel
theorem dX8_say_114 : decode cX8_say 114 = .ok (.aload_n 0, 1) := by decide +kernel
theorem dX8_say_115 : decode cX8_say 115 = .ok (.getfield 29, 3) := by decide +kernel
theorem dX8_say_118 : decode cX8_say 118 = .ok (.iload_n 2, 1) := by decide +kernel
theorem dX8_say_119 : decode cX8_say 119 = .ok (.putfield 132, 3) := by decide +kernel
theorem dX8_say_122 : decode cX8_say 122 = .ok (.aload_n 0, 1) := by decide +kernel
theorem dX8_say_123 : decode cX8_say 123 = .ok (.getfield 29, 3) := by decide +kernel
theorem dX8_say_126 : decode cX8_say 126 = .ok (.aload_n 0, 1) := by decide +kernel
theorem dX8_say_127 : decode cX8_say 127 = .ok (.getfield 29, 3) := by decide +kernel
theorem dX8_say_130 : decode cX8_say 130 = .ok (.getfield 111, 3) := by decide +kernel
theorem dX8_say_133 : decode cX8_say 133 = .ok (.iload_n 1, 1) := by decide +kernel
theorem dX8_say_134 : decode cX8_say 134 = .ok (.iaload, 1) := by decide +kernel
theorem dX8_say_135 : decode cX8_say 135 = .ok (.putfield 135, 3) := by decide +kernel
theorem dX8_say_138 : decode cX8_say 138 = .ok (.aload_n 0, 1) := by decide +kernel
theorem dX8_say_139 : decode cX8_say 139 = .ok (.getfield 29, 3) := by decide +kernel
theorem dX8_say_142 : decode cX8_say 142 = .ok (.getfield 129, 3) := by decide +kernel
theorem dX8_say_145 : decode cX8_say 145 = .ok (.ireturn, 1) := by decide +kernel
theorem dX8_alter_0 : decode cX8_alter 0 = .ok (.iload_n 1, 1) := by decide +kernel
theorem dX8_alter_1 : decode cX8_alter 1 = .ok (.aload_n 0, 1) := by decide +kernel
theorem dX8_alter_2 : decode cX8_alter 2 = .ok (.getfield 29, 3) := by decide +kernel
theorem dX8_alter_5 : decode cX8_alter 5 = .ok (.getfield 129, 3) := by decide +kernel
theorem dX8_alter_8 : decode cX8_alter 8 = .ok (.invokestatic 104, 3) := by decide +kernel
theorem dX8_alter_11 : decode cX8_alter 11 = .ok (.ifCond .eq 13, 3) := by decide +kernel
theorem dX8_alter_14 : decode cX8_alter 14 = .ok (.iload_n 2, 1) := by decide +kernel
theorem dX8_alter_15 : decode cX8_alter 15 = .ok (.sipush 1024, 3) := by decide +kernel
theorem dX8_alter_18 : decode cX8_alter 18 = .ok (.invokestatic 104, 3) := by decide +kernel
theorem dX8_alter_21 : decode cX8_alter 21 = .ok (.ifCond .ne 5, 3) := by decide +kernel
theorem dX8_alter_24 : decode cX8_alter 24 = .ok (.iconst (-1), 1) := by decide +kernel
theorem dX8_alter_25 : decode cX8_alter 25 = .ok (.ireturn, 1) := by decide +kernel
theorem dX8_alter_26 : decode cX8_alter 26 = .ok (.aload_n 0, 1) := by decide +kernel
theorem dX8_alter_27 : decode cX8_alter 27 = .ok (.getfield 29, 3) := by decide +kernel
theorem dX8_alter_30 : decode cX8_alter 30 = .ok (.getfield 126, 3) := by decide +kernel
theorem dX8_alter_33 : decode cX8_alter 33 = .ok (.iload_n 1, 1) := by decide +kernel
theorem dX8_alter_34 : decode cX8_alter 34 = .ok (.iaload, 1) := by decide +kernel
theorem dX8_alter_35 : decode cX8_alter 35 = .ok (.istore_n 3, 1) := by decide +kernel
theorem dX8_alter_36 : decode cX8_alter 36 = .ok (.aload_n 0, 1) := by decide +kernel
theorem dX8_alter_37 : decode cX8_alter 37 = .ok (.getfield 29, 3) := by decide +kernel
theorem dX8_alter_40 : decode cX8_alter 40 = .ok (.getfield 126, 3) := by decide +kernel
theorem dX8_alter_43 : decode cX8_alter 43 = .ok (.iload_n 1, 1) := by decide +kernel
theorem dX8_alter_44 : decode cX8_alter 44 = .ok (.iload_n 2, 1) := by decide +kernel
theorem dX8_alter_45 : decode cX8_alter 45 = .ok (.iastore, 1) := by decide +kernel
theorem dX8_alter_46 : decode cX8_alter 46 = .ok (.iload_n 3, 1) := by decide +kernel
theorem dX8_alter_47 : decode cX8_alter 47 = .ok (.ireturn, 1) := by decide +kernel
theorem dX8_soundSo_0 : decode cX8_soundSo 0 = .ok (.aload_n 0, 1) := by decide +kernel
theorem dX8_soundSo_1 : decode cX8_soundSo 1 = .ok (.getfield 29, 3) := by decide +kernel
theorem dX8_soundSo_4 : decode cX8_soundSo 4 = .ok (.getfield 129, 3) := by decide +kernel
theorem dX8_soundSo_7 : decode cX8_soundSo 7 = .ok (.ifCond .ne 7, 3) := by decide +kernel
theorem dX8_soundSo_10 : decode cX8_soundSo 10 = .ok (.ldc2_w 138, 3) := by decide +kernel
theorem dX8_soundSo_13 : decode cX8_soundSo 13 = .ok (.lreturn, 1) := by decide +kernel
theorem dX8_soundSo_14 : decode cX8_soundSo 14 = .ok (.aload_n 0, 1) := by decide +kernel
theorem dX8_soundSo_15 : decode cX8_soundSo 15 = .ok (.invokevirtual 140, 3) := by decide +kernel
theorem dX8_soundSo_18 : decode cX8_soundSo 18 = .ok (.aload_n 0, 1) := by decide +kernel
theorem dX8_soundSo_19 : decode cX8_soundSo 19 = .ok (.getfield 51, 3) := by decide +kernel
theorem dX8_soundSo_22 : decode cX8_soundSo 22 = .ok (.getfield 143, 3) := by decide +kernel
theorem dX8_soundSo_25 : decode cX8_soundSo 25 = .ok (.ifCond .ne 13, 3) := by decide +kernel
theorem dX8_soundSo_28 : decode cX8_soundSo 28 = .ok (.aload_n 0, 1) := by decide +kernel
theorem dX8_soundSo_29 : decode cX8_soundSo 29 = .ok (.getfield 51, 3) := by decide +kernel
theorem dX8_soundSo_32 : decode cX8_soundSo 32 = .ok (.getfield 146, 3) := by decide +kernel
theorem dX8_soundSo_35 : decode cX8_soundSo 35 = .ok (.goto 4, 3) := by decide +kernel
theorem dX8_soundSo_38 : decode cX8_soundSo 38 = .ok (.lconst 0, 1) := by decide +kernel
theorem dX8_soundSo_39 : decode cX8_soundSo 39 = .ok (.lreturn, 1) := by decide +kernel
theorem dX8_nearest_0 : decode cX8_nearest 0 = .ok (.iload_n 1, 1) := by decide +kernel
theorem dX8_nearest_1 : decode cX8_nearest 1 = .ok (.bipush 6, 2) := by decide +kernel
theorem dX8_nearest_3 : decode cX8_nearest 3 = .ok (.invokestatic 104, 3) := by decide +kernel
theorem dX8_nearest_6 : decode cX8_nearest 6 = .ok (.ifCond .ne 5, 3) := by decide +kernel
theorem dX8_nearest_9 : decode cX8_nearest 9 = .ok (.iconst (-1), 1) := by decide +kernel
theorem dX8_nearest_10 : decode cX8_nearest 10 = .ok (.ireturn, 1) := by decide +kernel
theorem dX8_nearest_11 : decode cX8_nearest 11 = .ok (.aload_n 0, 1) := by decide +kernel
theorem dX8_nearest_12 : decode cX8_nearest 12 = .ok (.getfield 29, 3) := by decide +kernel
theorem dX8_nearest_15 : decode cX8_nearest 15 = .ok (.getfield 129, 3) := by decide +kernel
theorem dX8_nearest_18 : decode cX8_nearest 18 = .ok (.ifCond .ne 6, 3) := by decide +kernel
theorem dX8_nearest_21 : decode cX8_nearest 21 = .ok (.bipush (-2), 2) := by decide +kernel
theorem dX8_nearest_23 : decode cX8_nearest 23 = .ok (.ireturn, 1) := by decide +kernel
theorem dX8_nearest_24 : decode cX8_nearest 24 = .ok (.aload_n 0, 1) := by decide +kernel
theorem dX8_nearest_25 : decode cX8_nearest 25 = .ok (.invokevirtual 140, 3) := by decide +kernel
theorem dX8_nearest_28 : decode cX8_nearest 28 = .ok (.aload_n 0, 1) := by decide +kernel
theorem dX8_nearest_29 : decode cX8_nearest 29 = .ok (.getfield 51, 3) := by decide +kernel
theorem dX8_nearest_32 : decode cX8_nearest 32 = .ok (.aload_n 0, 1) := by decide +kernel
theorem dX8_nearest_33 : decode cX8_nearest 33 = .ok (.getfield 29, 3) := by decide +kernel
theorem dX8_nearest_36 : decode cX8_nearest 36 = .ok (.getfield 114, 3) := by decide +kernel
theorem dX8_nearest_39 : decode cX8_nearest 39 = .ok (.iload_n 1, 1) := by decide +kernel
theorem dX8_nearest_40 : decode cX8_nearest 40 = .ok (.aaload, 1) := by decide +kernel
theorem dX8_nearest_41 : decode cX8_nearest 41 = .ok (.invokevirtual 150, 3) := by decide +kernel
theorem dX8_nearest_44 : decode cX8_nearest 44 = .ok (.aload_n 0, 1) := by decide +kernel
theorem dX8_nearest_45 : decode cX8_nearest 45 = .ok (.getfield 29, 3) := by decide +kernel
theorem dX8_nearest_48 : decode cX8_nearest 48 = .ok (.getfield 111, 3) := by decide +kernel
theorem dX8_nearest_51 : decode cX8_nearest 51 = .ok (.iload_n 1, 1) := by decide +kernel
theorem dX8_nearest_52 : decode cX8_nearest 52 = .ok (.aload_n 0, 1) := by decide +kernel
theorem dX8_nearest_53 : decode cX8_nearest 53 = .ok (.getfield 29, 3) := by decide +kernel
theorem dX8_nearest_56 : decode cX8_nearest 56 = .ok (.getfield 135, 3) := by decide +kernel
theorem dX8_nearest_59 : decode cX8_nearest 59 = .ok (.iastore, 1) := by decide +kernel
theorem dX8_nearest_60 : decode cX8_nearest 60 = .ok (.aload_n 0, 1) := by decide +kernel
theorem dX8_nearest_61 : decode cX8_nearest 61 = .ok (.getfield 51, 3) := by decide +kernel
theorem dX8_nearest_64 : decode cX8_nearest 64 = .ok (.getfield 143, 3) := by decide +kernel
theorem dX8_nearest_67 : decode cX8_nearest 67 = .ok (.ireturn, 1) := by decide +kernel
theorem dX8_rivals_0 : decode cX8_rivals 0 = .ok (.aload_n 0, 1) := by decide +kernel
theorem dX8_rivals_1 : decode cX8_rivals 1 = .ok (.getfield 29, 3) := by decide +kernel
theorem dX8_rivals_4 : decode cX8_rivals 4 = .ok (.getfield 129, 3) := by decide +kernel
theorem dX8_rivals_7 : decode cX8_rivals 7 = .ok (.ifCond .ne 7, 3) := by decide +kernel
theorem dX8_rivals_10 : decode cX8_rivals 10 = .ok (.ldc2_w 138, 3) := by decide +kernel
theorem dX8_rivals_13 : decode cX8_rivals 13 = .ok (.lreturn, 1) := by decide +kernel
theorem dX8_rivals_14 : decode cX8_rivals 14 = .ok (.aload_n 0, 1) := by decide +kernel
theorem dX8_rivals_15 : decode cX8_rivals 15 = .ok (.invokevirtual 140, 3) := by decide +kernel
theorem dX8_rivals_18 : decode cX8_rivals 18 = .ok (.aload_n 0, 1) := by decide +kernel
theorem dX8_rivals_19 : decode cX8_rivals 19 = .ok (.getfield 51, 3) := by decide +kernel
theorem dX8_rivals_22 : decode cX8_rivals 22 = .ok (.getfield 146, 3) := by decide +kernel
theorem dX8_rivals_25 : decode cX8_rivals 25 = .ok (.lreturn, 1) := by decide +kernel
theorem dX8_far_0 : decode cX8_far 0 = .ok (.iload_n 1, 1) := by decide +kernel
theorem dX8_far_1 : decode cX8_far 1 = .ok (.bipush 6, 2) := by decide +kernel
theorem dX8_far_3 : decode cX8_far 3 = .ok (.invokestatic 104, 3) := by decide +kernel
theorem dX8_far_6 : decode cX8_far 6 = .ok (.ifCond .eq 20, 3) := by decide +kernel
theorem dX8_far_9 : decode cX8_far 9 = .ok (.iload_n 2, 1) := by decide +kernel
theorem dX8_far_10 : decode cX8_far 10 = .ok (.bipush 32, 2) := by decide +kernel
theorem dX8_far_12 : decode cX8_far 12 = .ok (.invokestatic 104, 3) := by decide +kernel
theorem dX8_far_15 : decode cX8_far 15 = .ok (.ifCond .eq 11, 3) := by decide +kernel
theorem dX8_far_18 : decode cX8_far 18 = .ok (.iload_n 3, 1) := by decide +kernel
theorem dX8_far_19 : decode cX8_far 19 = .ok (.iconst 3, 1) := by decide +kernel
theorem dX8_far_20 : decode cX8_far 20 = .ok (.invokestatic 104, 3) := by decide +kernel
theorem dX8_far_23 : decode cX8_far 23 = .ok (.ifCond .ne 5, 3) := by decide +kernel
theorem dX8_far_26 : decode cX8_far 26 = .ok (.iconst (-1), 1) := by decide +kernel
theorem dX8_far_27 : decode cX8_far 27 = .ok (.ireturn, 1) := by decide +kernel
theorem dX8_far_28 : decode cX8_far 28 = .ok (.aload_n 0, 1) := by decide +kernel
theorem dX8_far_29 : decode cX8_far 29 = .ok (.iload_n 1, 1) := by decide +kernel
theorem dX8_far_30 : decode cX8_far 30 = .ok (.invokevirtual 154, 3) := by decide +kernel
theorem dX8_far_33 : decode cX8_far 33 = .ok (.istore 4, 2) := by decide +kernel
theorem dX8_far_35 : decode cX8_far 35 = .ok (.iload 4, 2) := by decide +kernel
theorem dX8_far_37 : decode cX8_far 37 = .ok (.ifCond .eq 6, 3) := by decide +kernel
theorem dX8_far_40 : decode cX8_far 40 = .ok (.iload 4, 2) := by decide +kernel
theorem dX8_far_42 : decode cX8_far 42 = .ok (.ireturn, 1) := by decide +kernel
theorem dX8_far_43 : decode cX8_far 43 = .ok (.aload_n 0, 1) := by decide +kernel
theorem dX8_far_44 : decode cX8_far 44 = .ok (.iload_n 1, 1) := by decide +kernel
theorem dX8_far_45 : decode cX8_far 45 = .ok (.iload_n 2, 1) := by decide +kernel
theorem dX8_far_46 : decode cX8_far 46 = .ok (.invokevirtual 158, 3) := by decide +kernel
theorem dX8_far_49 : decode cX8_far 49 = .ok (.istore 5, 2) := by decide +kernel
theorem dX8_far_51 : decode cX8_far 51 = .ok (.iconst 0, 1) := by decide +kernel
theorem dX8_far_52 : decode cX8_far 52 = .ok (.iload 5, 2) := by decide +kernel
theorem dX8_far_54 : decode cX8_far 54 = .ok (.iconst 1, 1) := by decide +kernel
theorem dX8_far_55 : decode cX8_far 55 = .ok (.isub, 1) := by decide +kernel
theorem dX8_far_56 : decode cX8_far 56 = .ok (.invokestatic 162, 3) := by decide +kernel
theorem dX8_far_59 : decode cX8_far 59 = .ok (.istore 6, 2) := by decide +kernel
theorem dX8_far_61 : decode cX8_far 61 = .ok (.iload_n 3, 1) := by decide +kernel
theorem dX8_far_62 : decode cX8_far 62 = .ok (.ifCond .ne 6, 3) := by decide +kernel
theorem dX8_far_65 : decode cX8_far 65 = .ok (.iload 5, 2) := by decide +kernel
theorem dX8_far_67 : decode cX8_far 67 = .ok (.ireturn, 1) := by decide +kernel
theorem dX8_far_68 : decode cX8_far 68 = .ok (.iload_n 3, 1) := by decide +kernel
theorem dX8_far_69 : decode cX8_far 69 = .ok (.iconst 1, 1) := by decide +kernel
theorem dX8_far_70 : decode cX8_far 70 = .ok (.if_icmp .ne 8, 3) := by decide +kernel
theorem dX8_far_73 : decode cX8_far 73 = .ok (.iload 6, 2) := by decide +kernel
theorem dX8_far_75 : decode cX8_far 75 = .ok (.goto 7, 3) := by decide +kernel
theorem dX8_far_78 : decode cX8_far 78 = .ok (.iload 6, 2) := by decide +kernel
theorem dX8_far_80 : decode cX8_far 80 = .ok (.iconst 2, 1) := by decide +kernel
theorem dX8_far_81 : decode cX8_far 81 = .ok (.idiv, 1) := by decide +kernel
theorem dX8_far_82 : decode cX8_far 82 = .ok (.ireturn, 1) := by decide +kernel
theorem dX8_best_0 : decode cX8_best 0 = .ok (.iload_n 1, 1) := by decide +kernel
theorem dX8_best_1 : decode cX8_best 1 = .ok (.bipush 6, 2) := by decide +kernel
theorem dX8_best_3 : decode cX8_best 3 = .ok (.invokestatic 104, 3) := by decide +kernel
theorem dX8_best_6 : decode cX8_best 6 = .ok (.ifCond .eq 21, 3) := by decide +kernel
theorem dX8_best_9 : decode cX8_best 9 = .ok (.iload_n 2, 1) := by decide +kernel
theorem dX8_best_10 : decode cX8_best 10 = .ok (.sipush 496, 3) := by decide +kernel
theorem dX8_best_13 : decode cX8_best 13 = .ok (.invokestatic 104, 3) := by decide +kernel
theorem dX8_best_16 : decode cX8_best 16 = .ok (.ifCond .eq 11, 3) := by decide +kernel
theorem dX8_best_19 : decode cX8_best 19 = .ok (.iload_n 3, 1) := by decide +kernel
theorem dX8_best_20 : decode cX8_best 20 = .ok (.iconst 2, 1) := by decide +kernel
theorem dX8_best_21 : decode cX8_best 21 = .ok (.invokestatic 104, 3) := by decide +kernel
theorem dX8_best_24 : decode cX8_best 24 = .ok (.ifCond .ne 5, 3) := by decide +kernel
theorem dX8_best_27 : decode cX8_best 27 = .ok (.iconst (-1), 1) := by decide +kernel
theorem dX8_best_28 : decode cX8_best 28 = .ok (.ireturn, 1) := by decide +kernel
theorem dX8_best_29 : decode cX8_best 29 = .ok (.aload_n 0, 1) := by decide +kernel
theorem dX8_best_30 : decode cX8_best 30 = .ok (.iload_n 1, 1) := by decide +kernel
theorem dX8_best_31 : decode cX8_best 31 = .ok (.invokevirtual 154, 3) := by decide +kernel
theorem dX8_best_34 : decode cX8_best 34 = .ok (.istore 4, 2) := by decide +kernel
theorem dX8_best_36 : decode cX8_best 36 = .ok (.iload 4, 2) := by decide +kernel
theorem dX8_best_38 : decode cX8_best 38 = .ok (.ifCond .eq 6, 3) := by decide +kernel
theorem dX8_best_41 : decode cX8_best 41 = .ok (.iload 4, 2) := by decide +kernel
theorem dX8_best_43 : decode cX8_best 43 = .ok (.ireturn, 1) := by decide +kernel
theorem dX8_best_44 : decode cX8_best 44 = .ok (.aload_n 0, 1) := by decide +kernel
theorem dX8_best_45 : decode cX8_best 45 = .ok (.iload_n 1, 1) := by decide +kernel
theorem dX8_best_46 : decode cX8_best 46 = .ok (.iload_n 2, 1) := by decide +kernel
theorem dX8_best_47 : decode cX8_best 47 = .ok (.invokevirtual 167, 3) := by decide +kernel
theorem dX8_best_50 : decode cX8_best 50 = .ok (.istore 5, 2) := by decide +kernel
theorem dX8_best_52 : decode cX8_best 52 = .ok (.iload_n 3, 1) := by decide +kernel
theorem dX8_best_53 : decode cX8_best 53 = .ok (.ifCond .ne 8, 3) := by decide +kernel
theorem dX8_best_56 : decode cX8_best 56 = .ok (.iload 5, 2) := by decide +kernel
theorem dX8_best_58 : decode cX8_best 58 = .ok (.goto 10, 3) := by decide +kernel
theorem dX8_best_61 : decode cX8_best 61 = .ok (.aload_n 0, 1) := by decide +kernel
theorem dX8_best_62 : decode cX8_best 62 = .ok (.getfield 73, 3) := by decide +kernel
theorem dX8_best_65 : decode cX8_best 65 = .ok (.iload 5, 2) := by decide +kernel
theorem dX8_best_67 : decode cX8_best 67 = .ok (.iaload, 1) := by decide +kernel
theorem dX8_best_68 : decode cX8_best 68 = .ok (.ireturn, 1) := by decide +kernel
theorem dX8_learnt_0 : decode cX8_learnt 0 = .ok (.iload_n 1, 1) := by decide +kernel
theorem dX8_learnt_1 : decode cX8_learnt 1 = .ok (.bipush 6, 2) := by decide +kernel
theorem dX8_learnt_3 : decode cX8_learnt 3 = .ok (.invokestatic 104, 3) := by decide +kernel
theorem dX8_learnt_6 : decode cX8_learnt 6 = .ok (.ifCond .eq 27, 3) := by decide +kernel
theorem dX8_learnt_9 : decode cX8_learnt 9 = .ok (.iload_n 3, 1) := by decide +kernel
theorem dX8_learnt_10 : decode cX8_learnt 10 = .ok (.aload_n 0, 1) := by decide +kernel
theorem dX8_learnt_11 : decode cX8_learnt 11 = .ok (.getfield 19, 3) := by decide +kernel
theorem dX8_learnt_14 : decode cX8_learnt 14 = .ok (.getfield 101, 3) := by decide +kernel
theorem dX8_learnt_17 : decode cX8_learnt 17 = .ok (.invokestatic 104, 3) := by decide +kernel
theorem dX8_learnt_20 : decode cX8_learnt 20 = .ok (.ifCond .eq 13, 3) := by decide +kernel
theorem dX8_learnt_23 : decode cX8_learnt 23 = .ok (.aload_n 0, 1) := by decide +kernel
theorem dX8_learnt_24 : decode cX8_learnt 24 = .ok (.iload_n 1, 1) := by decide +kernel
theorem dX8_learnt_25 : decode cX8_learnt 25 = .ok (.iload_n 2, 1) := by decide +kernel
theorem dX8_learnt_26 : decode cX8_learnt 26 = .ok (.iload_n 3, 1) := by decide +kernel
theorem dX8_learnt_27 : decode cX8_learnt 27 = .ok (.invokevirtual 170, 3) := by decide +kernel
theorem dX8_learnt_30 : decode cX8_learnt 30 = .ok (.ifCond .ne 5, 3) := by decide +kernel
theorem dX8_learnt_33 : decode cX8_learnt 33 = .ok (.iconst (-1), 1) := by decide +kernel
theorem dX8_learnt_34 : decode cX8_learnt 34 = .ok (.ireturn, 1) := by decide +kernel
theorem dX8_learnt_35 : decode cX8_learnt 35 = .ok (.aload_n 0, 1) := by decide +kernel
theorem dX8_learnt_36 : decode cX8_learnt 36 = .ok (.iload_n 1, 1) := by decide +kernel
theorem dX8_learnt_37 : decode cX8_learnt 37 = .ok (.iload_n 2, 1) := by decide +kernel
theorem dX8_learnt_38 : decode cX8_learnt 38 = .ok (.iload_n 3, 1) := by decide +kernel
theorem dX8_learnt_39 : decode cX8_learnt 39 = .ok (.invokevirtual 174, 3) := by decide +kernel
theorem dX8_learnt_42 : decode cX8_learnt 42 = .ok (.ireturn, 1) := by decide +kernel
theorem dX8_slip_0 : decode cX8_slip 0 = .ok (.iload_n 1, 1) := by decide +kernel
theorem dX8_slip_1 : decode cX8_slip 1 = .ok (.bipush 6, 2) := by decide +kernel
theorem dX8_slip_3 : decode cX8_slip 3 = .ok (.invokestatic 104, 3) := by decide +kernel
theorem dX8_slip_6 : decode cX8_slip 6 = .ok (.ifCond .eq 26, 3) := by decide +kernel
theorem dX8_slip_9 : decode cX8_slip 9 = .ok (.iload_n 2, 1) := by decide +kernel
theorem dX8_slip_10 : decode cX8_slip 10 = .ok (.bipush 8, 2) := by decide +kernel
theorem dX8_slip_12 : decode cX8_slip 12 = .ok (.invokestatic 104, 3) := by decide +kernel
theorem dX8_slip_15 : decode cX8_slip 15 = .ok (.ifCond .eq 17, 3) := by decide +kernel
theorem dX8_slip_18 : decode cX8_slip 18 = .ok (.iload_n 3, 1) := by decide +kernel
theorem dX8_slip_19 : decode cX8_slip 19 = .ok (.aload_n 0, 1) := by decide +kernel
theorem dX8_slip_20 : decode cX8_slip 20 = .ok (.getfield 19, 3) := by decide +kernel
theorem dX8_slip_23 : decode cX8_slip 23 = .ok (.getfield 101, 3) := by decide +kernel
theorem dX8_slip_26 : decode cX8_slip 26 = .ok (.invokestatic 104, 3) := by decide +kernel
theorem dX8_slip_29 : decode cX8_slip 29 = .ok (.ifCond .ne 5, 3) := by decide +kernel
theorem dX8_slip_32 : decode cX8_slip 32 = .ok (.iconst (-1), 1) := by decide +kernel
theorem dX8_slip_33 : decode cX8_slip 33 = .ok (.ireturn, 1) := by decide +kernel
theorem dX8_slip_34 : decode cX8_slip 34 = .ok (.aload_n 0, 1) := by decide +kernel
theorem dX8_slip_35 : decode cX8_slip 35 = .ok (.getfield 58, 3) := by decide +kernel
theorem dX8_slip_38 : decode cX8_slip 38 = .ok (.iload_n 1, 1) := by decide +kernel
theorem dX8_slip_39 : decode cX8_slip 39 = .ok (.iload_n 2, 1) := by decide +kernel
theorem dX8_slip_40 : decode cX8_slip 40 = .ok (.iload_n 3, 1) := by decide +kernel
theorem dX8_slip_41 : decode cX8_slip 41 = .ok (.invokevirtual 178, 3) := by decide +kernel
theorem dX8_slip_44 : decode cX8_slip 44 = .ok (.ireturn, 1) := by decide +kernel
theorem dX8_noSlips_0 : decode cX8_noSlips 0 = .ok (.aload_n 0, 1) := by decide +kernel
theorem dX8_noSlips_1 : decode cX8_noSlips 1 = .ok (.getfield 58, 3) := by decide +kernel
theorem dX8_noSlips_4 : decode cX8_noSlips 4 = .ok (.getfield 94, 3) := by decide +kernel
theorem dX8_noSlips_7 : decode cX8_noSlips 7 = .ok (.istore_n 1, 1) := by decide +kernel
theorem dX8_noSlips_8 : decode cX8_noSlips 8 = .ok (.aload_n 0, 1) := by decide +kernel
theorem dX8_noSlips_9 : decode cX8_noSlips 9 = .ok (.getfield 58, 3) := by decide +kernel
theorem dX8_noSlips_12 : decode cX8_noSlips 12 = .ok (.iconst 0, 1) := by decide +kernel
theorem dX8_noSlips_13 : decode cX8_noSlips 13 = .ok (.putfield 94, 3) := by decide +kernel
theorem dX8_noSlips_16 : decode cX8_noSlips 16 = .ok (.iload_n 1, 1) := by decide +kernel
theorem dX8_noSlips_17 : decode cX8_noSlips 17 = .ok (.ireturn, 1) := by decide +kernel
theorem dX8_slips_0 : decode cX8_slips 0 = .ok (.iload_n 1, 1) := by decide +kernel
theorem dX8_slips_1 : decode cX8_slips 1 = .ok (.tableswitch 51 0 3 #[31, 36, 41, 46], 31) := by decide +kernel
theorem dX8_slips_32 : decode cX8_slips 32 = .ok (.aload_n 0, 1) := by decide +kernel
theorem dX8_slips_33 : decode cX8_slips 33 = .ok (.invokevirtual 180, 3) := by decide +kernel
theorem dX8_slips_36 : decode cX8_slips 36 = .ok (.ireturn, 1) := by decide +kernel
theorem dX8_slips_37 : decode cX8_slips 37 = .ok (.aload_n 0, 1) := by decide +kernel
theorem dX8_slips_38 : decode cX8_slips 38 = .ok (.invokevirtual 184, 3) := by decide +kernel
theorem dX8_slips_41 : decode cX8_slips 41 = .ok (.ireturn, 1) := by decide +kernel
theorem dX8_slips_42 : decode cX8_slips 42 = .ok (.aload_n 0, 1) := by decide +kernel
theorem dX8_slips_43 : decode cX8_slips 43 = .ok (.invokevirtual 187, 3) := by decide +kernel
theorem dX8_slips_46 : decode cX8_slips 46 = .ok (.ireturn, 1) := by decide +kernel
theorem dX8_slips_47 : decode cX8_slips 47 = .ok (.aload_n 0, 1) := by decide +kernel
theorem dX8_slips_48 : decode cX8_slips 48 = .ok (.invokevirtual 190, 3) := by decide +kernel
theorem dX8_slips_51 : decode cX8_slips 51 = .ok (.ireturn, 1) := by decide +kernel
theorem dX8_slips_52 : decode cX8_slips 52 = .ok (.iconst (-1), 1) := by decide +kernel
theorem dX8_slips_53 : decode cX8_slips 53 = .ok (.ireturn, 1) := by decide +kernel
theorem dX8_list_0 : decode cX8_list 0 = .ok (.iload_n 1, 1) := by decide +kernel
theorem dX8_list_1 : decode cX8_list 1 = .ok (.bipush 6, 2) := by decide +kernel
theorem dX8_list_3 : decode cX8_list 3 = .ok (.invokestatic 104, 3) := by decide +kernel
theorem dX8_list_6 : decode cX8_list 6 = .ok (.ifCond .eq 12, 3) := by decide +kernel
theorem dX8_list_9 : decode cX8_list 9 = .ok (.iload_n 2, 1) := by decide +kernel
theorem dX8_list_10 : decode cX8_list 10 = .ok (.bipush 9, 2) := by decide +kernel
theorem dX8_list_12 : decode cX8_list 12 = .ok (.invokestatic 104, 3) := by decide +kernel
theorem dX8_list_15 : decode cX8_list 15 = .ok (.ifCond .ne 5, 3) := by decide +kernel
theorem dX8_list_18 : decode cX8_list 18 = .ok (.iconst (-1), 1) := by decide +kernel
theorem dX8_list_19 : decode cX8_list 19 = .ok (.ireturn, 1) := by decide +kernel
theorem dX8_list_20 : decode cX8_list 20 = .ok (.aload_n 0, 1) := by decide +kernel
theorem dX8_list_21 : decode cX8_list 21 = .ok (.getfield 29, 3) := by decide +kernel
theorem dX8_list_24 : decode cX8_list 24 = .ok (.getfield 114, 3) := by decide +kernel
theorem dX8_list_27 : decode cX8_list 27 = .ok (.iload_n 1, 1) := by decide +kernel
theorem dX8_list_28 : decode cX8_list 28 = .ok (.aaload, 1) := by decide +kernel
theorem dX8_list_29 : decode cX8_list 29 = .ok (.astore_n 3, 1) := by decide +kernel
theorem dX8_list_30 : decode cX8_list 30 = .ok (.iconst 0, 1) := by decide +kernel
theorem dX8_list_31 : decode cX8_list 31 = .ok (.istore 4, 2) := by decide +kernel
theorem dX8_list_33 : decode cX8_list 33 = .ok (.iconst 0, 1) := by decide +kernel
theorem dX8_list_34 : decode cX8_list 34 = .ok (.istore 5, 2) := by decide +kernel
theorem dX8_list_36 : decode cX8_list 36 = .ok (.iconst 0, 1) := by decide +kernel
theorem dX8_list_37 : decode cX8_list 37 = .ok (.istore 6, 2) := by decide +kernel
theorem dX8_list_39 : decode cX8_list 39 = .ok (.iload 6, 2) := by decide +kernel
theorem dX8_list_41 : decode cX8_list 41 = .ok (.aload_n 0, 1) := by decide +kernel
theorem dX8_list_42 : decode cX8_list 42 = .ok (.getfield 29, 3) := by decide +kernel
theorem dX8_list_45 : decode cX8_list 45 = .ok (.getfield 111, 3) := by decide +kernel
theorem dX8_list_48 : decode cX8_list 48 = .ok (.iload_n 1, 1) := by decide +kernel
theorem dX8_list_49 : decode cX8_list 49 = .ok (.iaload, 1) := by decide +kernel
theorem dX8_list_50 : decode cX8_list 50 = .ok (.if_icmp .ge 52, 3) := by decide +kernel
theorem dX8_list_53 : decode cX8_list 53 = .ok (.iload 4, 2) := by decide +kernel
theorem dX8_list_55 : decode cX8_list 55 = .ok (.aload_n 0, 1) := by decide +kernel
theorem dX8_list_56 : decode cX8_list 56 = .ok (.getfield 19, 3) := by decide +kernel
theorem dX8_list_59 : decode cX8_list 59 = .ok (.getfield 193, 3) := by decide +kernel
theorem dX8_list_62 : decode cX8_list 62 = .ok (.aload_n 3, 1) := by decide +kernel
theorem dX8_list_63 : decode cX8_list 63 = .ok (.iload 6, 2) := by decide +kernel
theorem dX8_list_65 : decode cX8_list 65 = .ok (.iaload, 1) := by decide +kernel
theorem dX8_list_66 : decode cX8_list 66 = .ok (.iaload, 1) := by decide +kernel
theorem dX8_list_67 : decode cX8_list 67 = .ok (.iload_n 2, 1) := by decide +kernel
theorem dX8_list_68 : decode cX8_list 68 = .ok (.if_icmp .ne 7, 3) := by decide +kernel
theorem dX8_list_71 : decode cX8_list 71 = .ok (.iconst 1, 1) := by decide +kernel
theorem dX8_list_72 : decode cX8_list 72 = .ok (.goto 4, 3) := by decide +kernel
theorem dX8_list_75 : decode cX8_list 75 = .ok (.iconst 0, 1) := by decide +kernel
theorem dX8_list_76 : decode cX8_list 76 = .ok (.iadd, 1) := by decide +kernel
theorem dX8_list_77 : decode cX8_list 77 = .ok (.istore 4, 2) := by decide +kernel
theorem dX8_list_79 : decode cX8_list 79 = .ok (.iload 5, 2) := by decide +kernel
theorem dX8_list_81 : decode cX8_list 81 = .ok (.aload_n 0, 1) := by decide +kernel
theorem dX8_list_82 : decode cX8_list 82 = .ok (.getfield 19, 3) := by decide +kernel
theorem dX8_list_85 : decode cX8_list 85 = .ok (.getfield 196, 3) := by decide +kernel
theorem dX8_list_88 : decode cX8_list 88 = .ok (.aload_n 3, 1) := by decide +kernel
theorem dX8_list_89 : decode cX8_list 89 = .ok (.iload 6, 2) := by decide +kernel
theorem dX8_list_91 : decode cX8_list 91 = .ok (.iaload, 1) := by decide +kernel
theorem dX8_list_92 : decode cX8_list 92 = .ok (.iaload, 1) := by decide +kernel
theorem dX8_list_93 : decode cX8_list 93 = .ok (.iadd, 1) := by decide +kernel
theorem dX8_list_94 : decode cX8_list 94 = .ok (.istore 5, 2) := by decide +kernel
theorem dX8_list_96 : decode cX8_list 96 = .ok (.iinc 6 1, 3) := by decide +kernel
theorem dX8_list_99 : decode cX8_list 99 = .ok (.goto (-60), 3) := by decide +kernel
theorem dX8_list_102 : decode cX8_list 102 = .ok (.iload_n 2, 1) := by decide +kernel
theorem dX8_list_103 : decode cX8_list 103 = .ok (.bipush 8, 2) := by decide +kernel
theorem dX8_list_105 : decode cX8_list 105 = .ok (.if_icmp .ne 11, 3) := by decide +kernel
theorem dX8_list_108 : decode cX8_list 108 = .ok (.iload 5, 2) := by decide +kernel
theorem dX8_list_110 : decode cX8_list 110 = .ok (.bipush 16, 2) := by decide +kernel
theorem dX8_list_112 : decode cX8_list 112 = .ok (.irem, 1) := by decide +kernel
theorem dX8_list_113 : decode cX8_list 113 = .ok (.goto 5, 3) := by decide +kernel
theorem dX8_list_116 : decode cX8_list 116 = .ok (.iload 4, 2) := by decide +kernel
theorem dX8_list_118 : decode cX8_list 118 = .ok (.ireturn, 1) := by decide +kernel
theorem dX8_head_0 : decode cX8_head 0 = .ok (.iload_n 1, 1) := by decide +kernel
theorem dX8_head_1 : decode cX8_head 1 = .ok (.sipush 3001, 3) := by decide +kernel
theorem dX8_head_4 : decode cX8_head 4 = .ok (.invokestatic 104, 3) := by decide +kernel
theorem dX8_head_7 : decode cX8_head 7 = .ok (.ifCond .eq 24, 3) := by decide +kernel
theorem dX8_head_10 : decode cX8_head 10 = .ok (.iload_n 3, 1) := by decide +kernel
theorem dX8_head_11 : decode cX8_head 11 = .ok (.bipush 6, 2) := by decide +kernel
theorem dX8_head_13 : decode cX8_head 13 = .ok (.invokestatic 104, 3) := by decide +kernel
theorem dX8_head_16 : decode cX8_head 16 = .ok (.ifCond .eq 15, 3) := by decide +kernel
theorem dX8_head_19 : decode cX8_head 19 = .ok (.aload_n 0, 1) := by decide +kernel
theorem dX8_head_20 : decode cX8_head 20 = .ok (.getfield 65, 3) := by decide +kernel
theorem dX8_head_23 : decode cX8_head 23 = .ok (.iload_n 2, 1) := by decide +kernel
theorem dX8_head_24 : decode cX8_head 24 = .ok (.iload_n 1, 1) := by decide +kernel
theorem dX8_head_25 : decode cX8_head 25 = .ok (.invokevirtual 199, 3) := by decide +kernel
theorem dX8_head_28 : decode cX8_head 28 = .ok (.ifCond .ne 5, 3) := by decide +kernel
theorem dX8_head_31 : decode cX8_head 31 = .ok (.iconst (-1), 1) := by decide +kernel
theorem dX8_head_32 : decode cX8_head 32 = .ok (.ireturn, 1) := by decide +kernel
theorem dX8_head_33 : decode cX8_head 33 = .ok (.aload_n 0, 1) := by decide +kernel
theorem dX8_head_34 : decode cX8_head 34 = .ok (.getfield 65, 3) := by decide +kernel
theorem dX8_head_37 : decode cX8_head 37 = .ok (.iload_n 1, 1) := by decide +kernel
theorem dX8_head_38 : decode cX8_head 38 = .ok (.iload_n 2, 1) := by decide +kernel
theorem dX8_head_39 : decode cX8_head 39 = .ok (.iload_n 3, 1) := by decide +kernel
theorem dX8_head_40 : decode cX8_head 40 = .ok (.invokevirtual 202, 3) := by decide +kernel
theorem dX8_head_43 : decode cX8_head 43 = .ok (.ireturn, 1) := by decide +kernel
theorem dX8_alive_0 : decode cX8_alive 0 = .ok (.iload_n 1, 1) := by decide +kernel
theorem dX8_alive_1 : decode cX8_alive 1 = .ok (.aload_n 0, 1) := by decide +kernel
theorem dX8_alive_2 : decode cX8_alive 2 = .ok (.getfield 65, 3) := by decide +kernel
theorem dX8_alive_5 : decode cX8_alive 5 = .ok (.getfield 97, 3) := by decide +kernel
theorem dX8_alive_8 : decode cX8_alive 8 = .ok (.invokestatic 104, 3) := by decide +kernel
theorem dX8_alive_11 : decode cX8_alive 11 = .ok (.ifCond .ne 5, 3) := by decide +kernel
theorem dX8_alive_14 : decode cX8_alive 14 = .ok (.iconst (-1), 1) := by decide +kernel
theorem dX8_alive_15 : decode cX8_alive 15 = .ok (.ireturn, 1) := by decide +kernel
theorem dX8_alive_16 : decode cX8_alive 16 = .ok (.aload_n 0, 1) := by decide +kernel
theorem dX8_alive_17 : decode cX8_alive 17 = .ok (.getfield 65, 3) := by decide +kernel
theorem dX8_alive_20 : decode cX8_alive 20 = .ok (.getfield 203, 3) := by decide +kernel
theorem dX8_alive_23 : decode cX8_alive 23 = .ok (.iload_n 1, 1) := by decide +kernel
theorem dX8_alive_24 : decode cX8_alive 24 = .ok (.baload, 1) := by decide +kernel
theorem dX8_alive_25 : decode cX8_alive 25 = .ok (.ifCond .eq 7, 3) := by decide +kernel
theorem dX8_alive_28 : decode cX8_alive 28 = .ok (.iconst 1, 1) := by decide +kernel
theorem dX8_alive_29 : decode cX8_alive 29 = .ok (.goto 4, 3) := by decide +kernel
theorem dX8_alive_32 : decode cX8_alive 32 = .ok (.iconst 0, 1) := by decide +kernel
theorem dX8_alive_33 : decode cX8_alive 33 = .ok (.istore_n 3, 1) := by decide +kernel
theorem dX8_alive_34 : decode cX8_alive 34 = .ok (.aload_n 0, 1) := by decide +kernel
theorem dX8_alive_35 : decode cX8_alive 35 = .ok (.getfield 65, 3) := by decide +kernel
theorem dX8_alive_38 : decode cX8_alive 38 = .ok (.getfield 203, 3) := by decide +kernel
theorem dX8_alive_41 : decode cX8_alive 41 = .ok (.iload_n 1, 1) := by decide +kernel
theorem dX8_alive_42 : decode cX8_alive 42 = .ok (.iload_n 2, 1) := by decide +kernel
theorem dX8_alive_43 : decode cX8_alive 43 = .ok (.bastore, 1) := by decide +kernel
theorem dX8_alive_44 : decode cX8_alive 44 = .ok (.iload_n 3, 1) := by decide +kernel
theorem dX8_alive_45 : decode cX8_alive 45 = .ok (.ireturn, 1) := by decide +kernel
theorem dX8_same_0 : decode cX8_same 0 = .ok (.iload_n 1, 1) := by decide +kernel
theorem dX8_same_1 : decode cX8_same 1 = .ok (.bipush 8, 2) := by decide +kernel
theorem dX8_same_3 : decode cX8_same 3 = .ok (.invokestatic 104, 3) := by decide +kernel
theorem dX8_same_6 : decode cX8_same 6 = .ok (.ifCond .ne 5, 3) := by decide +kernel
theorem dX8_same_9 : decode cX8_same 9 = .ok (.iconst (-1), 1) := by decide +kernel
theorem dX8_same_10 : decode cX8_same 10 = .ok (.ireturn, 1) := by decide +kernel
theorem dX8_same_11 : decode cX8_same 11 = .ok (.aload_n 0, 1) := by decide +kernel
theorem dX8_same_12 : decode cX8_same 12 = .ok (.getfield 65, 3) := by decide +kernel
theorem dX8_same_15 : decode cX8_same 15 = .ok (.aload_n 0, 1) := by decide +kernel
theorem dX8_same_16 : decode cX8_same 16 = .ok (.getfield 29, 3) := by decide +kernel
theorem dX8_same_19 : decode cX8_same 19 = .ok (.iload_n 1, 1) := by decide +kernel
theorem dX8_same_20 : decode cX8_same 20 = .ok (.invokevirtual 207, 3) := by decide +kernel
theorem dX8_same_23 : decode cX8_same 23 = .ok (.ifCond .eq 7, 3) := by decide +kernel
theorem dX8_same_26 : decode cX8_same 26 = .ok (.iconst 1, 1) := by decide +kernel
theorem dX8_same_27 : decode cX8_same 27 = .ok (.goto 4, 3) := by decide +kernel
theorem dX8_same_30 : decode cX8_same 30 = .ok (.iconst 0, 1) := by decide +kernel
theorem dX8_same_31 : decode cX8_same 31 = .ok (.ireturn, 1) := by decide +kernel
theorem dX8_since_0 : decode cX8_since 0 = .ok (.iload_n 1, 1) := by decide +kernel
theorem dX8_since_1 : decode cX8_since 1 = .ok (.bipush 8, 2) := by decide +kernel
theorem dX8_since_3 : decode cX8_since 3 = .ok (.invokestatic 104, 3) := by decide +kernel
theorem dX8_since_6 : decode cX8_since 6 = .ok (.ifCond .eq 17, 3) := by decide +kernel
theorem dX8_since_9 : decode cX8_since 9 = .ok (.iload_n 2, 1) := by decide +kernel
theorem dX8_since_10 : decode cX8_since 10 = .ok (.aload_n 0, 1) := by decide +kernel
theorem dX8_since_11 : decode cX8_since 11 = .ok (.getfield 19, 3) := by decide +kernel
theorem dX8_since_14 : decode cX8_since 14 = .ok (.getfield 101, 3) := by decide +kernel
theorem dX8_since_17 : decode cX8_since 17 = .ok (.invokestatic 104, 3) := by decide +kernel
theorem dX8_since_20 : decode cX8_since 20 = .ok (.ifCond .ne 5, 3) := by decide +kernel
theorem dX8_since_23 : decode cX8_since 23 = .ok (.iconst (-1), 1) := by decide +kernel
theorem dX8_since_24 : decode cX8_since 24 = .ok (.ireturn, 1) := by decide +kernel
theorem dX8_since_25 : decode cX8_since 25 = .ok (.aload_n 0, 1) := by decide +kernel
theorem dX8_since_26 : decode cX8_since 26 = .ok (.getfield 65, 3) := by decide +kernel
theorem dX8_since_29 : decode cX8_since 29 = .ok (.aload_n 0, 1) := by decide +kernel
theorem dX8_since_30 : decode cX8_since 30 = .ok (.getfield 29, 3) := by decide +kernel
theorem dX8_since_33 : decode cX8_since 33 = .ok (.iload_n 1, 1) := by decide +kernel
theorem dX8_since_34 : decode cX8_since 34 = .ok (.iload_n 2, 1) := by decide +kernel
theorem dX8_since_35 : decode cX8_since 35 = .ok (.invokevirtual 211, 3) := by decide +kernel
theorem dX8_since_38 : decode cX8_since 38 = .ok (.ifCond .eq 13, 3) := by decide +kernel
theorem dX8_since_41 : decode cX8_since 41 = .ok (.aload_n 0, 1) := by decide +kernel
theorem dX8_since_42 : decode cX8_since 42 = .ok (.getfield 65, 3) := by decide +kernel
theorem dX8_since_45 : decode cX8_since 45 = .ok (.invokevirtual 215, 3) := by decide +kernel
theorem dX8_since_48 : decode cX8_since 48 = .ok (.goto 5, 3) := by decide +kernel
theorem dX8_since_51 : decode cX8_since 51 = .ok (.bipush (-4), 2) := by decide +kernel
theorem dX8_since_53 : decode cX8_since 53 = .ok (.ireturn, 1) := by decide +kernel
theorem dX8_lost_0 : decode cX8_lost 0 = .ok (.aload_n 0, 1) := by decide +kernel
theorem dX8_lost_1 : decode cX8_lost 1 = .ok (.getfield 65, 3) := by decide +kernel
theorem dX8_lost_4 : decode cX8_lost 4 = .ok (.iload_n 1, 1) := by decide +kernel
theorem dX8_lost_5 : decode cX8_lost 5 = .ok (.invokevirtual 218, 3) := by decide +kernel
theorem dX8_lost_8 : decode cX8_lost 8 = .ok (.ifCond .ne 5, 3) := by decide +kernel
theorem dX8_lost_11 : decode cX8_lost 11 = .ok (.iconst (-1), 1) := by decide +kernel
theorem dX8_lost_12 : decode cX8_lost 12 = .ok (.ireturn, 1) := by decide +kernel
theorem dX8_lost_13 : decode cX8_lost 13 = .ok (.aload_n 0, 1) := by decide +kernel
theorem dX8_lost_14 : decode cX8_lost 14 = .ok (.getfield 65, 3) := by decide +kernel
theorem dX8_lost_17 : decode cX8_lost 17 = .ok (.iload_n 1, 1) := by decide +kernel
theorem dX8_lost_18 : decode cX8_lost 18 = .ok (.invokevirtual 222, 3) := by decide +kernel
theorem dX8_lost_21 : decode cX8_lost 21 = .ok (.aload_n 0, 1) := by decide +kernel
theorem dX8_lost_22 : decode cX8_lost 22 = .ok (.getfield 65, 3) := by decide +kernel
theorem dX8_lost_25 : decode cX8_lost 25 = .ok (.iload_n 1, 1) := by decide +kernel
theorem dX8_lost_26 : decode cX8_lost 26 = .ok (.iconst (-1), 1) := by decide +kernel
theorem dX8_lost_27 : decode cX8_lost 27 = .ok (.ixor, 1) := by decide +kernel
theorem dX8_lost_28 : decode cX8_lost 28 = .ok (.invokevirtual 222, 3) := by decide +kernel
theorem dX8_lost_31 : decode cX8_lost 31 = .ok (.iconst (-1), 1) := by decide +kernel
theorem dX8_lost_32 : decode cX8_lost 32 = .ok (.ixor, 1) := by decide +kernel
theorem dX8_lost_33 : decode cX8_lost 33 = .ok (.iand, 1) := by decide +kernel
theorem dX8_lost_34 : decode cX8_lost 34 = .ok (.ireturn, 1) := by decide +kernel
theorem dX8_from_0 : decode cX8_from 0 = .ok (.aload_n 0, 1) := by decide +kernel
theorem dX8_from_1 : decode cX8_from 1 = .ok (.getfield 65, 3) := by decide +kernel
theorem dX8_from_4 : decode cX8_from 4 = .ok (.iload_n 1, 1) := by decide +kernel
theorem dX8_from_5 : decode cX8_from 5 = .ok (.invokevirtual 218, 3) := by decide +kernel
theorem dX8_from_8 : decode cX8_from 8 = .ok (.ifCond .eq 12, 3) := by decide +kernel
theorem dX8_from_11 : decode cX8_from 11 = .ok (.iload_n 2, 1) := by decide +kernel
theorem dX8_from_12 : decode cX8_from 12 = .ok (.bipush 6, 2) := by decide +kernel
theorem dX8_from_14 : decode cX8_from 14 = .ok (.invokestatic 104, 3) := by decide +kernel
theorem dX8_from_17 : decode cX8_from 17 = .ok (.ifCond .ne 5, 3) := by decide +kernel
theorem dX8_from_20 : decode cX8_from 20 = .ok (.iconst (-1), 1) := by decide +kernel
theorem dX8_from_21 : decode cX8_from 21 = .ok (.ireturn, 1) := by decide +kernel
theorem dX8_from_22 : decode cX8_from 22 = .ok (.aload_n 0, 1) := by decide +kernel
theorem dX8_from_23 : decode cX8_from 23 = .ok (.getfield 65, 3) := by decide +kernel
theorem dX8_from_26 : decode cX8_from 26 = .ok (.iload_n 1, 1) := by decide +kernel
theorem dX8_from_27 : decode cX8_from 27 = .ok (.iconst (-1), 1) := by decide +kernel
theorem dX8_from_28 : decode cX8_from 28 = .ok (.ixor, 1) := by decide +kernel
theorem dX8_from_29 : decode cX8_from 29 = .ok (.iload_n 2, 1) := by decide +kernel
theorem dX8_from_30 : decode cX8_from 30 = .ok (.invokevirtual 225, 3) := by decide +kernel
theorem dX8_from_33 : decode cX8_from 33 = .ok (.ireturn, 1) := by decide +kernel
theorem dX8_odds_0 : decode cX8_odds 0 = .ok (.iload_n 1, 1) := by decide +kernel
theorem dX8_odds_1 : decode cX8_odds 1 = .ok (.bipush 101, 2) := by decide +kernel
theorem dX8_odds_3 : decode cX8_odds 3 = .ok (.invokestatic 104, 3) := by decide +kernel
theorem dX8_odds_6 : decode cX8_odds 6 = .ok (.ifCond .eq 31, 3) := by decide +kernel
theorem dX8_odds_9 : decode cX8_odds 9 = .ok (.iload_n 2, 1) := by decide +kernel
theorem dX8_odds_10 : decode cX8_odds 10 = .ok (.bipush 101, 2) := by decide +kernel
theorem dX8_odds_12 : decode cX8_odds 12 = .ok (.invokestatic 104, 3) := by decide +kernel
theorem dX8_odds_15 : decode cX8_odds 15 = .ok (.ifCond .eq 22, 3) := by decide +kernel
theorem dX8_odds_18 : decode cX8_odds 18 = .ok (.iload_n 3, 1) := by decide +kernel
theorem dX8_odds_19 : decode cX8_odds 19 = .ok (.iconst 1, 1) := by decide +kernel
theorem dX8_odds_20 : decode cX8_odds 20 = .ok (.if_icmp .lt 17, 3) := by decide +kernel
theorem dX8_odds_23 : decode cX8_odds 23 = .ok (.iload_n 3, 1) := by decide +kernel
theorem dX8_odds_24 : decode cX8_odds 24 = .ok (.iconst 4, 1) := by decide +kernel
theorem dX8_odds_25 : decode cX8_odds 25 = .ok (.if_icmp .gt 12, 3) := by decide +kernel
theorem dX8_odds_28 : decode cX8_odds 28 = .ok (.iload 4, 2) := by decide +kernel
theorem dX8_odds_30 : decode cX8_odds 30 = .ok (.iconst 2, 1) := by decide +kernel
theorem dX8_odds_31 : decode cX8_odds 31 = .ok (.invokestatic 104, 3) := by decide +kernel
theorem dX8_odds_34 : decode cX8_odds 34 = .ok (.ifCond .ne 7, 3) := by decide +kernel
theorem dX8_odds_37 : decode cX8_odds 37 = .ok (.ldc2_w 228, 3) := by decide +kernel
theorem dX8_odds_40 : decode cX8_odds 40 = .ok (.lreturn, 1) := by decide +kernel
theorem dX8_odds_41 : decode cX8_odds 41 = .ok (.sipush 10000, 3) := by decide +kernel
theorem dX8_odds_44 : decode cX8_odds 44 = .ok (.iload_n 1, 1) := by decide +kernel
theorem dX8_odds_45 : decode cX8_odds 45 = .ok (.bipush 100, 2) := by decide +kernel
theorem dX8_odds_47 : decode cX8_odds 47 = .ok (.iload_n 2, 1) := by decide +kernel
theorem dX8_odds_48 : decode cX8_odds 48 = .ok (.isub, 1) := by decide +kernel
theorem dX8_odds_49 : decode cX8_odds 49 = .ok (.imul, 1) := by decide +kernel
theorem dX8_odds_50 : decode cX8_odds 50 = .ok (.isub, 1) := by decide +kernel
theorem dX8_odds_51 : decode cX8_odds 51 = .ok (.istore 5, 2) := by decide +kernel
theorem dX8_odds_53 : decode cX8_odds 53 = .ok (.iload 5, 2) := by decide +kernel
theorem dX8_odds_55 : decode cX8_odds 55 = .ok (.sipush 10000, 3) := by decide +kernel
theorem dX8_odds_58 : decode cX8_odds 58 = .ok (.invokestatic 230, 3) := by decide +kernel
theorem dX8_odds_61 : decode cX8_odds 61 = .ok (.istore 6, 2) := by decide +kernel
theorem dX8_odds_63 : decode cX8_odds 63 = .ok (.iload 4, 2) := by decide +kernel
theorem dX8_odds_65 : decode cX8_odds 65 = .ok (.ifCond .ne 8, 3) := by decide +kernel
theorem dX8_odds_68 : decode cX8_odds 68 = .ok (.iload 5, 2) := by decide +kernel
theorem dX8_odds_70 : decode cX8_odds 70 = .ok (.goto 6, 3) := by decide +kernel
theorem dX8_odds_73 : decode cX8_odds 73 = .ok (.sipush 10000, 3) := by decide +kernel
theorem dX8_odds_76 : decode cX8_odds 76 = .ok (.iload 6, 2) := by decide +kernel
theorem dX8_odds_78 : decode cX8_odds 78 = .ok (.idiv, 1) := by decide +kernel
theorem dX8_odds_79 : decode cX8_odds 79 = .ok (.istore 7, 2) := by decide +kernel
theorem dX8_odds_81 : decode cX8_odds 81 = .ok (.lconst 1, 1) := by decide +kernel
theorem dX8_odds_82 : decode cX8_odds 82 = .ok (.lstore 8, 2) := by decide +kernel
theorem dX8_odds_84 : decode cX8_odds 84 = .ok (.iconst 0, 1) := by decide +kernel
theorem dX8_odds_85 : decode cX8_odds 85 = .ok (.istore 10, 2) := by decide +kernel
theorem dX8_odds_87 : decode cX8_odds 87 = .ok (.iload 10, 2) := by decide +kernel
theorem dX8_odds_89 : decode cX8_odds 89 = .ok (.iload_n 3, 1) := by decide +kernel
theorem dX8_odds_90 : decode cX8_odds 90 = .ok (.if_icmp .ge 17, 3) := by decide +kernel
theorem dX8_odds_93 : decode cX8_odds 93 = .ok (.lload 8, 2) := by decide +kernel
theorem dX8_odds_95 : decode cX8_odds 95 = .ok (.iload 7, 2) := by decide +kernel
theorem dX8_odds_97 : decode cX8_odds 97 = .ok (.i2l, 1) := by decide +kernel
theorem dX8_odds_98 : decode cX8_odds 98 = .ok (.lmul, 1) := by decide +kernel
theorem dX8_odds_99 : decode cX8_odds 99 = .ok (.lstore 8, 2) := by decide +kernel
theorem dX8_odds_101 : decode cX8_odds 101 = .ok (.iinc 10 1, 3) := by decide +kernel
theorem dX8_odds_104 : decode cX8_odds 104 = .ok (.goto (-17), 3) := by decide +kernel
theorem dX8_odds_107 : decode cX8_odds 107 = .ok (.lload 8, 2) := by decide +kernel
theorem dX8_odds_109 : decode cX8_odds 109 = .ok (.lreturn, 1) := by decide +kernel
theorem dX8_keep_0 : decode cX8_keep 0 = .ok (.aload_n 0, 1) := by decide +kernel
theorem dX8_keep_1 : decode cX8_keep 1 = .ok (.getfield 98, 3) := by decide +kernel
theorem dX8_keep_4 : decode cX8_keep 4 = .ok (.iconst 2, 1) := by decide +kernel
theorem dX8_keep_5 : decode cX8_keep 5 = .ok (.if_icmp .lt 6, 3) := by decide +kernel
theorem dX8_keep_8 : decode cX8_keep 8 = .ok (.bipush (-3), 2) := by decide +kernel
theorem dX8_keep_10 : decode cX8_keep 10 = .ok (.ireturn, 1) := by decide +kernel
theorem dX8_keep_11 : decode cX8_keep 11 = .ok (.aload_n 0, 1) := by decide +kernel
theorem dX8_keep_12 : decode cX8_keep 12 = .ok (.aload_n 0, 1) := by decide +kernel
theorem dX8_keep_13 : decode cX8_keep 13 = .ok (.getfield 98, 3) := by decide +kernel
theorem dX8_keep_16 : decode cX8_keep 16 = .ok (.invokevirtual 233, 3) := by decide +kernel
theorem dX8_keep_19 : decode cX8_keep 19 = .ok (.aload_n 0, 1) := by decide +kernel
theorem dX8_keep_20 : decode cX8_keep 20 = .ok (.getfield 29, 3) := by decide +kernel
theorem dX8_keep_23 : decode cX8_keep 23 = .ok (.invokevirtual 237, 3) := by decide +kernel
theorem dX8_keep_26 : decode cX8_keep 26 = .ok (.aload_n 0, 1) := by decide +kernel
theorem dX8_keep_27 : decode cX8_keep 27 = .ok (.dup, 1) := by decide +kernel
theorem dX8_keep_28 : decode cX8_keep 28 = .ok (.getfield 98, 3) := by decide +kernel
theorem dX8_keep_31 : decode cX8_keep 31 = .ok (.iconst 1, 1) := by decide +kernel
theorem dX8_keep_32 : decode cX8_keep 32 = .ok (.iadd, 1) := by decide +kernel
theorem dX8_keep_33 : decode cX8_keep 33 = .ok (.putfield 98, 3) := by decide +kernel
theorem dX8_keep_36 : decode cX8_keep 36 = .ok (.aload_n 0, 1) := by decide +kernel
theorem dX8_keep_37 : decode cX8_keep 37 = .ok (.getfield 98, 3) := by decide +kernel
theorem dX8_keep_40 : decode cX8_keep 40 = .ok (.ireturn, 1) := by decide +kernel
theorem dX8_back_0 : decode cX8_back 0 = .ok (.aload_n 0, 1) := by decide +kernel
theorem dX8_back_1 : decode cX8_back 1 = .ok (.getfield 98, 3) := by decide +kernel
theorem dX8_back_4 : decode cX8_back 4 = .ok (.ifCond .gt 6, 3) := by decide +kernel
theorem dX8_back_7 : decode cX8_back 7 = .ok (.bipush (-2), 2) := by decide +kernel
theorem dX8_back_9 : decode cX8_back 9 = .ok (.ireturn, 1) := by decide +kernel
theorem dX8_back_10 : decode cX8_back 10 = .ok (.aload_n 0, 1) := by decide +kernel
theorem dX8_back_11 : decode cX8_back 11 = .ok (.dup, 1) := by decide +kernel
theorem dX8_back_12 : decode cX8_back 12 = .ok (.getfield 98, 3) := by decide +kernel
theorem dX8_back_15 : decode cX8_back 15 = .ok (.iconst 1, 1) := by decide +kernel
theorem dX8_back_16 : decode cX8_back 16 = .ok (.isub, 1) := by decide +kernel
theorem dX8_back_17 : decode cX8_back 17 = .ok (.putfield 98, 3) := by decide +kernel
theorem dX8_back_20 : decode cX8_back 20 = .ok (.aload_n 0, 1) := by decide +kernel
theorem dX8_back_21 : decode cX8_back 21 = .ok (.getfield 29, 3) := by decide +kernel
theorem dX8_back_24 : decode cX8_back 24 = .ok (.aload_n 0, 1) := by decide +kernel
theorem dX8_back_25 : decode cX8_back 25 = .ok (.aload_n 0, 1) := by decide +kernel
theorem dX8_back_26 : decode cX8_back 26 = .ok (.getfield 98, 3) := by decide +kernel
theorem dX8_back_29 : decode cX8_back 29 = .ok (.invokevirtual 233, 3) := by decide +kernel
theorem dX8_back_32 : decode cX8_back 32 = .ok (.invokevirtual 237, 3) := by decide +kernel
theorem dX8_back_35 : decode cX8_back 35 = .ok (.aload_n 0, 1) := by decide +kernel
theorem dX8_back_36 : decode cX8_back 36 = .ok (.getfield 98, 3) := by decide +kernel
theorem dX8_back_39 : decode cX8_back 39 = .ok (.ireturn, 1) := by decide +kernel
theorem dX8_count_0 : decode cX8_count 0 = .ok (.iload_n 1, 1) := by decide +kernel
theorem dX8_count_1 : decode cX8_count 1 = .ok (.tableswitch 96 0 6 #[43, 51, 59, 67, 75, 83, 88], 43) := by decide +kernel
theorem dX8_count_44 : decode cX8_count 44 = .ok (.aload_n 0, 1) := by decide +kernel
theorem dX8_count_45 : decode cX8_count 45 = .ok (.getfield 19, 3) := by decide +kernel
theorem dX8_count_48 : decode cX8_count 48 = .ok (.getfield 101, 3) := by decide +kernel
theorem dX8_count_51 : decode cX8_count 51 = .ok (.ireturn, 1) := by decide +kernel
theorem dX8_count_52 : decode cX8_count 52 = .ok (.aload_n 0, 1) := by decide +kernel
theorem dX8_count_53 : decode cX8_count 53 = .ok (.getfield 12, 3) := by decide +kernel
theorem dX8_count_56 : decode cX8_count 56 = .ok (.getfield 80, 3) := by decide +kernel
theorem dX8_count_59 : decode cX8_count 59 = .ok (.ireturn, 1) := by decide +kernel
theorem dX8_count_60 : decode cX8_count 60 = .ok (.aload_n 0, 1) := by decide +kernel
theorem dX8_count_61 : decode cX8_count 61 = .ok (.getfield 29, 3) := by decide +kernel
theorem dX8_count_64 : decode cX8_count 64 = .ok (.getfield 129, 3) := by decide +kernel
theorem dX8_count_67 : decode cX8_count 67 = .ok (.ireturn, 1) := by decide +kernel
theorem dX8_count_68 : decode cX8_count 68 = .ok (.aload_n 0, 1) := by decide +kernel
theorem dX8_count_69 : decode cX8_count 69 = .ok (.getfield 58, 3) := by decide +kernel
theorem dX8_count_72 : decode cX8_count 72 = .ok (.getfield 94, 3) := by decide +kernel
theorem dX8_count_75 : decode cX8_count 75 = .ok (.ireturn, 1) := by decide +kernel
theorem dX8_count_76 : decode cX8_count 76 = .ok (.aload_n 0, 1) := by decide +kernel
theorem dX8_count_77 : decode cX8_count 77 = .ok (.getfield 65, 3) := by decide +kernel
theorem dX8_count_80 : decode cX8_count 80 = .ok (.getfield 97, 3) := by decide +kernel
theorem dX8_count_83 : decode cX8_count 83 = .ok (.ireturn, 1) := by decide +kernel
theorem dX8_count_84 : decode cX8_count 84 = .ok (.aload_n 0, 1) := by decide +kernel
theorem dX8_count_85 : decode cX8_count 85 = .ok (.getfield 98, 3) := by decide +kernel
theorem dX8_count_88 : decode cX8_count 88 = .ok (.ireturn, 1) := by decide +kernel
theorem dX8_count_89 : decode cX8_count 89 = .ok (.aload_n 0, 1) := by decide +kernel
theorem dX8_count_90 : decode cX8_count 90 = .ok (.getfield 29, 3) := by decide +kernel
theorem dX8_count_93 : decode cX8_count 93 = .ok (.invokevirtual 241, 3) := by decide +kernel
theorem dX8_count_96 : decode cX8_count 96 = .ok (.ireturn, 1) := by decide +kernel
theorem dX8_count_97 : decode cX8_count 97 = .ok (.iconst (-1), 1) := by decide +kernel
theorem dX8_count_98 : decode cX8_count 98 = .ok (.ireturn, 1) := by decide +kernel
theorem dX8_isBelow_0 : decode cX8_isBelow 0 = .ok (.iload_n 0, 1) := by decide +kernel
theorem dX8_isBelow_1 : decode cX8_isBelow 1 = .ok (.ifCond .lt 12, 3) := by decide +kernel
theorem dX8_isBelow_4 : decode cX8_isBelow 4 = .ok (.iload_n 0, 1) := by decide +kernel
theorem dX8_isBelow_5 : decode cX8_isBelow 5 = .ok (.iload_n 1, 1) := by decide +kernel
theorem dX8_isBelow_6 : decode cX8_isBelow 6 = .ok (.if_icmp .ge 7, 3) := by decide +kernel
theorem dX8_isBelow_9 : decode cX8_isBelow 9 = .ok (.iconst 1, 1) := by decide +kernel
theorem dX8_isBelow_10 : decode cX8_isBelow 10 = .ok (.goto 4, 3) := by decide +kernel
theorem dX8_isBelow_13 : decode cX8_isBelow 13 = .ok (.iconst 0, 1) := by decide +kernel
theorem dX8_isBelow_14 : decode cX8_isBelow 14 = .ok (.ireturn, 1) := by decide +kernel
theorem dX8_keptAt_0 : decode cX8_keptAt 0 = .ok (.iload_n 1, 1) := by decide +kernel
theorem dX8_keptAt_1 : decode cX8_keptAt 1 = .ok (.ifCond .ne 10, 3) := by decide +kernel
theorem dX8_keptAt_4 : decode cX8_keptAt 4 = .ok (.aload_n 0, 1) := by decide +kernel
theorem dX8_keptAt_5 : decode cX8_keptAt 5 = .ok (.getfield 33, 3) := by decide +kernel
theorem dX8_keptAt_8 : decode cX8_keptAt 8 = .ok (.goto 7, 3) := by decide +kernel
theorem dX8_keptAt_11 : decode cX8_keptAt 11 = .ok (.aload_n 0, 1) := by decide +kernel
theorem dX8_keptAt_12 : decode cX8_keptAt 12 = .ok (.getfield 36, 3) := by decide +kernel
theorem dX8_keptAt_15 : decode cX8_keptAt 15 = .ok (.areturn, 1) := by decide +kernel
theorem dX8_commonDivisor_0 : decode cX8_commonDivisor 0 = .ok (.iload_n 0, 1) := by decide +kernel
theorem dX8_commonDivisor_1 : decode cX8_commonDivisor 1 = .ok (.istore_n 2, 1) := by decide +kernel
theorem dX8_commonDivisor_2 : decode cX8_commonDivisor 2 = .ok (.iload_n 1, 1) := by decide +kernel
theorem dX8_commonDivisor_3 : decode cX8_commonDivisor 3 = .ok (.istore_n 3, 1) := by decide +kernel
theorem dX8_commonDivisor_4 : decode cX8_commonDivisor 4 = .ok (.iconst 0, 1) := by decide +kernel
theorem dX8_commonDivisor_5 : decode cX8_commonDivisor 5 = .ok (.istore 4, 2) := by decide +kernel
theorem dX8_commonDivisor_7 : decode cX8_commonDivisor 7 = .ok (.iload 4, 2) := by decide +kernel
theorem dX8_commonDivisor_9 : decode cX8_commonDivisor 9 = .ok (.bipush 64, 2) := by decide +kernel
theorem dX8_commonDivisor_11 : decode cX8_commonDivisor 11 = .ok (.if_icmp .ge 23, 3) := by decide +kernel
theorem dX8_commonDivisor_14 : decode cX8_commonDivisor 14 = .ok (.iload_n 3, 1) := by decide +kernel
theorem dX8_commonDivisor_15 : decode cX8_commonDivisor 15 = .ok (.ifCond .le 19, 3) := by decide +kernel
theorem dX8_commonDivisor_18 : decode cX8_commonDivisor 18 = .ok (.iload_n 2, 1) := by decide +kernel
theorem dX8_commonDivisor_19 : decode cX8_commonDivisor 19 = .ok (.iload_n 3, 1) := by decide +kernel
theorem dX8_commonDivisor_20 : decode cX8_commonDivisor 20 = .ok (.irem, 1) := by decide +kernel
theorem dX8_commonDivisor_21 : decode cX8_commonDivisor 21 = .ok (.istore 5, 2) := by decide +kernel
theorem dX8_commonDivisor_23 : decode cX8_commonDivisor 23 = .ok (.iload_n 3, 1) := by decide +kernel
theorem dX8_commonDivisor_24 : decode cX8_commonDivisor 24 = .ok (.istore_n 2, 1) := by decide +kernel
theorem dX8_commonDivisor_25 : decode cX8_commonDivisor 25 = .ok (.iload 5, 2) := by decide +kernel
theorem dX8_commonDivisor_27 : decode cX8_commonDivisor 27 = .ok (.istore_n 3, 1) := by decide +kernel
theorem dX8_commonDivisor_28 : decode cX8_commonDivisor 28 = .ok (.iinc 4 1, 3) := by decide +kernel
theorem dX8_commonDivisor_31 : decode cX8_commonDivisor 31 = .ok (.goto (-24), 3) := by decide +kernel
theorem dX8_commonDivisor_34 : decode cX8_commonDivisor 34 = .ok (.iconst 1, 1) := by decide +kernel
theorem dX8_commonDivisor_35 : decode cX8_commonDivisor 35 = .ok (.iload_n 2, 1) := by decide +kernel
theorem dX8_commonDivisor_36 : decode cX8_commonDivisor 36 = .ok (.invokestatic 162, 3) := by decide +kernel
theorem dX8_commonDivisor_39 : decode cX8_commonDivisor 39 = .ok (.ireturn, 1) := by decide +kernel
theorem dX8_weighSaying_0 : decode cX8_weighSaying 0 = .ok (.aload_n 0, 1) := by decide +kernel
theorem dX8_weighSaying_1 : decode cX8_weighSaying 1 = .ok (.getfield 51, 3) := by decide +kernel
theorem dX8_weighSaying_4 : decode cX8_weighSaying 4 = .ok (.aload_n 0, 1) := by decide +kernel
theorem dX8_weighSaying_5 : decode cX8_weighSaying 5 = .ok (.getfield 19, 3) := by decide +kernel
theorem dX8_weighSaying_8 : decode cX8_weighSaying 8 = .ok (.aload_n 0, 1) := by decide +kernel
theorem dX8_weighSaying_9 : decode cX8_weighSaying 9 = .ok (.getfield 29, 3) := by decide +kernel
theorem dX8_weighSaying_12 : decode cX8_weighSaying 12 = .ok (.getfield 135, 3) := by decide +kernel
theorem dX8_weighSaying_15 : decode cX8_weighSaying 15 = .ok (.invokevirtual 244, 3) := by decide +kernel
theorem dX8_weighSaying_18 : decode cX8_weighSaying 18 = .ok (.aload_n 0, 1) := by decide +kernel
theorem dX8_weighSaying_19 : decode cX8_weighSaying 19 = .ok (.getfield 42, 3) := by decide +kernel
theorem dX8_weighSaying_22 : decode cX8_weighSaying 22 = .ok (.aload_n 0, 1) := by decide +kernel
theorem dX8_weighSaying_23 : decode cX8_weighSaying 23 = .ok (.getfield 29, 3) := by decide +kernel
theorem dX8_weighSaying_26 : decode cX8_weighSaying 26 = .ok (.getfield 132, 3) := by decide +kernel
theorem dX8_weighSaying_29 : decode cX8_weighSaying 29 = .ok (.aload_n 0, 1) := by decide +kernel
theorem dX8_weighSaying_30 : decode cX8_weighSaying 30 = .ok (.getfield 29, 3) := by decide +kernel
theorem dX8_weighSaying_33 : decode cX8_weighSaying 33 = .ok (.getfield 135, 3) := by decide +kernel
theorem dX8_weighSaying_36 : decode cX8_weighSaying 36 = .ok (.invokevirtual 117, 3) := by decide +kernel
theorem dX8_weighSaying_39 : decode cX8_weighSaying 39 = .ok (.iconst 0, 1) := by decide +kernel
theorem dX8_weighSaying_40 : decode cX8_weighSaying 40 = .ok (.istore_n 1, 1) := by decide +kernel
theorem dX8_weighSaying_41 : decode cX8_weighSaying 41 = .ok (.iload_n 1, 1) := by decide +kernel
theorem dX8_weighSaying_42 : decode cX8_weighSaying 42 = .ok (.aload_n 0, 1) := by decide +kernel
theorem dX8_weighSaying_43 : decode cX8_weighSaying 43 = .ok (.getfield 42, 3) := by decide +kernel
theorem dX8_weighSaying_46 : decode cX8_weighSaying 46 = .ok (.getfield 121, 3) := by decide +kernel
theorem dX8_weighSaying_49 : decode cX8_weighSaying 49 = .ok (.if_icmp .ge 53, 3) := by decide +kernel
theorem dX8_weighSaying_52 : decode cX8_weighSaying 52 = .ok (.aload_n 0, 1) := by decide +kernel
theorem dX8_weighSaying_53 : decode cX8_weighSaying 53 = .ok (.getfield 51, 3) := by decide +kernel
theorem dX8_weighSaying_56 : decode cX8_weighSaying 56 = .ok (.getfield 248, 3) := by decide +kernel
theorem dX8_weighSaying_59 : decode cX8_weighSaying 59 = .ok (.aload_n 0, 1) := by decide +kernel
theorem dX8_weighSaying_60 : decode cX8_weighSaying 60 = .ok (.getfield 42, 3) := by decide +kernel
theorem dX8_weighSaying_63 : decode cX8_weighSaying 63 = .ok (.iload_n 1, 1) := by decide +kernel
theorem dX8_weighSaying_64 : decode cX8_weighSaying 64 = .ok (.invokevirtual 252, 3) := by decide +kernel
theorem dX8_weighSaying_67 : decode cX8_weighSaying 67 = .ok (.aload_n 0, 1) := by decide +kernel
theorem dX8_weighSaying_68 : decode cX8_weighSaying 68 = .ok (.getfield 42, 3) := by decide +kernel
theorem dX8_weighSaying_71 : decode cX8_weighSaying 71 = .ok (.getfield 255, 3) := by decide +kernel
theorem dX8_weighSaying_74 : decode cX8_weighSaying 74 = .ok (.iload_n 1, 1) := by decide +kernel
theorem dX8_weighSaying_75 : decode cX8_weighSaying 75 = .ok (.iaload, 1) := by decide +kernel
theorem dX8_weighSaying_76 : decode cX8_weighSaying 76 = .ok (.aload_n 0, 1) := by decide +kernel
theorem dX8_weighSaying_77 : decode cX8_weighSaying 77 = .ok (.getfield 42, 3) := by decide +kernel
theorem dX8_weighSaying_80 : decode cX8_weighSaying 80 = .ok (.iload_n 1, 1) := by decide +kernel
theorem dX8_weighSaying_81 : decode cX8_weighSaying 81 = .ok (.invokevirtual 257, 3) := by decide +kernel
theorem dX8_weighSaying_84 : decode cX8_weighSaying 84 = .ok (.aload_n 0, 1) := by decide +kernel
theorem dX8_weighSaying_85 : decode cX8_weighSaying 85 = .ok (.getfield 29, 3) := by decide +kernel
theorem dX8_weighSaying_88 : decode cX8_weighSaying 88 = .ok (.getfield 126, 3) := by decide +kernel
theorem dX8_weighSaying_91 : decode cX8_weighSaying 91 = .ok (.iload_n 1, 1) := by decide +kernel
theorem dX8_weighSaying_92 : decode cX8_weighSaying 92 = .ok (.iaload, 1) := by decide +kernel
theorem dX8_weighSaying_93 : decode cX8_weighSaying 93 = .ok (.invokevirtual 260, 3) := by decide +kernel
theorem dX8_weighSaying_96 : decode cX8_weighSaying 96 = .ok (.iinc 1 1, 3) := by decide +kernel
theorem dX8_weighSaying_99 : decode cX8_weighSaying 99 = .ok (.goto (-58), 3) := by decide +kernel
theorem dX8_weighSaying_102 : decode cX8_weighSaying 102 = .ok (.aload_n 0, 1) := by decide +kernel
theorem dX8_weighSaying_103 : decode cX8_weighSaying 103 = .ok (.getfield 51, 3) := by decide +kernel
theorem dX8_weighSaying_106 : decode cX8_weighSaying 106 = .ok (.invokevirtual 266, 3) := by decide +kernel
theorem dX8_weighSaying_109 : decode cX8_weighSaying 109 = .ok (.return_, 1) := by decide +kernel
theorem dX8_refusalToCompare_0 : decode cX8_refusalToCompare 0 = .ok (.aload_n 0, 1) := by decide +kernel
theorem dX8_refusalToCompare_1 : decode cX8_refusalToCompare 1 = .ok (.getfield 29, 3) := by decide +kernel
theorem dX8_refusalToCompare_4 : decode cX8_refusalToCompare 4 = .ok (.getfield 111, 3) := by decide +kernel
theorem dX8_refusalToCompare_7 : decode cX8_refusalToCompare 7 = .ok (.iload_n 1, 1) := by decide +kernel
theorem dX8_refusalToCompare_8 : decode cX8_refusalToCompare 8 = .ok (.iaload, 1) := by decide +kernel
theorem dX8_refusalToCompare_9 : decode cX8_refusalToCompare 9 = .ok (.ifCond .ne 6, 3) := by decide +kernel
theorem dX8_refusalToCompare_12 : decode cX8_refusalToCompare 12 = .ok (.bipush (-2), 2) := by decide +kernel
theorem dX8_refusalToCompare_14 : decode cX8_refusalToCompare 14 = .ok (.ireturn, 1) := by decide +kernel
theorem dX8_refusalToCompare_15 : decode cX8_refusalToCompare 15 = .ok (.aload_n 0, 1) := by decide +kernel
theorem dX8_refusalToCompare_16 : decode cX8_refusalToCompare 16 = .ok (.getfield 19, 3) := by decide +kernel
theorem dX8_refusalToCompare_19 : decode cX8_refusalToCompare 19 = .ok (.getfield 101, 3) := by decide +kernel
theorem dX8_refusalToCompare_22 : decode cX8_refusalToCompare 22 = .ok (.iconst 2, 1) := by decide +kernel
theorem dX8_refusalToCompare_23 : decode cX8_refusalToCompare 23 = .ok (.if_icmp .ge 8, 3) := by decide +kernel
theorem dX8_refusalToCompare_26 : decode cX8_refusalToCompare 26 = .ok (.bipush (-4), 2) := by decide +kernel
theorem dX8_refusalToCompare_28 : decode cX8_refusalToCompare 28 = .ok (.goto 4, 3) := by decide +kernel
theorem dX8_refusalToCompare_31 : decode cX8_refusalToCompare 31 = .ok (.iconst 0, 1) := by decide +kernel
theorem dX8_refusalToCompare_32 : decode cX8_refusalToCompare 32 = .ok (.ireturn, 1) := by decide +kernel
theorem dX8_farBy_0 : decode cX8_farBy 0 = .ok (.aload_n 0, 1) := by decide +kernel
theorem dX8_farBy_1 : decode cX8_farBy 1 = .ok (.getfield 29, 3) := by decide +kernel
theorem dX8_farBy_4 : decode cX8_farBy 4 = .ok (.getfield 114, 3) := by decide +kernel
theorem dX8_farBy_7 : decode cX8_farBy 7 = .ok (.iload_n 1, 1) := by decide +kernel
theorem dX8_farBy_8 : decode cX8_farBy 8 = .ok (.aaload, 1) := by decide +kernel
theorem dX8_farBy_9 : decode cX8_farBy 9 = .ok (.astore_n 3, 1) := by decide +kernel
theorem dX8_farBy_10 : decode cX8_farBy 10 = .ok (.aload_n 0, 1) := by decide +kernel
theorem dX8_farBy_11 : decode cX8_farBy 11 = .ok (.getfield 51, 3) := by decide +kernel
theorem dX8_farBy_14 : decode cX8_farBy 14 = .ok (.aload_n 0, 1) := by decide +kernel
theorem dX8_farBy_15 : decode cX8_farBy 15 = .ok (.getfield 19, 3) := by decide +kernel
theorem dX8_farBy_18 : decode cX8_farBy 18 = .ok (.aload_n 0, 1) := by decide +kernel
theorem dX8_farBy_19 : decode cX8_farBy 19 = .ok (.getfield 29, 3) := by decide +kernel
theorem dX8_farBy_22 : decode cX8_farBy 22 = .ok (.getfield 111, 3) := by decide +kernel
theorem dX8_farBy_25 : decode cX8_farBy 25 = .ok (.iload_n 1, 1) := by decide +kernel
theorem dX8_farBy_26 : decode cX8_farBy 26 = .ok (.iaload, 1) := by decide +kernel
theorem dX8_farBy_27 : decode cX8_farBy 27 = .ok (.invokevirtual 244, 3) := by decide +kernel
theorem dX8_farBy_30 : decode cX8_farBy 30 = .ok (.iconst 0, 1) := by decide +kernel
theorem dX8_farBy_31 : decode cX8_farBy 31 = .ok (.istore 4, 2) := by decide +kernel
theorem dX8_farBy_33 : decode cX8_farBy 33 = .ok (.iload 4, 2) := by decide +kernel
theorem dX8_farBy_35 : decode cX8_farBy 35 = .ok (.iconst 5, 1) := by decide +kernel
theorem dX8_farBy_36 : decode cX8_farBy 36 = .ok (.if_icmp .ge 35, 3) := by decide +kernel
theorem dX8_farBy_39 : decode cX8_farBy 39 = .ok (.iload_n 2, 1) := by decide +kernel
theorem dX8_farBy_40 : decode cX8_farBy 40 = .ok (.iload 4, 2) := by decide +kernel
theorem dX8_farBy_42 : decode cX8_farBy 42 = .ok (.ishr, 1) := by decide +kernel
theorem dX8_farBy_43 : decode cX8_farBy 43 = .ok (.iconst 1, 1) := by decide +kernel
theorem dX8_farBy_44 : decode cX8_farBy 44 = .ok (.iand, 1) := by decide +kernel
theorem dX8_farBy_45 : decode cX8_farBy 45 = .ok (.iconst 1, 1) := by decide +kernel
theorem dX8_farBy_46 : decode cX8_farBy 46 = .ok (.if_icmp .ne 19, 3) := by decide +kernel
theorem dX8_farBy_49 : decode cX8_farBy 49 = .ok (.aload_n 0, 1) := by decide +kernel
theorem dX8_farBy_50 : decode cX8_farBy 50 = .ok (.aload_n 3, 1) := by decide +kernel
theorem dX8_farBy_51 : decode cX8_farBy 51 = .ok (.iload 4, 2) := by decide +kernel
theorem dX8_farBy_53 : decode cX8_farBy 53 = .ok (.aload_n 0, 1) := by decide +kernel
theorem dX8_farBy_54 : decode cX8_farBy 54 = .ok (.getfield 29, 3) := by decide +kernel
theorem dX8_farBy_57 : decode cX8_farBy 57 = .ok (.getfield 111, 3) := by decide +kernel
theorem dX8_farBy_60 : decode cX8_farBy 60 = .ok (.iload_n 1, 1) := by decide +kernel
theorem dX8_farBy_61 : decode cX8_farBy 61 = .ok (.iaload, 1) := by decide +kernel
theorem dX8_farBy_62 : decode cX8_farBy 62 = .ok (.invokevirtual 269, 3) := by decide +kernel
theorem dX8_farBy_65 : decode cX8_farBy 65 = .ok (.iinc 4 1, 3) := by decide +kernel
theorem dX8_farBy_68 : decode cX8_farBy 68 = .ok (.goto (-35), 3) := by decide +kernel
theorem dX8_farBy_71 : decode cX8_farBy 71 = .ok (.aload_n 0, 1) := by decide +kernel
theorem dX8_farBy_72 : decode cX8_farBy 72 = .ok (.getfield 51, 3) := by decide +kernel
theorem dX8_farBy_75 : decode cX8_farBy 75 = .ok (.invokevirtual 266, 3) := by decide +kernel
theorem dX8_farBy_78 : decode cX8_farBy 78 = .ok (.aload_n 0, 1) := by decide +kernel
theorem dX8_farBy_79 : decode cX8_farBy 79 = .ok (.getfield 51, 3) := by decide +kernel
theorem dX8_farBy_82 : decode cX8_farBy 82 = .ok (.aload_n 3, 1) := by decide +kernel
theorem dX8_farBy_83 : decode cX8_farBy 83 = .ok (.invokevirtual 273, 3) := by decide +kernel
theorem dX8_farBy_86 : decode cX8_farBy 86 = .ok (.ireturn, 1) := by decide +kernel
theorem dX8_wantAsSaid_0 : decode cX8_wantAsSaid 0 = .ok (.aload_n 0, 1) := by decide +kernel
theorem dX8_wantAsSaid_1 : decode cX8_wantAsSaid 1 = .ok (.getfield 42, 3) := by decide +kernel
theorem dX8_wantAsSaid_4 : decode cX8_wantAsSaid 4 = .ok (.iload_n 2, 1) := by decide +kernel
theorem dX8_wantAsSaid_5 : decode cX8_wantAsSaid 5 = .ok (.iload_n 3, 1) := by decide +kernel
theorem dX8_wantAsSaid_6 : decode cX8_wantAsSaid 6 = .ok (.invokevirtual 117, 3) := by decide +kernel
theorem dX8_wantAsSaid_9 : decode cX8_wantAsSaid 9 = .ok (.iconst 0, 1) := by decide +kernel
theorem dX8_wantAsSaid_10 : decode cX8_wantAsSaid 10 = .ok (.istore 4, 2) := by decide +kernel
theorem dX8_wantAsSaid_12 : decode cX8_wantAsSaid 12 = .ok (.iload 4, 2) := by decide +kernel
theorem dX8_wantAsSaid_14 : decode cX8_wantAsSaid 14 = .ok (.aload_n 0, 1) := by decide +kernel
theorem dX8_wantAsSaid_15 : decode cX8_wantAsSaid 15 = .ok (.getfield 42, 3) := by decide +kernel
theorem dX8_wantAsSaid_18 : decode cX8_wantAsSaid 18 = .ok (.getfield 121, 3) := by decide +kernel
theorem dX8_wantAsSaid_21 : decode cX8_wantAsSaid 21 = .ok (.if_icmp .ge 61, 3) := by decide +kernel
theorem dX8_wantAsSaid_24 : decode cX8_wantAsSaid 24 = .ok (.aload_n 0, 1) := by decide +kernel
theorem dX8_wantAsSaid_25 : decode cX8_wantAsSaid 25 = .ok (.getfield 51, 3) := by decide +kernel
theorem dX8_wantAsSaid_28 : decode cX8_wantAsSaid 28 = .ok (.getfield 248, 3) := by decide +kernel
theorem dX8_wantAsSaid_31 : decode cX8_wantAsSaid 31 = .ok (.aload_n 0, 1) := by decide +kernel
theorem dX8_wantAsSaid_32 : decode cX8_wantAsSaid 32 = .ok (.getfield 42, 3) := by decide +kernel
theorem dX8_wantAsSaid_35 : decode cX8_wantAsSaid 35 = .ok (.iload 4, 2) := by decide +kernel
theorem dX8_wantAsSaid_37 : decode cX8_wantAsSaid 37 = .ok (.invokevirtual 252, 3) := by decide +kernel
theorem dX8_wantAsSaid_40 : decode cX8_wantAsSaid 40 = .ok (.aload_n 0, 1) := by decide +kernel
theorem dX8_wantAsSaid_41 : decode cX8_wantAsSaid 41 = .ok (.getfield 42, 3) := by decide +kernel
theorem dX8_wantAsSaid_44 : decode cX8_wantAsSaid 44 = .ok (.getfield 255, 3) := by decide +kernel
theorem dX8_wantAsSaid_47 : decode cX8_wantAsSaid 47 = .ok (.iload 4, 2) := by decide +kernel
theorem dX8_wantAsSaid_49 : decode cX8_wantAsSaid 49 = .ok (.iaload, 1) := by decide +kernel
theorem dX8_wantAsSaid_50 : decode cX8_wantAsSaid 50 = .ok (.aload_n 0, 1) := by decide +kernel
theorem dX8_wantAsSaid_51 : decode cX8_wantAsSaid 51 = .ok (.getfield 42, 3) := by decide +kernel
theorem dX8_wantAsSaid_54 : decode cX8_wantAsSaid 54 = .ok (.iload 4, 2) := by decide +kernel
theorem dX8_wantAsSaid_56 : decode cX8_wantAsSaid 56 = .ok (.invokevirtual 257, 3) := by decide +kernel
theorem dX8_wantAsSaid_59 : decode cX8_wantAsSaid 59 = .ok (.aload_n 0, 1) := by decide +kernel
theorem dX8_wantAsSaid_60 : decode cX8_wantAsSaid 60 = .ok (.getfield 42, 3) := by decide +kernel
theorem dX8_wantAsSaid_63 : decode cX8_wantAsSaid 63 = .ok (.aload_n 0, 1) := by decide +kernel
theorem dX8_wantAsSaid_64 : decode cX8_wantAsSaid 64 = .ok (.getfield 19, 3) := by decide +kernel
theorem dX8_wantAsSaid_67 : decode cX8_wantAsSaid 67 = .ok (.aload_n 1, 1) := by decide +kernel
theorem dX8_wantAsSaid_68 : decode cX8_wantAsSaid 68 = .ok (.iload 4, 2) := by decide +kernel
theorem dX8_wantAsSaid_70 : decode cX8_wantAsSaid 70 = .ok (.invokevirtual 122, 3) := by decide +kernel
theorem dX8_wantAsSaid_73 : decode cX8_wantAsSaid 73 = .ok (.invokevirtual 260, 3) := by decide +kernel
theorem dX8_wantAsSaid_76 : decode cX8_wantAsSaid 76 = .ok (.iinc 4 1, 3) := by decide +kernel
theorem dX8_wantAsSaid_79 : decode cX8_wantAsSaid 79 = .ok (.goto (-67), 3) := by decide +kernel
theorem dX8_wantAsSaid_82 : decode cX8_wantAsSaid 82 = .ok (.return_, 1) := by decide +kernel
end
section
theorem dX8_farthestWays_0 : decode cX8_farthestWays 0 = .ok (.iconst 0, 1) := by decide +kernel
theorem dX8_farthestWays_1 : decode cX8_farthestWays 1 = .ok (.istore_n 3, 1) := by decide +kernel
theorem dX8_farthestWays_2 : decode cX8_farthestWays 2 = .ok (.iconst 0, 1) := by decide +kernel
theorem dX8_farthestWays_3 : decode cX8_farthestWays 3 = .ok (.istore 4, 2) := by decide +kernel
theorem dX8_farthestWays_5 : decode cX8_farthestWays 5 = .ok (.bipush 31, 2) := by decide +kernel
theorem dX8_farthestWays_7 : decode cX8_farthestWays 7 = .ok (.istore 5, 2) := by decide +kernel
theorem dX8_farthestWays_9 : decode cX8_farthestWays 9 = .ok (.iload 5, 2) := by decide +kernel
theorem dX8_farthestWays_11 : decode cX8_farthestWays 11 = .ok (.ifCond .lt 94, 3) := by decide +kernel
theorem dX8_farthestWays_14 : decode cX8_farthestWays 14 = .ok (.aload_n 0, 1) := by decide +kernel
theorem dX8_farthestWays_15 : decode cX8_farthestWays 15 = .ok (.getfield 73, 3) := by decide +kernel
theorem dX8_farthestWays_18 : decode cX8_farthestWays 18 = .ok (.iload 5, 2) := by decide +kernel
theorem dX8_farthestWays_20 : decode cX8_farthestWays 20 = .ok (.ldc_w 277, 3) := by decide +kernel
theorem dX8_farthestWays_23 : decode cX8_farthestWays 23 = .ok (.iastore, 1) := by decide +kernel
theorem dX8_farthestWays_24 : decode cX8_farthestWays 24 = .ok (.aload_n 0, 1) := by decide +kernel
theorem dX8_farthestWays_25 : decode cX8_farthestWays 25 = .ok (.getfield 19, 3) := by decide +kernel
theorem dX8_farthestWays_28 : decode cX8_farthestWays 28 = .ok (.iload 5, 2) := by decide +kernel
theorem dX8_farthestWays_30 : decode cX8_farthestWays 30 = .ok (.invokevirtual 278, 3) := by decide +kernel
theorem dX8_farthestWays_33 : decode cX8_farthestWays 33 = .ok (.iload_n 2, 1) := by decide +kernel
theorem dX8_farthestWays_34 : decode cX8_farthestWays 34 = .ok (.if_icmp .le 6, 3) := by decide +kernel
theorem dX8_farthestWays_37 : decode cX8_farthestWays 37 = .ok (.goto 62, 3) := by decide +kernel
theorem dX8_farthestWays_40 : decode cX8_farthestWays 40 = .ok (.iload 5, 2) := by decide +kernel
theorem dX8_farthestWays_42 : decode cX8_farthestWays 42 = .ok (.ifCond .ne 7, 3) := by decide +kernel
theorem dX8_farthestWays_45 : decode cX8_farthestWays 45 = .ok (.iconst 0, 1) := by decide +kernel
theorem dX8_farthestWays_46 : decode cX8_farthestWays 46 = .ok (.goto 9, 3) := by decide +kernel
theorem dX8_farthestWays_49 : decode cX8_farthestWays 49 = .ok (.aload_n 0, 1) := by decide +kernel
theorem dX8_farthestWays_50 : decode cX8_farthestWays 50 = .ok (.iload 5, 2) := by decide +kernel
theorem dX8_farthestWays_52 : decode cX8_farthestWays 52 = .ok (.invokevirtual 281, 3) := by decide +kernel
theorem dX8_farthestWays_55 : decode cX8_farthestWays 55 = .ok (.istore 6, 2) := by decide +kernel
theorem dX8_farthestWays_57 : decode cX8_farthestWays 57 = .ok (.iload 6, 2) := by decide +kernel
theorem dX8_farthestWays_59 : decode cX8_farthestWays 59 = .ok (.iload_n 3, 1) := by decide +kernel
theorem dX8_farthestWays_60 : decode cX8_farthestWays 60 = .ok (.if_icmp .lt 17, 3) := by decide +kernel
theorem dX8_farthestWays_63 : decode cX8_farthestWays 63 = .ok (.iload 6, 2) := by decide +kernel
theorem dX8_farthestWays_65 : decode cX8_farthestWays 65 = .ok (.ifCond .le 12, 3) := by decide +kernel
theorem dX8_farthestWays_68 : decode cX8_farthestWays 68 = .ok (.aload_n 0, 1) := by decide +kernel
theorem dX8_farthestWays_69 : decode cX8_farthestWays 69 = .ok (.iload_n 1, 1) := by decide +kernel
theorem dX8_farthestWays_70 : decode cX8_farthestWays 70 = .ok (.iload 5, 2) := by decide +kernel
theorem dX8_farthestWays_72 : decode cX8_farthestWays 72 = .ok (.invokevirtual 158, 3) := by decide +kernel
theorem dX8_farthestWays_75 : decode cX8_farthestWays 75 = .ok (.istore 6, 2) := by decide +kernel
theorem dX8_farthestWays_77 : decode cX8_farthestWays 77 = .ok (.aload_n 0, 1) := by decide +kernel
theorem dX8_farthestWays_78 : decode cX8_farthestWays 78 = .ok (.getfield 73, 3) := by decide +kernel
theorem dX8_farthestWays_81 : decode cX8_farthestWays 81 = .ok (.iload 5, 2) := by decide +kernel
theorem dX8_farthestWays_83 : decode cX8_farthestWays 83 = .ok (.iload 6, 2) := by decide +kernel
theorem dX8_farthestWays_85 : decode cX8_farthestWays 85 = .ok (.iastore, 1) := by decide +kernel
theorem dX8_farthestWays_86 : decode cX8_farthestWays 86 = .ok (.iload 6, 2) := by decide +kernel
theorem dX8_farthestWays_88 : decode cX8_farthestWays 88 = .ok (.iload_n 3, 1) := by decide +kernel
theorem dX8_farthestWays_89 : decode cX8_farthestWays 89 = .ok (.if_icmp .lt 10, 3) := by decide +kernel
theorem dX8_farthestWays_92 : decode cX8_farthestWays 92 = .ok (.iload 6, 2) := by decide +kernel
theorem dX8_farthestWays_94 : decode cX8_farthestWays 94 = .ok (.istore_n 3, 1) := by decide +kernel
theorem dX8_farthestWays_95 : decode cX8_farthestWays 95 = .ok (.iload 5, 2) := by decide +kernel
theorem dX8_farthestWays_97 : decode cX8_farthestWays 97 = .ok (.istore 4, 2) := by decide +kernel
theorem dX8_farthestWays_99 : decode cX8_farthestWays 99 = .ok (.iinc 5 (-1), 3) := by decide +kernel
theorem dX8_farthestWays_102 : decode cX8_farthestWays 102 = .ok (.goto (-93), 3) := by decide +kernel
theorem dX8_farthestWays_105 : decode cX8_farthestWays 105 = .ok (.iload 4, 2) := by decide +kernel
theorem dX8_farthestWays_107 : decode cX8_farthestWays 107 = .ok (.ireturn, 1) := by decide +kernel
theorem dX8_ceilingOf_0 : decode cX8_ceilingOf 0 = .ok (.ldc_w 277, 3) := by decide +kernel
theorem dX8_ceilingOf_3 : decode cX8_ceilingOf 3 = .ok (.istore_n 2, 1) := by decide +kernel
theorem dX8_ceilingOf_4 : decode cX8_ceilingOf 4 = .ok (.iconst 0, 1) := by decide +kernel
theorem dX8_ceilingOf_5 : decode cX8_ceilingOf 5 = .ok (.istore_n 3, 1) := by decide +kernel
theorem dX8_ceilingOf_6 : decode cX8_ceilingOf 6 = .ok (.iload_n 3, 1) := by decide +kernel
theorem dX8_ceilingOf_7 : decode cX8_ceilingOf 7 = .ok (.iconst 5, 1) := by decide +kernel
theorem dX8_ceilingOf_8 : decode cX8_ceilingOf 8 = .ok (.if_icmp .ge 32, 3) := by decide +kernel
theorem dX8_ceilingOf_11 : decode cX8_ceilingOf 11 = .ok (.iload_n 1, 1) := by decide +kernel
theorem dX8_ceilingOf_12 : decode cX8_ceilingOf 12 = .ok (.iload_n 3, 1) := by decide +kernel
theorem dX8_ceilingOf_13 : decode cX8_ceilingOf 13 = .ok (.ishr, 1) := by decide +kernel
theorem dX8_ceilingOf_14 : decode cX8_ceilingOf 14 = .ok (.iconst 1, 1) := by decide +kernel
theorem dX8_ceilingOf_15 : decode cX8_ceilingOf 15 = .ok (.iand, 1) := by decide +kernel
theorem dX8_ceilingOf_16 : decode cX8_ceilingOf 16 = .ok (.ifCond .ne 18, 3) := by decide +kernel
theorem dX8_ceilingOf_19 : decode cX8_ceilingOf 19 = .ok (.iload_n 2, 1) := by decide +kernel
theorem dX8_ceilingOf_20 : decode cX8_ceilingOf 20 = .ok (.aload_n 0, 1) := by decide +kernel
theorem dX8_ceilingOf_21 : decode cX8_ceilingOf 21 = .ok (.getfield 73, 3) := by decide +kernel
theorem dX8_ceilingOf_24 : decode cX8_ceilingOf 24 = .ok (.iload_n 1, 1) := by decide +kernel
theorem dX8_ceilingOf_25 : decode cX8_ceilingOf 25 = .ok (.iconst 1, 1) := by decide +kernel
theorem dX8_ceilingOf_26 : decode cX8_ceilingOf 26 = .ok (.iload_n 3, 1) := by decide +kernel
theorem dX8_ceilingOf_27 : decode cX8_ceilingOf 27 = .ok (.ishl, 1) := by decide +kernel
theorem dX8_ceilingOf_28 : decode cX8_ceilingOf 28 = .ok (.ior, 1) := by decide +kernel
theorem dX8_ceilingOf_29 : decode cX8_ceilingOf 29 = .ok (.iaload, 1) := by decide +kernel
theorem dX8_ceilingOf_30 : decode cX8_ceilingOf 30 = .ok (.invokestatic 284, 3) := by decide +kernel
theorem dX8_ceilingOf_33 : decode cX8_ceilingOf 33 = .ok (.istore_n 2, 1) := by decide +kernel
theorem dX8_ceilingOf_34 : decode cX8_ceilingOf 34 = .ok (.iinc 3 1, 3) := by decide +kernel
theorem dX8_ceilingOf_37 : decode cX8_ceilingOf 37 = .ok (.goto (-31), 3) := by decide +kernel
theorem dX8_ceilingOf_40 : decode cX8_ceilingOf 40 = .ok (.iload_n 2, 1) := by decide +kernel
theorem dX8_ceilingOf_41 : decode cX8_ceilingOf 41 = .ok (.ireturn, 1) := by decide +kernel
theorem dX8_isSuch_0 : decode cX8_isSuch 0 = .ok (.iload_n 2, 1) := by decide +kernel
theorem dX8_isSuch_1 : decode cX8_isSuch 1 = .ok (.aload_n 0, 1) := by decide +kernel
theorem dX8_isSuch_2 : decode cX8_isSuch 2 = .ok (.getfield 29, 3) := by decide +kernel
theorem dX8_isSuch_5 : decode cX8_isSuch 5 = .ok (.getfield 111, 3) := by decide +kernel
theorem dX8_isSuch_8 : decode cX8_isSuch 8 = .ok (.iload_n 1, 1) := by decide +kernel
theorem dX8_isSuch_9 : decode cX8_isSuch 9 = .ok (.iaload, 1) := by decide +kernel
theorem dX8_isSuch_10 : decode cX8_isSuch 10 = .ok (.invokestatic 104, 3) := by decide +kernel
theorem dX8_isSuch_13 : decode cX8_isSuch 13 = .ok (.ifCond .eq 22, 3) := by decide +kernel
theorem dX8_isSuch_16 : decode cX8_isSuch 16 = .ok (.aload_n 0, 1) := by decide +kernel
theorem dX8_isSuch_17 : decode cX8_isSuch 17 = .ok (.getfield 29, 3) := by decide +kernel
theorem dX8_isSuch_20 : decode cX8_isSuch 20 = .ok (.getfield 114, 3) := by decide +kernel
theorem dX8_isSuch_23 : decode cX8_isSuch 23 = .ok (.iload_n 1, 1) := by decide +kernel
theorem dX8_isSuch_24 : decode cX8_isSuch 24 = .ok (.aaload, 1) := by decide +kernel
theorem dX8_isSuch_25 : decode cX8_isSuch 25 = .ok (.iload_n 2, 1) := by decide +kernel
theorem dX8_isSuch_26 : decode cX8_isSuch 26 = .ok (.iaload, 1) := by decide +kernel
theorem dX8_isSuch_27 : decode cX8_isSuch 27 = .ok (.iload_n 3, 1) := by decide +kernel
theorem dX8_isSuch_28 : decode cX8_isSuch 28 = .ok (.if_icmp .eq 7, 3) := by decide +kernel
theorem dX8_isSuch_31 : decode cX8_isSuch 31 = .ok (.iconst 1, 1) := by decide +kernel
theorem dX8_isSuch_32 : decode cX8_isSuch 32 = .ok (.goto 4, 3) := by decide +kernel
theorem dX8_isSuch_35 : decode cX8_isSuch 35 = .ok (.iconst 0, 1) := by decide +kernel
theorem dX8_isSuch_36 : decode cX8_isSuch 36 = .ok (.ireturn, 1) := by decide +kernel
theorem dX8_waysThatShow_0 : decode cX8_waysThatShow 0 = .ok (.aload_n 0, 1) := by decide +kernel
theorem dX8_waysThatShow_1 : decode cX8_waysThatShow 1 = .ok (.getfield 29, 3) := by decide +kernel
theorem dX8_waysThatShow_4 : decode cX8_waysThatShow 4 = .ok (.getfield 114, 3) := by decide +kernel
theorem dX8_waysThatShow_7 : decode cX8_waysThatShow 7 = .ok (.iload_n 1, 1) := by decide +kernel
theorem dX8_waysThatShow_8 : decode cX8_waysThatShow 8 = .ok (.aaload, 1) := by decide +kernel
theorem dX8_waysThatShow_9 : decode cX8_waysThatShow 9 = .ok (.iconst 0, 1) := by decide +kernel
theorem dX8_waysThatShow_10 : decode cX8_waysThatShow 10 = .ok (.aload_n 0, 1) := by decide +kernel
theorem dX8_waysThatShow_11 : decode cX8_waysThatShow 11 = .ok (.getfield 69, 3) := by decide +kernel
theorem dX8_waysThatShow_14 : decode cX8_waysThatShow 14 = .ok (.iconst 0, 1) := by decide +kernel
theorem dX8_waysThatShow_15 : decode cX8_waysThatShow 15 = .ok (.bipush 8, 2) := by decide +kernel
theorem dX8_waysThatShow_17 : decode cX8_waysThatShow 17 = .ok (.invokestatic 287, 3) := by decide +kernel
theorem dX8_waysThatShow_20 : decode cX8_waysThatShow 20 = .ok (.aload_n 0, 1) := by decide +kernel
theorem dX8_waysThatShow_21 : decode cX8_waysThatShow 21 = .ok (.getfield 69, 3) := by decide +kernel
theorem dX8_waysThatShow_24 : decode cX8_waysThatShow 24 = .ok (.iload_n 2, 1) := by decide +kernel
theorem dX8_waysThatShow_25 : decode cX8_waysThatShow 25 = .ok (.iload_n 3, 1) := by decide +kernel
theorem dX8_waysThatShow_26 : decode cX8_waysThatShow 26 = .ok (.iastore, 1) := by decide +kernel
theorem dX8_waysThatShow_27 : decode cX8_waysThatShow 27 = .ok (.iconst 0, 1) := by decide +kernel
theorem dX8_waysThatShow_28 : decode cX8_waysThatShow 28 = .ok (.istore 4, 2) := by decide +kernel
theorem dX8_waysThatShow_30 : decode cX8_waysThatShow 30 = .ok (.iconst 0, 1) := by decide +kernel
theorem dX8_waysThatShow_31 : decode cX8_waysThatShow 31 = .ok (.istore 5, 2) := by decide +kernel
theorem dX8_waysThatShow_33 : decode cX8_waysThatShow 33 = .ok (.iload 5, 2) := by decide +kernel
theorem dX8_waysThatShow_35 : decode cX8_waysThatShow 35 = .ok (.iconst 5, 1) := by decide +kernel
theorem dX8_waysThatShow_36 : decode cX8_waysThatShow 36 = .ok (.if_icmp .ge 63, 3) := by decide +kernel
theorem dX8_waysThatShow_39 : decode cX8_waysThatShow 39 = .ok (.aload_n 0, 1) := by decide +kernel
theorem dX8_waysThatShow_40 : decode cX8_waysThatShow 40 = .ok (.getfield 42, 3) := by decide +kernel
theorem dX8_waysThatShow_43 : decode cX8_waysThatShow 43 = .ok (.iload 5, 2) := by decide +kernel
theorem dX8_waysThatShow_45 : decode cX8_waysThatShow 45 = .ok (.aload_n 0, 1) := by decide +kernel
theorem dX8_waysThatShow_46 : decode cX8_waysThatShow 46 = .ok (.getfield 29, 3) := by decide +kernel
theorem dX8_waysThatShow_49 : decode cX8_waysThatShow 49 = .ok (.getfield 111, 3) := by decide +kernel
theorem dX8_waysThatShow_52 : decode cX8_waysThatShow 52 = .ok (.iload_n 1, 1) := by decide +kernel
theorem dX8_waysThatShow_53 : decode cX8_waysThatShow 53 = .ok (.iaload, 1) := by decide +kernel
theorem dX8_waysThatShow_54 : decode cX8_waysThatShow 54 = .ok (.invokevirtual 117, 3) := by decide +kernel
theorem dX8_waysThatShow_57 : decode cX8_waysThatShow 57 = .ok (.aload_n 0, 1) := by decide +kernel
theorem dX8_waysThatShow_58 : decode cX8_waysThatShow 58 = .ok (.getfield 42, 3) := by decide +kernel
theorem dX8_waysThatShow_61 : decode cX8_waysThatShow 61 = .ok (.aload_n 0, 1) := by decide +kernel
theorem dX8_waysThatShow_62 : decode cX8_waysThatShow 62 = .ok (.getfield 19, 3) := by decide +kernel
theorem dX8_waysThatShow_65 : decode cX8_waysThatShow 65 = .ok (.aload_n 0, 1) := by decide +kernel
theorem dX8_waysThatShow_66 : decode cX8_waysThatShow 66 = .ok (.getfield 29, 3) := by decide +kernel
theorem dX8_waysThatShow_69 : decode cX8_waysThatShow 69 = .ok (.getfield 114, 3) := by decide +kernel
theorem dX8_waysThatShow_72 : decode cX8_waysThatShow 72 = .ok (.iload_n 1, 1) := by decide +kernel
theorem dX8_waysThatShow_73 : decode cX8_waysThatShow 73 = .ok (.aaload, 1) := by decide +kernel
theorem dX8_waysThatShow_74 : decode cX8_waysThatShow 74 = .ok (.aload_n 0, 1) := by decide +kernel
theorem dX8_waysThatShow_75 : decode cX8_waysThatShow 75 = .ok (.getfield 69, 3) := by decide +kernel
theorem dX8_waysThatShow_78 : decode cX8_waysThatShow 78 = .ok (.invokevirtual 293, 3) := by decide +kernel
theorem dX8_waysThatShow_81 : decode cX8_waysThatShow 81 = .ok (.ifCond .eq 12, 3) := by decide +kernel
theorem dX8_waysThatShow_84 : decode cX8_waysThatShow 84 = .ok (.iload 4, 2) := by decide +kernel
theorem dX8_waysThatShow_86 : decode cX8_waysThatShow 86 = .ok (.iconst 1, 1) := by decide +kernel
theorem dX8_waysThatShow_87 : decode cX8_waysThatShow 87 = .ok (.iload 5, 2) := by decide +kernel
theorem dX8_waysThatShow_89 : decode cX8_waysThatShow 89 = .ok (.ishl, 1) := by decide +kernel
theorem dX8_waysThatShow_90 : decode cX8_waysThatShow 90 = .ok (.ior, 1) := by decide +kernel
theorem dX8_waysThatShow_91 : decode cX8_waysThatShow 91 = .ok (.istore 4, 2) := by decide +kernel
theorem dX8_waysThatShow_93 : decode cX8_waysThatShow 93 = .ok (.iinc 5 1, 3) := by decide +kernel
theorem dX8_waysThatShow_96 : decode cX8_waysThatShow 96 = .ok (.goto (-63), 3) := by decide +kernel
theorem dX8_waysThatShow_99 : decode cX8_waysThatShow 99 = .ok (.iload 4, 2) := by decide +kernel
theorem dX8_waysThatShow_101 : decode cX8_waysThatShow 101 = .ok (.ireturn, 1) := by decide +kernel
theorem dX8_isSuchSlip_0 : decode cX8_isSuchSlip 0 = .ok (.aload_n 0, 1) := by decide +kernel
theorem dX8_isSuchSlip_1 : decode cX8_isSuchSlip 1 = .ok (.aload_n 0, 1) := by decide +kernel
theorem dX8_isSuchSlip_2 : decode cX8_isSuchSlip 2 = .ok (.getfield 58, 3) := by decide +kernel
theorem dX8_isSuchSlip_5 : decode cX8_isSuchSlip 5 = .ok (.getfield 297, 3) := by decide +kernel
theorem dX8_isSuchSlip_8 : decode cX8_isSuchSlip 8 = .ok (.iload_n 1, 1) := by decide +kernel
theorem dX8_isSuchSlip_9 : decode cX8_isSuchSlip 9 = .ok (.iaload, 1) := by decide +kernel
theorem dX8_isSuchSlip_10 : decode cX8_isSuchSlip 10 = .ok (.aload_n 0, 1) := by decide +kernel
theorem dX8_isSuchSlip_11 : decode cX8_isSuchSlip 11 = .ok (.getfield 58, 3) := by decide +kernel
theorem dX8_isSuchSlip_14 : decode cX8_isSuchSlip 14 = .ok (.getfield 300, 3) := by decide +kernel
theorem dX8_isSuchSlip_17 : decode cX8_isSuchSlip 17 = .ok (.iload_n 1, 1) := by decide +kernel
theorem dX8_isSuchSlip_18 : decode cX8_isSuchSlip 18 = .ok (.iaload, 1) := by decide +kernel
theorem dX8_isSuchSlip_19 : decode cX8_isSuchSlip 19 = .ok (.aload_n 0, 1) := by decide +kernel
theorem dX8_isSuchSlip_20 : decode cX8_isSuchSlip 20 = .ok (.getfield 58, 3) := by decide +kernel
theorem dX8_isSuchSlip_23 : decode cX8_isSuchSlip 23 = .ok (.getfield 301, 3) := by decide +kernel
theorem dX8_isSuchSlip_26 : decode cX8_isSuchSlip 26 = .ok (.iload_n 1, 1) := by decide +kernel
theorem dX8_isSuchSlip_27 : decode cX8_isSuchSlip 27 = .ok (.iaload, 1) := by decide +kernel
theorem dX8_isSuchSlip_28 : decode cX8_isSuchSlip 28 = .ok (.invokevirtual 170, 3) := by decide +kernel
theorem dX8_isSuchSlip_31 : decode cX8_isSuchSlip 31 = .ok (.ireturn, 1) := by decide +kernel
theorem dX8_waysThatShowSlip_0 : decode cX8_waysThatShowSlip 0 = .ok (.aload_n 0, 1) := by decide +kernel
theorem dX8_waysThatShowSlip_1 : decode cX8_waysThatShowSlip 1 = .ok (.aload_n 0, 1) := by decide +kernel
theorem dX8_waysThatShowSlip_2 : decode cX8_waysThatShowSlip 2 = .ok (.getfield 58, 3) := by decide +kernel
theorem dX8_waysThatShowSlip_5 : decode cX8_waysThatShowSlip 5 = .ok (.getfield 297, 3) := by decide +kernel
theorem dX8_waysThatShowSlip_8 : decode cX8_waysThatShowSlip 8 = .ok (.iload_n 1, 1) := by decide +kernel
theorem dX8_waysThatShowSlip_9 : decode cX8_waysThatShowSlip 9 = .ok (.iaload, 1) := by decide +kernel
theorem dX8_waysThatShowSlip_10 : decode cX8_waysThatShowSlip 10 = .ok (.aload_n 0, 1) := by decide +kernel
theorem dX8_waysThatShowSlip_11 : decode cX8_waysThatShowSlip 11 = .ok (.getfield 58, 3) := by decide +kernel
theorem dX8_waysThatShowSlip_14 : decode cX8_waysThatShowSlip 14 = .ok (.getfield 300, 3) := by decide +kernel
theorem dX8_waysThatShowSlip_17 : decode cX8_waysThatShowSlip 17 = .ok (.iload_n 1, 1) := by decide +kernel
theorem dX8_waysThatShowSlip_18 : decode cX8_waysThatShowSlip 18 = .ok (.iaload, 1) := by decide +kernel
theorem dX8_waysThatShowSlip_19 : decode cX8_waysThatShowSlip 19 = .ok (.aload_n 0, 1) := by decide +kernel
theorem dX8_waysThatShowSlip_20 : decode cX8_waysThatShowSlip 20 = .ok (.getfield 58, 3) := by decide +kernel
theorem dX8_waysThatShowSlip_23 : decode cX8_waysThatShowSlip 23 = .ok (.getfield 301, 3) := by decide +kernel
theorem dX8_waysThatShowSlip_26 : decode cX8_waysThatShowSlip 26 = .ok (.iload_n 1, 1) := by decide +kernel
theorem dX8_waysThatShowSlip_27 : decode cX8_waysThatShowSlip 27 = .ok (.iaload, 1) := by decide +kernel
theorem dX8_waysThatShowSlip_28 : decode cX8_waysThatShowSlip 28 = .ok (.invokevirtual 174, 3) := by decide +kernel
theorem dX8_waysThatShowSlip_31 : decode cX8_waysThatShowSlip 31 = .ok (.ireturn, 1) := by decide +kernel
theorem dX8_suchSlips_0 : decode cX8_suchSlips 0 = .ok (.iconst 0, 1) := by decide +kernel
theorem dX8_suchSlips_1 : decode cX8_suchSlips 1 = .ok (.istore_n 1, 1) := by decide +kernel
theorem dX8_suchSlips_2 : decode cX8_suchSlips 2 = .ok (.iconst 0, 1) := by decide +kernel
theorem dX8_suchSlips_3 : decode cX8_suchSlips 3 = .ok (.istore_n 2, 1) := by decide +kernel
theorem dX8_suchSlips_4 : decode cX8_suchSlips 4 = .ok (.iload_n 2, 1) := by decide +kernel
theorem dX8_suchSlips_5 : decode cX8_suchSlips 5 = .ok (.aload_n 0, 1) := by decide +kernel
theorem dX8_suchSlips_6 : decode cX8_suchSlips 6 = .ok (.getfield 58, 3) := by decide +kernel
theorem dX8_suchSlips_9 : decode cX8_suchSlips 9 = .ok (.getfield 94, 3) := by decide +kernel
theorem dX8_suchSlips_12 : decode cX8_suchSlips 12 = .ok (.if_icmp .ge 25, 3) := by decide +kernel
theorem dX8_suchSlips_15 : decode cX8_suchSlips 15 = .ok (.iload_n 1, 1) := by decide +kernel
theorem dX8_suchSlips_16 : decode cX8_suchSlips 16 = .ok (.aload_n 0, 1) := by decide +kernel
theorem dX8_suchSlips_17 : decode cX8_suchSlips 17 = .ok (.iload_n 2, 1) := by decide +kernel
theorem dX8_suchSlips_18 : decode cX8_suchSlips 18 = .ok (.invokevirtual 303, 3) := by decide +kernel
theorem dX8_suchSlips_21 : decode cX8_suchSlips 21 = .ok (.ifCond .eq 7, 3) := by decide +kernel
theorem dX8_suchSlips_24 : decode cX8_suchSlips 24 = .ok (.iconst 1, 1) := by decide +kernel
theorem dX8_suchSlips_25 : decode cX8_suchSlips 25 = .ok (.goto 4, 3) := by decide +kernel
theorem dX8_suchSlips_28 : decode cX8_suchSlips 28 = .ok (.iconst 0, 1) := by decide +kernel
theorem dX8_suchSlips_29 : decode cX8_suchSlips 29 = .ok (.iadd, 1) := by decide +kernel
theorem dX8_suchSlips_30 : decode cX8_suchSlips 30 = .ok (.istore_n 1, 1) := by decide +kernel
theorem dX8_suchSlips_31 : decode cX8_suchSlips 31 = .ok (.iinc 2 1, 3) := by decide +kernel
theorem dX8_suchSlips_34 : decode cX8_suchSlips 34 = .ok (.goto (-30), 3) := by decide +kernel
theorem dX8_suchSlips_37 : decode cX8_suchSlips 37 = .ok (.iload_n 1, 1) := by decide +kernel
theorem dX8_suchSlips_38 : decode cX8_suchSlips 38 = .ok (.ireturn, 1) := by decide +kernel
theorem dX8_hiddenSlips_0 : decode cX8_hiddenSlips 0 = .ok (.iconst 0, 1) := by decide +kernel
theorem dX8_hiddenSlips_1 : decode cX8_hiddenSlips 1 = .ok (.istore_n 1, 1) := by decide +kernel
theorem dX8_hiddenSlips_2 : decode cX8_hiddenSlips 2 = .ok (.iconst 0, 1) := by decide +kernel
theorem dX8_hiddenSlips_3 : decode cX8_hiddenSlips 3 = .ok (.istore_n 2, 1) := by decide +kernel
theorem dX8_hiddenSlips_4 : decode cX8_hiddenSlips 4 = .ok (.iload_n 2, 1) := by decide +kernel
theorem dX8_hiddenSlips_5 : decode cX8_hiddenSlips 5 = .ok (.aload_n 0, 1) := by decide +kernel
theorem dX8_hiddenSlips_6 : decode cX8_hiddenSlips 6 = .ok (.getfield 58, 3) := by decide +kernel
theorem dX8_hiddenSlips_9 : decode cX8_hiddenSlips 9 = .ok (.getfield 94, 3) := by decide +kernel
theorem dX8_hiddenSlips_12 : decode cX8_hiddenSlips 12 = .ok (.if_icmp .ge 48, 3) := by decide +kernel
theorem dX8_hiddenSlips_15 : decode cX8_hiddenSlips 15 = .ok (.aload_n 0, 1) := by decide +kernel
theorem dX8_hiddenSlips_16 : decode cX8_hiddenSlips 16 = .ok (.iload_n 2, 1) := by decide +kernel
theorem dX8_hiddenSlips_17 : decode cX8_hiddenSlips 17 = .ok (.invokevirtual 303, 3) := by decide +kernel
theorem dX8_hiddenSlips_20 : decode cX8_hiddenSlips 20 = .ok (.ifCond .eq 34, 3) := by decide +kernel
theorem dX8_hiddenSlips_23 : decode cX8_hiddenSlips 23 = .ok (.aload_n 0, 1) := by decide +kernel
theorem dX8_hiddenSlips_24 : decode cX8_hiddenSlips 24 = .ok (.iload_n 2, 1) := by decide +kernel
theorem dX8_hiddenSlips_25 : decode cX8_hiddenSlips 25 = .ok (.invokevirtual 306, 3) := by decide +kernel
theorem dX8_hiddenSlips_28 : decode cX8_hiddenSlips 28 = .ok (.istore_n 3, 1) := by decide +kernel
theorem dX8_hiddenSlips_29 : decode cX8_hiddenSlips 29 = .ok (.iload_n 1, 1) := by decide +kernel
theorem dX8_hiddenSlips_30 : decode cX8_hiddenSlips 30 = .ok (.iload_n 3, 1) := by decide +kernel
theorem dX8_hiddenSlips_31 : decode cX8_hiddenSlips 31 = .ok (.iconst 0, 1) := by decide +kernel
theorem dX8_hiddenSlips_32 : decode cX8_hiddenSlips 32 = .ok (.ishr, 1) := by decide +kernel
theorem dX8_hiddenSlips_33 : decode cX8_hiddenSlips 33 = .ok (.iconst 1, 1) := by decide +kernel
theorem dX8_hiddenSlips_34 : decode cX8_hiddenSlips 34 = .ok (.iand, 1) := by decide +kernel
theorem dX8_hiddenSlips_35 : decode cX8_hiddenSlips 35 = .ok (.ifCond .ne 16, 3) := by decide +kernel
theorem dX8_hiddenSlips_38 : decode cX8_hiddenSlips 38 = .ok (.iload_n 3, 1) := by decide +kernel
theorem dX8_hiddenSlips_39 : decode cX8_hiddenSlips 39 = .ok (.iconst 1, 1) := by decide +kernel
theorem dX8_hiddenSlips_40 : decode cX8_hiddenSlips 40 = .ok (.ishr, 1) := by decide +kernel
theorem dX8_hiddenSlips_41 : decode cX8_hiddenSlips 41 = .ok (.iconst 1, 1) := by decide +kernel
theorem dX8_hiddenSlips_42 : decode cX8_hiddenSlips 42 = .ok (.iand, 1) := by decide +kernel
theorem dX8_hiddenSlips_43 : decode cX8_hiddenSlips 43 = .ok (.iconst 1, 1) := by decide +kernel
theorem dX8_hiddenSlips_44 : decode cX8_hiddenSlips 44 = .ok (.if_icmp .ne 7, 3) := by decide +kernel
theorem dX8_hiddenSlips_47 : decode cX8_hiddenSlips 47 = .ok (.iconst 1, 1) := by decide +kernel
theorem dX8_hiddenSlips_48 : decode cX8_hiddenSlips 48 = .ok (.goto 4, 3) := by decide +kernel
theorem dX8_hiddenSlips_51 : decode cX8_hiddenSlips 51 = .ok (.iconst 0, 1) := by decide +kernel
theorem dX8_hiddenSlips_52 : decode cX8_hiddenSlips 52 = .ok (.iadd, 1) := by decide +kernel
theorem dX8_hiddenSlips_53 : decode cX8_hiddenSlips 53 = .ok (.istore_n 1, 1) := by decide +kernel
theorem dX8_hiddenSlips_54 : decode cX8_hiddenSlips 54 = .ok (.iinc 2 1, 3) := by decide +kernel
theorem dX8_hiddenSlips_57 : decode cX8_hiddenSlips 57 = .ok (.goto (-53), 3) := by decide +kernel
theorem dX8_hiddenSlips_60 : decode cX8_hiddenSlips 60 = .ok (.iload_n 1, 1) := by decide +kernel
theorem dX8_hiddenSlips_61 : decode cX8_hiddenSlips 61 = .ok (.ireturn, 1) := by decide +kernel
theorem dX8_listedSlips_0 : decode cX8_listedSlips 0 = .ok (.iconst 0, 1) := by decide +kernel
theorem dX8_listedSlips_1 : decode cX8_listedSlips 1 = .ok (.istore_n 1, 1) := by decide +kernel
theorem dX8_listedSlips_2 : decode cX8_listedSlips 2 = .ok (.iconst 0, 1) := by decide +kernel
theorem dX8_listedSlips_3 : decode cX8_listedSlips 3 = .ok (.istore_n 2, 1) := by decide +kernel
theorem dX8_listedSlips_4 : decode cX8_listedSlips 4 = .ok (.iload_n 2, 1) := by decide +kernel
theorem dX8_listedSlips_5 : decode cX8_listedSlips 5 = .ok (.aload_n 0, 1) := by decide +kernel
theorem dX8_listedSlips_6 : decode cX8_listedSlips 6 = .ok (.getfield 58, 3) := by decide +kernel
theorem dX8_listedSlips_9 : decode cX8_listedSlips 9 = .ok (.getfield 94, 3) := by decide +kernel
theorem dX8_listedSlips_12 : decode cX8_listedSlips 12 = .ok (.if_icmp .ge 73, 3) := by decide +kernel
theorem dX8_listedSlips_15 : decode cX8_listedSlips 15 = .ok (.aload_n 0, 1) := by decide +kernel
theorem dX8_listedSlips_16 : decode cX8_listedSlips 16 = .ok (.iload_n 2, 1) := by decide +kernel
theorem dX8_listedSlips_17 : decode cX8_listedSlips 17 = .ok (.invokevirtual 303, 3) := by decide +kernel
theorem dX8_listedSlips_20 : decode cX8_listedSlips 20 = .ok (.ifCond .eq 59, 3) := by decide +kernel
theorem dX8_listedSlips_23 : decode cX8_listedSlips 23 = .ok (.aload_n 0, 1) := by decide +kernel
theorem dX8_listedSlips_24 : decode cX8_listedSlips 24 = .ok (.getfield 29, 3) := by decide +kernel
theorem dX8_listedSlips_27 : decode cX8_listedSlips 27 = .ok (.getfield 114, 3) := by decide +kernel
theorem dX8_listedSlips_30 : decode cX8_listedSlips 30 = .ok (.aload_n 0, 1) := by decide +kernel
theorem dX8_listedSlips_31 : decode cX8_listedSlips 31 = .ok (.getfield 58, 3) := by decide +kernel
theorem dX8_listedSlips_34 : decode cX8_listedSlips 34 = .ok (.getfield 297, 3) := by decide +kernel
theorem dX8_listedSlips_37 : decode cX8_listedSlips 37 = .ok (.iload_n 2, 1) := by decide +kernel
theorem dX8_listedSlips_38 : decode cX8_listedSlips 38 = .ok (.iaload, 1) := by decide +kernel
theorem dX8_listedSlips_39 : decode cX8_listedSlips 39 = .ok (.aaload, 1) := by decide +kernel
theorem dX8_listedSlips_40 : decode cX8_listedSlips 40 = .ok (.aload_n 0, 1) := by decide +kernel
theorem dX8_listedSlips_41 : decode cX8_listedSlips 41 = .ok (.getfield 58, 3) := by decide +kernel
theorem dX8_listedSlips_44 : decode cX8_listedSlips 44 = .ok (.getfield 300, 3) := by decide +kernel
theorem dX8_listedSlips_47 : decode cX8_listedSlips 47 = .ok (.iload_n 2, 1) := by decide +kernel
theorem dX8_listedSlips_48 : decode cX8_listedSlips 48 = .ok (.iaload, 1) := by decide +kernel
theorem dX8_listedSlips_49 : decode cX8_listedSlips 49 = .ok (.iaload, 1) := by decide +kernel
theorem dX8_listedSlips_50 : decode cX8_listedSlips 50 = .ok (.istore_n 3, 1) := by decide +kernel
theorem dX8_listedSlips_51 : decode cX8_listedSlips 51 = .ok (.iload_n 1, 1) := by decide +kernel
theorem dX8_listedSlips_52 : decode cX8_listedSlips 52 = .ok (.aload_n 0, 1) := by decide +kernel
theorem dX8_listedSlips_53 : decode cX8_listedSlips 53 = .ok (.getfield 19, 3) := by decide +kernel
theorem dX8_listedSlips_56 : decode cX8_listedSlips 56 = .ok (.iload_n 3, 1) := by decide +kernel
theorem dX8_listedSlips_57 : decode cX8_listedSlips 57 = .ok (.aload_n 0, 1) := by decide +kernel
theorem dX8_listedSlips_58 : decode cX8_listedSlips 58 = .ok (.getfield 58, 3) := by decide +kernel
theorem dX8_listedSlips_61 : decode cX8_listedSlips 61 = .ok (.getfield 301, 3) := by decide +kernel
theorem dX8_listedSlips_64 : decode cX8_listedSlips 64 = .ok (.iload_n 2, 1) := by decide +kernel
theorem dX8_listedSlips_65 : decode cX8_listedSlips 65 = .ok (.iaload, 1) := by decide +kernel
theorem dX8_listedSlips_66 : decode cX8_listedSlips 66 = .ok (.invokevirtual 309, 3) := by decide +kernel
theorem dX8_listedSlips_69 : decode cX8_listedSlips 69 = .ok (.ifCond .eq 7, 3) := by decide +kernel
theorem dX8_listedSlips_72 : decode cX8_listedSlips 72 = .ok (.iconst 0, 1) := by decide +kernel
theorem dX8_listedSlips_73 : decode cX8_listedSlips 73 = .ok (.goto 4, 3) := by decide +kernel
theorem dX8_listedSlips_76 : decode cX8_listedSlips 76 = .ok (.iconst 1, 1) := by decide +kernel
theorem dX8_listedSlips_77 : decode cX8_listedSlips 77 = .ok (.iadd, 1) := by decide +kernel
theorem dX8_listedSlips_78 : decode cX8_listedSlips 78 = .ok (.istore_n 1, 1) := by decide +kernel
theorem dX8_listedSlips_79 : decode cX8_listedSlips 79 = .ok (.iinc 2 1, 3) := by decide +kernel
theorem dX8_listedSlips_82 : decode cX8_listedSlips 82 = .ok (.goto (-78), 3) := by decide +kernel
theorem dX8_listedSlips_85 : decode cX8_listedSlips 85 = .ok (.iload_n 1, 1) := by decide +kernel
theorem dX8_listedSlips_86 : decode cX8_listedSlips 86 = .ok (.ireturn, 1) := by decide +kernel
theorem dX8_fewestWays_0 : decode cX8_fewestWays 0 = .ok (.iconst 0, 1) := by decide +kernel
theorem dX8_fewestWays_1 : decode cX8_fewestWays 1 = .ok (.istore_n 1, 1) := by decide +kernel
theorem dX8_fewestWays_2 : decode cX8_fewestWays 2 = .ok (.iload_n 1, 1) := by decide +kernel
theorem dX8_fewestWays_3 : decode cX8_fewestWays 3 = .ok (.aload_n 0, 1) := by decide +kernel
theorem dX8_fewestWays_4 : decode cX8_fewestWays 4 = .ok (.getfield 58, 3) := by decide +kernel
theorem dX8_fewestWays_7 : decode cX8_fewestWays 7 = .ok (.getfield 94, 3) := by decide +kernel
theorem dX8_fewestWays_10 : decode cX8_fewestWays 10 = .ok (.if_icmp .ge 35, 3) := by decide +kernel
theorem dX8_fewestWays_13 : decode cX8_fewestWays 13 = .ok (.aload_n 0, 1) := by decide +kernel
theorem dX8_fewestWays_14 : decode cX8_fewestWays 14 = .ok (.getfield 58, 3) := by decide +kernel
theorem dX8_fewestWays_17 : decode cX8_fewestWays 17 = .ok (.getfield 312, 3) := by decide +kernel
theorem dX8_fewestWays_20 : decode cX8_fewestWays 20 = .ok (.iload_n 1, 1) := by decide +kernel
theorem dX8_fewestWays_21 : decode cX8_fewestWays 21 = .ok (.aload_n 0, 1) := by decide +kernel
theorem dX8_fewestWays_22 : decode cX8_fewestWays 22 = .ok (.iload_n 1, 1) := by decide +kernel
theorem dX8_fewestWays_23 : decode cX8_fewestWays 23 = .ok (.invokevirtual 303, 3) := by decide +kernel
theorem dX8_fewestWays_26 : decode cX8_fewestWays 26 = .ok (.ifCond .eq 11, 3) := by decide +kernel
theorem dX8_fewestWays_29 : decode cX8_fewestWays 29 = .ok (.aload_n 0, 1) := by decide +kernel
theorem dX8_fewestWays_30 : decode cX8_fewestWays 30 = .ok (.iload_n 1, 1) := by decide +kernel
theorem dX8_fewestWays_31 : decode cX8_fewestWays 31 = .ok (.invokevirtual 306, 3) := by decide +kernel
theorem dX8_fewestWays_34 : decode cX8_fewestWays 34 = .ok (.goto 4, 3) := by decide +kernel
theorem dX8_fewestWays_37 : decode cX8_fewestWays 37 = .ok (.iconst 0, 1) := by decide +kernel
theorem dX8_fewestWays_38 : decode cX8_fewestWays 38 = .ok (.iastore, 1) := by decide +kernel
theorem dX8_fewestWays_39 : decode cX8_fewestWays 39 = .ok (.iinc 1 1, 3) := by decide +kernel
theorem dX8_fewestWays_42 : decode cX8_fewestWays 42 = .ok (.goto (-40), 3) := by decide +kernel
theorem dX8_fewestWays_45 : decode cX8_fewestWays 45 = .ok (.bipush 31, 2) := by decide +kernel
theorem dX8_fewestWays_47 : decode cX8_fewestWays 47 = .ok (.istore_n 1, 1) := by decide +kernel
theorem dX8_fewestWays_48 : decode cX8_fewestWays 48 = .ok (.bipush 31, 2) := by decide +kernel
theorem dX8_fewestWays_50 : decode cX8_fewestWays 50 = .ok (.istore_n 2, 1) := by decide +kernel
theorem dX8_fewestWays_51 : decode cX8_fewestWays 51 = .ok (.iload_n 2, 1) := by decide +kernel
theorem dX8_fewestWays_52 : decode cX8_fewestWays 52 = .ok (.ifCond .lt 33, 3) := by decide +kernel
theorem dX8_fewestWays_55 : decode cX8_fewestWays 55 = .ok (.aload_n 0, 1) := by decide +kernel
theorem dX8_fewestWays_56 : decode cX8_fewestWays 56 = .ok (.getfield 58, 3) := by decide +kernel
theorem dX8_fewestWays_59 : decode cX8_fewestWays 59 = .ok (.iload_n 2, 1) := by decide +kernel
theorem dX8_fewestWays_60 : decode cX8_fewestWays 60 = .ok (.invokevirtual 315, 3) := by decide +kernel
theorem dX8_fewestWays_63 : decode cX8_fewestWays 63 = .ok (.ifCond .eq 16, 3) := by decide +kernel
theorem dX8_fewestWays_66 : decode cX8_fewestWays 66 = .ok (.iload_n 2, 1) := by decide +kernel
theorem dX8_fewestWays_67 : decode cX8_fewestWays 67 = .ok (.invokestatic 318, 3) := by decide +kernel
theorem dX8_fewestWays_70 : decode cX8_fewestWays 70 = .ok (.iload_n 1, 1) := by decide +kernel
theorem dX8_fewestWays_71 : decode cX8_fewestWays 71 = .ok (.invokestatic 318, 3) := by decide +kernel
theorem dX8_fewestWays_74 : decode cX8_fewestWays 74 = .ok (.if_icmp .gt 5, 3) := by decide +kernel
theorem dX8_fewestWays_77 : decode cX8_fewestWays 77 = .ok (.iload_n 2, 1) := by decide +kernel
theorem dX8_fewestWays_78 : decode cX8_fewestWays 78 = .ok (.istore_n 1, 1) := by decide +kernel
theorem dX8_fewestWays_79 : decode cX8_fewestWays 79 = .ok (.iinc 2 (-1), 3) := by decide +kernel
theorem dX8_fewestWays_82 : decode cX8_fewestWays 82 = .ok (.goto (-31), 3) := by decide +kernel
theorem dX8_fewestWays_85 : decode cX8_fewestWays 85 = .ok (.iload_n 1, 1) := by decide +kernel
theorem dX8_fewestWays_86 : decode cX8_fewestWays 86 = .ok (.ireturn, 1) := by decide +kernel
theorem dX9_init_0 : decode cX9_init 0 = .ok (.aload_n 0, 1) := by decide +kernel
theorem dX9_init_1 : decode cX9_init 1 = .ok (.invokespecial 1, 3) := by decide +kernel
theorem dX9_init_4 : decode cX9_init 4 = .ok (.aload_n 0, 1) := by decide +kernel
theorem dX9_init_5 : decode cX9_init 5 = .ok (.sipush 300, 3) := by decide +kernel
theorem dX9_init_8 : decode cX9_init 8 = .ok (.newarray .int, 2) := by decide +kernel
theorem dX9_init_10 : decode cX9_init 10 = .ok (.putfield 7, 3) := by decide +kernel
theorem dX9_init_13 : decode cX9_init 13 = .ok (.aload_n 0, 1) := by decide +kernel
theorem dX9_init_14 : decode cX9_init 14 = .ok (.iconst 2, 1) := by decide +kernel
theorem dX9_init_15 : decode cX9_init 15 = .ok (.newarray .int, 2) := by decide +kernel
theorem dX9_init_17 : decode cX9_init 17 = .ok (.putfield 13, 3) := by decide +kernel
theorem dX9_init_20 : decode cX9_init 20 = .ok (.aload_n 0, 1) := by decide +kernel
theorem dX9_init_21 : decode cX9_init 21 = .ok (.bipush 96, 2) := by decide +kernel
theorem dX9_init_23 : decode cX9_init 23 = .ok (.newarray .int, 2) := by decide +kernel
theorem dX9_init_25 : decode cX9_init 25 = .ok (.putfield 16, 3) := by decide +kernel
theorem dX9_init_28 : decode cX9_init 28 = .ok (.aload_n 0, 1) := by decide +kernel
theorem dX9_init_29 : decode cX9_init 29 = .ok (.sipush 128, 3) := by decide +kernel
theorem dX9_init_32 : decode cX9_init 32 = .ok (.newarray .int, 2) := by decide +kernel
theorem dX9_init_34 : decode cX9_init 34 = .ok (.putfield 19, 3) := by decide +kernel
theorem dX9_init_37 : decode cX9_init 37 = .ok (.aload_n 0, 1) := by decide +kernel
theorem dX9_init_38 : decode cX9_init 38 = .ok (.bipush 10, 2) := by decide +kernel
theorem dX9_init_40 : decode cX9_init 40 = .ok (.newarray .int, 2) := by decide +kernel
theorem dX9_init_42 : decode cX9_init 42 = .ok (.putfield 22, 3) := by decide +kernel
theorem dX9_init_45 : decode cX9_init 45 = .ok (.aload_n 0, 1) := by decide +kernel
theorem dX9_init_46 : decode cX9_init 46 = .ok (.bipush 18, 2) := by decide +kernel
theorem dX9_init_48 : decode cX9_init 48 = .ok (.newarray .int, 2) := by decide +kernel
theorem dX9_init_50 : decode cX9_init 50 = .ok (.putfield 25, 3) := by decide +kernel
theorem dX9_init_53 : decode cX9_init 53 = .ok (.aload_n 0, 1) := by decide +kernel
theorem dX9_init_54 : decode cX9_init 54 = .ok (.sipush 144, 3) := by decide +kernel
theorem dX9_init_57 : decode cX9_init 57 = .ok (.newarray .int, 2) := by decide +kernel
theorem dX9_init_59 : decode cX9_init 59 = .ok (.putfield 28, 3) := by decide +kernel
theorem dX9_init_62 : decode cX9_init 62 = .ok (.aload_n 0, 1) := by decide +kernel
theorem dX9_init_63 : decode cX9_init 63 = .ok (.iconst 3, 1) := by decide +kernel
theorem dX9_init_64 : decode cX9_init 64 = .ok (.newarray .int, 2) := by decide +kernel
theorem dX9_init_66 : decode cX9_init 66 = .ok (.putfield 31, 3) := by decide +kernel
theorem dX9_init_69 : decode cX9_init 69 = .ok (.aload_n 0, 1) := by decide +kernel
theorem dX9_init_70 : decode cX9_init 70 = .ok (.iconst 3, 1) := by decide +kernel
theorem dX9_init_71 : decode cX9_init 71 = .ok (.newarray .int, 2) := by decide +kernel
theorem dX9_init_73 : decode cX9_init 73 = .ok (.putfield 34, 3) := by decide +kernel
theorem dX9_init_76 : decode cX9_init 76 = .ok (.aload_n 0, 1) := by decide +kernel
theorem dX9_init_77 : decode cX9_init 77 = .ok (.iconst 3, 1) := by decide +kernel
theorem dX9_init_78 : decode cX9_init 78 = .ok (.newarray .int, 2) := by decide +kernel
theorem dX9_init_80 : decode cX9_init 80 = .ok (.putfield 37, 3) := by decide +kernel
theorem dX9_init_83 : decode cX9_init 83 = .ok (.aload_n 0, 1) := by decide +kernel
theorem dX9_init_84 : decode cX9_init 84 = .ok (.sipush 252, 3) := by decide +kernel
theorem dX9_init_87 : decode cX9_init 87 = .ok (.newarray .int, 2) := by decide +kernel
theorem dX9_init_89 : decode cX9_init 89 = .ok (.putfield 40, 3) := by decide +kernel
theorem dX9_init_92 : decode cX9_init 92 = .ok (.aload_n 0, 1) := by decide +kernel
theorem dX9_init_93 : decode cX9_init 93 = .ok (.bipush 60, 2) := by decide +kernel
theorem dX9_init_95 : decode cX9_init 95 = .ok (.newarray .int, 2) := by decide +kernel
theorem dX9_init_97 : decode cX9_init 97 = .ok (.putfield 43, 3) := by decide +kernel
theorem dX9_init_100 : decode cX9_init 100 = .ok (.aload_n 0, 1) := by decide +kernel
theorem dX9_init_101 : decode cX9_init 101 = .ok (.bipush 64, 2) := by decide +kernel
theorem dX9_init_103 : decode cX9_init 103 = .ok (.newarray .int, 2) := by decide +kernel
theorem dX9_init_105 : decode cX9_init 105 = .ok (.putfield 46, 3) := by decide +kernel
theorem dX9_init_108 : decode cX9_init 108 = .ok (.aload_n 0, 1) := by decide +kernel
theorem dX9_init_109 : decode cX9_init 109 = .ok (.iconst 4, 1) := by decide +kernel
theorem dX9_init_110 : decode cX9_init 110 = .ok (.newarray .int, 2) := by decide +kernel
theorem dX9_init_112 : decode cX9_init 112 = .ok (.putfield 49, 3) := by decide +kernel
theorem dX9_init_115 : decode cX9_init 115 = .ok (.aload_n 0, 1) := by decide +kernel
theorem dX9_init_116 : decode cX9_init 116 = .ok (.sipush 168, 3) := by decide +kernel
theorem dX9_init_119 : decode cX9_init 119 = .ok (.newarray .int, 2) := by decide +kernel
theorem dX9_init_121 : decode cX9_init 121 = .ok (.putfield 52, 3) := by decide +kernel
theorem dX9_init_124 : decode cX9_init 124 = .ok (.aload_n 0, 1) := by decide +kernel
theorem dX9_init_125 : decode cX9_init 125 = .ok (.sipush 168, 3) := by decide +kernel
theorem dX9_init_128 : decode cX9_init 128 = .ok (.newarray .int, 2) := by decide +kernel
theorem dX9_init_130 : decode cX9_init 130 = .ok (.putfield 55, 3) := by decide +kernel
theorem dX9_init_133 : decode cX9_init 133 = .ok (.aload_n 0, 1) := by decide +kernel
theorem dX9_init_134 : decode cX9_init 134 = .ok (.sipush 168, 3) := by decide +kernel
theorem dX9_init_137 : decode cX9_init 137 = .ok (.newarray .int, 2) := by decide +kernel
theorem dX9_init_139 : decode cX9_init 139 = .ok (.putfield 58, 3) := by decide +kernel
theorem dX9_init_142 : decode cX9_init 142 = .ok (.aload_n 0, 1) := by decide +kernel
theorem dX9_init_143 : decode cX9_init 143 = .ok (.bipush 8, 2) := by decide +kernel
theorem dX9_init_145 : decode cX9_init 145 = .ok (.newarray .int, 2) := by decide +kernel
theorem dX9_init_147 : decode cX9_init 147 = .ok (.putfield 61, 3) := by decide +kernel
theorem dX9_init_150 : decode cX9_init 150 = .ok (.aload_n 0, 1) := by decide +kernel
theorem dX9_init_151 : decode cX9_init 151 = .ok (.sipush 168, 3) := by decide +kernel
theorem dX9_init_154 : decode cX9_init 154 = .ok (.newarray .int, 2) := by decide +kernel
theorem dX9_init_156 : decode cX9_init 156 = .ok (.putfield 64, 3) := by decide +kernel
theorem dX9_init_159 : decode cX9_init 159 = .ok (.aload_n 0, 1) := by decide +kernel
theorem dX9_init_160 : decode cX9_init 160 = .ok (.bipush 8, 2) := by decide +kernel
theorem dX9_init_162 : decode cX9_init 162 = .ok (.newarray .int, 2) := by decide +kernel
theorem dX9_init_164 : decode cX9_init 164 = .ok (.putfield 67, 3) := by decide +kernel
theorem dX9_init_167 : decode cX9_init 167 = .ok (.aload_n 0, 1) := by decide +kernel
theorem dX9_init_168 : decode cX9_init 168 = .ok (.sipush 168, 3) := by decide +kernel
theorem dX9_init_171 : decode cX9_init 171 = .ok (.newarray .int, 2) := by decide +kernel
theorem dX9_init_173 : decode cX9_init 173 = .ok (.putfield 70, 3) := by decide +kernel
theorem dX9_init_176 : decode cX9_init 176 = .ok (.aload_n 0, 1) := by decide +kernel
theorem dX9_init_177 : decode cX9_init 177 = .ok (.sipush 2304, 3) := by decide +kernel
theorem dX9_init_180 : decode cX9_init 180 = .ok (.newarray .int, 2) := by decide +kernel
theorem dX9_init_182 : decode cX9_init 182 = .ok (.putfield 73, 3) := by decide +kernel
theorem dX9_init_185 : decode cX9_init 185 = .ok (.aload_n 0, 1) := by decide +kernel
theorem dX9_init_186 : decode cX9_init 186 = .ok (.sipush 2304, 3) := by decide +kernel
theorem dX9_init_189 : decode cX9_init 189 = .ok (.newarray .long, 2) := by decide +kernel
theorem dX9_init_191 : decode cX9_init 191 = .ok (.putfield 76, 3) := by decide +kernel
theorem dX9_init_194 : decode cX9_init 194 = .ok (.aload_n 0, 1) := by decide +kernel
theorem dX9_init_195 : decode cX9_init 195 = .ok (.sipush 2304, 3) := by decide +kernel
theorem dX9_init_198 : decode cX9_init 198 = .ok (.newarray .long, 2) := by decide +kernel
theorem dX9_init_200 : decode cX9_init 200 = .ok (.putfield 80, 3) := by decide +kernel
theorem dX9_init_203 : decode cX9_init 203 = .ok (.aload_n 0, 1) := by decide +kernel
theorem dX9_init_204 : decode cX9_init 204 = .ok (.bipush 20, 2) := by decide +kernel
theorem dX9_init_206 : decode cX9_init 206 = .ok (.newarray .int, 2) := by decide +kernel
theorem dX9_init_208 : decode cX9_init 208 = .ok (.putfield 83, 3) := by decide +kernel
theorem dX9_init_211 : decode cX9_init 211 = .ok (.aload_n 0, 1) := by decide +kernel
theorem dX9_init_212 : decode cX9_init 212 = .ok (.iconst 0, 1) := by decide +kernel
theorem dX9_init_213 : decode cX9_init 213 = .ok (.invokevirtual 86, 3) := by decide +kernel
theorem dX9_init_216 : decode cX9_init 216 = .ok (.return_, 1) := by decide +kernel
theorem dX9_in_0 : decode cX9_in 0 = .ok (.lload_n 0, 1) := by decide +kernel
theorem dX9_in_1 : decode cX9_in 1 = .ok (.lload_n 2, 1) := by decide +kernel
theorem dX9_in_2 : decode cX9_in 2 = .ok (.lcmp, 1) := by decide +kernel
theorem dX9_in_3 : decode cX9_in 3 = .ok (.ifCond .lt 14, 3) := by decide +kernel
theorem dX9_in_6 : decode cX9_in 6 = .ok (.lload_n 0, 1) := by decide +kernel
theorem dX9_in_7 : decode cX9_in 7 = .ok (.lload 4, 2) := by decide +kernel
theorem dX9_in_9 : decode cX9_in 9 = .ok (.lcmp, 1) := by decide +kernel
theorem dX9_in_10 : decode cX9_in 10 = .ok (.ifCond .gt 7, 3) := by decide +kernel
theorem dX9_in_13 : decode cX9_in 13 = .ok (.iconst 1, 1) := by decide +kernel
theorem dX9_in_14 : decode cX9_in 14 = .ok (.goto 4, 3) := by decide +kernel
theorem dX9_in_17 : decode cX9_in 17 = .ok (.iconst 0, 1) := by decide +kernel
theorem dX9_in_18 : decode cX9_in 18 = .ok (.ireturn, 1) := by decide +kernel
theorem dX9_has_0 : decode cX9_has 0 = .ok (.iload_n 0, 1) := by decide +kernel
theorem dX9_has_1 : decode cX9_has 1 = .ok (.iload_n 1, 1) := by decide +kernel
theorem dX9_has_2 : decode cX9_has 2 = .ok (.ishr, 1) := by decide +kernel
theorem dX9_has_3 : decode cX9_has 3 = .ok (.iconst 1, 1) := by decide +kernel
theorem dX9_has_4 : decode cX9_has 4 = .ok (.iand, 1) := by decide +kernel
theorem dX9_has_5 : decode cX9_has 5 = .ok (.iconst 1, 1) := by decide +kernel
theorem dX9_has_6 : decode cX9_has 6 = .ok (.if_icmp .ne 7, 3) := by decide +kernel
theorem dX9_has_9 : decode cX9_has 9 = .ok (.iconst 1, 1) := by decide +kernel
theorem dX9_has_10 : decode cX9_has 10 = .ok (.goto 4, 3) := by decide +kernel
theorem dX9_has_13 : decode cX9_has 13 = .ok (.iconst 0, 1) := by decide +kernel
theorem dX9_has_14 : decode cX9_has 14 = .ok (.ireturn, 1) := by decide +kernel
theorem dX9_bits_0 : decode cX9_bits 0 = .ok (.iconst 0, 1) := by decide +kernel
theorem dX9_bits_1 : decode cX9_bits 1 = .ok (.istore_n 1, 1) := by decide +kernel
theorem dX9_bits_2 : decode cX9_bits 2 = .ok (.iload_n 0, 1) := by decide +kernel
theorem dX9_bits_3 : decode cX9_bits 3 = .ok (.istore_n 2, 1) := by decide +kernel
theorem dX9_bits_4 : decode cX9_bits 4 = .ok (.iload_n 2, 1) := by decide +kernel
theorem dX9_bits_5 : decode cX9_bits 5 = .ok (.ifCond .eq 15, 3) := by decide +kernel
theorem dX9_bits_8 : decode cX9_bits 8 = .ok (.iinc 1 1, 3) := by decide +kernel
theorem dX9_bits_11 : decode cX9_bits 11 = .ok (.iload_n 2, 1) := by decide +kernel
theorem dX9_bits_12 : decode cX9_bits 12 = .ok (.iload_n 2, 1) := by decide +kernel
theorem dX9_bits_13 : decode cX9_bits 13 = .ok (.iconst 1, 1) := by decide +kernel
theorem dX9_bits_14 : decode cX9_bits 14 = .ok (.isub, 1) := by decide +kernel
theorem dX9_bits_15 : decode cX9_bits 15 = .ok (.iand, 1) := by decide +kernel
theorem dX9_bits_16 : decode cX9_bits 16 = .ok (.istore_n 2, 1) := by decide +kernel
theorem dX9_bits_17 : decode cX9_bits 17 = .ok (.goto (-13), 3) := by decide +kernel
theorem dX9_bits_20 : decode cX9_bits 20 = .ok (.iload_n 1, 1) := by decide +kernel
theorem dX9_bits_21 : decode cX9_bits 21 = .ok (.ireturn, 1) := by decide +kernel
theorem dX9_noItems_0 : decode cX9_noItems 0 = .ok (.aload_n 0, 1) := by decide +kernel
theorem dX9_noItems_1 : decode cX9_noItems 1 = .ok (.getfield 13, 3) := by decide +kernel
theorem dX9_noItems_4 : decode cX9_noItems 4 = .ok (.iload_n 1, 1) := by decide +kernel
theorem dX9_noItems_5 : decode cX9_noItems 5 = .ok (.iconst 0, 1) := by decide +kernel
theorem dX9_noItems_6 : decode cX9_noItems 6 = .ok (.iastore, 1) := by decide +kernel
theorem dX9_noItems_7 : decode cX9_noItems 7 = .ok (.iconst 0, 1) := by decide +kernel
theorem dX9_noItems_8 : decode cX9_noItems 8 = .ok (.istore_n 2, 1) := by decide +kernel
theorem dX9_noItems_9 : decode cX9_noItems 9 = .ok (.iload_n 2, 1) := by decide +kernel
theorem dX9_noItems_10 : decode cX9_noItems 10 = .ok (.bipush 64, 2) := by decide +kernel
theorem dX9_noItems_12 : decode cX9_noItems 12 = .ok (.if_icmp .ge 21, 3) := by decide +kernel
theorem dX9_noItems_15 : decode cX9_noItems 15 = .ok (.aload_n 0, 1) := by decide +kernel
theorem dX9_noItems_16 : decode cX9_noItems 16 = .ok (.getfield 19, 3) := by decide +kernel
theorem dX9_noItems_19 : decode cX9_noItems 19 = .ok (.bipush 64, 2) := by decide +kernel
theorem dX9_noItems_21 : decode cX9_noItems 21 = .ok (.iload_n 1, 1) := by decide +kernel
theorem dX9_noItems_22 : decode cX9_noItems 22 = .ok (.imul, 1) := by decide +kernel
theorem dX9_noItems_23 : decode cX9_noItems 23 = .ok (.iload_n 2, 1) := by decide +kernel
theorem dX9_noItems_24 : decode cX9_noItems 24 = .ok (.iadd, 1) := by decide +kernel
theorem dX9_noItems_25 : decode cX9_noItems 25 = .ok (.iload_n 2, 1) := by decide +kernel
theorem dX9_noItems_26 : decode cX9_noItems 26 = .ok (.iastore, 1) := by decide +kernel
theorem dX9_noItems_27 : decode cX9_noItems 27 = .ok (.iinc 2 1, 3) := by decide +kernel
theorem dX9_noItems_30 : decode cX9_noItems 30 = .ok (.goto (-21), 3) := by decide +kernel
theorem dX9_noItems_33 : decode cX9_noItems 33 = .ok (.iconst 0, 1) := by decide +kernel
theorem dX9_noItems_34 : decode cX9_noItems 34 = .ok (.istore_n 2, 1) := by decide +kernel
theorem dX9_noItems_35 : decode cX9_noItems 35 = .ok (.iload_n 2, 1) := by decide +kernel
theorem dX9_noItems_36 : decode cX9_noItems 36 = .ok (.iconst 5, 1) := by decide +kernel
theorem dX9_noItems_37 : decode cX9_noItems 37 = .ok (.if_icmp .ge 20, 3) := by decide +kernel
theorem dX9_noItems_40 : decode cX9_noItems 40 = .ok (.aload_n 0, 1) := by decide +kernel
theorem dX9_noItems_41 : decode cX9_noItems 41 = .ok (.getfield 22, 3) := by decide +kernel
theorem dX9_noItems_44 : decode cX9_noItems 44 = .ok (.iconst 5, 1) := by decide +kernel
theorem dX9_noItems_45 : decode cX9_noItems 45 = .ok (.iload_n 1, 1) := by decide +kernel
theorem dX9_noItems_46 : decode cX9_noItems 46 = .ok (.imul, 1) := by decide +kernel
theorem dX9_noItems_47 : decode cX9_noItems 47 = .ok (.iload_n 2, 1) := by decide +kernel
theorem dX9_noItems_48 : decode cX9_noItems 48 = .ok (.iadd, 1) := by decide +kernel
theorem dX9_noItems_49 : decode cX9_noItems 49 = .ok (.iconst 1, 1) := by decide +kernel
theorem dX9_noItems_50 : decode cX9_noItems 50 = .ok (.iastore, 1) := by decide +kernel
theorem dX9_noItems_51 : decode cX9_noItems 51 = .ok (.iinc 2 1, 3) := by decide +kernel
theorem dX9_noItems_54 : decode cX9_noItems 54 = .ok (.goto (-19), 3) := by decide +kernel
theorem dX9_noItems_57 : decode cX9_noItems 57 = .ok (.return_, 1) := by decide +kernel
theorem dX9_write_0 : decode cX9_write 0 = .ok (.iload_n 1, 1) := by decide +kernel
theorem dX9_write_1 : decode cX9_write 1 = .ok (.i2l, 1) := by decide +kernel
theorem dX9_write_2 : decode cX9_write 2 = .ok (.lconst 1, 1) := by decide +kernel
theorem dX9_write_3 : decode cX9_write 3 = .ok (.ldc2_w 90, 3) := by decide +kernel
theorem dX9_write_6 : decode cX9_write 6 = .ok (.invokestatic 92, 3) := by decide +kernel
theorem dX9_write_9 : decode cX9_write 9 = .ok (.ifCond .ne 5, 3) := by decide +kernel
theorem dX9_write_12 : decode cX9_write 12 = .ok (.iconst (-1), 1) := by decide +kernel
theorem dX9_write_13 : decode cX9_write 13 = .ok (.ireturn, 1) := by decide +kernel
theorem dX9_write_14 : decode cX9_write 14 = .ok (.aload_n 0, 1) := by decide +kernel
theorem dX9_write_15 : decode cX9_write 15 = .ok (.getfield 96, 3) := by decide +kernel
theorem dX9_write_18 : decode cX9_write 18 = .ok (.iload_n 1, 1) := by decide +kernel
theorem dX9_write_19 : decode cX9_write 19 = .ok (.iadd, 1) := by decide +kernel
theorem dX9_write_20 : decode cX9_write 20 = .ok (.sipush 300, 3) := by decide +kernel
theorem dX9_write_23 : decode cX9_write 23 = .ok (.if_icmp .le 6, 3) := by decide +kernel
theorem dX9_write_26 : decode cX9_write 26 = .ok (.bipush (-3), 2) := by decide +kernel
theorem dX9_write_28 : decode cX9_write 28 = .ok (.ireturn, 1) := by decide +kernel
theorem dX9_write_29 : decode cX9_write 29 = .ok (.iload_n 1, 1) := by decide +kernel
theorem dX9_write_30 : decode cX9_write 30 = .ok (.iconst 1, 1) := by decide +kernel
theorem dX9_write_31 : decode cX9_write 31 = .ok (.isub, 1) := by decide +kernel
theorem dX9_write_32 : decode cX9_write 32 = .ok (.istore 4, 2) := by decide +kernel
theorem dX9_write_34 : decode cX9_write 34 = .ok (.iload 4, 2) := by decide +kernel
theorem dX9_write_36 : decode cX9_write 36 = .ok (.ifCond .lt 40, 3) := by decide +kernel
theorem dX9_write_39 : decode cX9_write 39 = .ok (.aload_n 0, 1) := by decide +kernel
theorem dX9_write_40 : decode cX9_write 40 = .ok (.getfield 7, 3) := by decide +kernel
theorem dX9_write_43 : decode cX9_write 43 = .ok (.aload_n 0, 1) := by decide +kernel
theorem dX9_write_44 : decode cX9_write 44 = .ok (.getfield 96, 3) := by decide +kernel
theorem dX9_write_47 : decode cX9_write 47 = .ok (.lload_n 2, 1) := by decide +kernel
theorem dX9_write_48 : decode cX9_write 48 = .ok (.bipush 8, 2) := by decide +kernel
theorem dX9_write_50 : decode cX9_write 50 = .ok (.iload 4, 2) := by decide +kernel
theorem dX9_write_52 : decode cX9_write 52 = .ok (.imul, 1) := by decide +kernel
theorem dX9_write_53 : decode cX9_write 53 = .ok (.lshr, 1) := by decide +kernel
theorem dX9_write_54 : decode cX9_write 54 = .ok (.ldc2_w 100, 3) := by decide +kernel
theorem dX9_write_57 : decode cX9_write 57 = .ok (.land, 1) := by decide +kernel
theorem dX9_write_58 : decode cX9_write 58 = .ok (.l2i, 1) := by decide +kernel
theorem dX9_write_59 : decode cX9_write 59 = .ok (.iastore, 1) := by decide +kernel
theorem dX9_write_60 : decode cX9_write 60 = .ok (.aload_n 0, 1) := by decide +kernel
theorem dX9_write_61 : decode cX9_write 61 = .ok (.dup, 1) := by decide +kernel
theorem dX9_write_62 : decode cX9_write 62 = .ok (.getfield 96, 3) := by decide +kernel
theorem dX9_write_65 : decode cX9_write 65 = .ok (.iconst 1, 1) := by decide +kernel
theorem dX9_write_66 : decode cX9_write 66 = .ok (.iadd, 1) := by decide +kernel
theorem dX9_write_67 : decode cX9_write 67 = .ok (.putfield 96, 3) := by decide +kernel
theorem dX9_write_70 : decode cX9_write 70 = .ok (.iinc 4 (-1), 3) := by decide +kernel
theorem dX9_write_73 : decode cX9_write 73 = .ok (.goto (-39), 3) := by decide +kernel
theorem dX9_write_76 : decode cX9_write 76 = .ok (.aload_n 0, 1) := by decide +kernel
theorem dX9_write_77 : decode cX9_write 77 = .ok (.getfield 96, 3) := by decide +kernel
theorem dX9_write_80 : decode cX9_write 80 = .ok (.ireturn, 1) := by decide +kernel
theorem dX9_wipe_0 : decode cX9_wipe 0 = .ok (.aload_n 0, 1) := by decide +kernel
theorem dX9_wipe_1 : decode cX9_wipe 1 = .ok (.getfield 96, 3) := by decide +kernel
theorem dX9_wipe_4 : decode cX9_wipe 4 = .ok (.istore_n 1, 1) := by decide +kernel
theorem dX9_wipe_5 : decode cX9_wipe 5 = .ok (.aload_n 0, 1) := by decide +kernel
theorem dX9_wipe_6 : decode cX9_wipe 6 = .ok (.iconst 0, 1) := by decide +kernel
theorem dX9_wipe_7 : decode cX9_wipe 7 = .ok (.putfield 96, 3) := by decide +kernel
theorem dX9_wipe_10 : decode cX9_wipe 10 = .ok (.iload_n 1, 1) := by decide +kernel
theorem dX9_wipe_11 : decode cX9_wipe 11 = .ok (.ireturn, 1) := by decide +kernel
theorem dX9_byteAt_0 : decode cX9_byteAt 0 = .ok (.iload_n 1, 1) := by decide +kernel
theorem dX9_byteAt_1 : decode cX9_byteAt 1 = .ok (.aload_n 0, 1) := by decide +kernel
theorem dX9_byteAt_2 : decode cX9_byteAt 2 = .ok (.getfield 96, 3) := by decide +kernel
theorem dX9_byteAt_5 : decode cX9_byteAt 5 = .ok (.if_icmp .ge 12, 3) := by decide +kernel
theorem dX9_byteAt_8 : decode cX9_byteAt 8 = .ok (.aload_n 0, 1) := by decide +kernel
theorem dX9_byteAt_9 : decode cX9_byteAt 9 = .ok (.getfield 7, 3) := by decide +kernel
theorem dX9_byteAt_12 : decode cX9_byteAt 12 = .ok (.iload_n 1, 1) := by decide +kernel
theorem dX9_byteAt_13 : decode cX9_byteAt 13 = .ok (.iaload, 1) := by decide +kernel
theorem dX9_byteAt_14 : decode cX9_byteAt 14 = .ok (.goto 4, 3) := by decide +kernel
theorem dX9_byteAt_17 : decode cX9_byteAt 17 = .ok (.iconst 0, 1) := by decide +kernel
theorem dX9_byteAt_18 : decode cX9_byteAt 18 = .ok (.ireturn, 1) := by decide +kernel
theorem dX9_figures_0 : decode cX9_figures 0 = .ok (.iconst 0, 1) := by decide +kernel
theorem dX9_figures_1 : decode cX9_figures 1 = .ok (.istore_n 2, 1) := by decide +kernel
theorem dX9_figures_2 : decode cX9_figures 2 = .ok (.iload_n 2, 1) := by decide +kernel
theorem dX9_figures_3 : decode cX9_figures 3 = .ok (.iload_n 1, 1) := by decide +kernel
theorem dX9_figures_4 : decode cX9_figures 4 = .ok (.if_icmp .ge 132, 3) := by decide +kernel
theorem dX9_figures_7 : decode cX9_figures 7 = .ok (.iconst 0, 1) := by decide +kernel
theorem dX9_figures_8 : decode cX9_figures 8 = .ok (.istore_n 3, 1) := by decide +kernel
theorem dX9_figures_9 : decode cX9_figures 9 = .ok (.iconst 0, 1) := by decide +kernel
theorem dX9_figures_10 : decode cX9_figures 10 = .ok (.istore 4, 2) := by decide +kernel
theorem dX9_figures_12 : decode cX9_figures 12 = .ok (.aload_n 0, 1) := by decide +kernel
theorem dX9_figures_13 : decode cX9_figures 13 = .ok (.aload_n 0, 1) := by decide +kernel
theorem dX9_figures_14 : decode cX9_figures 14 = .ok (.getfield 102, 3) := by decide +kernel
theorem dX9_figures_17 : decode cX9_figures 17 = .ok (.invokevirtual 105, 3) := by decide +kernel
theorem dX9_figures_20 : decode cX9_figures 20 = .ok (.i2l, 1) := by decide +kernel
theorem dX9_figures_21 : decode cX9_figures 21 = .ok (.ldc2_w 109, 3) := by decide +kernel
theorem dX9_figures_24 : decode cX9_figures 24 = .ok (.ldc2_w 111, 3) := by decide +kernel
theorem dX9_figures_27 : decode cX9_figures 27 = .ok (.invokestatic 92, 3) := by decide +kernel
theorem dX9_figures_30 : decode cX9_figures 30 = .ok (.ifCond .eq 43, 3) := by decide +kernel
theorem dX9_figures_33 : decode cX9_figures 33 = .ok (.iload_n 3, 1) := by decide +kernel
theorem dX9_figures_34 : decode cX9_figures 34 = .ok (.iconst 3, 1) := by decide +kernel
theorem dX9_figures_35 : decode cX9_figures 35 = .ok (.if_icmp .ge 38, 3) := by decide +kernel
theorem dX9_figures_38 : decode cX9_figures 38 = .ok (.bipush 10, 2) := by decide +kernel
theorem dX9_figures_40 : decode cX9_figures 40 = .ok (.iload 4, 2) := by decide +kernel
theorem dX9_figures_42 : decode cX9_figures 42 = .ok (.imul, 1) := by decide +kernel
theorem dX9_figures_43 : decode cX9_figures 43 = .ok (.aload_n 0, 1) := by decide +kernel
theorem dX9_figures_44 : decode cX9_figures 44 = .ok (.aload_n 0, 1) := by decide +kernel
theorem dX9_figures_45 : decode cX9_figures 45 = .ok (.getfield 102, 3) := by decide +kernel
theorem dX9_figures_48 : decode cX9_figures 48 = .ok (.invokevirtual 105, 3) := by decide +kernel
theorem dX9_figures_51 : decode cX9_figures 51 = .ok (.iadd, 1) := by decide +kernel
theorem dX9_figures_52 : decode cX9_figures 52 = .ok (.bipush 48, 2) := by decide +kernel
theorem dX9_figures_54 : decode cX9_figures 54 = .ok (.isub, 1) := by decide +kernel
theorem dX9_figures_55 : decode cX9_figures 55 = .ok (.istore 4, 2) := by decide +kernel
theorem dX9_figures_57 : decode cX9_figures 57 = .ok (.iinc 3 1, 3) := by decide +kernel
theorem dX9_figures_60 : decode cX9_figures 60 = .ok (.aload_n 0, 1) := by decide +kernel
theorem dX9_figures_61 : decode cX9_figures 61 = .ok (.dup, 1) := by decide +kernel
theorem dX9_figures_62 : decode cX9_figures 62 = .ok (.getfield 102, 3) := by decide +kernel
theorem dX9_figures_65 : decode cX9_figures 65 = .ok (.iconst 1, 1) := by decide +kernel
theorem dX9_figures_66 : decode cX9_figures 66 = .ok (.iadd, 1) := by decide +kernel
theorem dX9_figures_67 : decode cX9_figures 67 = .ok (.putfield 102, 3) := by decide +kernel
theorem dX9_figures_70 : decode cX9_figures 70 = .ok (.goto (-58), 3) := by decide +kernel
theorem dX9_figures_73 : decode cX9_figures 73 = .ok (.iload_n 3, 1) := by decide +kernel
theorem dX9_figures_74 : decode cX9_figures 74 = .ok (.i2l, 1) := by decide +kernel
theorem dX9_figures_75 : decode cX9_figures 75 = .ok (.lconst 1, 1) := by decide +kernel
theorem dX9_figures_76 : decode cX9_figures 76 = .ok (.ldc2_w 113, 3) := by decide +kernel
theorem dX9_figures_79 : decode cX9_figures 79 = .ok (.invokestatic 92, 3) := by decide +kernel
theorem dX9_figures_82 : decode cX9_figures 82 = .ok (.ifCond .eq 28, 3) := by decide +kernel
theorem dX9_figures_85 : decode cX9_figures 85 = .ok (.aload_n 0, 1) := by decide +kernel
theorem dX9_figures_86 : decode cX9_figures 86 = .ok (.aload_n 0, 1) := by decide +kernel
theorem dX9_figures_87 : decode cX9_figures 87 = .ok (.getfield 102, 3) := by decide +kernel
theorem dX9_figures_90 : decode cX9_figures 90 = .ok (.invokevirtual 105, 3) := by decide +kernel
theorem dX9_figures_93 : decode cX9_figures 93 = .ok (.iload_n 2, 1) := by decide +kernel
theorem dX9_figures_94 : decode cX9_figures 94 = .ok (.iload_n 1, 1) := by decide +kernel
theorem dX9_figures_95 : decode cX9_figures 95 = .ok (.iconst 1, 1) := by decide +kernel
theorem dX9_figures_96 : decode cX9_figures 96 = .ok (.isub, 1) := by decide +kernel
theorem dX9_figures_97 : decode cX9_figures 97 = .ok (.if_icmp .ge 8, 3) := by decide +kernel
theorem dX9_figures_100 : decode cX9_figures 100 = .ok (.bipush 44, 2) := by decide +kernel
theorem dX9_figures_102 : decode cX9_figures 102 = .ok (.goto 5, 3) := by decide +kernel
theorem dX9_figures_105 : decode cX9_figures 105 = .ok (.bipush 59, 2) := by decide +kernel
theorem dX9_figures_107 : decode cX9_figures 107 = .ok (.if_icmp .eq 5, 3) := by decide +kernel
theorem dX9_figures_110 : decode cX9_figures 110 = .ok (.iconst 0, 1) := by decide +kernel
theorem dX9_figures_111 : decode cX9_figures 111 = .ok (.ireturn, 1) := by decide +kernel
theorem dX9_figures_112 : decode cX9_figures 112 = .ok (.aload_n 0, 1) := by decide +kernel
theorem dX9_figures_113 : decode cX9_figures 113 = .ok (.getfield 49, 3) := by decide +kernel
theorem dX9_figures_116 : decode cX9_figures 116 = .ok (.iload_n 2, 1) := by decide +kernel
theorem dX9_figures_117 : decode cX9_figures 117 = .ok (.iload 4, 2) := by decide +kernel
theorem dX9_figures_119 : decode cX9_figures 119 = .ok (.iastore, 1) := by decide +kernel
theorem dX9_figures_120 : decode cX9_figures 120 = .ok (.aload_n 0, 1) := by decide +kernel
theorem dX9_figures_121 : decode cX9_figures 121 = .ok (.dup, 1) := by decide +kernel
theorem dX9_figures_122 : decode cX9_figures 122 = .ok (.getfield 102, 3) := by decide +kernel
theorem dX9_figures_125 : decode cX9_figures 125 = .ok (.iconst 1, 1) := by decide +kernel
theorem dX9_figures_126 : decode cX9_figures 126 = .ok (.iadd, 1) := by decide +kernel
theorem dX9_figures_127 : decode cX9_figures 127 = .ok (.putfield 102, 3) := by decide +kernel
theorem dX9_figures_130 : decode cX9_figures 130 = .ok (.iinc 2 1, 3) := by decide +kernel
theorem dX9_figures_133 : decode cX9_figures 133 = .ok (.goto (-131), 3) := by decide +kernel
theorem dX9_figures_136 : decode cX9_figures 136 = .ok (.iconst 1, 1) := by decide +kernel
theorem dX9_figures_137 : decode cX9_figures 137 = .ok (.ireturn, 1) := by decide +kernel
theorem dX9_isEdge_0 : decode cX9_isEdge 0 = .ok (.iload_n 0, 1) := by decide +kernel
theorem dX9_isEdge_1 : decode cX9_isEdge 1 = .ok (.i2l, 1) := by decide +kernel
theorem dX9_isEdge_2 : decode cX9_isEdge 2 = .ok (.lconst 0, 1) := by decide +kernel
theorem dX9_isEdge_3 : decode cX9_isEdge 3 = .ok (.ldc2_w 115, 3) := by decide +kernel
theorem dX9_isEdge_6 : decode cX9_isEdge 6 = .ok (.invokestatic 92, 3) := by decide +kernel
theorem dX9_isEdge_9 : decode cX9_isEdge 9 = .ok (.ireturn, 1) := by decide +kernel
theorem dX9_wordItem_0 : decode cX9_wordItem 0 = .ok (.aload_n 0, 1) := by decide +kernel
theorem dX9_wordItem_1 : decode cX9_wordItem 1 = .ok (.iconst 3, 1) := by decide +kernel
theorem dX9_wordItem_2 : decode cX9_wordItem 2 = .ok (.invokevirtual 117, 3) := by decide +kernel
theorem dX9_wordItem_5 : decode cX9_wordItem 5 = .ok (.ifCond .eq 49, 3) := by decide +kernel
theorem dX9_wordItem_8 : decode cX9_wordItem 8 = .ok (.aload_n 0, 1) := by decide +kernel
theorem dX9_wordItem_9 : decode cX9_wordItem 9 = .ok (.getfield 49, 3) := by decide +kernel
theorem dX9_wordItem_12 : decode cX9_wordItem 12 = .ok (.iconst 0, 1) := by decide +kernel
theorem dX9_wordItem_13 : decode cX9_wordItem 13 = .ok (.iaload, 1) := by decide +kernel
theorem dX9_wordItem_14 : decode cX9_wordItem 14 = .ok (.invokestatic 121, 3) := by decide +kernel
theorem dX9_wordItem_17 : decode cX9_wordItem 17 = .ok (.ifCond .eq 37, 3) := by decide +kernel
theorem dX9_wordItem_20 : decode cX9_wordItem 20 = .ok (.aload_n 0, 1) := by decide +kernel
theorem dX9_wordItem_21 : decode cX9_wordItem 21 = .ok (.getfield 49, 3) := by decide +kernel
theorem dX9_wordItem_24 : decode cX9_wordItem 24 = .ok (.iconst 1, 1) := by decide +kernel
theorem dX9_wordItem_25 : decode cX9_wordItem 25 = .ok (.iaload, 1) := by decide +kernel
theorem dX9_wordItem_26 : decode cX9_wordItem 26 = .ok (.bipush 15, 2) := by decide +kernel
theorem dX9_wordItem_28 : decode cX9_wordItem 28 = .ok (.if_icmp .gt 26, 3) := by decide +kernel
theorem dX9_wordItem_31 : decode cX9_wordItem 31 = .ok (.aload_n 0, 1) := by decide +kernel
theorem dX9_wordItem_32 : decode cX9_wordItem 32 = .ok (.getfield 49, 3) := by decide +kernel
theorem dX9_wordItem_35 : decode cX9_wordItem 35 = .ok (.iconst 2, 1) := by decide +kernel
theorem dX9_wordItem_36 : decode cX9_wordItem 36 = .ok (.iaload, 1) := by decide +kernel
theorem dX9_wordItem_37 : decode cX9_wordItem 37 = .ok (.invokestatic 121, 3) := by decide +kernel
theorem dX9_wordItem_40 : decode cX9_wordItem 40 = .ok (.ifCond .eq 14, 3) := by decide +kernel
theorem dX9_wordItem_43 : decode cX9_wordItem 43 = .ok (.aload_n 0, 1) := by decide +kernel
theorem dX9_wordItem_44 : decode cX9_wordItem 44 = .ok (.getfield 13, 3) := by decide +kernel
theorem dX9_wordItem_47 : decode cX9_wordItem 47 = .ok (.iconst 1, 1) := by decide +kernel
theorem dX9_wordItem_48 : decode cX9_wordItem 48 = .ok (.iaload, 1) := by decide +kernel
theorem dX9_wordItem_49 : decode cX9_wordItem 49 = .ok (.bipush 16, 2) := by decide +kernel
theorem dX9_wordItem_51 : decode cX9_wordItem 51 = .ok (.if_icmp .ne 5, 3) := by decide +kernel
theorem dX9_wordItem_54 : decode cX9_wordItem 54 = .ok (.iconst 0, 1) := by decide +kernel
theorem dX9_wordItem_55 : decode cX9_wordItem 55 = .ok (.ireturn, 1) := by decide +kernel
theorem dX9_wordItem_56 : decode cX9_wordItem 56 = .ok (.iconst 0, 1) := by decide +kernel
theorem dX9_wordItem_57 : decode cX9_wordItem 57 = .ok (.istore_n 1, 1) := by decide +kernel
theorem dX9_wordItem_58 : decode cX9_wordItem 58 = .ok (.iload_n 1, 1) := by decide +kernel
theorem dX9_wordItem_59 : decode cX9_wordItem 59 = .ok (.aload_n 0, 1) := by decide +kernel
theorem dX9_wordItem_60 : decode cX9_wordItem 60 = .ok (.getfield 13, 3) := by decide +kernel
theorem dX9_wordItem_63 : decode cX9_wordItem 63 = .ok (.iconst 1, 1) := by decide +kernel
theorem dX9_wordItem_64 : decode cX9_wordItem 64 = .ok (.iaload, 1) := by decide +kernel
theorem dX9_wordItem_65 : decode cX9_wordItem 65 = .ok (.if_icmp .ge 67, 3) := by decide +kernel
theorem dX9_wordItem_68 : decode cX9_wordItem 68 = .ok (.bipush 48, 2) := by decide +kernel
theorem dX9_wordItem_70 : decode cX9_wordItem 70 = .ok (.iconst 3, 1) := by decide +kernel
theorem dX9_wordItem_71 : decode cX9_wordItem 71 = .ok (.iload_n 1, 1) := by decide +kernel
theorem dX9_wordItem_72 : decode cX9_wordItem 72 = .ok (.imul, 1) := by decide +kernel
theorem dX9_wordItem_73 : decode cX9_wordItem 73 = .ok (.iadd, 1) := by decide +kernel
theorem dX9_wordItem_74 : decode cX9_wordItem 74 = .ok (.istore_n 2, 1) := by decide +kernel
theorem dX9_wordItem_75 : decode cX9_wordItem 75 = .ok (.aload_n 0, 1) := by decide +kernel
theorem dX9_wordItem_76 : decode cX9_wordItem 76 = .ok (.getfield 16, 3) := by decide +kernel
theorem dX9_wordItem_79 : decode cX9_wordItem 79 = .ok (.iload_n 2, 1) := by decide +kernel
theorem dX9_wordItem_80 : decode cX9_wordItem 80 = .ok (.iaload, 1) := by decide +kernel
theorem dX9_wordItem_81 : decode cX9_wordItem 81 = .ok (.aload_n 0, 1) := by decide +kernel
theorem dX9_wordItem_82 : decode cX9_wordItem 82 = .ok (.getfield 49, 3) := by decide +kernel
theorem dX9_wordItem_85 : decode cX9_wordItem 85 = .ok (.iconst 0, 1) := by decide +kernel
theorem dX9_wordItem_86 : decode cX9_wordItem 86 = .ok (.iaload, 1) := by decide +kernel
theorem dX9_wordItem_87 : decode cX9_wordItem 87 = .ok (.if_icmp .ne 39, 3) := by decide +kernel
theorem dX9_wordItem_90 : decode cX9_wordItem 90 = .ok (.aload_n 0, 1) := by decide +kernel
theorem dX9_wordItem_91 : decode cX9_wordItem 91 = .ok (.getfield 16, 3) := by decide +kernel
theorem dX9_wordItem_94 : decode cX9_wordItem 94 = .ok (.iload_n 2, 1) := by decide +kernel
theorem dX9_wordItem_95 : decode cX9_wordItem 95 = .ok (.iconst 1, 1) := by decide +kernel
theorem dX9_wordItem_96 : decode cX9_wordItem 96 = .ok (.iadd, 1) := by decide +kernel
theorem dX9_wordItem_97 : decode cX9_wordItem 97 = .ok (.iaload, 1) := by decide +kernel
theorem dX9_wordItem_98 : decode cX9_wordItem 98 = .ok (.aload_n 0, 1) := by decide +kernel
theorem dX9_wordItem_99 : decode cX9_wordItem 99 = .ok (.getfield 49, 3) := by decide +kernel
theorem dX9_wordItem_102 : decode cX9_wordItem 102 = .ok (.iconst 1, 1) := by decide +kernel
theorem dX9_wordItem_103 : decode cX9_wordItem 103 = .ok (.iaload, 1) := by decide +kernel
theorem dX9_wordItem_104 : decode cX9_wordItem 104 = .ok (.if_icmp .ne 22, 3) := by decide +kernel
theorem dX9_wordItem_107 : decode cX9_wordItem 107 = .ok (.aload_n 0, 1) := by decide +kernel
theorem dX9_wordItem_108 : decode cX9_wordItem 108 = .ok (.getfield 16, 3) := by decide +kernel
theorem dX9_wordItem_111 : decode cX9_wordItem 111 = .ok (.iload_n 2, 1) := by decide +kernel
theorem dX9_wordItem_112 : decode cX9_wordItem 112 = .ok (.iconst 2, 1) := by decide +kernel
theorem dX9_wordItem_113 : decode cX9_wordItem 113 = .ok (.iadd, 1) := by decide +kernel
theorem dX9_wordItem_114 : decode cX9_wordItem 114 = .ok (.iaload, 1) := by decide +kernel
theorem dX9_wordItem_115 : decode cX9_wordItem 115 = .ok (.aload_n 0, 1) := by decide +kernel
theorem dX9_wordItem_116 : decode cX9_wordItem 116 = .ok (.getfield 49, 3) := by decide +kernel
theorem dX9_wordItem_119 : decode cX9_wordItem 119 = .ok (.iconst 2, 1) := by decide +kernel
theorem dX9_wordItem_120 : decode cX9_wordItem 120 = .ok (.iaload, 1) := by decide +kernel
theorem dX9_wordItem_121 : decode cX9_wordItem 121 = .ok (.if_icmp .ne 5, 3) := by decide +kernel
theorem dX9_wordItem_124 : decode cX9_wordItem 124 = .ok (.iconst 0, 1) := by decide +kernel
theorem dX9_wordItem_125 : decode cX9_wordItem 125 = .ok (.ireturn, 1) := by decide +kernel
theorem dX9_wordItem_126 : decode cX9_wordItem 126 = .ok (.iinc 1 1, 3) := by decide +kernel
theorem dX9_wordItem_129 : decode cX9_wordItem 129 = .ok (.goto (-71), 3) := by decide +kernel
theorem dX9_wordItem_132 : decode cX9_wordItem 132 = .ok (.iconst 0, 1) := by decide +kernel
theorem dX9_wordItem_133 : decode cX9_wordItem 133 = .ok (.istore_n 1, 1) := by decide +kernel
theorem dX9_wordItem_134 : decode cX9_wordItem 134 = .ok (.iload_n 1, 1) := by decide +kernel
theorem dX9_wordItem_135 : decode cX9_wordItem 135 = .ok (.iconst 3, 1) := by decide +kernel
theorem dX9_wordItem_136 : decode cX9_wordItem 136 = .ok (.if_icmp .ge 33, 3) := by decide +kernel
theorem dX9_wordItem_139 : decode cX9_wordItem 139 = .ok (.aload_n 0, 1) := by decide +kernel
theorem dX9_wordItem_140 : decode cX9_wordItem 140 = .ok (.getfield 16, 3) := by decide +kernel
theorem dX9_wordItem_143 : decode cX9_wordItem 143 = .ok (.bipush 48, 2) := by decide +kernel
theorem dX9_wordItem_145 : decode cX9_wordItem 145 = .ok (.iconst 3, 1) := by decide +kernel
theorem dX9_wordItem_146 : decode cX9_wordItem 146 = .ok (.aload_n 0, 1) := by decide +kernel
theorem dX9_wordItem_147 : decode cX9_wordItem 147 = .ok (.getfield 13, 3) := by decide +kernel
theorem dX9_wordItem_150 : decode cX9_wordItem 150 = .ok (.iconst 1, 1) := by decide +kernel
theorem dX9_wordItem_151 : decode cX9_wordItem 151 = .ok (.iaload, 1) := by decide +kernel
theorem dX9_wordItem_152 : decode cX9_wordItem 152 = .ok (.imul, 1) := by decide +kernel
theorem dX9_wordItem_153 : decode cX9_wordItem 153 = .ok (.iadd, 1) := by decide +kernel
theorem dX9_wordItem_154 : decode cX9_wordItem 154 = .ok (.iload_n 1, 1) := by decide +kernel
theorem dX9_wordItem_155 : decode cX9_wordItem 155 = .ok (.iadd, 1) := by decide +kernel
theorem dX9_wordItem_156 : decode cX9_wordItem 156 = .ok (.aload_n 0, 1) := by decide +kernel
theorem dX9_wordItem_157 : decode cX9_wordItem 157 = .ok (.getfield 49, 3) := by decide +kernel
theorem dX9_wordItem_160 : decode cX9_wordItem 160 = .ok (.iload_n 1, 1) := by decide +kernel
theorem dX9_wordItem_161 : decode cX9_wordItem 161 = .ok (.iaload, 1) := by decide +kernel
theorem dX9_wordItem_162 : decode cX9_wordItem 162 = .ok (.iastore, 1) := by decide +kernel
theorem dX9_wordItem_163 : decode cX9_wordItem 163 = .ok (.iinc 1 1, 3) := by decide +kernel
theorem dX9_wordItem_166 : decode cX9_wordItem 166 = .ok (.goto (-32), 3) := by decide +kernel
theorem dX9_wordItem_169 : decode cX9_wordItem 169 = .ok (.aload_n 0, 1) := by decide +kernel
theorem dX9_wordItem_170 : decode cX9_wordItem 170 = .ok (.getfield 13, 3) := by decide +kernel
theorem dX9_wordItem_173 : decode cX9_wordItem 173 = .ok (.iconst 1, 1) := by decide +kernel
theorem dX9_wordItem_174 : decode cX9_wordItem 174 = .ok (.dup2, 1) := by decide +kernel
theorem dX9_wordItem_175 : decode cX9_wordItem 175 = .ok (.iaload, 1) := by decide +kernel
theorem dX9_wordItem_176 : decode cX9_wordItem 176 = .ok (.iconst 1, 1) := by decide +kernel
theorem dX9_wordItem_177 : decode cX9_wordItem 177 = .ok (.iadd, 1) := by decide +kernel
theorem dX9_wordItem_178 : decode cX9_wordItem 178 = .ok (.iastore, 1) := by decide +kernel
theorem dX9_wordItem_179 : decode cX9_wordItem 179 = .ok (.iconst 1, 1) := by decide +kernel
theorem dX9_wordItem_180 : decode cX9_wordItem 180 = .ok (.ireturn, 1) := by decide +kernel
theorem dX9_item_0 : decode cX9_item 0 = .ok (.aload_n 0, 1) := by decide +kernel
theorem dX9_item_1 : decode cX9_item 1 = .ok (.aload_n 0, 1) := by decide +kernel
theorem dX9_item_2 : decode cX9_item 2 = .ok (.getfield 102, 3) := by decide +kernel
theorem dX9_item_5 : decode cX9_item 5 = .ok (.invokevirtual 105, 3) := by decide +kernel
theorem dX9_item_8 : decode cX9_item 8 = .ok (.istore_n 1, 1) := by decide +kernel
theorem dX9_item_9 : decode cX9_item 9 = .ok (.aload_n 0, 1) := by decide +kernel
theorem dX9_item_10 : decode cX9_item 10 = .ok (.dup, 1) := by decide +kernel
theorem dX9_item_11 : decode cX9_item 11 = .ok (.getfield 102, 3) := by decide +kernel
theorem dX9_item_14 : decode cX9_item 14 = .ok (.iconst 1, 1) := by decide +kernel
theorem dX9_item_15 : decode cX9_item 15 = .ok (.iadd, 1) := by decide +kernel
theorem dX9_item_16 : decode cX9_item 16 = .ok (.putfield 102, 3) := by decide +kernel
theorem dX9_item_19 : decode cX9_item 19 = .ok (.iload_n 1, 1) := by decide +kernel
theorem dX9_item_20 : decode cX9_item 20 = .ok (.lookupswitch 189 #[(104, 141), (106, 41), (119, 36)], 36) := by decide +kernel
theorem dX9_item_56 : decode cX9_item 56 = .ok (.aload_n 0, 1) := by decide +kernel
theorem dX9_item_57 : decode cX9_item 57 = .ok (.invokevirtual 124, 3) := by decide +kernel
theorem dX9_item_60 : decode cX9_item 60 = .ok (.ireturn, 1) := by decide +kernel
theorem dX9_item_61 : decode cX9_item 61 = .ok (.aload_n 0, 1) := by decide +kernel
theorem dX9_item_62 : decode cX9_item 62 = .ok (.iconst 4, 1) := by decide +kernel
theorem dX9_item_63 : decode cX9_item 63 = .ok (.invokevirtual 117, 3) := by decide +kernel
theorem dX9_item_66 : decode cX9_item 66 = .ok (.ifCond .eq 51, 3) := by decide +kernel
theorem dX9_item_69 : decode cX9_item 69 = .ok (.aload_n 0, 1) := by decide +kernel
theorem dX9_item_70 : decode cX9_item 70 = .ok (.getfield 49, 3) := by decide +kernel
theorem dX9_item_73 : decode cX9_item 73 = .ok (.iconst 0, 1) := by decide +kernel
theorem dX9_item_74 : decode cX9_item 74 = .ok (.iaload, 1) := by decide +kernel
theorem dX9_item_75 : decode cX9_item 75 = .ok (.invokestatic 121, 3) := by decide +kernel
theorem dX9_item_78 : decode cX9_item 78 = .ok (.ifCond .eq 39, 3) := by decide +kernel
theorem dX9_item_81 : decode cX9_item 81 = .ok (.aload_n 0, 1) := by decide +kernel
theorem dX9_item_82 : decode cX9_item 82 = .ok (.getfield 49, 3) := by decide +kernel
theorem dX9_item_85 : decode cX9_item 85 = .ok (.iconst 1, 1) := by decide +kernel
theorem dX9_item_86 : decode cX9_item 86 = .ok (.iaload, 1) := by decide +kernel
theorem dX9_item_87 : decode cX9_item 87 = .ok (.invokestatic 121, 3) := by decide +kernel
theorem dX9_item_90 : decode cX9_item 90 = .ok (.ifCond .eq 27, 3) := by decide +kernel
theorem dX9_item_93 : decode cX9_item 93 = .ok (.aload_n 0, 1) := by decide +kernel
theorem dX9_item_94 : decode cX9_item 94 = .ok (.getfield 49, 3) := by decide +kernel
theorem dX9_item_97 : decode cX9_item 97 = .ok (.iconst 2, 1) := by decide +kernel
theorem dX9_item_98 : decode cX9_item 98 = .ok (.iaload, 1) := by decide +kernel
theorem dX9_item_99 : decode cX9_item 99 = .ok (.invokestatic 121, 3) := by decide +kernel
theorem dX9_item_102 : decode cX9_item 102 = .ok (.ifCond .eq 15, 3) := by decide +kernel
theorem dX9_item_105 : decode cX9_item 105 = .ok (.aload_n 0, 1) := by decide +kernel
theorem dX9_item_106 : decode cX9_item 106 = .ok (.getfield 49, 3) := by decide +kernel
theorem dX9_item_109 : decode cX9_item 109 = .ok (.iconst 3, 1) := by decide +kernel
theorem dX9_item_110 : decode cX9_item 110 = .ok (.iaload, 1) := by decide +kernel
theorem dX9_item_111 : decode cX9_item 111 = .ok (.invokestatic 121, 3) := by decide +kernel
theorem dX9_item_114 : decode cX9_item 114 = .ok (.ifCond .ne 5, 3) := by decide +kernel
theorem dX9_item_117 : decode cX9_item 117 = .ok (.iconst 0, 1) := by decide +kernel
theorem dX9_item_118 : decode cX9_item 118 = .ok (.ireturn, 1) := by decide +kernel
theorem dX9_item_119 : decode cX9_item 119 = .ok (.aload_n 0, 1) := by decide +kernel
theorem dX9_item_120 : decode cX9_item 120 = .ok (.getfield 19, 3) := by decide +kernel
theorem dX9_item_123 : decode cX9_item 123 = .ok (.bipush 64, 2) := by decide +kernel
theorem dX9_item_125 : decode cX9_item 125 = .ok (.bipush 8, 2) := by decide +kernel
theorem dX9_item_127 : decode cX9_item 127 = .ok (.aload_n 0, 1) := by decide +kernel
theorem dX9_item_128 : decode cX9_item 128 = .ok (.getfield 49, 3) := by decide +kernel
theorem dX9_item_131 : decode cX9_item 131 = .ok (.iconst 0, 1) := by decide +kernel
theorem dX9_item_132 : decode cX9_item 132 = .ok (.iaload, 1) := by decide +kernel
theorem dX9_item_133 : decode cX9_item 133 = .ok (.imul, 1) := by decide +kernel
theorem dX9_item_134 : decode cX9_item 134 = .ok (.iadd, 1) := by decide +kernel
theorem dX9_item_135 : decode cX9_item 135 = .ok (.aload_n 0, 1) := by decide +kernel
theorem dX9_item_136 : decode cX9_item 136 = .ok (.getfield 49, 3) := by decide +kernel
theorem dX9_item_139 : decode cX9_item 139 = .ok (.iconst 1, 1) := by decide +kernel
theorem dX9_item_140 : decode cX9_item 140 = .ok (.iaload, 1) := by decide +kernel
theorem dX9_item_141 : decode cX9_item 141 = .ok (.iadd, 1) := by decide +kernel
theorem dX9_item_142 : decode cX9_item 142 = .ok (.bipush 8, 2) := by decide +kernel
theorem dX9_item_144 : decode cX9_item 144 = .ok (.aload_n 0, 1) := by decide +kernel
theorem dX9_item_145 : decode cX9_item 145 = .ok (.getfield 49, 3) := by decide +kernel
theorem dX9_item_148 : decode cX9_item 148 = .ok (.iconst 2, 1) := by decide +kernel
theorem dX9_item_149 : decode cX9_item 149 = .ok (.iaload, 1) := by decide +kernel
theorem dX9_item_150 : decode cX9_item 150 = .ok (.imul, 1) := by decide +kernel
theorem dX9_item_151 : decode cX9_item 151 = .ok (.aload_n 0, 1) := by decide +kernel
theorem dX9_item_152 : decode cX9_item 152 = .ok (.getfield 49, 3) := by decide +kernel
theorem dX9_item_155 : decode cX9_item 155 = .ok (.iconst 3, 1) := by decide +kernel
theorem dX9_item_156 : decode cX9_item 156 = .ok (.iaload, 1) := by decide +kernel
theorem dX9_item_157 : decode cX9_item 157 = .ok (.iadd, 1) := by decide +kernel
theorem dX9_item_158 : decode cX9_item 158 = .ok (.iastore, 1) := by decide +kernel
theorem dX9_item_159 : decode cX9_item 159 = .ok (.iconst 1, 1) := by decide +kernel
theorem dX9_item_160 : decode cX9_item 160 = .ok (.ireturn, 1) := by decide +kernel
theorem dX9_item_161 : decode cX9_item 161 = .ok (.aload_n 0, 1) := by decide +kernel
theorem dX9_item_162 : decode cX9_item 162 = .ok (.iconst 2, 1) := by decide +kernel
theorem dX9_item_163 : decode cX9_item 163 = .ok (.invokevirtual 117, 3) := by decide +kernel
theorem dX9_item_166 : decode cX9_item 166 = .ok (.ifCond .eq 20, 3) := by decide +kernel
theorem dX9_item_169 : decode cX9_item 169 = .ok (.aload_n 0, 1) := by decide +kernel
theorem dX9_item_170 : decode cX9_item 170 = .ok (.getfield 49, 3) := by decide +kernel
theorem dX9_item_173 : decode cX9_item 173 = .ok (.iconst 0, 1) := by decide +kernel
theorem dX9_item_174 : decode cX9_item 174 = .ok (.iaload, 1) := by decide +kernel
theorem dX9_item_175 : decode cX9_item 175 = .ok (.i2l, 1) := by decide +kernel
theorem dX9_item_176 : decode cX9_item 176 = .ok (.lconst 0, 1) := by decide +kernel
theorem dX9_item_177 : decode cX9_item 177 = .ok (.ldc2_w 128, 3) := by decide +kernel
theorem dX9_item_180 : decode cX9_item 180 = .ok (.invokestatic 92, 3) := by decide +kernel
theorem dX9_item_183 : decode cX9_item 183 = .ok (.ifCond .ne 5, 3) := by decide +kernel
theorem dX9_item_186 : decode cX9_item 186 = .ok (.iconst 0, 1) := by decide +kernel
theorem dX9_item_187 : decode cX9_item 187 = .ok (.ireturn, 1) := by decide +kernel
theorem dX9_item_188 : decode cX9_item 188 = .ok (.aload_n 0, 1) := by decide +kernel
theorem dX9_item_189 : decode cX9_item 189 = .ok (.getfield 22, 3) := by decide +kernel
theorem dX9_item_192 : decode cX9_item 192 = .ok (.iconst 5, 1) := by decide +kernel
theorem dX9_item_193 : decode cX9_item 193 = .ok (.aload_n 0, 1) := by decide +kernel
theorem dX9_item_194 : decode cX9_item 194 = .ok (.getfield 49, 3) := by decide +kernel
theorem dX9_item_197 : decode cX9_item 197 = .ok (.iconst 0, 1) := by decide +kernel
theorem dX9_item_198 : decode cX9_item 198 = .ok (.iaload, 1) := by decide +kernel
theorem dX9_item_199 : decode cX9_item 199 = .ok (.iadd, 1) := by decide +kernel
theorem dX9_item_200 : decode cX9_item 200 = .ok (.aload_n 0, 1) := by decide +kernel
theorem dX9_item_201 : decode cX9_item 201 = .ok (.getfield 49, 3) := by decide +kernel
theorem dX9_item_204 : decode cX9_item 204 = .ok (.iconst 1, 1) := by decide +kernel
theorem dX9_item_205 : decode cX9_item 205 = .ok (.iaload, 1) := by decide +kernel
theorem dX9_item_206 : decode cX9_item 206 = .ok (.iastore, 1) := by decide +kernel
theorem dX9_item_207 : decode cX9_item 207 = .ok (.iconst 1, 1) := by decide +kernel
theorem dX9_item_208 : decode cX9_item 208 = .ok (.ireturn, 1) := by decide +kernel
theorem dX9_item_209 : decode cX9_item 209 = .ok (.iconst 0, 1) := by decide +kernel
theorem dX9_item_210 : decode cX9_item 210 = .ok (.ireturn, 1) := by decide +kernel
theorem dX9_readAll_0 : decode cX9_readAll 0 = .ok (.aload_n 0, 1) := by decide +kernel
theorem dX9_readAll_1 : decode cX9_readAll 1 = .ok (.iconst 1, 1) := by decide +kernel
theorem dX9_readAll_2 : decode cX9_readAll 2 = .ok (.invokevirtual 86, 3) := by decide +kernel
theorem dX9_readAll_5 : decode cX9_readAll 5 = .ok (.aload_n 0, 1) := by decide +kernel
theorem dX9_readAll_6 : decode cX9_readAll 6 = .ok (.iconst 0, 1) := by decide +kernel
theorem dX9_readAll_7 : decode cX9_readAll 7 = .ok (.putfield 102, 3) := by decide +kernel
theorem dX9_readAll_10 : decode cX9_readAll 10 = .ok (.aload_n 0, 1) := by decide +kernel
theorem dX9_readAll_11 : decode cX9_readAll 11 = .ok (.getfield 102, 3) := by decide +kernel
theorem dX9_readAll_14 : decode cX9_readAll 14 = .ok (.aload_n 0, 1) := by decide +kernel
theorem dX9_readAll_15 : decode cX9_readAll 15 = .ok (.getfield 96, 3) := by decide +kernel
theorem dX9_readAll_18 : decode cX9_readAll 18 = .ok (.if_icmp .ge 20, 3) := by decide +kernel
theorem dX9_readAll_21 : decode cX9_readAll 21 = .ok (.aload_n 0, 1) := by decide +kernel
theorem dX9_readAll_22 : decode cX9_readAll 22 = .ok (.getfield 102, 3) := by decide +kernel
theorem dX9_readAll_25 : decode cX9_readAll 25 = .ok (.istore_n 1, 1) := by decide +kernel
theorem dX9_readAll_26 : decode cX9_readAll 26 = .ok (.aload_n 0, 1) := by decide +kernel
theorem dX9_readAll_27 : decode cX9_readAll 27 = .ok (.invokevirtual 130, 3) := by decide +kernel
theorem dX9_readAll_30 : decode cX9_readAll 30 = .ok (.ifCond .ne 5, 3) := by decide +kernel
theorem dX9_readAll_33 : decode cX9_readAll 33 = .ok (.iload_n 1, 1) := by decide +kernel
theorem dX9_readAll_34 : decode cX9_readAll 34 = .ok (.ireturn, 1) := by decide +kernel
theorem dX9_readAll_35 : decode cX9_readAll 35 = .ok (.goto (-25), 3) := by decide +kernel
theorem dX9_readAll_38 : decode cX9_readAll 38 = .ok (.bipush (-4), 2) := by decide +kernel
theorem dX9_readAll_40 : decode cX9_readAll 40 = .ok (.ireturn, 1) := by decide +kernel
theorem dX9_fault_0 : decode cX9_fault 0 = .ok (.aload_n 0, 1) := by decide +kernel
theorem dX9_fault_1 : decode cX9_fault 1 = .ok (.invokevirtual 133, 3) := by decide +kernel
theorem dX9_fault_4 : decode cX9_fault 4 = .ok (.ireturn, 1) := by decide +kernel
theorem dX9_lay_0 : decode cX9_lay 0 = .ok (.aload_n 0, 1) := by decide +kernel
theorem dX9_lay_1 : decode cX9_lay 1 = .ok (.invokevirtual 133, 3) := by decide +kernel
theorem dX9_lay_4 : decode cX9_lay 4 = .ok (.bipush (-4), 2) := by decide +kernel
theorem dX9_lay_6 : decode cX9_lay 6 = .ok (.if_icmp .eq 6, 3) := by decide +kernel
theorem dX9_lay_9 : decode cX9_lay 9 = .ok (.bipush (-2), 2) := by decide +kernel
theorem dX9_lay_11 : decode cX9_lay 11 = .ok (.ireturn, 1) := by decide +kernel
theorem dX9_lay_12 : decode cX9_lay 12 = .ok (.aload_n 0, 1) := by decide +kernel
theorem dX9_lay_13 : decode cX9_lay 13 = .ok (.getfield 13, 3) := by decide +kernel
theorem dX9_lay_16 : decode cX9_lay 16 = .ok (.iconst 0, 1) := by decide +kernel
theorem dX9_lay_17 : decode cX9_lay 17 = .ok (.aload_n 0, 1) := by decide +kernel
theorem dX9_lay_18 : decode cX9_lay 18 = .ok (.getfield 13, 3) := by decide +kernel
theorem dX9_lay_21 : decode cX9_lay 21 = .ok (.iconst 1, 1) := by decide +kernel
theorem dX9_lay_22 : decode cX9_lay 22 = .ok (.iaload, 1) := by decide +kernel
theorem dX9_lay_23 : decode cX9_lay 23 = .ok (.iastore, 1) := by decide +kernel
theorem dX9_lay_24 : decode cX9_lay 24 = .ok (.iconst 0, 1) := by decide +kernel
theorem dX9_lay_25 : decode cX9_lay 25 = .ok (.istore_n 1, 1) := by decide +kernel
theorem dX9_lay_26 : decode cX9_lay 26 = .ok (.iload_n 1, 1) := by decide +kernel
theorem dX9_lay_27 : decode cX9_lay 27 = .ok (.bipush 48, 2) := by decide +kernel
theorem dX9_lay_29 : decode cX9_lay 29 = .ok (.if_icmp .ge 24, 3) := by decide +kernel
theorem dX9_lay_32 : decode cX9_lay 32 = .ok (.aload_n 0, 1) := by decide +kernel
theorem dX9_lay_33 : decode cX9_lay 33 = .ok (.getfield 16, 3) := by decide +kernel
theorem dX9_lay_36 : decode cX9_lay 36 = .ok (.iload_n 1, 1) := by decide +kernel
theorem dX9_lay_37 : decode cX9_lay 37 = .ok (.aload_n 0, 1) := by decide +kernel
theorem dX9_lay_38 : decode cX9_lay 38 = .ok (.getfield 16, 3) := by decide +kernel
theorem dX9_lay_41 : decode cX9_lay 41 = .ok (.bipush 48, 2) := by decide +kernel
theorem dX9_lay_43 : decode cX9_lay 43 = .ok (.iload_n 1, 1) := by decide +kernel
theorem dX9_lay_44 : decode cX9_lay 44 = .ok (.iadd, 1) := by decide +kernel
theorem dX9_lay_45 : decode cX9_lay 45 = .ok (.iaload, 1) := by decide +kernel
theorem dX9_lay_46 : decode cX9_lay 46 = .ok (.iastore, 1) := by decide +kernel
theorem dX9_lay_47 : decode cX9_lay 47 = .ok (.iinc 1 1, 3) := by decide +kernel
theorem dX9_lay_50 : decode cX9_lay 50 = .ok (.goto (-24), 3) := by decide +kernel
theorem dX9_lay_53 : decode cX9_lay 53 = .ok (.iconst 0, 1) := by decide +kernel
theorem dX9_lay_54 : decode cX9_lay 54 = .ok (.istore_n 1, 1) := by decide +kernel
theorem dX9_lay_55 : decode cX9_lay 55 = .ok (.iload_n 1, 1) := by decide +kernel
theorem dX9_lay_56 : decode cX9_lay 56 = .ok (.bipush 64, 2) := by decide +kernel
theorem dX9_lay_58 : decode cX9_lay 58 = .ok (.if_icmp .ge 24, 3) := by decide +kernel
theorem dX9_lay_61 : decode cX9_lay 61 = .ok (.aload_n 0, 1) := by decide +kernel
theorem dX9_lay_62 : decode cX9_lay 62 = .ok (.getfield 19, 3) := by decide +kernel
theorem dX9_lay_65 : decode cX9_lay 65 = .ok (.iload_n 1, 1) := by decide +kernel
theorem dX9_lay_66 : decode cX9_lay 66 = .ok (.aload_n 0, 1) := by decide +kernel
theorem dX9_lay_67 : decode cX9_lay 67 = .ok (.getfield 19, 3) := by decide +kernel
theorem dX9_lay_70 : decode cX9_lay 70 = .ok (.bipush 64, 2) := by decide +kernel
theorem dX9_lay_72 : decode cX9_lay 72 = .ok (.iload_n 1, 1) := by decide +kernel
theorem dX9_lay_73 : decode cX9_lay 73 = .ok (.iadd, 1) := by decide +kernel
theorem dX9_lay_74 : decode cX9_lay 74 = .ok (.iaload, 1) := by decide +kernel
theorem dX9_lay_75 : decode cX9_lay 75 = .ok (.iastore, 1) := by decide +kernel
theorem dX9_lay_76 : decode cX9_lay 76 = .ok (.iinc 1 1, 3) := by decide +kernel
theorem dX9_lay_79 : decode cX9_lay 79 = .ok (.goto (-24), 3) := by decide +kernel
theorem dX9_lay_82 : decode cX9_lay 82 = .ok (.iconst 0, 1) := by decide +kernel
theorem dX9_lay_83 : decode cX9_lay 83 = .ok (.istore_n 1, 1) := by decide +kernel
theorem dX9_lay_84 : decode cX9_lay 84 = .ok (.iload_n 1, 1) := by decide +kernel
theorem dX9_lay_85 : decode cX9_lay 85 = .ok (.iconst 5, 1) := by decide +kernel
theorem dX9_lay_86 : decode cX9_lay 86 = .ok (.if_icmp .ge 23, 3) := by decide +kernel
theorem dX9_lay_89 : decode cX9_lay 89 = .ok (.aload_n 0, 1) := by decide +kernel
theorem dX9_lay_90 : decode cX9_lay 90 = .ok (.getfield 22, 3) := by decide +kernel
theorem dX9_lay_93 : decode cX9_lay 93 = .ok (.iload_n 1, 1) := by decide +kernel
theorem dX9_lay_94 : decode cX9_lay 94 = .ok (.aload_n 0, 1) := by decide +kernel
theorem dX9_lay_95 : decode cX9_lay 95 = .ok (.getfield 22, 3) := by decide +kernel
theorem dX9_lay_98 : decode cX9_lay 98 = .ok (.iconst 5, 1) := by decide +kernel
theorem dX9_lay_99 : decode cX9_lay 99 = .ok (.iload_n 1, 1) := by decide +kernel
theorem dX9_lay_100 : decode cX9_lay 100 = .ok (.iadd, 1) := by decide +kernel
theorem dX9_lay_101 : decode cX9_lay 101 = .ok (.iaload, 1) := by decide +kernel
theorem dX9_lay_102 : decode cX9_lay 102 = .ok (.iastore, 1) := by decide +kernel
theorem dX9_lay_103 : decode cX9_lay 103 = .ok (.iinc 1 1, 3) := by decide +kernel
theorem dX9_lay_106 : decode cX9_lay 106 = .ok (.goto (-22), 3) := by decide +kernel
theorem dX9_lay_109 : decode cX9_lay 109 = .ok (.iconst 0, 1) := by decide +kernel
theorem dX9_lay_110 : decode cX9_lay 110 = .ok (.istore_n 1, 1) := by decide +kernel
theorem dX9_lay_111 : decode cX9_lay 111 = .ok (.iload_n 1, 1) := by decide +kernel
theorem dX9_lay_112 : decode cX9_lay 112 = .ok (.bipush 6, 2) := by decide +kernel
theorem dX9_lay_114 : decode cX9_lay 114 = .ok (.if_icmp .ge 16, 3) := by decide +kernel
theorem dX9_lay_117 : decode cX9_lay 117 = .ok (.aload_n 0, 1) := by decide +kernel
theorem dX9_lay_118 : decode cX9_lay 118 = .ok (.getfield 25, 3) := by decide +kernel
theorem dX9_lay_121 : decode cX9_lay 121 = .ok (.iload_n 1, 1) := by decide +kernel
theorem dX9_lay_122 : decode cX9_lay 122 = .ok (.iconst 0, 1) := by decide +kernel
theorem dX9_lay_123 : decode cX9_lay 123 = .ok (.iastore, 1) := by decide +kernel
theorem dX9_lay_124 : decode cX9_lay 124 = .ok (.iinc 1 1, 3) := by decide +kernel
theorem dX9_lay_127 : decode cX9_lay 127 = .ok (.goto (-16), 3) := by decide +kernel
theorem dX9_lay_130 : decode cX9_lay 130 = .ok (.aload_n 0, 1) := by decide +kernel
theorem dX9_lay_131 : decode cX9_lay 131 = .ok (.getfield 31, 3) := by decide +kernel
theorem dX9_lay_134 : decode cX9_lay 134 = .ok (.iconst 0, 1) := by decide +kernel
theorem dX9_lay_135 : decode cX9_lay 135 = .ok (.iconst 0, 1) := by decide +kernel
theorem dX9_lay_136 : decode cX9_lay 136 = .ok (.iastore, 1) := by decide +kernel
theorem dX9_lay_137 : decode cX9_lay 137 = .ok (.aload_n 0, 1) := by decide +kernel
theorem dX9_lay_138 : decode cX9_lay 138 = .ok (.iconst 0, 1) := by decide +kernel
theorem dX9_lay_139 : decode cX9_lay 139 = .ok (.putfield 137, 3) := by decide +kernel
theorem dX9_lay_142 : decode cX9_lay 142 = .ok (.aload_n 0, 1) := by decide +kernel
theorem dX9_lay_143 : decode cX9_lay 143 = .ok (.iconst 0, 1) := by decide +kernel
theorem dX9_lay_144 : decode cX9_lay 144 = .ok (.putfield 140, 3) := by decide +kernel
theorem dX9_lay_147 : decode cX9_lay 147 = .ok (.aload_n 0, 1) := by decide +kernel
theorem dX9_lay_148 : decode cX9_lay 148 = .ok (.iconst 0, 1) := by decide +kernel
theorem dX9_lay_149 : decode cX9_lay 149 = .ok (.putfield 143, 3) := by decide +kernel
theorem dX9_lay_152 : decode cX9_lay 152 = .ok (.aload_n 0, 1) := by decide +kernel
theorem dX9_lay_153 : decode cX9_lay 153 = .ok (.getfield 13, 3) := by decide +kernel
theorem dX9_lay_156 : decode cX9_lay 156 = .ok (.iconst 0, 1) := by decide +kernel
theorem dX9_lay_157 : decode cX9_lay 157 = .ok (.iaload, 1) := by decide +kernel
theorem dX9_lay_158 : decode cX9_lay 158 = .ok (.ireturn, 1) := by decide +kernel
theorem dX9_joined_0 : decode cX9_joined 0 = .ok (.iload_n 1, 1) := by decide +kernel
theorem dX9_joined_1 : decode cX9_joined 1 = .ok (.invokestatic 121, 3) := by decide +kernel
theorem dX9_joined_4 : decode cX9_joined 4 = .ok (.ifCond .eq 24, 3) := by decide +kernel
theorem dX9_joined_7 : decode cX9_joined 7 = .ok (.iload_n 2, 1) := by decide +kernel
theorem dX9_joined_8 : decode cX9_joined 8 = .ok (.invokestatic 121, 3) := by decide +kernel
theorem dX9_joined_11 : decode cX9_joined 11 = .ok (.ifCond .eq 17, 3) := by decide +kernel
theorem dX9_joined_14 : decode cX9_joined 14 = .ok (.aload_n 0, 1) := by decide +kernel
theorem dX9_joined_15 : decode cX9_joined 15 = .ok (.getfield 19, 3) := by decide +kernel
theorem dX9_joined_18 : decode cX9_joined 18 = .ok (.bipush 8, 2) := by decide +kernel
theorem dX9_joined_20 : decode cX9_joined 20 = .ok (.iload_n 1, 1) := by decide +kernel
theorem dX9_joined_21 : decode cX9_joined 21 = .ok (.imul, 1) := by decide +kernel
theorem dX9_joined_22 : decode cX9_joined 22 = .ok (.iload_n 2, 1) := by decide +kernel
theorem dX9_joined_23 : decode cX9_joined 23 = .ok (.iadd, 1) := by decide +kernel
theorem dX9_joined_24 : decode cX9_joined 24 = .ok (.iaload, 1) := by decide +kernel
theorem dX9_joined_25 : decode cX9_joined 25 = .ok (.goto 4, 3) := by decide +kernel
theorem dX9_joined_28 : decode cX9_joined 28 = .ok (.iconst (-1), 1) := by decide +kernel
theorem dX9_joined_29 : decode cX9_joined 29 = .ok (.ireturn, 1) := by decide +kernel
theorem dX9_isVerse_0 : decode cX9_isVerse 0 = .ok (.iload_n 0, 1) := by decide +kernel
theorem dX9_isVerse_1 : decode cX9_isVerse 1 = .ok (.i2l, 1) := by decide +kernel
theorem dX9_isVerse_2 : decode cX9_isVerse 2 = .ok (.lconst 0, 1) := by decide +kernel
theorem dX9_isVerse_3 : decode cX9_isVerse 3 = .ok (.ldc2_w 146, 3) := by decide +kernel
theorem dX9_isVerse_6 : decode cX9_isVerse 6 = .ok (.invokestatic 92, 3) := by decide +kernel
theorem dX9_isVerse_9 : decode cX9_isVerse 9 = .ok (.ireturn, 1) := by decide +kernel
theorem dX9_isWord_0 : decode cX9_isWord 0 = .ok (.iload_n 1, 1) := by decide +kernel
theorem dX9_isWord_1 : decode cX9_isWord 1 = .ok (.i2l, 1) := by decide +kernel
theorem dX9_isWord_2 : decode cX9_isWord 2 = .ok (.lconst 0, 1) := by decide +kernel
theorem dX9_isWord_3 : decode cX9_isWord 3 = .ok (.aload_n 0, 1) := by decide +kernel
theorem dX9_isWord_4 : decode cX9_isWord 4 = .ok (.getfield 13, 3) := by decide +kernel
theorem dX9_isWord_7 : decode cX9_isWord 7 = .ok (.iconst 0, 1) := by decide +kernel
theorem dX9_isWord_8 : decode cX9_isWord 8 = .ok (.iaload, 1) := by decide +kernel
theorem dX9_isWord_9 : decode cX9_isWord 9 = .ok (.iconst 1, 1) := by decide +kernel
theorem dX9_isWord_10 : decode cX9_isWord 10 = .ok (.isub, 1) := by decide +kernel
theorem dX9_isWord_11 : decode cX9_isWord 11 = .ok (.i2l, 1) := by decide +kernel
theorem dX9_isWord_12 : decode cX9_isWord 12 = .ok (.invokestatic 92, 3) := by decide +kernel
theorem dX9_isWord_15 : decode cX9_isWord 15 = .ok (.ireturn, 1) := by decide +kernel
theorem dX9_isWay_0 : decode cX9_isWay 0 = .ok (.iload_n 0, 1) := by decide +kernel
theorem dX9_isWay_1 : decode cX9_isWay 1 = .ok (.i2l, 1) := by decide +kernel
theorem dX9_isWay_2 : decode cX9_isWay 2 = .ok (.lconst 0, 1) := by decide +kernel
theorem dX9_isWay_3 : decode cX9_isWay 3 = .ok (.ldc2_w 128, 3) := by decide +kernel
theorem dX9_isWay_6 : decode cX9_isWay 6 = .ok (.invokestatic 92, 3) := by decide +kernel
theorem dX9_isWay_9 : decode cX9_isWay 9 = .ok (.ireturn, 1) := by decide +kernel
theorem dX9_isPlace_0 : decode cX9_isPlace 0 = .ok (.iload_n 0, 1) := by decide +kernel
theorem dX9_isPlace_1 : decode cX9_isPlace 1 = .ok (.i2l, 1) := by decide +kernel
theorem dX9_isPlace_2 : decode cX9_isPlace 2 = .ok (.lconst 0, 1) := by decide +kernel
theorem dX9_isPlace_3 : decode cX9_isPlace 3 = .ok (.ldc2_w 115, 3) := by decide +kernel
theorem dX9_isPlace_6 : decode cX9_isPlace 6 = .ok (.invokestatic 92, 3) := by decide +kernel
theorem dX9_isPlace_9 : decode cX9_isPlace 9 = .ok (.ireturn, 1) := by decide +kernel
theorem dX9_add_0 : decode cX9_add 0 = .ok (.iload_n 1, 1) := by decide +kernel
theorem dX9_add_1 : decode cX9_add 1 = .ok (.invokestatic 148, 3) := by decide +kernel
theorem dX9_add_4 : decode cX9_add 4 = .ok (.ifCond .eq 11, 3) := by decide +kernel
theorem dX9_add_7 : decode cX9_add 7 = .ok (.aload_n 0, 1) := by decide +kernel
theorem dX9_add_8 : decode cX9_add 8 = .ok (.iload_n 2, 1) := by decide +kernel
theorem dX9_add_9 : decode cX9_add 9 = .ok (.invokevirtual 151, 3) := by decide +kernel
theorem dX9_add_12 : decode cX9_add 12 = .ok (.ifCond .ne 5, 3) := by decide +kernel
theorem dX9_add_15 : decode cX9_add 15 = .ok (.iconst (-1), 1) := by decide +kernel
theorem dX9_add_16 : decode cX9_add 16 = .ok (.ireturn, 1) := by decide +kernel
theorem dX9_add_17 : decode cX9_add 17 = .ok (.aload_n 0, 1) := by decide +kernel
theorem dX9_add_18 : decode cX9_add 18 = .ok (.getfield 25, 3) := by decide +kernel
theorem dX9_add_21 : decode cX9_add 21 = .ok (.iload_n 1, 1) := by decide +kernel
theorem dX9_add_22 : decode cX9_add 22 = .ok (.iaload, 1) := by decide +kernel
theorem dX9_add_23 : decode cX9_add 23 = .ok (.bipush 8, 2) := by decide +kernel
theorem dX9_add_25 : decode cX9_add 25 = .ok (.if_icmp .ne 6, 3) := by decide +kernel
theorem dX9_add_28 : decode cX9_add 28 = .ok (.bipush (-3), 2) := by decide +kernel
theorem dX9_add_30 : decode cX9_add 30 = .ok (.ireturn, 1) := by decide +kernel
theorem dX9_add_31 : decode cX9_add 31 = .ok (.aload_n 0, 1) := by decide +kernel
theorem dX9_add_32 : decode cX9_add 32 = .ok (.getfield 28, 3) := by decide +kernel
theorem dX9_add_35 : decode cX9_add 35 = .ok (.bipush 8, 2) := by decide +kernel
theorem dX9_add_37 : decode cX9_add 37 = .ok (.iload_n 1, 1) := by decide +kernel
theorem dX9_add_38 : decode cX9_add 38 = .ok (.imul, 1) := by decide +kernel
theorem dX9_add_39 : decode cX9_add 39 = .ok (.aload_n 0, 1) := by decide +kernel
theorem dX9_add_40 : decode cX9_add 40 = .ok (.getfield 25, 3) := by decide +kernel
theorem dX9_add_43 : decode cX9_add 43 = .ok (.iload_n 1, 1) := by decide +kernel
theorem dX9_add_44 : decode cX9_add 44 = .ok (.iaload, 1) := by decide +kernel
theorem dX9_add_45 : decode cX9_add 45 = .ok (.iadd, 1) := by decide +kernel
theorem dX9_add_46 : decode cX9_add 46 = .ok (.iload_n 2, 1) := by decide +kernel
theorem dX9_add_47 : decode cX9_add 47 = .ok (.iastore, 1) := by decide +kernel
theorem dX9_add_48 : decode cX9_add 48 = .ok (.aload_n 0, 1) := by decide +kernel
theorem dX9_add_49 : decode cX9_add 49 = .ok (.getfield 25, 3) := by decide +kernel
theorem dX9_add_52 : decode cX9_add 52 = .ok (.iload_n 1, 1) := by decide +kernel
theorem dX9_add_53 : decode cX9_add 53 = .ok (.dup2, 1) := by decide +kernel
theorem dX9_add_54 : decode cX9_add 54 = .ok (.iaload, 1) := by decide +kernel
theorem dX9_add_55 : decode cX9_add 55 = .ok (.iconst 1, 1) := by decide +kernel
theorem dX9_add_56 : decode cX9_add 56 = .ok (.iadd, 1) := by decide +kernel
theorem dX9_add_57 : decode cX9_add 57 = .ok (.iastore, 1) := by decide +kernel
theorem dX9_add_58 : decode cX9_add 58 = .ok (.aload_n 0, 1) := by decide +kernel
theorem dX9_add_59 : decode cX9_add 59 = .ok (.getfield 25, 3) := by decide +kernel
theorem dX9_add_62 : decode cX9_add 62 = .ok (.iload_n 1, 1) := by decide +kernel
theorem dX9_add_63 : decode cX9_add 63 = .ok (.iaload, 1) := by decide +kernel
theorem dX9_add_64 : decode cX9_add 64 = .ok (.ireturn, 1) := by decide +kernel
theorem dX9_clear_0 : decode cX9_clear 0 = .ok (.iload_n 1, 1) := by decide +kernel
theorem dX9_clear_1 : decode cX9_clear 1 = .ok (.invokestatic 148, 3) := by decide +kernel
theorem dX9_clear_4 : decode cX9_clear 4 = .ok (.ifCond .ne 5, 3) := by decide +kernel
theorem dX9_clear_7 : decode cX9_clear 7 = .ok (.iconst (-1), 1) := by decide +kernel
theorem dX9_clear_8 : decode cX9_clear 8 = .ok (.ireturn, 1) := by decide +kernel
theorem dX9_clear_9 : decode cX9_clear 9 = .ok (.aload_n 0, 1) := by decide +kernel
theorem dX9_clear_10 : decode cX9_clear 10 = .ok (.getfield 25, 3) := by decide +kernel
theorem dX9_clear_13 : decode cX9_clear 13 = .ok (.iload_n 1, 1) := by decide +kernel
theorem dX9_clear_14 : decode cX9_clear 14 = .ok (.iaload, 1) := by decide +kernel
theorem dX9_clear_15 : decode cX9_clear 15 = .ok (.istore_n 2, 1) := by decide +kernel
theorem dX9_clear_16 : decode cX9_clear 16 = .ok (.aload_n 0, 1) := by decide +kernel
theorem dX9_clear_17 : decode cX9_clear 17 = .ok (.getfield 25, 3) := by decide +kernel
theorem dX9_clear_20 : decode cX9_clear 20 = .ok (.iload_n 1, 1) := by decide +kernel
theorem dX9_clear_21 : decode cX9_clear 21 = .ok (.iconst 0, 1) := by decide +kernel
theorem dX9_clear_22 : decode cX9_clear 22 = .ok (.iastore, 1) := by decide +kernel
theorem dX9_clear_23 : decode cX9_clear 23 = .ok (.iload_n 2, 1) := by decide +kernel
theorem dX9_clear_24 : decode cX9_clear 24 = .ok (.ireturn, 1) := by decide +kernel
theorem dX9_word_0 : decode cX9_word 0 = .ok (.iload_n 1, 1) := by decide +kernel
theorem dX9_word_1 : decode cX9_word 1 = .ok (.invokestatic 148, 3) := by decide +kernel
theorem dX9_word_4 : decode cX9_word 4 = .ok (.ifCond .eq 10, 3) := by decide +kernel
theorem dX9_word_7 : decode cX9_word 7 = .ok (.iload_n 2, 1) := by decide +kernel
theorem dX9_word_8 : decode cX9_word 8 = .ok (.invokestatic 154, 3) := by decide +kernel
theorem dX9_word_11 : decode cX9_word 11 = .ok (.ifCond .ne 5, 3) := by decide +kernel
theorem dX9_word_14 : decode cX9_word 14 = .ok (.iconst (-1), 1) := by decide +kernel
theorem dX9_word_15 : decode cX9_word 15 = .ok (.ireturn, 1) := by decide +kernel
theorem dX9_word_16 : decode cX9_word 16 = .ok (.iload_n 2, 1) := by decide +kernel
theorem dX9_word_17 : decode cX9_word 17 = .ok (.aload_n 0, 1) := by decide +kernel
theorem dX9_word_18 : decode cX9_word 18 = .ok (.getfield 25, 3) := by decide +kernel
theorem dX9_word_21 : decode cX9_word 21 = .ok (.iload_n 1, 1) := by decide +kernel
theorem dX9_word_22 : decode cX9_word 22 = .ok (.iaload, 1) := by decide +kernel
theorem dX9_word_23 : decode cX9_word 23 = .ok (.if_icmp .ge 17, 3) := by decide +kernel
theorem dX9_word_26 : decode cX9_word 26 = .ok (.aload_n 0, 1) := by decide +kernel
theorem dX9_word_27 : decode cX9_word 27 = .ok (.getfield 28, 3) := by decide +kernel
theorem dX9_word_30 : decode cX9_word 30 = .ok (.bipush 8, 2) := by decide +kernel
theorem dX9_word_32 : decode cX9_word 32 = .ok (.iload_n 1, 1) := by decide +kernel
theorem dX9_word_33 : decode cX9_word 33 = .ok (.imul, 1) := by decide +kernel
theorem dX9_word_34 : decode cX9_word 34 = .ok (.iload_n 2, 1) := by decide +kernel
theorem dX9_word_35 : decode cX9_word 35 = .ok (.iadd, 1) := by decide +kernel
theorem dX9_word_36 : decode cX9_word 36 = .ok (.iaload, 1) := by decide +kernel
theorem dX9_word_37 : decode cX9_word 37 = .ok (.goto 5, 3) := by decide +kernel
theorem dX9_word_40 : decode cX9_word 40 = .ok (.bipush (-4), 2) := by decide +kernel
theorem dX9_word_42 : decode cX9_word 42 = .ok (.ireturn, 1) := by decide +kernel
theorem dX9_sayPlace_0 : decode cX9_sayPlace 0 = .ok (.aload_n 0, 1) := by decide +kernel
theorem dX9_sayPlace_1 : decode cX9_sayPlace 1 = .ok (.getfield 52, 3) := by decide +kernel
theorem dX9_sayPlace_4 : decode cX9_sayPlace 4 = .ok (.aload_n 0, 1) := by decide +kernel
theorem dX9_sayPlace_5 : decode cX9_sayPlace 5 = .ok (.getfield 157, 3) := by decide +kernel
theorem dX9_sayPlace_8 : decode cX9_sayPlace 8 = .ok (.aload_n 0, 1) := by decide +kernel
theorem dX9_sayPlace_9 : decode cX9_sayPlace 9 = .ok (.getfield 160, 3) := by decide +kernel
theorem dX9_sayPlace_12 : decode cX9_sayPlace 12 = .ok (.ifCond .eq 8, 3) := by decide +kernel
theorem dX9_sayPlace_15 : decode cX9_sayPlace 15 = .ok (.bipush (-4), 2) := by decide +kernel
theorem dX9_sayPlace_17 : decode cX9_sayPlace 17 = .ok (.goto 14, 3) := by decide +kernel
theorem dX9_sayPlace_20 : decode cX9_sayPlace 20 = .ok (.aload_n 0, 1) := by decide +kernel
theorem dX9_sayPlace_21 : decode cX9_sayPlace 21 = .ok (.getfield 55, 3) := by decide +kernel
theorem dX9_sayPlace_24 : decode cX9_sayPlace 24 = .ok (.aload_n 0, 1) := by decide +kernel
theorem dX9_sayPlace_25 : decode cX9_sayPlace 25 = .ok (.getfield 157, 3) := by decide +kernel
theorem dX9_sayPlace_28 : decode cX9_sayPlace 28 = .ok (.iconst 1, 1) := by decide +kernel
theorem dX9_sayPlace_29 : decode cX9_sayPlace 29 = .ok (.isub, 1) := by decide +kernel
theorem dX9_sayPlace_30 : decode cX9_sayPlace 30 = .ok (.iaload, 1) := by decide +kernel
theorem dX9_sayPlace_31 : decode cX9_sayPlace 31 = .ok (.iastore, 1) := by decide +kernel
theorem dX9_sayPlace_32 : decode cX9_sayPlace 32 = .ok (.aload_n 0, 1) := by decide +kernel
theorem dX9_sayPlace_33 : decode cX9_sayPlace 33 = .ok (.getfield 55, 3) := by decide +kernel
theorem dX9_sayPlace_36 : decode cX9_sayPlace 36 = .ok (.aload_n 0, 1) := by decide +kernel
theorem dX9_sayPlace_37 : decode cX9_sayPlace 37 = .ok (.getfield 157, 3) := by decide +kernel
theorem dX9_sayPlace_40 : decode cX9_sayPlace 40 = .ok (.iload_n 1, 1) := by decide +kernel
theorem dX9_sayPlace_41 : decode cX9_sayPlace 41 = .ok (.iastore, 1) := by decide +kernel
theorem dX9_sayPlace_42 : decode cX9_sayPlace 42 = .ok (.aload_n 0, 1) := by decide +kernel
theorem dX9_sayPlace_43 : decode cX9_sayPlace 43 = .ok (.getfield 58, 3) := by decide +kernel
theorem dX9_sayPlace_46 : decode cX9_sayPlace 46 = .ok (.aload_n 0, 1) := by decide +kernel
theorem dX9_sayPlace_47 : decode cX9_sayPlace 47 = .ok (.getfield 157, 3) := by decide +kernel
theorem dX9_sayPlace_50 : decode cX9_sayPlace 50 = .ok (.bipush (-4), 2) := by decide +kernel
theorem dX9_sayPlace_52 : decode cX9_sayPlace 52 = .ok (.iastore, 1) := by decide +kernel
theorem dX9_sayPlace_53 : decode cX9_sayPlace 53 = .ok (.aload_n 0, 1) := by decide +kernel
theorem dX9_sayPlace_54 : decode cX9_sayPlace 54 = .ok (.getfield 160, 3) := by decide +kernel
theorem dX9_sayPlace_57 : decode cX9_sayPlace 57 = .ok (.ifCond .ne 15, 3) := by decide +kernel
theorem dX9_sayPlace_60 : decode cX9_sayPlace 60 = .ok (.aload_n 0, 1) := by decide +kernel
theorem dX9_sayPlace_61 : decode cX9_sayPlace 61 = .ok (.getfield 58, 3) := by decide +kernel
theorem dX9_sayPlace_64 : decode cX9_sayPlace 64 = .ok (.aload_n 0, 1) := by decide +kernel
theorem dX9_sayPlace_65 : decode cX9_sayPlace 65 = .ok (.getfield 157, 3) := by decide +kernel
theorem dX9_sayPlace_68 : decode cX9_sayPlace 68 = .ok (.iconst 1, 1) := by decide +kernel
theorem dX9_sayPlace_69 : decode cX9_sayPlace 69 = .ok (.isub, 1) := by decide +kernel
theorem dX9_sayPlace_70 : decode cX9_sayPlace 70 = .ok (.iload_n 1, 1) := by decide +kernel
theorem dX9_sayPlace_71 : decode cX9_sayPlace 71 = .ok (.iastore, 1) := by decide +kernel
theorem dX9_sayPlace_72 : decode cX9_sayPlace 72 = .ok (.aload_n 0, 1) := by decide +kernel
theorem dX9_sayPlace_73 : decode cX9_sayPlace 73 = .ok (.iconst 0, 1) := by decide +kernel
theorem dX9_sayPlace_74 : decode cX9_sayPlace 74 = .ok (.putfield 160, 3) := by decide +kernel
theorem dX9_sayPlace_77 : decode cX9_sayPlace 77 = .ok (.aload_n 0, 1) := by decide +kernel
theorem dX9_sayPlace_78 : decode cX9_sayPlace 78 = .ok (.dup, 1) := by decide +kernel
theorem dX9_sayPlace_79 : decode cX9_sayPlace 79 = .ok (.getfield 157, 3) := by decide +kernel
theorem dX9_sayPlace_82 : decode cX9_sayPlace 82 = .ok (.iconst 1, 1) := by decide +kernel
theorem dX9_sayPlace_83 : decode cX9_sayPlace 83 = .ok (.iadd, 1) := by decide +kernel
theorem dX9_sayPlace_84 : decode cX9_sayPlace 84 = .ok (.putfield 157, 3) := by decide +kernel
theorem dX9_sayPlace_87 : decode cX9_sayPlace 87 = .ok (.return_, 1) := by decide +kernel
theorem dX9_sayPair_0 : decode cX9_sayPair 0 = .ok (.aload_n 0, 1) := by decide +kernel
theorem dX9_sayPair_1 : decode cX9_sayPair 1 = .ok (.iload_n 1, 1) := by decide +kernel
theorem dX9_sayPair_2 : decode cX9_sayPair 2 = .ok (.invokevirtual 164, 3) := by decide +kernel
theorem dX9_sayPair_5 : decode cX9_sayPair 5 = .ok (.aload_n 0, 1) := by decide +kernel
theorem dX9_sayPair_6 : decode cX9_sayPair 6 = .ok (.iload_n 1, 1) := by decide +kernel
theorem dX9_sayPair_7 : decode cX9_sayPair 7 = .ok (.iconst 1, 1) := by decide +kernel
theorem dX9_sayPair_8 : decode cX9_sayPair 8 = .ok (.iadd, 1) := by decide +kernel
theorem dX9_sayPair_9 : decode cX9_sayPair 9 = .ok (.invokevirtual 164, 3) := by decide +kernel
theorem dX9_sayPair_12 : decode cX9_sayPair 12 = .ok (.return_, 1) := by decide +kernel
theorem dX9_sayBack_0 : decode cX9_sayBack 0 = .ok (.aload_n 0, 1) := by decide +kernel
theorem dX9_sayBack_1 : decode cX9_sayBack 1 = .ok (.iload_n 1, 1) := by decide +kernel
theorem dX9_sayBack_2 : decode cX9_sayBack 2 = .ok (.iconst 1, 1) := by decide +kernel
theorem dX9_sayBack_3 : decode cX9_sayBack 3 = .ok (.iadd, 1) := by decide +kernel
theorem dX9_sayBack_4 : decode cX9_sayBack 4 = .ok (.invokevirtual 164, 3) := by decide +kernel
theorem dX9_sayBack_7 : decode cX9_sayBack 7 = .ok (.aload_n 0, 1) := by decide +kernel
theorem dX9_sayBack_8 : decode cX9_sayBack 8 = .ok (.iload_n 1, 1) := by decide +kernel
theorem dX9_sayBack_9 : decode cX9_sayBack 9 = .ok (.invokevirtual 164, 3) := by decide +kernel
theorem dX9_sayBack_12 : decode cX9_sayBack 12 = .ok (.return_, 1) := by decide +kernel
theorem dX9_braid_0 : decode cX9_braid 0 = .ok (.aload_n 0, 1) := by decide +kernel
theorem dX9_braid_1 : decode cX9_braid 1 = .ok (.iload_n 1, 1) := by decide +kernel
theorem dX9_braid_2 : decode cX9_braid 2 = .ok (.invokevirtual 167, 3) := by decide +kernel
theorem dX9_braid_5 : decode cX9_braid 5 = .ok (.aload_n 0, 1) := by decide +kernel
theorem dX9_braid_6 : decode cX9_braid 6 = .ok (.iload_n 1, 1) := by decide +kernel
theorem dX9_braid_7 : decode cX9_braid 7 = .ok (.invokevirtual 170, 3) := by decide +kernel
theorem dX9_braid_10 : decode cX9_braid 10 = .ok (.aload_n 0, 1) := by decide +kernel
theorem dX9_braid_11 : decode cX9_braid 11 = .ok (.iload_n 1, 1) := by decide +kernel
theorem dX9_braid_12 : decode cX9_braid 12 = .ok (.invokevirtual 167, 3) := by decide +kernel
theorem dX9_braid_15 : decode cX9_braid 15 = .ok (.return_, 1) := by decide +kernel
theorem dX9_layWay_0 : decode cX9_layWay 0 = .ok (.iconst 0, 1) := by decide +kernel
theorem dX9_layWay_1 : decode cX9_layWay 1 = .ok (.istore_n 3, 1) := by decide +kernel
theorem dX9_layWay_2 : decode cX9_layWay 2 = .ok (.iload_n 3, 1) := by decide +kernel
theorem dX9_layWay_3 : decode cX9_layWay 3 = .ok (.iload_n 2, 1) := by decide +kernel
theorem dX9_layWay_4 : decode cX9_layWay 4 = .ok (.if_icmp .ge 164, 3) := by decide +kernel
theorem dX9_layWay_7 : decode cX9_layWay 7 = .ok (.iload_n 3, 1) := by decide +kernel
theorem dX9_layWay_8 : decode cX9_layWay 8 = .ok (.iload_n 2, 1) := by decide +kernel
theorem dX9_layWay_9 : decode cX9_layWay 9 = .ok (.iconst 1, 1) := by decide +kernel
theorem dX9_layWay_10 : decode cX9_layWay 10 = .ok (.isub, 1) := by decide +kernel
theorem dX9_layWay_11 : decode cX9_layWay 11 = .ok (.if_icmp .ne 7, 3) := by decide +kernel
theorem dX9_layWay_14 : decode cX9_layWay 14 = .ok (.iconst 1, 1) := by decide +kernel
theorem dX9_layWay_15 : decode cX9_layWay 15 = .ok (.goto 4, 3) := by decide +kernel
theorem dX9_layWay_18 : decode cX9_layWay 18 = .ok (.iconst 0, 1) := by decide +kernel
theorem dX9_layWay_19 : decode cX9_layWay 19 = .ok (.istore 4, 2) := by decide +kernel
theorem dX9_layWay_21 : decode cX9_layWay 21 = .ok (.aload_n 0, 1) := by decide +kernel
theorem dX9_layWay_22 : decode cX9_layWay 22 = .ok (.iload_n 1, 1) := by decide +kernel
theorem dX9_layWay_23 : decode cX9_layWay 23 = .ok (.ifCond .ne 7, 3) := by decide +kernel
theorem dX9_layWay_26 : decode cX9_layWay 26 = .ok (.iload_n 3, 1) := by decide +kernel
theorem dX9_layWay_27 : decode cX9_layWay 27 = .ok (.ifCond .ne 7, 3) := by decide +kernel
theorem dX9_layWay_30 : decode cX9_layWay 30 = .ok (.iconst 1, 1) := by decide +kernel
theorem dX9_layWay_31 : decode cX9_layWay 31 = .ok (.goto 4, 3) := by decide +kernel
theorem dX9_layWay_34 : decode cX9_layWay 34 = .ok (.iconst 0, 1) := by decide +kernel
theorem dX9_layWay_35 : decode cX9_layWay 35 = .ok (.putfield 160, 3) := by decide +kernel
theorem dX9_layWay_38 : decode cX9_layWay 38 = .ok (.iload_n 1, 1) := by decide +kernel
theorem dX9_layWay_39 : decode cX9_layWay 39 = .ok (.iconst 2, 1) := by decide +kernel
theorem dX9_layWay_40 : decode cX9_layWay 40 = .ok (.if_icmp .lt 8, 3) := by decide +kernel
theorem dX9_layWay_43 : decode cX9_layWay 43 = .ok (.iload_n 2, 1) := by decide +kernel
theorem dX9_layWay_44 : decode cX9_layWay 44 = .ok (.iconst 1, 1) := by decide +kernel
theorem dX9_layWay_45 : decode cX9_layWay 45 = .ok (.if_icmp .ne 11, 3) := by decide +kernel
theorem dX9_layWay_48 : decode cX9_layWay 48 = .ok (.aload_n 0, 1) := by decide +kernel
theorem dX9_layWay_49 : decode cX9_layWay 49 = .ok (.iload_n 3, 1) := by decide +kernel
theorem dX9_layWay_50 : decode cX9_layWay 50 = .ok (.invokevirtual 164, 3) := by decide +kernel
theorem dX9_layWay_53 : decode cX9_layWay 53 = .ok (.goto 109, 3) := by decide +kernel
theorem dX9_layWay_56 : decode cX9_layWay 56 = .ok (.iload_n 1, 1) := by decide +kernel
theorem dX9_layWay_57 : decode cX9_layWay 57 = .ok (.iconst 2, 1) := by decide +kernel
theorem dX9_layWay_58 : decode cX9_layWay 58 = .ok (.if_icmp .ne 16, 3) := by decide +kernel
theorem dX9_layWay_61 : decode cX9_layWay 61 = .ok (.iload 4, 2) := by decide +kernel
theorem dX9_layWay_63 : decode cX9_layWay 63 = .ok (.ifCond .ne 11, 3) := by decide +kernel
theorem dX9_layWay_66 : decode cX9_layWay 66 = .ok (.aload_n 0, 1) := by decide +kernel
theorem dX9_layWay_67 : decode cX9_layWay 67 = .ok (.iload_n 3, 1) := by decide +kernel
theorem dX9_layWay_68 : decode cX9_layWay 68 = .ok (.invokevirtual 167, 3) := by decide +kernel
theorem dX9_layWay_71 : decode cX9_layWay 71 = .ok (.goto 91, 3) := by decide +kernel
theorem dX9_layWay_74 : decode cX9_layWay 74 = .ok (.iload_n 1, 1) := by decide +kernel
theorem dX9_layWay_75 : decode cX9_layWay 75 = .ok (.iconst 3, 1) := by decide +kernel
theorem dX9_layWay_76 : decode cX9_layWay 76 = .ok (.if_icmp .ne 8, 3) := by decide +kernel
theorem dX9_layWay_79 : decode cX9_layWay 79 = .ok (.iload 4, 2) := by decide +kernel
theorem dX9_layWay_81 : decode cX9_layWay 81 = .ok (.ifCond .eq 15, 3) := by decide +kernel
theorem dX9_layWay_84 : decode cX9_layWay 84 = .ok (.iload_n 1, 1) := by decide +kernel
theorem dX9_layWay_85 : decode cX9_layWay 85 = .ok (.iconst 4, 1) := by decide +kernel
theorem dX9_layWay_86 : decode cX9_layWay 86 = .ok (.if_icmp .ne 18, 3) := by decide +kernel
theorem dX9_layWay_89 : decode cX9_layWay 89 = .ok (.iload_n 3, 1) := by decide +kernel
theorem dX9_layWay_90 : decode cX9_layWay 90 = .ok (.iload_n 2, 1) := by decide +kernel
theorem dX9_layWay_91 : decode cX9_layWay 91 = .ok (.iconst 2, 1) := by decide +kernel
theorem dX9_layWay_92 : decode cX9_layWay 92 = .ok (.isub, 1) := by decide +kernel
theorem dX9_layWay_93 : decode cX9_layWay 93 = .ok (.if_icmp .ne 11, 3) := by decide +kernel
theorem dX9_layWay_96 : decode cX9_layWay 96 = .ok (.aload_n 0, 1) := by decide +kernel
theorem dX9_layWay_97 : decode cX9_layWay 97 = .ok (.iload_n 3, 1) := by decide +kernel
theorem dX9_layWay_98 : decode cX9_layWay 98 = .ok (.invokevirtual 173, 3) := by decide +kernel
theorem dX9_layWay_101 : decode cX9_layWay 101 = .ok (.goto 61, 3) := by decide +kernel
theorem dX9_layWay_104 : decode cX9_layWay 104 = .ok (.iload_n 1, 1) := by decide +kernel
theorem dX9_layWay_105 : decode cX9_layWay 105 = .ok (.iconst 4, 1) := by decide +kernel
theorem dX9_layWay_106 : decode cX9_layWay 106 = .ok (.if_icmp .ne 56, 3) := by decide +kernel
theorem dX9_layWay_109 : decode cX9_layWay 109 = .ok (.iload_n 3, 1) := by decide +kernel
theorem dX9_layWay_110 : decode cX9_layWay 110 = .ok (.iload_n 2, 1) := by decide +kernel
theorem dX9_layWay_111 : decode cX9_layWay 111 = .ok (.iconst 2, 1) := by decide +kernel
theorem dX9_layWay_112 : decode cX9_layWay 112 = .ok (.isub, 1) := by decide +kernel
theorem dX9_layWay_113 : decode cX9_layWay 113 = .ok (.if_icmp .ge 49, 3) := by decide +kernel
theorem dX9_layWay_116 : decode cX9_layWay 116 = .ok (.aload_n 0, 1) := by decide +kernel
theorem dX9_layWay_117 : decode cX9_layWay 117 = .ok (.iload_n 3, 1) := by decide +kernel
theorem dX9_layWay_118 : decode cX9_layWay 118 = .ok (.invokevirtual 167, 3) := by decide +kernel
theorem dX9_layWay_121 : decode cX9_layWay 121 = .ok (.aload_n 0, 1) := by decide +kernel
theorem dX9_layWay_122 : decode cX9_layWay 122 = .ok (.iload_n 3, 1) := by decide +kernel
theorem dX9_layWay_123 : decode cX9_layWay 123 = .ok (.invokevirtual 170, 3) := by decide +kernel
theorem dX9_layWay_126 : decode cX9_layWay 126 = .ok (.aload_n 0, 1) := by decide +kernel
theorem dX9_layWay_127 : decode cX9_layWay 127 = .ok (.iload_n 3, 1) := by decide +kernel
theorem dX9_layWay_128 : decode cX9_layWay 128 = .ok (.invokevirtual 167, 3) := by decide +kernel
theorem dX9_layWay_131 : decode cX9_layWay 131 = .ok (.aload_n 0, 1) := by decide +kernel
theorem dX9_layWay_132 : decode cX9_layWay 132 = .ok (.iload_n 3, 1) := by decide +kernel
theorem dX9_layWay_133 : decode cX9_layWay 133 = .ok (.iconst 2, 1) := by decide +kernel
theorem dX9_layWay_134 : decode cX9_layWay 134 = .ok (.iadd, 1) := by decide +kernel
theorem dX9_layWay_135 : decode cX9_layWay 135 = .ok (.invokevirtual 164, 3) := by decide +kernel
theorem dX9_layWay_138 : decode cX9_layWay 138 = .ok (.aload_n 0, 1) := by decide +kernel
theorem dX9_layWay_139 : decode cX9_layWay 139 = .ok (.iload_n 3, 1) := by decide +kernel
theorem dX9_layWay_140 : decode cX9_layWay 140 = .ok (.iconst 2, 1) := by decide +kernel
theorem dX9_layWay_141 : decode cX9_layWay 141 = .ok (.iadd, 1) := by decide +kernel
theorem dX9_layWay_142 : decode cX9_layWay 142 = .ok (.invokevirtual 164, 3) := by decide +kernel
theorem dX9_layWay_145 : decode cX9_layWay 145 = .ok (.aload_n 0, 1) := by decide +kernel
theorem dX9_layWay_146 : decode cX9_layWay 146 = .ok (.iload_n 3, 1) := by decide +kernel
theorem dX9_layWay_147 : decode cX9_layWay 147 = .ok (.invokevirtual 170, 3) := by decide +kernel
theorem dX9_layWay_150 : decode cX9_layWay 150 = .ok (.aload_n 0, 1) := by decide +kernel
theorem dX9_layWay_151 : decode cX9_layWay 151 = .ok (.iload_n 3, 1) := by decide +kernel
theorem dX9_layWay_152 : decode cX9_layWay 152 = .ok (.invokevirtual 167, 3) := by decide +kernel
theorem dX9_layWay_155 : decode cX9_layWay 155 = .ok (.aload_n 0, 1) := by decide +kernel
theorem dX9_layWay_156 : decode cX9_layWay 156 = .ok (.iload_n 3, 1) := by decide +kernel
theorem dX9_layWay_157 : decode cX9_layWay 157 = .ok (.iconst 2, 1) := by decide +kernel
theorem dX9_layWay_158 : decode cX9_layWay 158 = .ok (.iadd, 1) := by decide +kernel
theorem dX9_layWay_159 : decode cX9_layWay 159 = .ok (.invokevirtual 164, 3) := by decide +kernel
theorem dX9_layWay_162 : decode cX9_layWay 162 = .ok (.iinc 3 1, 3) := by decide +kernel
theorem dX9_layWay_165 : decode cX9_layWay 165 = .ok (.goto (-163), 3) := by decide +kernel
theorem dX9_layWay_168 : decode cX9_layWay 168 = .ok (.return_, 1) := by decide +kernel
theorem dX9_layWays_0 : decode cX9_layWays 0 = .ok (.aload_n 0, 1) := by decide +kernel
theorem dX9_layWays_1 : decode cX9_layWays 1 = .ok (.iconst 0, 1) := by decide +kernel
theorem dX9_layWays_2 : decode cX9_layWays 2 = .ok (.putfield 157, 3) := by decide +kernel
theorem dX9_layWays_5 : decode cX9_layWays 5 = .ok (.iconst 0, 1) := by decide +kernel
theorem dX9_layWays_6 : decode cX9_layWays 6 = .ok (.istore_n 3, 1) := by decide +kernel
theorem dX9_layWays_7 : decode cX9_layWays 7 = .ok (.iload_n 3, 1) := by decide +kernel
theorem dX9_layWays_8 : decode cX9_layWays 8 = .ok (.iconst 5, 1) := by decide +kernel
theorem dX9_layWays_9 : decode cX9_layWays 9 = .ok (.if_icmp .ge 23, 3) := by decide +kernel
theorem dX9_layWays_12 : decode cX9_layWays 12 = .ok (.iload_n 1, 1) := by decide +kernel
theorem dX9_layWays_13 : decode cX9_layWays 13 = .ok (.iload_n 3, 1) := by decide +kernel
theorem dX9_layWays_14 : decode cX9_layWays 14 = .ok (.invokestatic 176, 3) := by decide +kernel
theorem dX9_layWays_17 : decode cX9_layWays 17 = .ok (.ifCond .eq 9, 3) := by decide +kernel
theorem dX9_layWays_20 : decode cX9_layWays 20 = .ok (.aload_n 0, 1) := by decide +kernel
theorem dX9_layWays_21 : decode cX9_layWays 21 = .ok (.iload_n 3, 1) := by decide +kernel
theorem dX9_layWays_22 : decode cX9_layWays 22 = .ok (.iload_n 2, 1) := by decide +kernel
theorem dX9_layWays_23 : decode cX9_layWays 23 = .ok (.invokevirtual 180, 3) := by decide +kernel
theorem dX9_layWays_26 : decode cX9_layWays 26 = .ok (.iinc 3 1, 3) := by decide +kernel
theorem dX9_layWays_29 : decode cX9_layWays 29 = .ok (.goto (-22), 3) := by decide +kernel
theorem dX9_layWays_32 : decode cX9_layWays 32 = .ok (.iconst 0, 1) := by decide +kernel
theorem dX9_layWays_33 : decode cX9_layWays 33 = .ok (.istore_n 3, 1) := by decide +kernel
theorem dX9_layWays_34 : decode cX9_layWays 34 = .ok (.iload_n 3, 1) := by decide +kernel
theorem dX9_layWays_35 : decode cX9_layWays 35 = .ok (.bipush 8, 2) := by decide +kernel
theorem dX9_layWays_37 : decode cX9_layWays 37 = .ok (.if_icmp .ge 17, 3) := by decide +kernel
theorem dX9_layWays_40 : decode cX9_layWays 40 = .ok (.aload_n 0, 1) := by decide +kernel
theorem dX9_layWays_41 : decode cX9_layWays 41 = .ok (.getfield 61, 3) := by decide +kernel
theorem dX9_layWays_44 : decode cX9_layWays 44 = .ok (.iload_n 3, 1) := by decide +kernel
theorem dX9_layWays_45 : decode cX9_layWays 45 = .ok (.bipush (-4), 2) := by decide +kernel
theorem dX9_layWays_47 : decode cX9_layWays 47 = .ok (.iastore, 1) := by decide +kernel
theorem dX9_layWays_48 : decode cX9_layWays 48 = .ok (.iinc 3 1, 3) := by decide +kernel
theorem dX9_layWays_51 : decode cX9_layWays 51 = .ok (.goto (-17), 3) := by decide +kernel
theorem dX9_layWays_54 : decode cX9_layWays 54 = .ok (.iconst 0, 1) := by decide +kernel
theorem dX9_layWays_55 : decode cX9_layWays 55 = .ok (.istore_n 3, 1) := by decide +kernel
theorem dX9_layWays_56 : decode cX9_layWays 56 = .ok (.iload_n 3, 1) := by decide +kernel
theorem dX9_layWays_57 : decode cX9_layWays 57 = .ok (.aload_n 0, 1) := by decide +kernel
theorem dX9_layWays_58 : decode cX9_layWays 58 = .ok (.getfield 157, 3) := by decide +kernel
theorem dX9_layWays_61 : decode cX9_layWays 61 = .ok (.if_icmp .ge 56, 3) := by decide +kernel
theorem dX9_layWays_64 : decode cX9_layWays 64 = .ok (.aload_n 0, 1) := by decide +kernel
theorem dX9_layWays_65 : decode cX9_layWays 65 = .ok (.getfield 55, 3) := by decide +kernel
theorem dX9_layWays_68 : decode cX9_layWays 68 = .ok (.iload_n 3, 1) := by decide +kernel
theorem dX9_layWays_69 : decode cX9_layWays 69 = .ok (.iaload, 1) := by decide +kernel
theorem dX9_layWays_70 : decode cX9_layWays 70 = .ok (.aload_n 0, 1) := by decide +kernel
theorem dX9_layWays_71 : decode cX9_layWays 71 = .ok (.getfield 52, 3) := by decide +kernel
theorem dX9_layWays_74 : decode cX9_layWays 74 = .ok (.iload_n 3, 1) := by decide +kernel
theorem dX9_layWays_75 : decode cX9_layWays 75 = .ok (.iaload, 1) := by decide +kernel
theorem dX9_layWays_76 : decode cX9_layWays 76 = .ok (.aload_n 0, 1) := by decide +kernel
theorem dX9_layWays_77 : decode cX9_layWays 77 = .ok (.getfield 58, 3) := by decide +kernel
theorem dX9_layWays_80 : decode cX9_layWays 80 = .ok (.iload_n 3, 1) := by decide +kernel
theorem dX9_layWays_81 : decode cX9_layWays 81 = .ok (.iaload, 1) := by decide +kernel
theorem dX9_layWays_82 : decode cX9_layWays 82 = .ok (.invokestatic 184, 3) := by decide +kernel
theorem dX9_layWays_85 : decode cX9_layWays 85 = .ok (.invokestatic 184, 3) := by decide +kernel
theorem dX9_layWays_88 : decode cX9_layWays 88 = .ok (.istore 4, 2) := by decide +kernel
theorem dX9_layWays_90 : decode cX9_layWays 90 = .ok (.aload_n 0, 1) := by decide +kernel
theorem dX9_layWays_91 : decode cX9_layWays 91 = .ok (.getfield 64, 3) := by decide +kernel
theorem dX9_layWays_94 : decode cX9_layWays 94 = .ok (.iload_n 3, 1) := by decide +kernel
theorem dX9_layWays_95 : decode cX9_layWays 95 = .ok (.aload_n 0, 1) := by decide +kernel
theorem dX9_layWays_96 : decode cX9_layWays 96 = .ok (.getfield 61, 3) := by decide +kernel
theorem dX9_layWays_99 : decode cX9_layWays 99 = .ok (.iload 4, 2) := by decide +kernel
theorem dX9_layWays_101 : decode cX9_layWays 101 = .ok (.iaload, 1) := by decide +kernel
theorem dX9_layWays_102 : decode cX9_layWays 102 = .ok (.iastore, 1) := by decide +kernel
theorem dX9_layWays_103 : decode cX9_layWays 103 = .ok (.aload_n 0, 1) := by decide +kernel
theorem dX9_layWays_104 : decode cX9_layWays 104 = .ok (.getfield 61, 3) := by decide +kernel
theorem dX9_layWays_107 : decode cX9_layWays 107 = .ok (.iload 4, 2) := by decide +kernel
theorem dX9_layWays_109 : decode cX9_layWays 109 = .ok (.iload_n 3, 1) := by decide +kernel
theorem dX9_layWays_110 : decode cX9_layWays 110 = .ok (.iastore, 1) := by decide +kernel
theorem dX9_layWays_111 : decode cX9_layWays 111 = .ok (.iinc 3 1, 3) := by decide +kernel
theorem dX9_layWays_114 : decode cX9_layWays 114 = .ok (.goto (-58), 3) := by decide +kernel
theorem dX9_layWays_117 : decode cX9_layWays 117 = .ok (.return_, 1) := by decide +kernel
theorem dX9_tokenOf_0 : decode cX9_tokenOf 0 = .ok (.aload_n 0, 1) := by decide +kernel
theorem dX9_tokenOf_1 : decode cX9_tokenOf 1 = .ok (.getfield 16, 3) := by decide +kernel
theorem dX9_tokenOf_4 : decode cX9_tokenOf 4 = .ok (.iconst 3, 1) := by decide +kernel
theorem dX9_tokenOf_5 : decode cX9_tokenOf 5 = .ok (.iload_n 2, 1) := by decide +kernel
theorem dX9_tokenOf_6 : decode cX9_tokenOf 6 = .ok (.imul, 1) := by decide +kernel
theorem dX9_tokenOf_7 : decode cX9_tokenOf 7 = .ok (.iaload, 1) := by decide +kernel
theorem dX9_tokenOf_8 : decode cX9_tokenOf 8 = .ok (.istore 4, 2) := by decide +kernel
theorem dX9_tokenOf_10 : decode cX9_tokenOf 10 = .ok (.aload_n 0, 1) := by decide +kernel
theorem dX9_tokenOf_11 : decode cX9_tokenOf 11 = .ok (.getfield 16, 3) := by decide +kernel
theorem dX9_tokenOf_14 : decode cX9_tokenOf 14 = .ok (.iconst 3, 1) := by decide +kernel
theorem dX9_tokenOf_15 : decode cX9_tokenOf 15 = .ok (.iload_n 2, 1) := by decide +kernel
theorem dX9_tokenOf_16 : decode cX9_tokenOf 16 = .ok (.imul, 1) := by decide +kernel
theorem dX9_tokenOf_17 : decode cX9_tokenOf 17 = .ok (.iconst 2, 1) := by decide +kernel
theorem dX9_tokenOf_18 : decode cX9_tokenOf 18 = .ok (.iadd, 1) := by decide +kernel
theorem dX9_tokenOf_19 : decode cX9_tokenOf 19 = .ok (.iaload, 1) := by decide +kernel
theorem dX9_tokenOf_20 : decode cX9_tokenOf 20 = .ok (.istore 5, 2) := by decide +kernel
theorem dX9_tokenOf_22 : decode cX9_tokenOf 22 = .ok (.iload_n 1, 1) := by decide +kernel
theorem dX9_tokenOf_23 : decode cX9_tokenOf 23 = .ok (.ifCond .ge 8, 3) := by decide +kernel
theorem dX9_tokenOf_26 : decode cX9_tokenOf 26 = .ok (.iload 4, 2) := by decide +kernel
theorem dX9_tokenOf_28 : decode cX9_tokenOf 28 = .ok (.goto 27, 3) := by decide +kernel
theorem dX9_tokenOf_31 : decode cX9_tokenOf 31 = .ok (.aload_n 0, 1) := by decide +kernel
theorem dX9_tokenOf_32 : decode cX9_tokenOf 32 = .ok (.getfield 19, 3) := by decide +kernel
theorem dX9_tokenOf_35 : decode cX9_tokenOf 35 = .ok (.bipush 8, 2) := by decide +kernel
theorem dX9_tokenOf_37 : decode cX9_tokenOf 37 = .ok (.aload_n 0, 1) := by decide +kernel
theorem dX9_tokenOf_38 : decode cX9_tokenOf 38 = .ok (.getfield 16, 3) := by decide +kernel
theorem dX9_tokenOf_41 : decode cX9_tokenOf 41 = .ok (.iconst 3, 1) := by decide +kernel
theorem dX9_tokenOf_42 : decode cX9_tokenOf 42 = .ok (.iload_n 1, 1) := by decide +kernel
theorem dX9_tokenOf_43 : decode cX9_tokenOf 43 = .ok (.imul, 1) := by decide +kernel
theorem dX9_tokenOf_44 : decode cX9_tokenOf 44 = .ok (.iconst 2, 1) := by decide +kernel
theorem dX9_tokenOf_45 : decode cX9_tokenOf 45 = .ok (.iadd, 1) := by decide +kernel
theorem dX9_tokenOf_46 : decode cX9_tokenOf 46 = .ok (.iaload, 1) := by decide +kernel
theorem dX9_tokenOf_47 : decode cX9_tokenOf 47 = .ok (.imul, 1) := by decide +kernel
theorem dX9_tokenOf_48 : decode cX9_tokenOf 48 = .ok (.iload 4, 2) := by decide +kernel
theorem dX9_tokenOf_50 : decode cX9_tokenOf 50 = .ok (.iadd, 1) := by decide +kernel
theorem dX9_tokenOf_51 : decode cX9_tokenOf 51 = .ok (.iaload, 1) := by decide +kernel
theorem dX9_tokenOf_52 : decode cX9_tokenOf 52 = .ok (.bipush 8, 2) := by decide +kernel
theorem dX9_tokenOf_54 : decode cX9_tokenOf 54 = .ok (.irem, 1) := by decide +kernel
theorem dX9_tokenOf_55 : decode cX9_tokenOf 55 = .ok (.istore 6, 2) := by decide +kernel
theorem dX9_tokenOf_57 : decode cX9_tokenOf 57 = .ok (.iload_n 3, 1) := by decide +kernel
theorem dX9_tokenOf_58 : decode cX9_tokenOf 58 = .ok (.ifCond .ge 8, 3) := by decide +kernel
theorem dX9_tokenOf_61 : decode cX9_tokenOf 61 = .ok (.iload 5, 2) := by decide +kernel
theorem dX9_tokenOf_63 : decode cX9_tokenOf 63 = .ok (.goto 25, 3) := by decide +kernel
theorem dX9_tokenOf_66 : decode cX9_tokenOf 66 = .ok (.aload_n 0, 1) := by decide +kernel
theorem dX9_tokenOf_67 : decode cX9_tokenOf 67 = .ok (.getfield 19, 3) := by decide +kernel
theorem dX9_tokenOf_70 : decode cX9_tokenOf 70 = .ok (.bipush 8, 2) := by decide +kernel
theorem dX9_tokenOf_72 : decode cX9_tokenOf 72 = .ok (.iload 5, 2) := by decide +kernel
theorem dX9_tokenOf_74 : decode cX9_tokenOf 74 = .ok (.imul, 1) := by decide +kernel
theorem dX9_tokenOf_75 : decode cX9_tokenOf 75 = .ok (.aload_n 0, 1) := by decide +kernel
theorem dX9_tokenOf_76 : decode cX9_tokenOf 76 = .ok (.getfield 16, 3) := by decide +kernel
theorem dX9_tokenOf_79 : decode cX9_tokenOf 79 = .ok (.iconst 3, 1) := by decide +kernel
theorem dX9_tokenOf_80 : decode cX9_tokenOf 80 = .ok (.iload_n 3, 1) := by decide +kernel
theorem dX9_tokenOf_81 : decode cX9_tokenOf 81 = .ok (.imul, 1) := by decide +kernel
theorem dX9_tokenOf_82 : decode cX9_tokenOf 82 = .ok (.iaload, 1) := by decide +kernel
theorem dX9_tokenOf_83 : decode cX9_tokenOf 83 = .ok (.iadd, 1) := by decide +kernel
theorem dX9_tokenOf_84 : decode cX9_tokenOf 84 = .ok (.iaload, 1) := by decide +kernel
theorem dX9_tokenOf_85 : decode cX9_tokenOf 85 = .ok (.bipush 8, 2) := by decide +kernel
theorem dX9_tokenOf_87 : decode cX9_tokenOf 87 = .ok (.idiv, 1) := by decide +kernel
theorem dX9_tokenOf_88 : decode cX9_tokenOf 88 = .ok (.istore 7, 2) := by decide +kernel
theorem dX9_tokenOf_90 : decode cX9_tokenOf 90 = .ok (.sipush 128, 3) := by decide +kernel
theorem dX9_tokenOf_93 : decode cX9_tokenOf 93 = .ok (.iload 6, 2) := by decide +kernel
theorem dX9_tokenOf_95 : decode cX9_tokenOf 95 = .ok (.imul, 1) := by decide +kernel
theorem dX9_tokenOf_96 : decode cX9_tokenOf 96 = .ok (.bipush 8, 2) := by decide +kernel
theorem dX9_tokenOf_98 : decode cX9_tokenOf 98 = .ok (.aload_n 0, 1) := by decide +kernel
theorem dX9_tokenOf_99 : decode cX9_tokenOf 99 = .ok (.getfield 16, 3) := by decide +kernel
theorem dX9_tokenOf_102 : decode cX9_tokenOf 102 = .ok (.iconst 3, 1) := by decide +kernel
theorem dX9_tokenOf_103 : decode cX9_tokenOf 103 = .ok (.iload_n 2, 1) := by decide +kernel
theorem dX9_tokenOf_104 : decode cX9_tokenOf 104 = .ok (.imul, 1) := by decide +kernel
theorem dX9_tokenOf_105 : decode cX9_tokenOf 105 = .ok (.iconst 1, 1) := by decide +kernel
theorem dX9_tokenOf_106 : decode cX9_tokenOf 106 = .ok (.iadd, 1) := by decide +kernel
theorem dX9_tokenOf_107 : decode cX9_tokenOf 107 = .ok (.iaload, 1) := by decide +kernel
theorem dX9_tokenOf_108 : decode cX9_tokenOf 108 = .ok (.imul, 1) := by decide +kernel
theorem dX9_tokenOf_109 : decode cX9_tokenOf 109 = .ok (.iadd, 1) := by decide +kernel
theorem dX9_tokenOf_110 : decode cX9_tokenOf 110 = .ok (.iload 7, 2) := by decide +kernel
theorem dX9_tokenOf_112 : decode cX9_tokenOf 112 = .ok (.iadd, 1) := by decide +kernel
theorem dX9_tokenOf_113 : decode cX9_tokenOf 113 = .ok (.ireturn, 1) := by decide +kernel
theorem dX9_rowAt_0 : decode cX9_rowAt 0 = .ok (.iload_n 1, 1) := by decide +kernel
theorem dX9_rowAt_1 : decode cX9_rowAt 1 = .ok (.ifCond .ge 8, 3) := by decide +kernel
theorem dX9_rowAt_4 : decode cX9_rowAt 4 = .ok (.bipush (-4), 2) := by decide +kernel
theorem dX9_rowAt_6 : decode cX9_rowAt 6 = .ok (.goto 9, 3) := by decide +kernel
theorem dX9_rowAt_9 : decode cX9_rowAt 9 = .ok (.aload_n 0, 1) := by decide +kernel
theorem dX9_rowAt_10 : decode cX9_rowAt 10 = .ok (.getfield 67, 3) := by decide +kernel
theorem dX9_rowAt_13 : decode cX9_rowAt 13 = .ok (.iload_n 1, 1) := by decide +kernel
theorem dX9_rowAt_14 : decode cX9_rowAt 14 = .ok (.iaload, 1) := by decide +kernel
theorem dX9_rowAt_15 : decode cX9_rowAt 15 = .ok (.ireturn, 1) := by decide +kernel
theorem dX9_tokenAt_0 : decode cX9_tokenAt 0 = .ok (.aload_n 0, 1) := by decide +kernel
theorem dX9_tokenAt_1 : decode cX9_tokenAt 1 = .ok (.aload_n 0, 1) := by decide +kernel
theorem dX9_tokenAt_2 : decode cX9_tokenAt 2 = .ok (.aload_n 0, 1) := by decide +kernel
theorem dX9_tokenAt_3 : decode cX9_tokenAt 3 = .ok (.getfield 52, 3) := by decide +kernel
theorem dX9_tokenAt_6 : decode cX9_tokenAt 6 = .ok (.iload_n 1, 1) := by decide +kernel
theorem dX9_tokenAt_7 : decode cX9_tokenAt 7 = .ok (.iaload, 1) := by decide +kernel
theorem dX9_tokenAt_8 : decode cX9_tokenAt 8 = .ok (.invokevirtual 188, 3) := by decide +kernel
theorem dX9_tokenAt_11 : decode cX9_tokenAt 11 = .ok (.aload_n 0, 1) := by decide +kernel
theorem dX9_tokenAt_12 : decode cX9_tokenAt 12 = .ok (.aload_n 0, 1) := by decide +kernel
theorem dX9_tokenAt_13 : decode cX9_tokenAt 13 = .ok (.getfield 55, 3) := by decide +kernel
theorem dX9_tokenAt_16 : decode cX9_tokenAt 16 = .ok (.iload_n 1, 1) := by decide +kernel
theorem dX9_tokenAt_17 : decode cX9_tokenAt 17 = .ok (.iaload, 1) := by decide +kernel
theorem dX9_tokenAt_18 : decode cX9_tokenAt 18 = .ok (.invokevirtual 188, 3) := by decide +kernel
theorem dX9_tokenAt_21 : decode cX9_tokenAt 21 = .ok (.aload_n 0, 1) := by decide +kernel
theorem dX9_tokenAt_22 : decode cX9_tokenAt 22 = .ok (.aload_n 0, 1) := by decide +kernel
theorem dX9_tokenAt_23 : decode cX9_tokenAt 23 = .ok (.getfield 58, 3) := by decide +kernel
theorem dX9_tokenAt_26 : decode cX9_tokenAt 26 = .ok (.iload_n 1, 1) := by decide +kernel
theorem dX9_tokenAt_27 : decode cX9_tokenAt 27 = .ok (.iaload, 1) := by decide +kernel
theorem dX9_tokenAt_28 : decode cX9_tokenAt 28 = .ok (.invokevirtual 188, 3) := by decide +kernel
theorem dX9_tokenAt_31 : decode cX9_tokenAt 31 = .ok (.invokevirtual 191, 3) := by decide +kernel
theorem dX9_tokenAt_34 : decode cX9_tokenAt 34 = .ok (.ireturn, 1) := by decide +kernel
theorem dX9_layRow_0 : decode cX9_layRow 0 = .ok (.iconst 0, 1) := by decide +kernel
theorem dX9_layRow_1 : decode cX9_layRow 1 = .ok (.istore_n 2, 1) := by decide +kernel
theorem dX9_layRow_2 : decode cX9_layRow 2 = .ok (.iload_n 2, 1) := by decide +kernel
theorem dX9_layRow_3 : decode cX9_layRow 3 = .ok (.aload_n 0, 1) := by decide +kernel
theorem dX9_layRow_4 : decode cX9_layRow 4 = .ok (.getfield 25, 3) := by decide +kernel
theorem dX9_layRow_7 : decode cX9_layRow 7 = .ok (.iload_n 1, 1) := by decide +kernel
theorem dX9_layRow_8 : decode cX9_layRow 8 = .ok (.iaload, 1) := by decide +kernel
theorem dX9_layRow_9 : decode cX9_layRow 9 = .ok (.if_icmp .ge 26, 3) := by decide +kernel
theorem dX9_layRow_12 : decode cX9_layRow 12 = .ok (.aload_n 0, 1) := by decide +kernel
theorem dX9_layRow_13 : decode cX9_layRow 13 = .ok (.getfield 67, 3) := by decide +kernel
theorem dX9_layRow_16 : decode cX9_layRow 16 = .ok (.iload_n 2, 1) := by decide +kernel
theorem dX9_layRow_17 : decode cX9_layRow 17 = .ok (.aload_n 0, 1) := by decide +kernel
theorem dX9_layRow_18 : decode cX9_layRow 18 = .ok (.getfield 28, 3) := by decide +kernel
theorem dX9_layRow_21 : decode cX9_layRow 21 = .ok (.bipush 8, 2) := by decide +kernel
theorem dX9_layRow_23 : decode cX9_layRow 23 = .ok (.iload_n 1, 1) := by decide +kernel
theorem dX9_layRow_24 : decode cX9_layRow 24 = .ok (.imul, 1) := by decide +kernel
theorem dX9_layRow_25 : decode cX9_layRow 25 = .ok (.iload_n 2, 1) := by decide +kernel
theorem dX9_layRow_26 : decode cX9_layRow 26 = .ok (.iadd, 1) := by decide +kernel
theorem dX9_layRow_27 : decode cX9_layRow 27 = .ok (.iaload, 1) := by decide +kernel
theorem dX9_layRow_28 : decode cX9_layRow 28 = .ok (.iastore, 1) := by decide +kernel
theorem dX9_layRow_29 : decode cX9_layRow 29 = .ok (.iinc 2 1, 3) := by decide +kernel
theorem dX9_layRow_32 : decode cX9_layRow 32 = .ok (.goto (-30), 3) := by decide +kernel
theorem dX9_layRow_35 : decode cX9_layRow 35 = .ok (.return_, 1) := by decide +kernel
theorem dX9_said_0 : decode cX9_said 0 = .ok (.iload_n 1, 1) := by decide +kernel
theorem dX9_said_1 : decode cX9_said 1 = .ok (.invokestatic 148, 3) := by decide +kernel
theorem dX9_said_4 : decode cX9_said 4 = .ok (.ifCond .eq 15, 3) := by decide +kernel
theorem dX9_said_7 : decode cX9_said 7 = .ok (.iload_n 2, 1) := by decide +kernel
theorem dX9_said_8 : decode cX9_said 8 = .ok (.invokestatic 195, 3) := by decide +kernel
theorem dX9_said_11 : decode cX9_said 11 = .ok (.ifCond .eq 8, 3) := by decide +kernel
theorem dX9_said_14 : decode cX9_said 14 = .ok (.iload_n 3, 1) := by decide +kernel
theorem dX9_said_15 : decode cX9_said 15 = .ok (.iconst (-1), 1) := by decide +kernel
theorem dX9_said_16 : decode cX9_said 16 = .ok (.if_icmp .ge 5, 3) := by decide +kernel
theorem dX9_said_19 : decode cX9_said 19 = .ok (.iconst (-1), 1) := by decide +kernel
theorem dX9_said_20 : decode cX9_said 20 = .ok (.ireturn, 1) := by decide +kernel
theorem dX9_said_21 : decode cX9_said 21 = .ok (.aload_n 0, 1) := by decide +kernel
theorem dX9_said_22 : decode cX9_said 22 = .ok (.getfield 25, 3) := by decide +kernel
theorem dX9_said_25 : decode cX9_said 25 = .ok (.iload_n 1, 1) := by decide +kernel
theorem dX9_said_26 : decode cX9_said 26 = .ok (.iaload, 1) := by decide +kernel
theorem dX9_said_27 : decode cX9_said 27 = .ok (.ifCond .ne 6, 3) := by decide +kernel
theorem dX9_said_30 : decode cX9_said 30 = .ok (.bipush (-2), 2) := by decide +kernel
theorem dX9_said_32 : decode cX9_said 32 = .ok (.ireturn, 1) := by decide +kernel
theorem dX9_said_33 : decode cX9_said 33 = .ok (.aload_n 0, 1) := by decide +kernel
theorem dX9_said_34 : decode cX9_said 34 = .ok (.iconst 1, 1) := by decide +kernel
theorem dX9_said_35 : decode cX9_said 35 = .ok (.iload_n 2, 1) := by decide +kernel
theorem dX9_said_36 : decode cX9_said 36 = .ok (.ishl, 1) := by decide +kernel
theorem dX9_said_37 : decode cX9_said 37 = .ok (.aload_n 0, 1) := by decide +kernel
theorem dX9_said_38 : decode cX9_said 38 = .ok (.getfield 25, 3) := by decide +kernel
theorem dX9_said_41 : decode cX9_said 41 = .ok (.iload_n 1, 1) := by decide +kernel
theorem dX9_said_42 : decode cX9_said 42 = .ok (.iaload, 1) := by decide +kernel
theorem dX9_said_43 : decode cX9_said 43 = .ok (.invokevirtual 198, 3) := by decide +kernel
theorem dX9_said_46 : decode cX9_said 46 = .ok (.aload_n 0, 1) := by decide +kernel
theorem dX9_said_47 : decode cX9_said 47 = .ok (.iload_n 1, 1) := by decide +kernel
theorem dX9_said_48 : decode cX9_said 48 = .ok (.invokevirtual 201, 3) := by decide +kernel
theorem dX9_said_51 : decode cX9_said 51 = .ok (.iload_n 3, 1) := by decide +kernel
theorem dX9_said_52 : decode cX9_said 52 = .ok (.ifCond .ge 10, 3) := by decide +kernel
theorem dX9_said_55 : decode cX9_said 55 = .ok (.aload_n 0, 1) := by decide +kernel
theorem dX9_said_56 : decode cX9_said 56 = .ok (.getfield 157, 3) := by decide +kernel
theorem dX9_said_59 : decode cX9_said 59 = .ok (.goto 21, 3) := by decide +kernel
theorem dX9_said_62 : decode cX9_said 62 = .ok (.iload_n 3, 1) := by decide +kernel
theorem dX9_said_63 : decode cX9_said 63 = .ok (.aload_n 0, 1) := by decide +kernel
theorem dX9_said_64 : decode cX9_said 64 = .ok (.getfield 157, 3) := by decide +kernel
theorem dX9_said_67 : decode cX9_said 67 = .ok (.if_icmp .ge 11, 3) := by decide +kernel
theorem dX9_said_70 : decode cX9_said 70 = .ok (.aload_n 0, 1) := by decide +kernel
theorem dX9_said_71 : decode cX9_said 71 = .ok (.iload_n 3, 1) := by decide +kernel
theorem dX9_said_72 : decode cX9_said 72 = .ok (.invokevirtual 204, 3) := by decide +kernel
theorem dX9_said_75 : decode cX9_said 75 = .ok (.goto 5, 3) := by decide +kernel
theorem dX9_said_78 : decode cX9_said 78 = .ok (.bipush (-4), 2) := by decide +kernel
theorem dX9_said_80 : decode cX9_said 80 = .ok (.ireturn, 1) := by decide +kernel
theorem dX9_say_0 : decode cX9_say 0 = .ok (.iload_n 1, 1) := by decide +kernel
theorem dX9_say_1 : decode cX9_say 1 = .ok (.invokestatic 148, 3) := by decide +kernel
theorem dX9_say_4 : decode cX9_say 4 = .ok (.ifCond .eq 10, 3) := by decide +kernel
theorem dX9_say_7 : decode cX9_say 7 = .ok (.iload_n 2, 1) := by decide +kernel
theorem dX9_say_8 : decode cX9_say 8 = .ok (.invokestatic 195, 3) := by decide +kernel
theorem dX9_say_11 : decode cX9_say 11 = .ok (.ifCond .ne 5, 3) := by decide +kernel
theorem dX9_say_14 : decode cX9_say 14 = .ok (.iconst (-1), 1) := by decide +kernel
theorem dX9_say_15 : decode cX9_say 15 = .ok (.ireturn, 1) := by decide +kernel
theorem dX9_say_16 : decode cX9_say 16 = .ok (.aload_n 0, 1) := by decide +kernel
theorem dX9_say_17 : decode cX9_say 17 = .ok (.getfield 25, 3) := by decide +kernel
theorem dX9_say_20 : decode cX9_say 20 = .ok (.iload_n 1, 1) := by decide +kernel
theorem dX9_say_21 : decode cX9_say 21 = .ok (.iaload, 1) := by decide +kernel
theorem dX9_say_22 : decode cX9_say 22 = .ok (.ifCond .ne 6, 3) := by decide +kernel
theorem dX9_say_25 : decode cX9_say 25 = .ok (.bipush (-2), 2) := by decide +kernel
theorem dX9_say_27 : decode cX9_say 27 = .ok (.ireturn, 1) := by decide +kernel
theorem dX9_say_28 : decode cX9_say 28 = .ok (.aload_n 0, 1) := by decide +kernel
theorem dX9_say_29 : decode cX9_say 29 = .ok (.iconst 1, 1) := by decide +kernel
theorem dX9_say_30 : decode cX9_say 30 = .ok (.iload_n 2, 1) := by decide +kernel
theorem dX9_say_31 : decode cX9_say 31 = .ok (.ishl, 1) := by decide +kernel
theorem dX9_say_32 : decode cX9_say 32 = .ok (.aload_n 0, 1) := by decide +kernel
theorem dX9_say_33 : decode cX9_say 33 = .ok (.getfield 25, 3) := by decide +kernel
theorem dX9_say_36 : decode cX9_say 36 = .ok (.iload_n 1, 1) := by decide +kernel
theorem dX9_say_37 : decode cX9_say 37 = .ok (.iaload, 1) := by decide +kernel
theorem dX9_say_38 : decode cX9_say 38 = .ok (.invokevirtual 198, 3) := by decide +kernel
theorem dX9_say_41 : decode cX9_say 41 = .ok (.aload_n 0, 1) := by decide +kernel
theorem dX9_say_42 : decode cX9_say 42 = .ok (.iload_n 1, 1) := by decide +kernel
theorem dX9_say_43 : decode cX9_say 43 = .ok (.invokevirtual 201, 3) := by decide +kernel
theorem dX9_say_46 : decode cX9_say 46 = .ok (.aload_n 0, 1) := by decide +kernel
theorem dX9_say_47 : decode cX9_say 47 = .ok (.getfield 31, 3) := by decide +kernel
theorem dX9_say_50 : decode cX9_say 50 = .ok (.iconst 0, 1) := by decide +kernel
theorem dX9_say_51 : decode cX9_say 51 = .ok (.aload_n 0, 1) := by decide +kernel
theorem dX9_say_52 : decode cX9_say 52 = .ok (.getfield 157, 3) := by decide +kernel
theorem dX9_say_55 : decode cX9_say 55 = .ok (.iastore, 1) := by decide +kernel
theorem dX9_say_56 : decode cX9_say 56 = .ok (.aload_n 0, 1) := by decide +kernel
theorem dX9_say_57 : decode cX9_say 57 = .ok (.getfield 34, 3) := by decide +kernel
theorem dX9_say_60 : decode cX9_say 60 = .ok (.iconst 0, 1) := by decide +kernel
theorem dX9_say_61 : decode cX9_say 61 = .ok (.iload_n 2, 1) := by decide +kernel
theorem dX9_say_62 : decode cX9_say 62 = .ok (.iastore, 1) := by decide +kernel
theorem dX9_say_63 : decode cX9_say 63 = .ok (.aload_n 0, 1) := by decide +kernel
theorem dX9_say_64 : decode cX9_say 64 = .ok (.getfield 37, 3) := by decide +kernel
theorem dX9_say_67 : decode cX9_say 67 = .ok (.iconst 0, 1) := by decide +kernel
theorem dX9_say_68 : decode cX9_say 68 = .ok (.aload_n 0, 1) := by decide +kernel
theorem dX9_say_69 : decode cX9_say 69 = .ok (.getfield 25, 3) := by decide +kernel
theorem dX9_say_72 : decode cX9_say 72 = .ok (.iload_n 1, 1) := by decide +kernel
theorem dX9_say_73 : decode cX9_say 73 = .ok (.iaload, 1) := by decide +kernel
theorem dX9_say_74 : decode cX9_say 74 = .ok (.iastore, 1) := by decide +kernel
theorem dX9_say_75 : decode cX9_say 75 = .ok (.iconst 0, 1) := by decide +kernel
theorem dX9_say_76 : decode cX9_say 76 = .ok (.istore_n 3, 1) := by decide +kernel
theorem dX9_say_77 : decode cX9_say 77 = .ok (.iload_n 3, 1) := by decide +kernel
theorem dX9_say_78 : decode cX9_say 78 = .ok (.aload_n 0, 1) := by decide +kernel
theorem dX9_say_79 : decode cX9_say 79 = .ok (.getfield 157, 3) := by decide +kernel
theorem dX9_say_82 : decode cX9_say 82 = .ok (.if_icmp .ge 20, 3) := by decide +kernel
theorem dX9_say_85 : decode cX9_say 85 = .ok (.aload_n 0, 1) := by decide +kernel
theorem dX9_say_86 : decode cX9_say 86 = .ok (.getfield 40, 3) := by decide +kernel
theorem dX9_say_89 : decode cX9_say 89 = .ok (.iload_n 3, 1) := by decide +kernel
theorem dX9_say_90 : decode cX9_say 90 = .ok (.aload_n 0, 1) := by decide +kernel
theorem dX9_say_91 : decode cX9_say 91 = .ok (.iload_n 3, 1) := by decide +kernel
theorem dX9_say_92 : decode cX9_say 92 = .ok (.invokevirtual 204, 3) := by decide +kernel
theorem dX9_say_95 : decode cX9_say 95 = .ok (.iastore, 1) := by decide +kernel
theorem dX9_say_96 : decode cX9_say 96 = .ok (.iinc 3 1, 3) := by decide +kernel
theorem dX9_say_99 : decode cX9_say 99 = .ok (.goto (-22), 3) := by decide +kernel
theorem dX9_say_102 : decode cX9_say 102 = .ok (.aload_n 0, 1) := by decide +kernel
theorem dX9_say_103 : decode cX9_say 103 = .ok (.getfield 157, 3) := by decide +kernel
theorem dX9_say_106 : decode cX9_say 106 = .ok (.ireturn, 1) := by decide +kernel
theorem dX9_alter_0 : decode cX9_alter 0 = .ok (.iload_n 1, 1) := by decide +kernel
theorem dX9_alter_1 : decode cX9_alter 1 = .ok (.i2l, 1) := by decide +kernel
theorem dX9_alter_2 : decode cX9_alter 2 = .ok (.lconst 0, 1) := by decide +kernel
theorem dX9_alter_3 : decode cX9_alter 3 = .ok (.aload_n 0, 1) := by decide +kernel
theorem dX9_alter_4 : decode cX9_alter 4 = .ok (.getfield 31, 3) := by decide +kernel
theorem dX9_alter_7 : decode cX9_alter 7 = .ok (.iconst 0, 1) := by decide +kernel
theorem dX9_alter_8 : decode cX9_alter 8 = .ok (.iaload, 1) := by decide +kernel
theorem dX9_alter_9 : decode cX9_alter 9 = .ok (.iconst 1, 1) := by decide +kernel
theorem dX9_alter_10 : decode cX9_alter 10 = .ok (.isub, 1) := by decide +kernel
theorem dX9_alter_11 : decode cX9_alter 11 = .ok (.i2l, 1) := by decide +kernel
theorem dX9_alter_12 : decode cX9_alter 12 = .ok (.invokestatic 92, 3) := by decide +kernel
theorem dX9_alter_15 : decode cX9_alter 15 = .ok (.ifCond .eq 15, 3) := by decide +kernel
theorem dX9_alter_18 : decode cX9_alter 18 = .ok (.iload_n 2, 1) := by decide +kernel
theorem dX9_alter_19 : decode cX9_alter 19 = .ok (.i2l, 1) := by decide +kernel
theorem dX9_alter_20 : decode cX9_alter 20 = .ok (.lconst 0, 1) := by decide +kernel
theorem dX9_alter_21 : decode cX9_alter 21 = .ok (.ldc2_w 207, 3) := by decide +kernel
theorem dX9_alter_24 : decode cX9_alter 24 = .ok (.invokestatic 92, 3) := by decide +kernel
theorem dX9_alter_27 : decode cX9_alter 27 = .ok (.ifCond .ne 5, 3) := by decide +kernel
theorem dX9_alter_30 : decode cX9_alter 30 = .ok (.iconst (-1), 1) := by decide +kernel
theorem dX9_alter_31 : decode cX9_alter 31 = .ok (.ireturn, 1) := by decide +kernel
theorem dX9_alter_32 : decode cX9_alter 32 = .ok (.aload_n 0, 1) := by decide +kernel
theorem dX9_alter_33 : decode cX9_alter 33 = .ok (.getfield 40, 3) := by decide +kernel
theorem dX9_alter_36 : decode cX9_alter 36 = .ok (.iload_n 1, 1) := by decide +kernel
theorem dX9_alter_37 : decode cX9_alter 37 = .ok (.iaload, 1) := by decide +kernel
theorem dX9_alter_38 : decode cX9_alter 38 = .ok (.istore_n 3, 1) := by decide +kernel
theorem dX9_alter_39 : decode cX9_alter 39 = .ok (.aload_n 0, 1) := by decide +kernel
theorem dX9_alter_40 : decode cX9_alter 40 = .ok (.getfield 40, 3) := by decide +kernel
theorem dX9_alter_43 : decode cX9_alter 43 = .ok (.iload_n 1, 1) := by decide +kernel
theorem dX9_alter_44 : decode cX9_alter 44 = .ok (.iload_n 2, 1) := by decide +kernel
theorem dX9_alter_45 : decode cX9_alter 45 = .ok (.iastore, 1) := by decide +kernel
theorem dX9_alter_46 : decode cX9_alter 46 = .ok (.iload_n 3, 1) := by decide +kernel
theorem dX9_alter_47 : decode cX9_alter 47 = .ok (.ireturn, 1) := by decide +kernel
theorem dX9_later_0 : decode cX9_later 0 = .ok (.iload_n 0, 1) := by decide +kernel
theorem dX9_later_1 : decode cX9_later 1 = .ok (.iload_n 1, 1) := by decide +kernel
theorem dX9_later_2 : decode cX9_later 2 = .ok (.if_icmp .le 7, 3) := by decide +kernel
theorem dX9_later_5 : decode cX9_later 5 = .ok (.iload_n 0, 1) := by decide +kernel
theorem dX9_later_6 : decode cX9_later 6 = .ok (.goto 4, 3) := by decide +kernel
theorem dX9_later_9 : decode cX9_later 9 = .ok (.iload_n 1, 1) := by decide +kernel
theorem dX9_later_10 : decode cX9_later 10 = .ok (.ireturn, 1) := by decide +kernel
theorem dX9_unlikeAt_0 : decode cX9_unlikeAt 0 = .ok (.iconst 0, 1) := by decide +kernel
theorem dX9_unlikeAt_1 : decode cX9_unlikeAt 1 = .ok (.istore_n 2, 1) := by decide +kernel
theorem dX9_unlikeAt_2 : decode cX9_unlikeAt 2 = .ok (.aload_n 0, 1) := by decide +kernel
theorem dX9_unlikeAt_3 : decode cX9_unlikeAt 3 = .ok (.getfield 61, 3) := by decide +kernel
theorem dX9_unlikeAt_6 : decode cX9_unlikeAt 6 = .ok (.iload_n 1, 1) := by decide +kernel
theorem dX9_unlikeAt_7 : decode cX9_unlikeAt 7 = .ok (.iaload, 1) := by decide +kernel
theorem dX9_unlikeAt_8 : decode cX9_unlikeAt 8 = .ok (.istore_n 3, 1) := by decide +kernel
theorem dX9_unlikeAt_9 : decode cX9_unlikeAt 9 = .ok (.iload_n 3, 1) := by decide +kernel
theorem dX9_unlikeAt_10 : decode cX9_unlikeAt 10 = .ok (.ifCond .lt 35, 3) := by decide +kernel
theorem dX9_unlikeAt_13 : decode cX9_unlikeAt 13 = .ok (.iload_n 2, 1) := by decide +kernel
theorem dX9_unlikeAt_14 : decode cX9_unlikeAt 14 = .ok (.aload_n 0, 1) := by decide +kernel
theorem dX9_unlikeAt_15 : decode cX9_unlikeAt 15 = .ok (.iload_n 3, 1) := by decide +kernel
theorem dX9_unlikeAt_16 : decode cX9_unlikeAt 16 = .ok (.invokevirtual 204, 3) := by decide +kernel
theorem dX9_unlikeAt_19 : decode cX9_unlikeAt 19 = .ok (.aload_n 0, 1) := by decide +kernel
theorem dX9_unlikeAt_20 : decode cX9_unlikeAt 20 = .ok (.getfield 70, 3) := by decide +kernel
theorem dX9_unlikeAt_23 : decode cX9_unlikeAt 23 = .ok (.iload_n 3, 1) := by decide +kernel
theorem dX9_unlikeAt_24 : decode cX9_unlikeAt 24 = .ok (.iaload, 1) := by decide +kernel
theorem dX9_unlikeAt_25 : decode cX9_unlikeAt 25 = .ok (.if_icmp .eq 7, 3) := by decide +kernel
theorem dX9_unlikeAt_28 : decode cX9_unlikeAt 28 = .ok (.iconst 1, 1) := by decide +kernel
theorem dX9_unlikeAt_29 : decode cX9_unlikeAt 29 = .ok (.goto 4, 3) := by decide +kernel
theorem dX9_unlikeAt_32 : decode cX9_unlikeAt 32 = .ok (.iconst 0, 1) := by decide +kernel
theorem dX9_unlikeAt_33 : decode cX9_unlikeAt 33 = .ok (.iadd, 1) := by decide +kernel
theorem dX9_unlikeAt_34 : decode cX9_unlikeAt 34 = .ok (.istore_n 2, 1) := by decide +kernel
theorem dX9_unlikeAt_35 : decode cX9_unlikeAt 35 = .ok (.aload_n 0, 1) := by decide +kernel
theorem dX9_unlikeAt_36 : decode cX9_unlikeAt 36 = .ok (.getfield 64, 3) := by decide +kernel
theorem dX9_unlikeAt_39 : decode cX9_unlikeAt 39 = .ok (.iload_n 3, 1) := by decide +kernel
theorem dX9_unlikeAt_40 : decode cX9_unlikeAt 40 = .ok (.iaload, 1) := by decide +kernel
theorem dX9_unlikeAt_41 : decode cX9_unlikeAt 41 = .ok (.istore_n 3, 1) := by decide +kernel
theorem dX9_unlikeAt_42 : decode cX9_unlikeAt 42 = .ok (.goto (-33), 3) := by decide +kernel
theorem dX9_unlikeAt_45 : decode cX9_unlikeAt 45 = .ok (.iload_n 2, 1) := by decide +kernel
theorem dX9_unlikeAt_46 : decode cX9_unlikeAt 46 = .ok (.ireturn, 1) := by decide +kernel
end
section
theorem dX9_at_0 : decode cX9_at 0 = .ok (.sipush 256, 3) := by decide +kernel
theorem dX9_at_3 : decode cX9_at 3 = .ok (.iload_n 0, 1) := by decide +kernel
theorem dX9_at_4 : decode cX9_at 4 = .ok (.imul, 1) := by decide +kernel
theorem dX9_at_5 : decode cX9_at 5 = .ok (.bipush 16, 2) := by decide +kernel
theorem dX9_at_7 : decode cX9_at 7 = .ok (.iload_n 1, 1) := by decide +kernel
theorem dX9_at_8 : decode cX9_at 8 = .ok (.imul, 1) := by decide +kernel
theorem dX9_at_9 : decode cX9_at 9 = .ok (.iadd, 1) := by decide +kernel
theorem dX9_at_10 : decode cX9_at 10 = .ok (.iload_n 2, 1) := by decide +kernel
theorem dX9_at_11 : decode cX9_at 11 = .ok (.iadd, 1) := by decide +kernel
theorem dX9_at_12 : decode cX9_at 12 = .ok (.ireturn, 1) := by decide +kernel
theorem dX9_layLeast_0 : decode cX9_layLeast 0 = .ok (.iconst 0, 1) := by decide +kernel
theorem dX9_layLeast_1 : decode cX9_layLeast 1 = .ok (.istore_n 2, 1) := by decide +kernel
theorem dX9_layLeast_2 : decode cX9_layLeast 2 = .ok (.iload_n 2, 1) := by decide +kernel
theorem dX9_layLeast_3 : decode cX9_layLeast 3 = .ok (.sipush 256, 3) := by decide +kernel
theorem dX9_layLeast_6 : decode cX9_layLeast 6 = .ok (.if_icmp .ge 48, 3) := by decide +kernel
theorem dX9_layLeast_9 : decode cX9_layLeast 9 = .ok (.aload_n 0, 1) := by decide +kernel
theorem dX9_layLeast_10 : decode cX9_layLeast 10 = .ok (.getfield 73, 3) := by decide +kernel
theorem dX9_layLeast_13 : decode cX9_layLeast 13 = .ok (.sipush 256, 3) := by decide +kernel
theorem dX9_layLeast_16 : decode cX9_layLeast 16 = .ok (.iload_n 1, 1) := by decide +kernel
theorem dX9_layLeast_17 : decode cX9_layLeast 17 = .ok (.imul, 1) := by decide +kernel
theorem dX9_layLeast_18 : decode cX9_layLeast 18 = .ok (.iload_n 2, 1) := by decide +kernel
theorem dX9_layLeast_19 : decode cX9_layLeast 19 = .ok (.iadd, 1) := by decide +kernel
theorem dX9_layLeast_20 : decode cX9_layLeast 20 = .ok (.iconst 0, 1) := by decide +kernel
theorem dX9_layLeast_21 : decode cX9_layLeast 21 = .ok (.iastore, 1) := by decide +kernel
theorem dX9_layLeast_22 : decode cX9_layLeast 22 = .ok (.aload_n 0, 1) := by decide +kernel
theorem dX9_layLeast_23 : decode cX9_layLeast 23 = .ok (.getfield 76, 3) := by decide +kernel
theorem dX9_layLeast_26 : decode cX9_layLeast 26 = .ok (.sipush 256, 3) := by decide +kernel
theorem dX9_layLeast_29 : decode cX9_layLeast 29 = .ok (.iload_n 1, 1) := by decide +kernel
theorem dX9_layLeast_30 : decode cX9_layLeast 30 = .ok (.imul, 1) := by decide +kernel
theorem dX9_layLeast_31 : decode cX9_layLeast 31 = .ok (.iload_n 2, 1) := by decide +kernel
theorem dX9_layLeast_32 : decode cX9_layLeast 32 = .ok (.iadd, 1) := by decide +kernel
theorem dX9_layLeast_33 : decode cX9_layLeast 33 = .ok (.lconst 1, 1) := by decide +kernel
theorem dX9_layLeast_34 : decode cX9_layLeast 34 = .ok (.lastore, 1) := by decide +kernel
theorem dX9_layLeast_35 : decode cX9_layLeast 35 = .ok (.aload_n 0, 1) := by decide +kernel
theorem dX9_layLeast_36 : decode cX9_layLeast 36 = .ok (.getfield 80, 3) := by decide +kernel
theorem dX9_layLeast_39 : decode cX9_layLeast 39 = .ok (.sipush 256, 3) := by decide +kernel
theorem dX9_layLeast_42 : decode cX9_layLeast 42 = .ok (.iload_n 1, 1) := by decide +kernel
theorem dX9_layLeast_43 : decode cX9_layLeast 43 = .ok (.imul, 1) := by decide +kernel
theorem dX9_layLeast_44 : decode cX9_layLeast 44 = .ok (.iload_n 2, 1) := by decide +kernel
theorem dX9_layLeast_45 : decode cX9_layLeast 45 = .ok (.iadd, 1) := by decide +kernel
theorem dX9_layLeast_46 : decode cX9_layLeast 46 = .ok (.lconst 1, 1) := by decide +kernel
theorem dX9_layLeast_47 : decode cX9_layLeast 47 = .ok (.lastore, 1) := by decide +kernel
theorem dX9_layLeast_48 : decode cX9_layLeast 48 = .ok (.iinc 2 1, 3) := by decide +kernel
theorem dX9_layLeast_51 : decode cX9_layLeast 51 = .ok (.goto (-49), 3) := by decide +kernel
theorem dX9_layLeast_54 : decode cX9_layLeast 54 = .ok (.iload_n 1, 1) := by decide +kernel
theorem dX9_layLeast_55 : decode cX9_layLeast 55 = .ok (.iconst 1, 1) := by decide +kernel
theorem dX9_layLeast_56 : decode cX9_layLeast 56 = .ok (.isub, 1) := by decide +kernel
theorem dX9_layLeast_57 : decode cX9_layLeast 57 = .ok (.istore_n 2, 1) := by decide +kernel
theorem dX9_layLeast_58 : decode cX9_layLeast 58 = .ok (.iload_n 2, 1) := by decide +kernel
theorem dX9_layLeast_59 : decode cX9_layLeast 59 = .ok (.ifCond .lt 72, 3) := by decide +kernel
theorem dX9_layLeast_62 : decode cX9_layLeast 62 = .ok (.iconst 0, 1) := by decide +kernel
theorem dX9_layLeast_63 : decode cX9_layLeast 63 = .ok (.istore_n 3, 1) := by decide +kernel
theorem dX9_layLeast_64 : decode cX9_layLeast 64 = .ok (.iload_n 3, 1) := by decide +kernel
theorem dX9_layLeast_65 : decode cX9_layLeast 65 = .ok (.iload_n 2, 1) := by decide +kernel
theorem dX9_layLeast_66 : decode cX9_layLeast 66 = .ok (.iconst 1, 1) := by decide +kernel
theorem dX9_layLeast_67 : decode cX9_layLeast 67 = .ok (.if_icmp .le 12, 3) := by decide +kernel
theorem dX9_layLeast_70 : decode cX9_layLeast 70 = .ok (.aload_n 0, 1) := by decide +kernel
theorem dX9_layLeast_71 : decode cX9_layLeast 71 = .ok (.getfield 13, 3) := by decide +kernel
theorem dX9_layLeast_74 : decode cX9_layLeast 74 = .ok (.iconst 0, 1) := by decide +kernel
theorem dX9_layLeast_75 : decode cX9_layLeast 75 = .ok (.iaload, 1) := by decide +kernel
theorem dX9_layLeast_76 : decode cX9_layLeast 76 = .ok (.goto 4, 3) := by decide +kernel
theorem dX9_layLeast_79 : decode cX9_layLeast 79 = .ok (.iconst 1, 1) := by decide +kernel
theorem dX9_layLeast_80 : decode cX9_layLeast 80 = .ok (.if_icmp .ge 45, 3) := by decide +kernel
theorem dX9_layLeast_83 : decode cX9_layLeast 83 = .ok (.iconst 0, 1) := by decide +kernel
theorem dX9_layLeast_84 : decode cX9_layLeast 84 = .ok (.istore 4, 2) := by decide +kernel
theorem dX9_layLeast_86 : decode cX9_layLeast 86 = .ok (.iload 4, 2) := by decide +kernel
theorem dX9_layLeast_88 : decode cX9_layLeast 88 = .ok (.iload_n 2, 1) := by decide +kernel
theorem dX9_layLeast_89 : decode cX9_layLeast 89 = .ok (.ifCond .le 12, 3) := by decide +kernel
theorem dX9_layLeast_92 : decode cX9_layLeast 92 = .ok (.aload_n 0, 1) := by decide +kernel
theorem dX9_layLeast_93 : decode cX9_layLeast 93 = .ok (.getfield 13, 3) := by decide +kernel
theorem dX9_layLeast_96 : decode cX9_layLeast 96 = .ok (.iconst 0, 1) := by decide +kernel
theorem dX9_layLeast_97 : decode cX9_layLeast 97 = .ok (.iaload, 1) := by decide +kernel
theorem dX9_layLeast_98 : decode cX9_layLeast 98 = .ok (.goto 4, 3) := by decide +kernel
theorem dX9_layLeast_101 : decode cX9_layLeast 101 = .ok (.iconst 1, 1) := by decide +kernel
theorem dX9_layLeast_102 : decode cX9_layLeast 102 = .ok (.if_icmp .ge 17, 3) := by decide +kernel
theorem dX9_layLeast_105 : decode cX9_layLeast 105 = .ok (.aload_n 0, 1) := by decide +kernel
theorem dX9_layLeast_106 : decode cX9_layLeast 106 = .ok (.iload_n 2, 1) := by decide +kernel
theorem dX9_layLeast_107 : decode cX9_layLeast 107 = .ok (.iload_n 3, 1) := by decide +kernel
theorem dX9_layLeast_108 : decode cX9_layLeast 108 = .ok (.iload 4, 2) := by decide +kernel
theorem dX9_layLeast_110 : decode cX9_layLeast 110 = .ok (.invokevirtual 209, 3) := by decide +kernel
theorem dX9_layLeast_113 : decode cX9_layLeast 113 = .ok (.iinc 4 1, 3) := by decide +kernel
theorem dX9_layLeast_116 : decode cX9_layLeast 116 = .ok (.goto (-30), 3) := by decide +kernel
theorem dX9_layLeast_119 : decode cX9_layLeast 119 = .ok (.iinc 3 1, 3) := by decide +kernel
theorem dX9_layLeast_122 : decode cX9_layLeast 122 = .ok (.goto (-58), 3) := by decide +kernel
theorem dX9_layLeast_125 : decode cX9_layLeast 125 = .ok (.iinc 2 (-1), 3) := by decide +kernel
theorem dX9_layLeast_128 : decode cX9_layLeast 128 = .ok (.goto (-70), 3) := by decide +kernel
theorem dX9_layLeast_131 : decode cX9_layLeast 131 = .ok (.return_, 1) := by decide +kernel
theorem dX9_layState_0 : decode cX9_layState 0 = .ok (.iload_n 1, 1) := by decide +kernel
theorem dX9_layState_1 : decode cX9_layState 1 = .ok (.iload_n 2, 1) := by decide +kernel
theorem dX9_layState_2 : decode cX9_layState 2 = .ok (.iload_n 3, 1) := by decide +kernel
theorem dX9_layState_3 : decode cX9_layState 3 = .ok (.invokestatic 213, 3) := by decide +kernel
theorem dX9_layState_6 : decode cX9_layState 6 = .ok (.istore 4, 2) := by decide +kernel
theorem dX9_layState_8 : decode cX9_layState 8 = .ok (.aload_n 0, 1) := by decide +kernel
theorem dX9_layState_9 : decode cX9_layState 9 = .ok (.getfield 73, 3) := by decide +kernel
theorem dX9_layState_12 : decode cX9_layState 12 = .ok (.iload 4, 2) := by decide +kernel
theorem dX9_layState_14 : decode cX9_layState 14 = .ok (.ldc 216, 2) := by decide +kernel
theorem dX9_layState_16 : decode cX9_layState 16 = .ok (.iastore, 1) := by decide +kernel
theorem dX9_layState_17 : decode cX9_layState 17 = .ok (.aload_n 0, 1) := by decide +kernel
theorem dX9_layState_18 : decode cX9_layState 18 = .ok (.getfield 76, 3) := by decide +kernel
theorem dX9_layState_21 : decode cX9_layState 21 = .ok (.iload 4, 2) := by decide +kernel
theorem dX9_layState_23 : decode cX9_layState 23 = .ok (.lconst 0, 1) := by decide +kernel
theorem dX9_layState_24 : decode cX9_layState 24 = .ok (.lastore, 1) := by decide +kernel
theorem dX9_layState_25 : decode cX9_layState 25 = .ok (.aload_n 0, 1) := by decide +kernel
theorem dX9_layState_26 : decode cX9_layState 26 = .ok (.getfield 80, 3) := by decide +kernel
theorem dX9_layState_29 : decode cX9_layState 29 = .ok (.iload 4, 2) := by decide +kernel
theorem dX9_layState_31 : decode cX9_layState 31 = .ok (.lconst 0, 1) := by decide +kernel
theorem dX9_layState_32 : decode cX9_layState 32 = .ok (.lastore, 1) := by decide +kernel
theorem dX9_layState_33 : decode cX9_layState 33 = .ok (.iload_n 1, 1) := by decide +kernel
theorem dX9_layState_34 : decode cX9_layState 34 = .ok (.iconst 1, 1) := by decide +kernel
theorem dX9_layState_35 : decode cX9_layState 35 = .ok (.if_icmp .le 12, 3) := by decide +kernel
theorem dX9_layState_38 : decode cX9_layState 38 = .ok (.aload_n 0, 1) := by decide +kernel
theorem dX9_layState_39 : decode cX9_layState 39 = .ok (.getfield 67, 3) := by decide +kernel
theorem dX9_layState_42 : decode cX9_layState 42 = .ok (.iload_n 1, 1) := by decide +kernel
theorem dX9_layState_43 : decode cX9_layState 43 = .ok (.iconst 2, 1) := by decide +kernel
theorem dX9_layState_44 : decode cX9_layState 44 = .ok (.isub, 1) := by decide +kernel
theorem dX9_layState_45 : decode cX9_layState 45 = .ok (.iload_n 2, 1) := by decide +kernel
theorem dX9_layState_46 : decode cX9_layState 46 = .ok (.iastore, 1) := by decide +kernel
theorem dX9_layState_47 : decode cX9_layState 47 = .ok (.iload_n 1, 1) := by decide +kernel
theorem dX9_layState_48 : decode cX9_layState 48 = .ok (.ifCond .le 12, 3) := by decide +kernel
theorem dX9_layState_51 : decode cX9_layState 51 = .ok (.aload_n 0, 1) := by decide +kernel
theorem dX9_layState_52 : decode cX9_layState 52 = .ok (.getfield 67, 3) := by decide +kernel
theorem dX9_layState_55 : decode cX9_layState 55 = .ok (.iload_n 1, 1) := by decide +kernel
theorem dX9_layState_56 : decode cX9_layState 56 = .ok (.iconst 1, 1) := by decide +kernel
theorem dX9_layState_57 : decode cX9_layState 57 = .ok (.isub, 1) := by decide +kernel
theorem dX9_layState_58 : decode cX9_layState 58 = .ok (.iload_n 3, 1) := by decide +kernel
theorem dX9_layState_59 : decode cX9_layState 59 = .ok (.iastore, 1) := by decide +kernel
theorem dX9_layState_60 : decode cX9_layState 60 = .ok (.iconst 0, 1) := by decide +kernel
theorem dX9_layState_61 : decode cX9_layState 61 = .ok (.istore 5, 2) := by decide +kernel
theorem dX9_layState_63 : decode cX9_layState 63 = .ok (.iload 5, 2) := by decide +kernel
theorem dX9_layState_65 : decode cX9_layState 65 = .ok (.aload_n 0, 1) := by decide +kernel
theorem dX9_layState_66 : decode cX9_layState 66 = .ok (.getfield 13, 3) := by decide +kernel
theorem dX9_layState_69 : decode cX9_layState 69 = .ok (.iconst 0, 1) := by decide +kernel
theorem dX9_layState_70 : decode cX9_layState 70 = .ok (.iaload, 1) := by decide +kernel
theorem dX9_layState_71 : decode cX9_layState 71 = .ok (.if_icmp .ge 178, 3) := by decide +kernel
theorem dX9_layState_74 : decode cX9_layState 74 = .ok (.aload_n 0, 1) := by decide +kernel
theorem dX9_layState_75 : decode cX9_layState 75 = .ok (.getfield 67, 3) := by decide +kernel
theorem dX9_layState_78 : decode cX9_layState 78 = .ok (.iload_n 1, 1) := by decide +kernel
theorem dX9_layState_79 : decode cX9_layState 79 = .ok (.iload 5, 2) := by decide +kernel
theorem dX9_layState_81 : decode cX9_layState 81 = .ok (.iastore, 1) := by decide +kernel
theorem dX9_layState_82 : decode cX9_layState 82 = .ok (.aload_n 0, 1) := by decide +kernel
theorem dX9_layState_83 : decode cX9_layState 83 = .ok (.iload_n 1, 1) := by decide +kernel
theorem dX9_layState_84 : decode cX9_layState 84 = .ok (.invokevirtual 217, 3) := by decide +kernel
theorem dX9_layState_87 : decode cX9_layState 87 = .ok (.istore 6, 2) := by decide +kernel
theorem dX9_layState_89 : decode cX9_layState 89 = .ok (.iload_n 1, 1) := by decide +kernel
theorem dX9_layState_90 : decode cX9_layState 90 = .ok (.iconst 1, 1) := by decide +kernel
theorem dX9_layState_91 : decode cX9_layState 91 = .ok (.iadd, 1) := by decide +kernel
theorem dX9_layState_92 : decode cX9_layState 92 = .ok (.iload_n 1, 1) := by decide +kernel
theorem dX9_layState_93 : decode cX9_layState 93 = .ok (.ifCond .le 7, 3) := by decide +kernel
theorem dX9_layState_96 : decode cX9_layState 96 = .ok (.iload_n 3, 1) := by decide +kernel
theorem dX9_layState_97 : decode cX9_layState 97 = .ok (.goto 4, 3) := by decide +kernel
theorem dX9_layState_100 : decode cX9_layState 100 = .ok (.iconst 0, 1) := by decide +kernel
theorem dX9_layState_101 : decode cX9_layState 101 = .ok (.iload 5, 2) := by decide +kernel
theorem dX9_layState_103 : decode cX9_layState 103 = .ok (.invokestatic 213, 3) := by decide +kernel
theorem dX9_layState_106 : decode cX9_layState 106 = .ok (.istore 7, 2) := by decide +kernel
theorem dX9_layState_108 : decode cX9_layState 108 = .ok (.iload 6, 2) := by decide +kernel
theorem dX9_layState_110 : decode cX9_layState 110 = .ok (.aload_n 0, 1) := by decide +kernel
theorem dX9_layState_111 : decode cX9_layState 111 = .ok (.getfield 73, 3) := by decide +kernel
theorem dX9_layState_114 : decode cX9_layState 114 = .ok (.iload 7, 2) := by decide +kernel
theorem dX9_layState_116 : decode cX9_layState 116 = .ok (.iaload, 1) := by decide +kernel
theorem dX9_layState_117 : decode cX9_layState 117 = .ok (.iadd, 1) := by decide +kernel
theorem dX9_layState_118 : decode cX9_layState 118 = .ok (.istore 8, 2) := by decide +kernel
theorem dX9_layState_120 : decode cX9_layState 120 = .ok (.aload_n 0, 1) := by decide +kernel
theorem dX9_layState_121 : decode cX9_layState 121 = .ok (.getfield 80, 3) := by decide +kernel
theorem dX9_layState_124 : decode cX9_layState 124 = .ok (.iload 4, 2) := by decide +kernel
theorem dX9_layState_126 : decode cX9_layState 126 = .ok (.dup2, 1) := by decide +kernel
theorem dX9_layState_127 : decode cX9_layState 127 = .ok (.laload, 1) := by decide +kernel
theorem dX9_layState_128 : decode cX9_layState 128 = .ok (.iload 6, 2) := by decide +kernel
theorem dX9_layState_130 : decode cX9_layState 130 = .ok (.ifCond .ne 13, 3) := by decide +kernel
theorem dX9_layState_133 : decode cX9_layState 133 = .ok (.aload_n 0, 1) := by decide +kernel
theorem dX9_layState_134 : decode cX9_layState 134 = .ok (.getfield 80, 3) := by decide +kernel
theorem dX9_layState_137 : decode cX9_layState 137 = .ok (.iload 7, 2) := by decide +kernel
theorem dX9_layState_139 : decode cX9_layState 139 = .ok (.laload, 1) := by decide +kernel
theorem dX9_layState_140 : decode cX9_layState 140 = .ok (.goto 4, 3) := by decide +kernel
theorem dX9_layState_143 : decode cX9_layState 143 = .ok (.lconst 0, 1) := by decide +kernel
theorem dX9_layState_144 : decode cX9_layState 144 = .ok (.ladd, 1) := by decide +kernel
theorem dX9_layState_145 : decode cX9_layState 145 = .ok (.lastore, 1) := by decide +kernel
theorem dX9_layState_146 : decode cX9_layState 146 = .ok (.aload_n 0, 1) := by decide +kernel
theorem dX9_layState_147 : decode cX9_layState 147 = .ok (.getfield 76, 3) := by decide +kernel
theorem dX9_layState_150 : decode cX9_layState 150 = .ok (.iload 4, 2) := by decide +kernel
theorem dX9_layState_152 : decode cX9_layState 152 = .ok (.iload 8, 2) := by decide +kernel
theorem dX9_layState_154 : decode cX9_layState 154 = .ok (.aload_n 0, 1) := by decide +kernel
theorem dX9_layState_155 : decode cX9_layState 155 = .ok (.getfield 73, 3) := by decide +kernel
theorem dX9_layState_158 : decode cX9_layState 158 = .ok (.iload 4, 2) := by decide +kernel
theorem dX9_layState_160 : decode cX9_layState 160 = .ok (.iaload, 1) := by decide +kernel
theorem dX9_layState_161 : decode cX9_layState 161 = .ok (.if_icmp .ge 13, 3) := by decide +kernel
theorem dX9_layState_164 : decode cX9_layState 164 = .ok (.aload_n 0, 1) := by decide +kernel
theorem dX9_layState_165 : decode cX9_layState 165 = .ok (.getfield 76, 3) := by decide +kernel
theorem dX9_layState_168 : decode cX9_layState 168 = .ok (.iload 7, 2) := by decide +kernel
theorem dX9_layState_170 : decode cX9_layState 170 = .ok (.laload, 1) := by decide +kernel
theorem dX9_layState_171 : decode cX9_layState 171 = .ok (.goto 40, 3) := by decide +kernel
theorem dX9_layState_174 : decode cX9_layState 174 = .ok (.iload 8, 2) := by decide +kernel
theorem dX9_layState_176 : decode cX9_layState 176 = .ok (.aload_n 0, 1) := by decide +kernel
theorem dX9_layState_177 : decode cX9_layState 177 = .ok (.getfield 73, 3) := by decide +kernel
theorem dX9_layState_180 : decode cX9_layState 180 = .ok (.iload 4, 2) := by decide +kernel
theorem dX9_layState_182 : decode cX9_layState 182 = .ok (.iaload, 1) := by decide +kernel
theorem dX9_layState_183 : decode cX9_layState 183 = .ok (.if_icmp .ne 21, 3) := by decide +kernel
theorem dX9_layState_186 : decode cX9_layState 186 = .ok (.aload_n 0, 1) := by decide +kernel
theorem dX9_layState_187 : decode cX9_layState 187 = .ok (.getfield 76, 3) := by decide +kernel
theorem dX9_layState_190 : decode cX9_layState 190 = .ok (.iload 4, 2) := by decide +kernel
theorem dX9_layState_192 : decode cX9_layState 192 = .ok (.laload, 1) := by decide +kernel
theorem dX9_layState_193 : decode cX9_layState 193 = .ok (.aload_n 0, 1) := by decide +kernel
theorem dX9_layState_194 : decode cX9_layState 194 = .ok (.getfield 76, 3) := by decide +kernel
theorem dX9_layState_197 : decode cX9_layState 197 = .ok (.iload 7, 2) := by decide +kernel
theorem dX9_layState_199 : decode cX9_layState 199 = .ok (.laload, 1) := by decide +kernel
theorem dX9_layState_200 : decode cX9_layState 200 = .ok (.ladd, 1) := by decide +kernel
theorem dX9_layState_201 : decode cX9_layState 201 = .ok (.goto 10, 3) := by decide +kernel
theorem dX9_layState_204 : decode cX9_layState 204 = .ok (.aload_n 0, 1) := by decide +kernel
theorem dX9_layState_205 : decode cX9_layState 205 = .ok (.getfield 76, 3) := by decide +kernel
theorem dX9_layState_208 : decode cX9_layState 208 = .ok (.iload 4, 2) := by decide +kernel
theorem dX9_layState_210 : decode cX9_layState 210 = .ok (.laload, 1) := by decide +kernel
theorem dX9_layState_211 : decode cX9_layState 211 = .ok (.lastore, 1) := by decide +kernel
theorem dX9_layState_212 : decode cX9_layState 212 = .ok (.aload_n 0, 1) := by decide +kernel
theorem dX9_layState_213 : decode cX9_layState 213 = .ok (.getfield 73, 3) := by decide +kernel
theorem dX9_layState_216 : decode cX9_layState 216 = .ok (.iload 4, 2) := by decide +kernel
theorem dX9_layState_218 : decode cX9_layState 218 = .ok (.iload 8, 2) := by decide +kernel
theorem dX9_layState_220 : decode cX9_layState 220 = .ok (.aload_n 0, 1) := by decide +kernel
theorem dX9_layState_221 : decode cX9_layState 221 = .ok (.getfield 73, 3) := by decide +kernel
theorem dX9_layState_224 : decode cX9_layState 224 = .ok (.iload 4, 2) := by decide +kernel
theorem dX9_layState_226 : decode cX9_layState 226 = .ok (.iaload, 1) := by decide +kernel
theorem dX9_layState_227 : decode cX9_layState 227 = .ok (.if_icmp .ge 8, 3) := by decide +kernel
theorem dX9_layState_230 : decode cX9_layState 230 = .ok (.iload 8, 2) := by decide +kernel
theorem dX9_layState_232 : decode cX9_layState 232 = .ok (.goto 10, 3) := by decide +kernel
theorem dX9_layState_235 : decode cX9_layState 235 = .ok (.aload_n 0, 1) := by decide +kernel
theorem dX9_layState_236 : decode cX9_layState 236 = .ok (.getfield 73, 3) := by decide +kernel
theorem dX9_layState_239 : decode cX9_layState 239 = .ok (.iload 4, 2) := by decide +kernel
theorem dX9_layState_241 : decode cX9_layState 241 = .ok (.iaload, 1) := by decide +kernel
theorem dX9_layState_242 : decode cX9_layState 242 = .ok (.iastore, 1) := by decide +kernel
theorem dX9_layState_243 : decode cX9_layState 243 = .ok (.iinc 5 1, 3) := by decide +kernel
theorem dX9_layState_246 : decode cX9_layState 246 = .ok (.goto (-183), 3) := by decide +kernel
theorem dX9_layState_249 : decode cX9_layState 249 = .ok (.return_, 1) := by decide +kernel
theorem dX9_laySaying_0 : decode cX9_laySaying 0 = .ok (.aload_n 0, 1) := by decide +kernel
theorem dX9_laySaying_1 : decode cX9_laySaying 1 = .ok (.iconst 1, 1) := by decide +kernel
theorem dX9_laySaying_2 : decode cX9_laySaying 2 = .ok (.aload_n 0, 1) := by decide +kernel
theorem dX9_laySaying_3 : decode cX9_laySaying 3 = .ok (.getfield 34, 3) := by decide +kernel
theorem dX9_laySaying_6 : decode cX9_laySaying 6 = .ok (.iconst 0, 1) := by decide +kernel
theorem dX9_laySaying_7 : decode cX9_laySaying 7 = .ok (.iaload, 1) := by decide +kernel
theorem dX9_laySaying_8 : decode cX9_laySaying 8 = .ok (.ishl, 1) := by decide +kernel
theorem dX9_laySaying_9 : decode cX9_laySaying 9 = .ok (.aload_n 0, 1) := by decide +kernel
theorem dX9_laySaying_10 : decode cX9_laySaying 10 = .ok (.getfield 37, 3) := by decide +kernel
theorem dX9_laySaying_13 : decode cX9_laySaying 13 = .ok (.iconst 0, 1) := by decide +kernel
theorem dX9_laySaying_14 : decode cX9_laySaying 14 = .ok (.iaload, 1) := by decide +kernel
theorem dX9_laySaying_15 : decode cX9_laySaying 15 = .ok (.invokevirtual 198, 3) := by decide +kernel
theorem dX9_laySaying_18 : decode cX9_laySaying 18 = .ok (.iconst 0, 1) := by decide +kernel
theorem dX9_laySaying_19 : decode cX9_laySaying 19 = .ok (.istore_n 1, 1) := by decide +kernel
theorem dX9_laySaying_20 : decode cX9_laySaying 20 = .ok (.iload_n 1, 1) := by decide +kernel
theorem dX9_laySaying_21 : decode cX9_laySaying 21 = .ok (.aload_n 0, 1) := by decide +kernel
theorem dX9_laySaying_22 : decode cX9_laySaying 22 = .ok (.getfield 157, 3) := by decide +kernel
theorem dX9_laySaying_25 : decode cX9_laySaying 25 = .ok (.if_icmp .ge 21, 3) := by decide +kernel
theorem dX9_laySaying_28 : decode cX9_laySaying 28 = .ok (.aload_n 0, 1) := by decide +kernel
theorem dX9_laySaying_29 : decode cX9_laySaying 29 = .ok (.getfield 70, 3) := by decide +kernel
theorem dX9_laySaying_32 : decode cX9_laySaying 32 = .ok (.iload_n 1, 1) := by decide +kernel
theorem dX9_laySaying_33 : decode cX9_laySaying 33 = .ok (.aload_n 0, 1) := by decide +kernel
theorem dX9_laySaying_34 : decode cX9_laySaying 34 = .ok (.getfield 40, 3) := by decide +kernel
theorem dX9_laySaying_37 : decode cX9_laySaying 37 = .ok (.iload_n 1, 1) := by decide +kernel
theorem dX9_laySaying_38 : decode cX9_laySaying 38 = .ok (.iaload, 1) := by decide +kernel
theorem dX9_laySaying_39 : decode cX9_laySaying 39 = .ok (.iastore, 1) := by decide +kernel
theorem dX9_laySaying_40 : decode cX9_laySaying 40 = .ok (.iinc 1 1, 3) := by decide +kernel
theorem dX9_laySaying_43 : decode cX9_laySaying 43 = .ok (.goto (-23), 3) := by decide +kernel
theorem dX9_laySaying_46 : decode cX9_laySaying 46 = .ok (.aload_n 0, 1) := by decide +kernel
theorem dX9_laySaying_47 : decode cX9_laySaying 47 = .ok (.aload_n 0, 1) := by decide +kernel
theorem dX9_laySaying_48 : decode cX9_laySaying 48 = .ok (.getfield 37, 3) := by decide +kernel
theorem dX9_laySaying_51 : decode cX9_laySaying 51 = .ok (.iconst 0, 1) := by decide +kernel
theorem dX9_laySaying_52 : decode cX9_laySaying 52 = .ok (.iaload, 1) := by decide +kernel
theorem dX9_laySaying_53 : decode cX9_laySaying 53 = .ok (.invokevirtual 220, 3) := by decide +kernel
theorem dX9_laySaying_56 : decode cX9_laySaying 56 = .ok (.return_, 1) := by decide +kernel
theorem dX9_soundSo_0 : decode cX9_soundSo 0 = .ok (.aload_n 0, 1) := by decide +kernel
theorem dX9_soundSo_1 : decode cX9_soundSo 1 = .ok (.getfield 31, 3) := by decide +kernel
theorem dX9_soundSo_4 : decode cX9_soundSo 4 = .ok (.iconst 0, 1) := by decide +kernel
theorem dX9_soundSo_5 : decode cX9_soundSo 5 = .ok (.iaload, 1) := by decide +kernel
theorem dX9_soundSo_6 : decode cX9_soundSo 6 = .ok (.ifCond .ne 7, 3) := by decide +kernel
theorem dX9_soundSo_9 : decode cX9_soundSo 9 = .ok (.ldc2_w 223, 3) := by decide +kernel
theorem dX9_soundSo_12 : decode cX9_soundSo 12 = .ok (.lreturn, 1) := by decide +kernel
theorem dX9_soundSo_13 : decode cX9_soundSo 13 = .ok (.aload_n 0, 1) := by decide +kernel
theorem dX9_soundSo_14 : decode cX9_soundSo 14 = .ok (.invokevirtual 225, 3) := by decide +kernel
theorem dX9_soundSo_17 : decode cX9_soundSo 17 = .ok (.aload_n 0, 1) := by decide +kernel
theorem dX9_soundSo_18 : decode cX9_soundSo 18 = .ok (.getfield 80, 3) := by decide +kernel
theorem dX9_soundSo_21 : decode cX9_soundSo 21 = .ok (.iconst 0, 1) := by decide +kernel
theorem dX9_soundSo_22 : decode cX9_soundSo 22 = .ok (.laload, 1) := by decide +kernel
theorem dX9_soundSo_23 : decode cX9_soundSo 23 = .ok (.lreturn, 1) := by decide +kernel
theorem dX9_rivals_0 : decode cX9_rivals 0 = .ok (.aload_n 0, 1) := by decide +kernel
theorem dX9_rivals_1 : decode cX9_rivals 1 = .ok (.getfield 31, 3) := by decide +kernel
theorem dX9_rivals_4 : decode cX9_rivals 4 = .ok (.iconst 0, 1) := by decide +kernel
theorem dX9_rivals_5 : decode cX9_rivals 5 = .ok (.iaload, 1) := by decide +kernel
theorem dX9_rivals_6 : decode cX9_rivals 6 = .ok (.ifCond .ne 7, 3) := by decide +kernel
theorem dX9_rivals_9 : decode cX9_rivals 9 = .ok (.ldc2_w 223, 3) := by decide +kernel
theorem dX9_rivals_12 : decode cX9_rivals 12 = .ok (.lreturn, 1) := by decide +kernel
theorem dX9_rivals_13 : decode cX9_rivals 13 = .ok (.aload_n 0, 1) := by decide +kernel
theorem dX9_rivals_14 : decode cX9_rivals 14 = .ok (.invokevirtual 225, 3) := by decide +kernel
theorem dX9_rivals_17 : decode cX9_rivals 17 = .ok (.aload_n 0, 1) := by decide +kernel
theorem dX9_rivals_18 : decode cX9_rivals 18 = .ok (.getfield 76, 3) := by decide +kernel
theorem dX9_rivals_21 : decode cX9_rivals 21 = .ok (.iconst 0, 1) := by decide +kernel
theorem dX9_rivals_22 : decode cX9_rivals 22 = .ok (.laload, 1) := by decide +kernel
theorem dX9_rivals_23 : decode cX9_rivals 23 = .ok (.lreturn, 1) := by decide +kernel
theorem dX9_nearest_0 : decode cX9_nearest 0 = .ok (.iload_n 1, 1) := by decide +kernel
theorem dX9_nearest_1 : decode cX9_nearest 1 = .ok (.invokestatic 148, 3) := by decide +kernel
theorem dX9_nearest_4 : decode cX9_nearest 4 = .ok (.ifCond .ne 5, 3) := by decide +kernel
theorem dX9_nearest_7 : decode cX9_nearest 7 = .ok (.iconst (-1), 1) := by decide +kernel
theorem dX9_nearest_8 : decode cX9_nearest 8 = .ok (.ireturn, 1) := by decide +kernel
theorem dX9_nearest_9 : decode cX9_nearest 9 = .ok (.aload_n 0, 1) := by decide +kernel
theorem dX9_nearest_10 : decode cX9_nearest 10 = .ok (.getfield 31, 3) := by decide +kernel
theorem dX9_nearest_13 : decode cX9_nearest 13 = .ok (.iconst 0, 1) := by decide +kernel
theorem dX9_nearest_14 : decode cX9_nearest 14 = .ok (.iaload, 1) := by decide +kernel
theorem dX9_nearest_15 : decode cX9_nearest 15 = .ok (.ifCond .ne 6, 3) := by decide +kernel
theorem dX9_nearest_18 : decode cX9_nearest 18 = .ok (.bipush (-2), 2) := by decide +kernel
theorem dX9_nearest_20 : decode cX9_nearest 20 = .ok (.ireturn, 1) := by decide +kernel
theorem dX9_nearest_21 : decode cX9_nearest 21 = .ok (.aload_n 0, 1) := by decide +kernel
theorem dX9_nearest_22 : decode cX9_nearest 22 = .ok (.invokevirtual 225, 3) := by decide +kernel
theorem dX9_nearest_25 : decode cX9_nearest 25 = .ok (.aload_n 0, 1) := by decide +kernel
theorem dX9_nearest_26 : decode cX9_nearest 26 = .ok (.getfield 37, 3) := by decide +kernel
theorem dX9_nearest_29 : decode cX9_nearest 29 = .ok (.iconst 0, 1) := by decide +kernel
theorem dX9_nearest_30 : decode cX9_nearest 30 = .ok (.iaload, 1) := by decide +kernel
theorem dX9_nearest_31 : decode cX9_nearest 31 = .ok (.istore_n 2, 1) := by decide +kernel
theorem dX9_nearest_32 : decode cX9_nearest 32 = .ok (.iconst 0, 1) := by decide +kernel
theorem dX9_nearest_33 : decode cX9_nearest 33 = .ok (.istore_n 3, 1) := by decide +kernel
theorem dX9_nearest_34 : decode cX9_nearest 34 = .ok (.iload_n 3, 1) := by decide +kernel
theorem dX9_nearest_35 : decode cX9_nearest 35 = .ok (.iload_n 2, 1) := by decide +kernel
theorem dX9_nearest_36 : decode cX9_nearest 36 = .ok (.if_icmp .ge 107, 3) := by decide +kernel
theorem dX9_nearest_39 : decode cX9_nearest 39 = .ok (.iload_n 3, 1) := by decide +kernel
theorem dX9_nearest_40 : decode cX9_nearest 40 = .ok (.iconst 1, 1) := by decide +kernel
theorem dX9_nearest_41 : decode cX9_nearest 41 = .ok (.if_icmp .le 14, 3) := by decide +kernel
theorem dX9_nearest_44 : decode cX9_nearest 44 = .ok (.aload_n 0, 1) := by decide +kernel
theorem dX9_nearest_45 : decode cX9_nearest 45 = .ok (.getfield 67, 3) := by decide +kernel
theorem dX9_nearest_48 : decode cX9_nearest 48 = .ok (.iload_n 3, 1) := by decide +kernel
theorem dX9_nearest_49 : decode cX9_nearest 49 = .ok (.iconst 2, 1) := by decide +kernel
theorem dX9_nearest_50 : decode cX9_nearest 50 = .ok (.isub, 1) := by decide +kernel
theorem dX9_nearest_51 : decode cX9_nearest 51 = .ok (.iaload, 1) := by decide +kernel
theorem dX9_nearest_52 : decode cX9_nearest 52 = .ok (.goto 4, 3) := by decide +kernel
theorem dX9_nearest_55 : decode cX9_nearest 55 = .ok (.iconst 0, 1) := by decide +kernel
theorem dX9_nearest_56 : decode cX9_nearest 56 = .ok (.istore 4, 2) := by decide +kernel
theorem dX9_nearest_58 : decode cX9_nearest 58 = .ok (.iload_n 3, 1) := by decide +kernel
theorem dX9_nearest_59 : decode cX9_nearest 59 = .ok (.ifCond .le 14, 3) := by decide +kernel
theorem dX9_nearest_62 : decode cX9_nearest 62 = .ok (.aload_n 0, 1) := by decide +kernel
theorem dX9_nearest_63 : decode cX9_nearest 63 = .ok (.getfield 67, 3) := by decide +kernel
theorem dX9_nearest_66 : decode cX9_nearest 66 = .ok (.iload_n 3, 1) := by decide +kernel
theorem dX9_nearest_67 : decode cX9_nearest 67 = .ok (.iconst 1, 1) := by decide +kernel
theorem dX9_nearest_68 : decode cX9_nearest 68 = .ok (.isub, 1) := by decide +kernel
theorem dX9_nearest_69 : decode cX9_nearest 69 = .ok (.iaload, 1) := by decide +kernel
theorem dX9_nearest_70 : decode cX9_nearest 70 = .ok (.goto 4, 3) := by decide +kernel
theorem dX9_nearest_73 : decode cX9_nearest 73 = .ok (.iconst 0, 1) := by decide +kernel
theorem dX9_nearest_74 : decode cX9_nearest 74 = .ok (.istore 5, 2) := by decide +kernel
theorem dX9_nearest_76 : decode cX9_nearest 76 = .ok (.iconst 0, 1) := by decide +kernel
theorem dX9_nearest_77 : decode cX9_nearest 77 = .ok (.istore 6, 2) := by decide +kernel
theorem dX9_nearest_79 : decode cX9_nearest 79 = .ok (.aload_n 0, 1) := by decide +kernel
theorem dX9_nearest_80 : decode cX9_nearest 80 = .ok (.getfield 67, 3) := by decide +kernel
theorem dX9_nearest_83 : decode cX9_nearest 83 = .ok (.iload_n 3, 1) := by decide +kernel
theorem dX9_nearest_84 : decode cX9_nearest 84 = .ok (.iconst 0, 1) := by decide +kernel
theorem dX9_nearest_85 : decode cX9_nearest 85 = .ok (.iastore, 1) := by decide +kernel
theorem dX9_nearest_86 : decode cX9_nearest 86 = .ok (.aload_n 0, 1) := by decide +kernel
theorem dX9_nearest_87 : decode cX9_nearest 87 = .ok (.iload_n 3, 1) := by decide +kernel
theorem dX9_nearest_88 : decode cX9_nearest 88 = .ok (.invokevirtual 217, 3) := by decide +kernel
theorem dX9_nearest_91 : decode cX9_nearest 91 = .ok (.aload_n 0, 1) := by decide +kernel
theorem dX9_nearest_92 : decode cX9_nearest 92 = .ok (.getfield 73, 3) := by decide +kernel
theorem dX9_nearest_95 : decode cX9_nearest 95 = .ok (.iload_n 3, 1) := by decide +kernel
theorem dX9_nearest_96 : decode cX9_nearest 96 = .ok (.iconst 1, 1) := by decide +kernel
theorem dX9_nearest_97 : decode cX9_nearest 97 = .ok (.iadd, 1) := by decide +kernel
theorem dX9_nearest_98 : decode cX9_nearest 98 = .ok (.iload 5, 2) := by decide +kernel
theorem dX9_nearest_100 : decode cX9_nearest 100 = .ok (.iload 6, 2) := by decide +kernel
theorem dX9_nearest_102 : decode cX9_nearest 102 = .ok (.invokestatic 213, 3) := by decide +kernel
theorem dX9_nearest_105 : decode cX9_nearest 105 = .ok (.iaload, 1) := by decide +kernel
theorem dX9_nearest_106 : decode cX9_nearest 106 = .ok (.iadd, 1) := by decide +kernel
theorem dX9_nearest_107 : decode cX9_nearest 107 = .ok (.aload_n 0, 1) := by decide +kernel
theorem dX9_nearest_108 : decode cX9_nearest 108 = .ok (.getfield 73, 3) := by decide +kernel
theorem dX9_nearest_111 : decode cX9_nearest 111 = .ok (.iload_n 3, 1) := by decide +kernel
theorem dX9_nearest_112 : decode cX9_nearest 112 = .ok (.iload 4, 2) := by decide +kernel
theorem dX9_nearest_114 : decode cX9_nearest 114 = .ok (.iload 5, 2) := by decide +kernel
theorem dX9_nearest_116 : decode cX9_nearest 116 = .ok (.invokestatic 213, 3) := by decide +kernel
theorem dX9_nearest_119 : decode cX9_nearest 119 = .ok (.iaload, 1) := by decide +kernel
theorem dX9_nearest_120 : decode cX9_nearest 120 = .ok (.if_icmp .eq 17, 3) := by decide +kernel
theorem dX9_nearest_123 : decode cX9_nearest 123 = .ok (.iinc 6 1, 3) := by decide +kernel
theorem dX9_nearest_126 : decode cX9_nearest 126 = .ok (.aload_n 0, 1) := by decide +kernel
theorem dX9_nearest_127 : decode cX9_nearest 127 = .ok (.getfield 67, 3) := by decide +kernel
theorem dX9_nearest_130 : decode cX9_nearest 130 = .ok (.iload_n 3, 1) := by decide +kernel
theorem dX9_nearest_131 : decode cX9_nearest 131 = .ok (.iload 6, 2) := by decide +kernel
theorem dX9_nearest_133 : decode cX9_nearest 133 = .ok (.iastore, 1) := by decide +kernel
theorem dX9_nearest_134 : decode cX9_nearest 134 = .ok (.goto (-48), 3) := by decide +kernel
theorem dX9_nearest_137 : decode cX9_nearest 137 = .ok (.iinc 3 1, 3) := by decide +kernel
theorem dX9_nearest_140 : decode cX9_nearest 140 = .ok (.goto (-106), 3) := by decide +kernel
theorem dX9_nearest_143 : decode cX9_nearest 143 = .ok (.aload_n 0, 1) := by decide +kernel
theorem dX9_nearest_144 : decode cX9_nearest 144 = .ok (.getfield 25, 3) := by decide +kernel
theorem dX9_nearest_147 : decode cX9_nearest 147 = .ok (.iload_n 1, 1) := by decide +kernel
theorem dX9_nearest_148 : decode cX9_nearest 148 = .ok (.iload_n 2, 1) := by decide +kernel
theorem dX9_nearest_149 : decode cX9_nearest 149 = .ok (.iastore, 1) := by decide +kernel
theorem dX9_nearest_150 : decode cX9_nearest 150 = .ok (.iconst 0, 1) := by decide +kernel
theorem dX9_nearest_151 : decode cX9_nearest 151 = .ok (.istore_n 3, 1) := by decide +kernel
theorem dX9_nearest_152 : decode cX9_nearest 152 = .ok (.iload_n 3, 1) := by decide +kernel
theorem dX9_nearest_153 : decode cX9_nearest 153 = .ok (.iload_n 2, 1) := by decide +kernel
theorem dX9_nearest_154 : decode cX9_nearest 154 = .ok (.if_icmp .ge 26, 3) := by decide +kernel
theorem dX9_nearest_157 : decode cX9_nearest 157 = .ok (.aload_n 0, 1) := by decide +kernel
theorem dX9_nearest_158 : decode cX9_nearest 158 = .ok (.getfield 28, 3) := by decide +kernel
theorem dX9_nearest_161 : decode cX9_nearest 161 = .ok (.bipush 8, 2) := by decide +kernel
theorem dX9_nearest_163 : decode cX9_nearest 163 = .ok (.iload_n 1, 1) := by decide +kernel
theorem dX9_nearest_164 : decode cX9_nearest 164 = .ok (.imul, 1) := by decide +kernel
theorem dX9_nearest_165 : decode cX9_nearest 165 = .ok (.iload_n 3, 1) := by decide +kernel
theorem dX9_nearest_166 : decode cX9_nearest 166 = .ok (.iadd, 1) := by decide +kernel
theorem dX9_nearest_167 : decode cX9_nearest 167 = .ok (.aload_n 0, 1) := by decide +kernel
theorem dX9_nearest_168 : decode cX9_nearest 168 = .ok (.getfield 67, 3) := by decide +kernel
theorem dX9_nearest_171 : decode cX9_nearest 171 = .ok (.iload_n 3, 1) := by decide +kernel
theorem dX9_nearest_172 : decode cX9_nearest 172 = .ok (.iaload, 1) := by decide +kernel
theorem dX9_nearest_173 : decode cX9_nearest 173 = .ok (.iastore, 1) := by decide +kernel
theorem dX9_nearest_174 : decode cX9_nearest 174 = .ok (.iinc 3 1, 3) := by decide +kernel
theorem dX9_nearest_177 : decode cX9_nearest 177 = .ok (.goto (-25), 3) := by decide +kernel
theorem dX9_nearest_180 : decode cX9_nearest 180 = .ok (.aload_n 0, 1) := by decide +kernel
theorem dX9_nearest_181 : decode cX9_nearest 181 = .ok (.getfield 73, 3) := by decide +kernel
theorem dX9_nearest_184 : decode cX9_nearest 184 = .ok (.iconst 0, 1) := by decide +kernel
theorem dX9_nearest_185 : decode cX9_nearest 185 = .ok (.iaload, 1) := by decide +kernel
theorem dX9_nearest_186 : decode cX9_nearest 186 = .ok (.ireturn, 1) := by decide +kernel
theorem dX9_farOf_0 : decode cX9_farOf 0 = .ok (.aload_n 0, 1) := by decide +kernel
theorem dX9_farOf_1 : decode cX9_farOf 1 = .ok (.getfield 25, 3) := by decide +kernel
theorem dX9_farOf_4 : decode cX9_farOf 4 = .ok (.iload_n 1, 1) := by decide +kernel
theorem dX9_farOf_5 : decode cX9_farOf 5 = .ok (.iaload, 1) := by decide +kernel
theorem dX9_farOf_6 : decode cX9_farOf 6 = .ok (.istore_n 3, 1) := by decide +kernel
theorem dX9_farOf_7 : decode cX9_farOf 7 = .ok (.aload_n 0, 1) := by decide +kernel
theorem dX9_farOf_8 : decode cX9_farOf 8 = .ok (.getfield 13, 3) := by decide +kernel
theorem dX9_farOf_11 : decode cX9_farOf 11 = .ok (.iconst 0, 1) := by decide +kernel
theorem dX9_farOf_12 : decode cX9_farOf 12 = .ok (.iaload, 1) := by decide +kernel
theorem dX9_farOf_13 : decode cX9_farOf 13 = .ok (.iconst 2, 1) := by decide +kernel
theorem dX9_farOf_14 : decode cX9_farOf 14 = .ok (.if_icmp .ge 6, 3) := by decide +kernel
theorem dX9_farOf_17 : decode cX9_farOf 17 = .ok (.bipush (-4), 2) := by decide +kernel
theorem dX9_farOf_19 : decode cX9_farOf 19 = .ok (.ireturn, 1) := by decide +kernel
theorem dX9_farOf_20 : decode cX9_farOf 20 = .ok (.aload_n 0, 1) := by decide +kernel
theorem dX9_farOf_21 : decode cX9_farOf 21 = .ok (.iload_n 2, 1) := by decide +kernel
theorem dX9_farOf_22 : decode cX9_farOf 22 = .ok (.iload_n 3, 1) := by decide +kernel
theorem dX9_farOf_23 : decode cX9_farOf 23 = .ok (.invokevirtual 198, 3) := by decide +kernel
theorem dX9_farOf_26 : decode cX9_farOf 26 = .ok (.aload_n 0, 1) := by decide +kernel
theorem dX9_farOf_27 : decode cX9_farOf 27 = .ok (.iload_n 1, 1) := by decide +kernel
theorem dX9_farOf_28 : decode cX9_farOf 28 = .ok (.invokevirtual 201, 3) := by decide +kernel
theorem dX9_farOf_31 : decode cX9_farOf 31 = .ok (.iconst 0, 1) := by decide +kernel
theorem dX9_farOf_32 : decode cX9_farOf 32 = .ok (.istore 4, 2) := by decide +kernel
theorem dX9_farOf_34 : decode cX9_farOf 34 = .ok (.iload 4, 2) := by decide +kernel
theorem dX9_farOf_36 : decode cX9_farOf 36 = .ok (.aload_n 0, 1) := by decide +kernel
theorem dX9_farOf_37 : decode cX9_farOf 37 = .ok (.getfield 157, 3) := by decide +kernel
theorem dX9_farOf_40 : decode cX9_farOf 40 = .ok (.if_icmp .ge 22, 3) := by decide +kernel
theorem dX9_farOf_43 : decode cX9_farOf 43 = .ok (.aload_n 0, 1) := by decide +kernel
theorem dX9_farOf_44 : decode cX9_farOf 44 = .ok (.getfield 70, 3) := by decide +kernel
theorem dX9_farOf_47 : decode cX9_farOf 47 = .ok (.iload 4, 2) := by decide +kernel
theorem dX9_farOf_49 : decode cX9_farOf 49 = .ok (.aload_n 0, 1) := by decide +kernel
theorem dX9_farOf_50 : decode cX9_farOf 50 = .ok (.iload 4, 2) := by decide +kernel
theorem dX9_farOf_52 : decode cX9_farOf 52 = .ok (.invokevirtual 204, 3) := by decide +kernel
theorem dX9_farOf_55 : decode cX9_farOf 55 = .ok (.iastore, 1) := by decide +kernel
theorem dX9_farOf_56 : decode cX9_farOf 56 = .ok (.iinc 4 1, 3) := by decide +kernel
theorem dX9_farOf_59 : decode cX9_farOf 59 = .ok (.goto (-25), 3) := by decide +kernel
theorem dX9_farOf_62 : decode cX9_farOf 62 = .ok (.aload_n 0, 1) := by decide +kernel
theorem dX9_farOf_63 : decode cX9_farOf 63 = .ok (.iload_n 3, 1) := by decide +kernel
theorem dX9_farOf_64 : decode cX9_farOf 64 = .ok (.invokevirtual 220, 3) := by decide +kernel
theorem dX9_farOf_67 : decode cX9_farOf 67 = .ok (.ldc 216, 2) := by decide +kernel
theorem dX9_farOf_69 : decode cX9_farOf 69 = .ok (.istore 4, 2) := by decide +kernel
theorem dX9_farOf_71 : decode cX9_farOf 71 = .ok (.iconst 0, 1) := by decide +kernel
theorem dX9_farOf_72 : decode cX9_farOf 72 = .ok (.istore 5, 2) := by decide +kernel
theorem dX9_farOf_74 : decode cX9_farOf 74 = .ok (.iload 5, 2) := by decide +kernel
theorem dX9_farOf_76 : decode cX9_farOf 76 = .ok (.iload_n 3, 1) := by decide +kernel
theorem dX9_farOf_77 : decode cX9_farOf 77 = .ok (.if_icmp .ge 126, 3) := by decide +kernel
theorem dX9_farOf_80 : decode cX9_farOf 80 = .ok (.aload_n 0, 1) := by decide +kernel
theorem dX9_farOf_81 : decode cX9_farOf 81 = .ok (.iload_n 1, 1) := by decide +kernel
theorem dX9_farOf_82 : decode cX9_farOf 82 = .ok (.invokevirtual 201, 3) := by decide +kernel
theorem dX9_farOf_85 : decode cX9_farOf 85 = .ok (.iload 5, 2) := by decide +kernel
theorem dX9_farOf_87 : decode cX9_farOf 87 = .ok (.ifCond .le 15, 3) := by decide +kernel
theorem dX9_farOf_90 : decode cX9_farOf 90 = .ok (.aload_n 0, 1) := by decide +kernel
theorem dX9_farOf_91 : decode cX9_farOf 91 = .ok (.getfield 67, 3) := by decide +kernel
theorem dX9_farOf_94 : decode cX9_farOf 94 = .ok (.iload 5, 2) := by decide +kernel
theorem dX9_farOf_96 : decode cX9_farOf 96 = .ok (.iconst 1, 1) := by decide +kernel
theorem dX9_farOf_97 : decode cX9_farOf 97 = .ok (.isub, 1) := by decide +kernel
theorem dX9_farOf_98 : decode cX9_farOf 98 = .ok (.iaload, 1) := by decide +kernel
theorem dX9_farOf_99 : decode cX9_farOf 99 = .ok (.goto 4, 3) := by decide +kernel
theorem dX9_farOf_102 : decode cX9_farOf 102 = .ok (.iconst 0, 1) := by decide +kernel
theorem dX9_farOf_103 : decode cX9_farOf 103 = .ok (.istore 6, 2) := by decide +kernel
theorem dX9_farOf_105 : decode cX9_farOf 105 = .ok (.iconst 0, 1) := by decide +kernel
theorem dX9_farOf_106 : decode cX9_farOf 106 = .ok (.istore 7, 2) := by decide +kernel
theorem dX9_farOf_108 : decode cX9_farOf 108 = .ok (.iload 7, 2) := by decide +kernel
theorem dX9_farOf_110 : decode cX9_farOf 110 = .ok (.aload_n 0, 1) := by decide +kernel
theorem dX9_farOf_111 : decode cX9_farOf 111 = .ok (.getfield 13, 3) := by decide +kernel
theorem dX9_farOf_114 : decode cX9_farOf 114 = .ok (.iconst 0, 1) := by decide +kernel
theorem dX9_farOf_115 : decode cX9_farOf 115 = .ok (.iaload, 1) := by decide +kernel
theorem dX9_farOf_116 : decode cX9_farOf 116 = .ok (.if_icmp .ge 81, 3) := by decide +kernel
theorem dX9_farOf_119 : decode cX9_farOf 119 = .ok (.aload_n 0, 1) := by decide +kernel
theorem dX9_farOf_120 : decode cX9_farOf 120 = .ok (.getfield 67, 3) := by decide +kernel
theorem dX9_farOf_123 : decode cX9_farOf 123 = .ok (.iload 5, 2) := by decide +kernel
theorem dX9_farOf_125 : decode cX9_farOf 125 = .ok (.iload 7, 2) := by decide +kernel
theorem dX9_farOf_127 : decode cX9_farOf 127 = .ok (.iastore, 1) := by decide +kernel
theorem dX9_farOf_128 : decode cX9_farOf 128 = .ok (.iload 7, 2) := by decide +kernel
theorem dX9_farOf_130 : decode cX9_farOf 130 = .ok (.aload_n 0, 1) := by decide +kernel
theorem dX9_farOf_131 : decode cX9_farOf 131 = .ok (.getfield 28, 3) := by decide +kernel
theorem dX9_farOf_134 : decode cX9_farOf 134 = .ok (.bipush 8, 2) := by decide +kernel
theorem dX9_farOf_136 : decode cX9_farOf 136 = .ok (.iload_n 1, 1) := by decide +kernel
theorem dX9_farOf_137 : decode cX9_farOf 137 = .ok (.imul, 1) := by decide +kernel
theorem dX9_farOf_138 : decode cX9_farOf 138 = .ok (.iload 5, 2) := by decide +kernel
theorem dX9_farOf_140 : decode cX9_farOf 140 = .ok (.iadd, 1) := by decide +kernel
theorem dX9_farOf_141 : decode cX9_farOf 141 = .ok (.iaload, 1) := by decide +kernel
theorem dX9_farOf_142 : decode cX9_farOf 142 = .ok (.if_icmp .ne 8, 3) := by decide +kernel
theorem dX9_farOf_145 : decode cX9_farOf 145 = .ok (.iload 4, 2) := by decide +kernel
theorem dX9_farOf_147 : decode cX9_farOf 147 = .ok (.goto 26, 3) := by decide +kernel
theorem dX9_farOf_150 : decode cX9_farOf 150 = .ok (.aload_n 0, 1) := by decide +kernel
theorem dX9_farOf_151 : decode cX9_farOf 151 = .ok (.iload 5, 2) := by decide +kernel
theorem dX9_farOf_153 : decode cX9_farOf 153 = .ok (.invokevirtual 217, 3) := by decide +kernel
theorem dX9_farOf_156 : decode cX9_farOf 156 = .ok (.aload_n 0, 1) := by decide +kernel
theorem dX9_farOf_157 : decode cX9_farOf 157 = .ok (.getfield 73, 3) := by decide +kernel
theorem dX9_farOf_160 : decode cX9_farOf 160 = .ok (.iload 5, 2) := by decide +kernel
theorem dX9_farOf_162 : decode cX9_farOf 162 = .ok (.iconst 1, 1) := by decide +kernel
theorem dX9_farOf_163 : decode cX9_farOf 163 = .ok (.iadd, 1) := by decide +kernel
theorem dX9_farOf_164 : decode cX9_farOf 164 = .ok (.iload 6, 2) := by decide +kernel
theorem dX9_farOf_166 : decode cX9_farOf 166 = .ok (.iload 7, 2) := by decide +kernel
theorem dX9_farOf_168 : decode cX9_farOf 168 = .ok (.invokestatic 213, 3) := by decide +kernel
theorem dX9_farOf_171 : decode cX9_farOf 171 = .ok (.iaload, 1) := by decide +kernel
theorem dX9_farOf_172 : decode cX9_farOf 172 = .ok (.iadd, 1) := by decide +kernel
theorem dX9_farOf_173 : decode cX9_farOf 173 = .ok (.istore 8, 2) := by decide +kernel
theorem dX9_farOf_175 : decode cX9_farOf 175 = .ok (.iload 8, 2) := by decide +kernel
theorem dX9_farOf_177 : decode cX9_farOf 177 = .ok (.iload 4, 2) := by decide +kernel
theorem dX9_farOf_179 : decode cX9_farOf 179 = .ok (.if_icmp .ge 8, 3) := by decide +kernel
theorem dX9_farOf_182 : decode cX9_farOf 182 = .ok (.iload 8, 2) := by decide +kernel
theorem dX9_farOf_184 : decode cX9_farOf 184 = .ok (.goto 5, 3) := by decide +kernel
theorem dX9_farOf_187 : decode cX9_farOf 187 = .ok (.iload 4, 2) := by decide +kernel
theorem dX9_farOf_189 : decode cX9_farOf 189 = .ok (.istore 4, 2) := by decide +kernel
theorem dX9_farOf_191 : decode cX9_farOf 191 = .ok (.iinc 7 1, 3) := by decide +kernel
theorem dX9_farOf_194 : decode cX9_farOf 194 = .ok (.goto (-86), 3) := by decide +kernel
theorem dX9_farOf_197 : decode cX9_farOf 197 = .ok (.iinc 5 1, 3) := by decide +kernel
theorem dX9_farOf_200 : decode cX9_farOf 200 = .ok (.goto (-126), 3) := by decide +kernel
theorem dX9_farOf_203 : decode cX9_farOf 203 = .ok (.iload 4, 2) := by decide +kernel
theorem dX9_farOf_205 : decode cX9_farOf 205 = .ok (.ireturn, 1) := by decide +kernel
theorem dX9_far_0 : decode cX9_far 0 = .ok (.iload_n 1, 1) := by decide +kernel
theorem dX9_far_1 : decode cX9_far 1 = .ok (.invokestatic 148, 3) := by decide +kernel
theorem dX9_far_4 : decode cX9_far 4 = .ok (.ifCond .eq 27, 3) := by decide +kernel
theorem dX9_far_7 : decode cX9_far 7 = .ok (.iload_n 2, 1) := by decide +kernel
theorem dX9_far_8 : decode cX9_far 8 = .ok (.i2l, 1) := by decide +kernel
theorem dX9_far_9 : decode cX9_far 9 = .ok (.lconst 0, 1) := by decide +kernel
theorem dX9_far_10 : decode cX9_far 10 = .ok (.ldc2_w 228, 3) := by decide +kernel
theorem dX9_far_13 : decode cX9_far 13 = .ok (.invokestatic 92, 3) := by decide +kernel
theorem dX9_far_16 : decode cX9_far 16 = .ok (.ifCond .eq 15, 3) := by decide +kernel
theorem dX9_far_19 : decode cX9_far 19 = .ok (.iload_n 3, 1) := by decide +kernel
theorem dX9_far_20 : decode cX9_far 20 = .ok (.i2l, 1) := by decide +kernel
theorem dX9_far_21 : decode cX9_far 21 = .ok (.lconst 0, 1) := by decide +kernel
theorem dX9_far_22 : decode cX9_far 22 = .ok (.ldc2_w 113, 3) := by decide +kernel
theorem dX9_far_25 : decode cX9_far 25 = .ok (.invokestatic 92, 3) := by decide +kernel
theorem dX9_far_28 : decode cX9_far 28 = .ok (.ifCond .ne 5, 3) := by decide +kernel
theorem dX9_far_31 : decode cX9_far 31 = .ok (.iconst (-1), 1) := by decide +kernel
theorem dX9_far_32 : decode cX9_far 32 = .ok (.ireturn, 1) := by decide +kernel
theorem dX9_far_33 : decode cX9_far 33 = .ok (.aload_n 0, 1) := by decide +kernel
theorem dX9_far_34 : decode cX9_far 34 = .ok (.getfield 25, 3) := by decide +kernel
theorem dX9_far_37 : decode cX9_far 37 = .ok (.iload_n 1, 1) := by decide +kernel
theorem dX9_far_38 : decode cX9_far 38 = .ok (.iaload, 1) := by decide +kernel
theorem dX9_far_39 : decode cX9_far 39 = .ok (.ifCond .ne 6, 3) := by decide +kernel
theorem dX9_far_42 : decode cX9_far 42 = .ok (.bipush (-2), 2) := by decide +kernel
theorem dX9_far_44 : decode cX9_far 44 = .ok (.ireturn, 1) := by decide +kernel
theorem dX9_far_45 : decode cX9_far 45 = .ok (.aload_n 0, 1) := by decide +kernel
theorem dX9_far_46 : decode cX9_far 46 = .ok (.iload_n 1, 1) := by decide +kernel
theorem dX9_far_47 : decode cX9_far 47 = .ok (.iload_n 2, 1) := by decide +kernel
theorem dX9_far_48 : decode cX9_far 48 = .ok (.invokevirtual 230, 3) := by decide +kernel
theorem dX9_far_51 : decode cX9_far 51 = .ok (.istore 4, 2) := by decide +kernel
theorem dX9_far_53 : decode cX9_far 53 = .ok (.iload 4, 2) := by decide +kernel
theorem dX9_far_55 : decode cX9_far 55 = .ok (.iconst 1, 1) := by decide +kernel
theorem dX9_far_56 : decode cX9_far 56 = .ok (.if_icmp .ge 15, 3) := by decide +kernel
theorem dX9_far_59 : decode cX9_far 59 = .ok (.iload 4, 2) := by decide +kernel
theorem dX9_far_61 : decode cX9_far 61 = .ok (.ifCond .ge 8, 3) := by decide +kernel
theorem dX9_far_64 : decode cX9_far 64 = .ok (.bipush (-4), 2) := by decide +kernel
theorem dX9_far_66 : decode cX9_far 66 = .ok (.goto 4, 3) := by decide +kernel
theorem dX9_far_69 : decode cX9_far 69 = .ok (.iconst 0, 1) := by decide +kernel
theorem dX9_far_70 : decode cX9_far 70 = .ok (.ireturn, 1) := by decide +kernel
theorem dX9_far_71 : decode cX9_far 71 = .ok (.iload_n 3, 1) := by decide +kernel
theorem dX9_far_72 : decode cX9_far 72 = .ok (.ifCond .ne 8, 3) := by decide +kernel
theorem dX9_far_75 : decode cX9_far 75 = .ok (.iload 4, 2) := by decide +kernel
theorem dX9_far_77 : decode cX9_far 77 = .ok (.goto 21, 3) := by decide +kernel
theorem dX9_far_80 : decode cX9_far 80 = .ok (.iload_n 3, 1) := by decide +kernel
theorem dX9_far_81 : decode cX9_far 81 = .ok (.iconst 1, 1) := by decide +kernel
theorem dX9_far_82 : decode cX9_far 82 = .ok (.if_icmp .ne 10, 3) := by decide +kernel
theorem dX9_far_85 : decode cX9_far 85 = .ok (.iload 4, 2) := by decide +kernel
theorem dX9_far_87 : decode cX9_far 87 = .ok (.iconst 1, 1) := by decide +kernel
theorem dX9_far_88 : decode cX9_far 88 = .ok (.isub, 1) := by decide +kernel
theorem dX9_far_89 : decode cX9_far 89 = .ok (.goto 9, 3) := by decide +kernel
theorem dX9_far_92 : decode cX9_far 92 = .ok (.iload 4, 2) := by decide +kernel
theorem dX9_far_94 : decode cX9_far 94 = .ok (.iconst 1, 1) := by decide +kernel
theorem dX9_far_95 : decode cX9_far 95 = .ok (.isub, 1) := by decide +kernel
theorem dX9_far_96 : decode cX9_far 96 = .ok (.iconst 2, 1) := by decide +kernel
theorem dX9_far_97 : decode cX9_far 97 = .ok (.idiv, 1) := by decide +kernel
theorem dX9_far_98 : decode cX9_far 98 = .ok (.ireturn, 1) := by decide +kernel
theorem dX9_hoursOf_0 : decode cX9_hoursOf 0 = .ok (.iconst 0, 1) := by decide +kernel
theorem dX9_hoursOf_1 : decode cX9_hoursOf 1 = .ok (.istore_n 2, 1) := by decide +kernel
theorem dX9_hoursOf_2 : decode cX9_hoursOf 2 = .ok (.iconst 0, 1) := by decide +kernel
theorem dX9_hoursOf_3 : decode cX9_hoursOf 3 = .ok (.istore_n 3, 1) := by decide +kernel
theorem dX9_hoursOf_4 : decode cX9_hoursOf 4 = .ok (.iload_n 3, 1) := by decide +kernel
theorem dX9_hoursOf_5 : decode cX9_hoursOf 5 = .ok (.iconst 5, 1) := by decide +kernel
theorem dX9_hoursOf_6 : decode cX9_hoursOf 6 = .ok (.if_icmp .ge 30, 3) := by decide +kernel
theorem dX9_hoursOf_9 : decode cX9_hoursOf 9 = .ok (.iload_n 2, 1) := by decide +kernel
theorem dX9_hoursOf_10 : decode cX9_hoursOf 10 = .ok (.iload_n 1, 1) := by decide +kernel
theorem dX9_hoursOf_11 : decode cX9_hoursOf 11 = .ok (.iload_n 3, 1) := by decide +kernel
theorem dX9_hoursOf_12 : decode cX9_hoursOf 12 = .ok (.invokestatic 176, 3) := by decide +kernel
theorem dX9_hoursOf_15 : decode cX9_hoursOf 15 = .ok (.ifCond .eq 12, 3) := by decide +kernel
theorem dX9_hoursOf_18 : decode cX9_hoursOf 18 = .ok (.aload_n 0, 1) := by decide +kernel
theorem dX9_hoursOf_19 : decode cX9_hoursOf 19 = .ok (.getfield 22, 3) := by decide +kernel
theorem dX9_hoursOf_22 : decode cX9_hoursOf 22 = .ok (.iload_n 3, 1) := by decide +kernel
theorem dX9_hoursOf_23 : decode cX9_hoursOf 23 = .ok (.iaload, 1) := by decide +kernel
theorem dX9_hoursOf_24 : decode cX9_hoursOf 24 = .ok (.goto 4, 3) := by decide +kernel
theorem dX9_hoursOf_27 : decode cX9_hoursOf 27 = .ok (.iconst 0, 1) := by decide +kernel
theorem dX9_hoursOf_28 : decode cX9_hoursOf 28 = .ok (.iadd, 1) := by decide +kernel
theorem dX9_hoursOf_29 : decode cX9_hoursOf 29 = .ok (.istore_n 2, 1) := by decide +kernel
theorem dX9_hoursOf_30 : decode cX9_hoursOf 30 = .ok (.iinc 3 1, 3) := by decide +kernel
theorem dX9_hoursOf_33 : decode cX9_hoursOf 33 = .ok (.goto (-29), 3) := by decide +kernel
theorem dX9_hoursOf_36 : decode cX9_hoursOf 36 = .ok (.iload_n 2, 1) := by decide +kernel
theorem dX9_hoursOf_37 : decode cX9_hoursOf 37 = .ok (.ireturn, 1) := by decide +kernel
theorem dX9_best_0 : decode cX9_best 0 = .ok (.iload_n 1, 1) := by decide +kernel
theorem dX9_best_1 : decode cX9_best 1 = .ok (.invokestatic 148, 3) := by decide +kernel
theorem dX9_best_4 : decode cX9_best 4 = .ok (.ifCond .eq 25, 3) := by decide +kernel
theorem dX9_best_7 : decode cX9_best 7 = .ok (.iload_n 2, 1) := by decide +kernel
theorem dX9_best_8 : decode cX9_best 8 = .ok (.i2l, 1) := by decide +kernel
theorem dX9_best_9 : decode cX9_best 9 = .ok (.lconst 0, 1) := by decide +kernel
theorem dX9_best_10 : decode cX9_best 10 = .ok (.ldc2_w 233, 3) := by decide +kernel
theorem dX9_best_13 : decode cX9_best 13 = .ok (.invokestatic 92, 3) := by decide +kernel
theorem dX9_best_16 : decode cX9_best 16 = .ok (.ifCond .eq 13, 3) := by decide +kernel
theorem dX9_best_19 : decode cX9_best 19 = .ok (.iload_n 3, 1) := by decide +kernel
theorem dX9_best_20 : decode cX9_best 20 = .ok (.i2l, 1) := by decide +kernel
theorem dX9_best_21 : decode cX9_best 21 = .ok (.lconst 0, 1) := by decide +kernel
theorem dX9_best_22 : decode cX9_best 22 = .ok (.lconst 1, 1) := by decide +kernel
theorem dX9_best_23 : decode cX9_best 23 = .ok (.invokestatic 92, 3) := by decide +kernel
theorem dX9_best_26 : decode cX9_best 26 = .ok (.ifCond .ne 5, 3) := by decide +kernel
theorem dX9_best_29 : decode cX9_best 29 = .ok (.iconst (-1), 1) := by decide +kernel
theorem dX9_best_30 : decode cX9_best 30 = .ok (.ireturn, 1) := by decide +kernel
theorem dX9_best_31 : decode cX9_best 31 = .ok (.aload_n 0, 1) := by decide +kernel
theorem dX9_best_32 : decode cX9_best 32 = .ok (.getfield 25, 3) := by decide +kernel
theorem dX9_best_35 : decode cX9_best 35 = .ok (.iload_n 1, 1) := by decide +kernel
theorem dX9_best_36 : decode cX9_best 36 = .ok (.iaload, 1) := by decide +kernel
theorem dX9_best_37 : decode cX9_best 37 = .ok (.ifCond .ne 6, 3) := by decide +kernel
theorem dX9_best_40 : decode cX9_best 40 = .ok (.bipush (-2), 2) := by decide +kernel
theorem dX9_best_42 : decode cX9_best 42 = .ok (.ireturn, 1) := by decide +kernel
theorem dX9_best_43 : decode cX9_best 43 = .ok (.aload_n 0, 1) := by decide +kernel
theorem dX9_best_44 : decode cX9_best 44 = .ok (.getfield 13, 3) := by decide +kernel
theorem dX9_best_47 : decode cX9_best 47 = .ok (.iconst 0, 1) := by decide +kernel
theorem dX9_best_48 : decode cX9_best 48 = .ok (.iaload, 1) := by decide +kernel
theorem dX9_best_49 : decode cX9_best 49 = .ok (.iconst 2, 1) := by decide +kernel
theorem dX9_best_50 : decode cX9_best 50 = .ok (.if_icmp .ge 6, 3) := by decide +kernel
theorem dX9_best_53 : decode cX9_best 53 = .ok (.bipush (-4), 2) := by decide +kernel
theorem dX9_best_55 : decode cX9_best 55 = .ok (.ireturn, 1) := by decide +kernel
theorem dX9_best_56 : decode cX9_best 56 = .ok (.iconst 0, 1) := by decide +kernel
theorem dX9_best_57 : decode cX9_best 57 = .ok (.istore 4, 2) := by decide +kernel
theorem dX9_best_59 : decode cX9_best 59 = .ok (.iconst 0, 1) := by decide +kernel
theorem dX9_best_60 : decode cX9_best 60 = .ok (.istore 5, 2) := by decide +kernel
theorem dX9_best_62 : decode cX9_best 62 = .ok (.iconst 1, 1) := by decide +kernel
theorem dX9_best_63 : decode cX9_best 63 = .ok (.istore 6, 2) := by decide +kernel
theorem dX9_best_65 : decode cX9_best 65 = .ok (.iload 6, 2) := by decide +kernel
theorem dX9_best_67 : decode cX9_best 67 = .ok (.bipush 32, 2) := by decide +kernel
theorem dX9_best_69 : decode cX9_best 69 = .ok (.if_icmp .ge 47, 3) := by decide +kernel
theorem dX9_best_72 : decode cX9_best 72 = .ok (.aload_n 0, 1) := by decide +kernel
theorem dX9_best_73 : decode cX9_best 73 = .ok (.iload 6, 2) := by decide +kernel
theorem dX9_best_75 : decode cX9_best 75 = .ok (.invokevirtual 235, 3) := by decide +kernel
theorem dX9_best_78 : decode cX9_best 78 = .ok (.iload_n 2, 1) := by decide +kernel
theorem dX9_best_79 : decode cX9_best 79 = .ok (.if_icmp .gt 13, 3) := by decide +kernel
theorem dX9_best_82 : decode cX9_best 82 = .ok (.aload_n 0, 1) := by decide +kernel
theorem dX9_best_83 : decode cX9_best 83 = .ok (.iload_n 1, 1) := by decide +kernel
theorem dX9_best_84 : decode cX9_best 84 = .ok (.iload 6, 2) := by decide +kernel
theorem dX9_best_86 : decode cX9_best 86 = .ok (.invokevirtual 230, 3) := by decide +kernel
theorem dX9_best_89 : decode cX9_best 89 = .ok (.goto 4, 3) := by decide +kernel
theorem dX9_best_92 : decode cX9_best 92 = .ok (.iconst 0, 1) := by decide +kernel
theorem dX9_best_93 : decode cX9_best 93 = .ok (.istore 7, 2) := by decide +kernel
theorem dX9_best_95 : decode cX9_best 95 = .ok (.iload 7, 2) := by decide +kernel
theorem dX9_best_97 : decode cX9_best 97 = .ok (.iload 5, 2) := by decide +kernel
theorem dX9_best_99 : decode cX9_best 99 = .ok (.if_icmp .le 11, 3) := by decide +kernel
theorem dX9_best_102 : decode cX9_best 102 = .ok (.iload 7, 2) := by decide +kernel
theorem dX9_best_104 : decode cX9_best 104 = .ok (.istore 5, 2) := by decide +kernel
theorem dX9_best_106 : decode cX9_best 106 = .ok (.iload 6, 2) := by decide +kernel
theorem dX9_best_108 : decode cX9_best 108 = .ok (.istore 4, 2) := by decide +kernel
theorem dX9_best_110 : decode cX9_best 110 = .ok (.iinc 6 1, 3) := by decide +kernel
theorem dX9_best_113 : decode cX9_best 113 = .ok (.goto (-48), 3) := by decide +kernel
theorem dX9_best_116 : decode cX9_best 116 = .ok (.iload_n 3, 1) := by decide +kernel
theorem dX9_best_117 : decode cX9_best 117 = .ok (.ifCond .ne 8, 3) := by decide +kernel
theorem dX9_best_120 : decode cX9_best 120 = .ok (.iload 4, 2) := by decide +kernel
theorem dX9_best_122 : decode cX9_best 122 = .ok (.goto 5, 3) := by decide +kernel
theorem dX9_best_125 : decode cX9_best 125 = .ok (.iload 5, 2) := by decide +kernel
theorem dX9_best_127 : decode cX9_best 127 = .ok (.ireturn, 1) := by decide +kernel
theorem dX9_showsBy_0 : decode cX9_showsBy 0 = .ok (.iconst 0, 1) := by decide +kernel
theorem dX9_showsBy_1 : decode cX9_showsBy 1 = .ok (.istore 4, 2) := by decide +kernel
theorem dX9_showsBy_3 : decode cX9_showsBy 3 = .ok (.iconst 0, 1) := by decide +kernel
theorem dX9_showsBy_4 : decode cX9_showsBy 4 = .ok (.istore 5, 2) := by decide +kernel
theorem dX9_showsBy_6 : decode cX9_showsBy 6 = .ok (.iload 5, 2) := by decide +kernel
theorem dX9_showsBy_8 : decode cX9_showsBy 8 = .ok (.iconst 5, 1) := by decide +kernel
theorem dX9_showsBy_9 : decode cX9_showsBy 9 = .ok (.if_icmp .ge 105, 3) := by decide +kernel
theorem dX9_showsBy_12 : decode cX9_showsBy 12 = .ok (.aload_n 0, 1) := by decide +kernel
theorem dX9_showsBy_13 : decode cX9_showsBy 13 = .ok (.iconst 1, 1) := by decide +kernel
theorem dX9_showsBy_14 : decode cX9_showsBy 14 = .ok (.iload 5, 2) := by decide +kernel
theorem dX9_showsBy_16 : decode cX9_showsBy 16 = .ok (.ishl, 1) := by decide +kernel
theorem dX9_showsBy_17 : decode cX9_showsBy 17 = .ok (.aload_n 0, 1) := by decide +kernel
theorem dX9_showsBy_18 : decode cX9_showsBy 18 = .ok (.getfield 25, 3) := by decide +kernel
theorem dX9_showsBy_21 : decode cX9_showsBy 21 = .ok (.iload_n 1, 1) := by decide +kernel
theorem dX9_showsBy_22 : decode cX9_showsBy 22 = .ok (.iaload, 1) := by decide +kernel
theorem dX9_showsBy_23 : decode cX9_showsBy 23 = .ok (.invokevirtual 198, 3) := by decide +kernel
theorem dX9_showsBy_26 : decode cX9_showsBy 26 = .ok (.iconst 0, 1) := by decide +kernel
theorem dX9_showsBy_27 : decode cX9_showsBy 27 = .ok (.istore 6, 2) := by decide +kernel
theorem dX9_showsBy_29 : decode cX9_showsBy 29 = .ok (.iconst 0, 1) := by decide +kernel
theorem dX9_showsBy_30 : decode cX9_showsBy 30 = .ok (.istore 7, 2) := by decide +kernel
theorem dX9_showsBy_32 : decode cX9_showsBy 32 = .ok (.iload 7, 2) := by decide +kernel
theorem dX9_showsBy_34 : decode cX9_showsBy 34 = .ok (.aload_n 0, 1) := by decide +kernel
theorem dX9_showsBy_35 : decode cX9_showsBy 35 = .ok (.getfield 157, 3) := by decide +kernel
theorem dX9_showsBy_38 : decode cX9_showsBy 38 = .ok (.if_icmp .ge 52, 3) := by decide +kernel
theorem dX9_showsBy_41 : decode cX9_showsBy 41 = .ok (.aload_n 0, 1) := by decide +kernel
theorem dX9_showsBy_42 : decode cX9_showsBy 42 = .ok (.iload_n 1, 1) := by decide +kernel
theorem dX9_showsBy_43 : decode cX9_showsBy 43 = .ok (.invokevirtual 201, 3) := by decide +kernel
theorem dX9_showsBy_46 : decode cX9_showsBy 46 = .ok (.aload_n 0, 1) := by decide +kernel
theorem dX9_showsBy_47 : decode cX9_showsBy 47 = .ok (.iload 7, 2) := by decide +kernel
theorem dX9_showsBy_49 : decode cX9_showsBy 49 = .ok (.invokevirtual 204, 3) := by decide +kernel
theorem dX9_showsBy_52 : decode cX9_showsBy 52 = .ok (.istore 8, 2) := by decide +kernel
theorem dX9_showsBy_54 : decode cX9_showsBy 54 = .ok (.aload_n 0, 1) := by decide +kernel
theorem dX9_showsBy_55 : decode cX9_showsBy 55 = .ok (.getfield 67, 3) := by decide +kernel
theorem dX9_showsBy_58 : decode cX9_showsBy 58 = .ok (.iload_n 2, 1) := by decide +kernel
theorem dX9_showsBy_59 : decode cX9_showsBy 59 = .ok (.iload_n 3, 1) := by decide +kernel
theorem dX9_showsBy_60 : decode cX9_showsBy 60 = .ok (.iastore, 1) := by decide +kernel
theorem dX9_showsBy_61 : decode cX9_showsBy 61 = .ok (.iload 6, 2) := by decide +kernel
theorem dX9_showsBy_63 : decode cX9_showsBy 63 = .ok (.ifCond .ne 14, 3) := by decide +kernel
theorem dX9_showsBy_66 : decode cX9_showsBy 66 = .ok (.aload_n 0, 1) := by decide +kernel
theorem dX9_showsBy_67 : decode cX9_showsBy 67 = .ok (.iload 7, 2) := by decide +kernel
theorem dX9_showsBy_69 : decode cX9_showsBy 69 = .ok (.invokevirtual 204, 3) := by decide +kernel
theorem dX9_showsBy_72 : decode cX9_showsBy 72 = .ok (.iload 8, 2) := by decide +kernel
theorem dX9_showsBy_74 : decode cX9_showsBy 74 = .ok (.if_icmp .eq 7, 3) := by decide +kernel
theorem dX9_showsBy_77 : decode cX9_showsBy 77 = .ok (.iconst 1, 1) := by decide +kernel
theorem dX9_showsBy_78 : decode cX9_showsBy 78 = .ok (.goto 4, 3) := by decide +kernel
theorem dX9_showsBy_81 : decode cX9_showsBy 81 = .ok (.iconst 0, 1) := by decide +kernel
theorem dX9_showsBy_82 : decode cX9_showsBy 82 = .ok (.istore 6, 2) := by decide +kernel
theorem dX9_showsBy_84 : decode cX9_showsBy 84 = .ok (.iinc 7 1, 3) := by decide +kernel
theorem dX9_showsBy_87 : decode cX9_showsBy 87 = .ok (.goto (-55), 3) := by decide +kernel
theorem dX9_showsBy_90 : decode cX9_showsBy 90 = .ok (.iload 4, 2) := by decide +kernel
theorem dX9_showsBy_92 : decode cX9_showsBy 92 = .ok (.iload 6, 2) := by decide +kernel
theorem dX9_showsBy_94 : decode cX9_showsBy 94 = .ok (.ifCond .eq 10, 3) := by decide +kernel
theorem dX9_showsBy_97 : decode cX9_showsBy 97 = .ok (.iconst 1, 1) := by decide +kernel
theorem dX9_showsBy_98 : decode cX9_showsBy 98 = .ok (.iload 5, 2) := by decide +kernel
theorem dX9_showsBy_100 : decode cX9_showsBy 100 = .ok (.ishl, 1) := by decide +kernel
theorem dX9_showsBy_101 : decode cX9_showsBy 101 = .ok (.goto 4, 3) := by decide +kernel
theorem dX9_showsBy_104 : decode cX9_showsBy 104 = .ok (.iconst 0, 1) := by decide +kernel
theorem dX9_showsBy_105 : decode cX9_showsBy 105 = .ok (.ior, 1) := by decide +kernel
theorem dX9_showsBy_106 : decode cX9_showsBy 106 = .ok (.istore 4, 2) := by decide +kernel
theorem dX9_showsBy_108 : decode cX9_showsBy 108 = .ok (.iinc 5 1, 3) := by decide +kernel
theorem dX9_showsBy_111 : decode cX9_showsBy 111 = .ok (.goto (-105), 3) := by decide +kernel
theorem dX9_showsBy_114 : decode cX9_showsBy 114 = .ok (.iload 4, 2) := by decide +kernel
theorem dX9_showsBy_116 : decode cX9_showsBy 116 = .ok (.ireturn, 1) := by decide +kernel
theorem dX9_isSlip_0 : decode cX9_isSlip 0 = .ok (.iload_n 2, 1) := by decide +kernel
theorem dX9_isSlip_1 : decode cX9_isSlip 1 = .ok (.aload_n 0, 1) := by decide +kernel
theorem dX9_isSlip_2 : decode cX9_isSlip 2 = .ok (.getfield 25, 3) := by decide +kernel
theorem dX9_isSlip_5 : decode cX9_isSlip 5 = .ok (.iload_n 1, 1) := by decide +kernel
theorem dX9_isSlip_6 : decode cX9_isSlip 6 = .ok (.iaload, 1) := by decide +kernel
theorem dX9_isSlip_7 : decode cX9_isSlip 7 = .ok (.if_icmp .ge 22, 3) := by decide +kernel
theorem dX9_isSlip_10 : decode cX9_isSlip 10 = .ok (.aload_n 0, 1) := by decide +kernel
theorem dX9_isSlip_11 : decode cX9_isSlip 11 = .ok (.getfield 28, 3) := by decide +kernel
theorem dX9_isSlip_14 : decode cX9_isSlip 14 = .ok (.bipush 8, 2) := by decide +kernel
theorem dX9_isSlip_16 : decode cX9_isSlip 16 = .ok (.iload_n 1, 1) := by decide +kernel
theorem dX9_isSlip_17 : decode cX9_isSlip 17 = .ok (.imul, 1) := by decide +kernel
theorem dX9_isSlip_18 : decode cX9_isSlip 18 = .ok (.iload_n 2, 1) := by decide +kernel
theorem dX9_isSlip_19 : decode cX9_isSlip 19 = .ok (.iadd, 1) := by decide +kernel
theorem dX9_isSlip_20 : decode cX9_isSlip 20 = .ok (.iaload, 1) := by decide +kernel
theorem dX9_isSlip_21 : decode cX9_isSlip 21 = .ok (.iload_n 3, 1) := by decide +kernel
theorem dX9_isSlip_22 : decode cX9_isSlip 22 = .ok (.if_icmp .eq 7, 3) := by decide +kernel
theorem dX9_isSlip_25 : decode cX9_isSlip 25 = .ok (.iconst 1, 1) := by decide +kernel
theorem dX9_isSlip_26 : decode cX9_isSlip 26 = .ok (.goto 4, 3) := by decide +kernel
theorem dX9_isSlip_29 : decode cX9_isSlip 29 = .ok (.iconst 0, 1) := by decide +kernel
theorem dX9_isSlip_30 : decode cX9_isSlip 30 = .ok (.ireturn, 1) := by decide +kernel
theorem dX9_learnt_0 : decode cX9_learnt 0 = .ok (.iload_n 1, 1) := by decide +kernel
theorem dX9_learnt_1 : decode cX9_learnt 1 = .ok (.invokestatic 148, 3) := by decide +kernel
theorem dX9_learnt_4 : decode cX9_learnt 4 = .ok (.ifCond .eq 28, 3) := by decide +kernel
theorem dX9_learnt_7 : decode cX9_learnt 7 = .ok (.iload_n 2, 1) := by decide +kernel
theorem dX9_learnt_8 : decode cX9_learnt 8 = .ok (.invokestatic 154, 3) := by decide +kernel
theorem dX9_learnt_11 : decode cX9_learnt 11 = .ok (.ifCond .eq 21, 3) := by decide +kernel
theorem dX9_learnt_14 : decode cX9_learnt 14 = .ok (.aload_n 0, 1) := by decide +kernel
theorem dX9_learnt_15 : decode cX9_learnt 15 = .ok (.iload_n 3, 1) := by decide +kernel
theorem dX9_learnt_16 : decode cX9_learnt 16 = .ok (.invokevirtual 151, 3) := by decide +kernel
theorem dX9_learnt_19 : decode cX9_learnt 19 = .ok (.ifCond .eq 13, 3) := by decide +kernel
theorem dX9_learnt_22 : decode cX9_learnt 22 = .ok (.aload_n 0, 1) := by decide +kernel
theorem dX9_learnt_23 : decode cX9_learnt 23 = .ok (.iload_n 1, 1) := by decide +kernel
theorem dX9_learnt_24 : decode cX9_learnt 24 = .ok (.iload_n 2, 1) := by decide +kernel
theorem dX9_learnt_25 : decode cX9_learnt 25 = .ok (.iload_n 3, 1) := by decide +kernel
theorem dX9_learnt_26 : decode cX9_learnt 26 = .ok (.invokevirtual 238, 3) := by decide +kernel
theorem dX9_learnt_29 : decode cX9_learnt 29 = .ok (.ifCond .ne 5, 3) := by decide +kernel
theorem dX9_learnt_32 : decode cX9_learnt 32 = .ok (.iconst (-1), 1) := by decide +kernel
theorem dX9_learnt_33 : decode cX9_learnt 33 = .ok (.ireturn, 1) := by decide +kernel
theorem dX9_learnt_34 : decode cX9_learnt 34 = .ok (.aload_n 0, 1) := by decide +kernel
theorem dX9_learnt_35 : decode cX9_learnt 35 = .ok (.iload_n 1, 1) := by decide +kernel
theorem dX9_learnt_36 : decode cX9_learnt 36 = .ok (.iload_n 2, 1) := by decide +kernel
theorem dX9_learnt_37 : decode cX9_learnt 37 = .ok (.iload_n 3, 1) := by decide +kernel
theorem dX9_learnt_38 : decode cX9_learnt 38 = .ok (.invokevirtual 242, 3) := by decide +kernel
theorem dX9_learnt_41 : decode cX9_learnt 41 = .ok (.ireturn, 1) := by decide +kernel
theorem dX9_slip_0 : decode cX9_slip 0 = .ok (.iload_n 1, 1) := by decide +kernel
theorem dX9_slip_1 : decode cX9_slip 1 = .ok (.invokestatic 148, 3) := by decide +kernel
theorem dX9_slip_4 : decode cX9_slip 4 = .ok (.ifCond .eq 18, 3) := by decide +kernel
theorem dX9_slip_7 : decode cX9_slip 7 = .ok (.iload_n 2, 1) := by decide +kernel
theorem dX9_slip_8 : decode cX9_slip 8 = .ok (.invokestatic 154, 3) := by decide +kernel
theorem dX9_slip_11 : decode cX9_slip 11 = .ok (.ifCond .eq 11, 3) := by decide +kernel
theorem dX9_slip_14 : decode cX9_slip 14 = .ok (.aload_n 0, 1) := by decide +kernel
theorem dX9_slip_15 : decode cX9_slip 15 = .ok (.iload_n 3, 1) := by decide +kernel
theorem dX9_slip_16 : decode cX9_slip 16 = .ok (.invokevirtual 151, 3) := by decide +kernel
theorem dX9_slip_19 : decode cX9_slip 19 = .ok (.ifCond .ne 5, 3) := by decide +kernel
theorem dX9_slip_22 : decode cX9_slip 22 = .ok (.iconst (-1), 1) := by decide +kernel
theorem dX9_slip_23 : decode cX9_slip 23 = .ok (.ireturn, 1) := by decide +kernel
theorem dX9_slip_24 : decode cX9_slip 24 = .ok (.aload_n 0, 1) := by decide +kernel
theorem dX9_slip_25 : decode cX9_slip 25 = .ok (.getfield 140, 3) := by decide +kernel
theorem dX9_slip_28 : decode cX9_slip 28 = .ok (.bipush 20, 2) := by decide +kernel
theorem dX9_slip_30 : decode cX9_slip 30 = .ok (.if_icmp .ne 6, 3) := by decide +kernel
theorem dX9_slip_33 : decode cX9_slip 33 = .ok (.bipush (-3), 2) := by decide +kernel
theorem dX9_slip_35 : decode cX9_slip 35 = .ok (.ireturn, 1) := by decide +kernel
theorem dX9_slip_36 : decode cX9_slip 36 = .ok (.aload_n 0, 1) := by decide +kernel
theorem dX9_slip_37 : decode cX9_slip 37 = .ok (.getfield 43, 3) := by decide +kernel
theorem dX9_slip_40 : decode cX9_slip 40 = .ok (.iconst 3, 1) := by decide +kernel
theorem dX9_slip_41 : decode cX9_slip 41 = .ok (.aload_n 0, 1) := by decide +kernel
theorem dX9_slip_42 : decode cX9_slip 42 = .ok (.getfield 140, 3) := by decide +kernel
theorem dX9_slip_45 : decode cX9_slip 45 = .ok (.imul, 1) := by decide +kernel
theorem dX9_slip_46 : decode cX9_slip 46 = .ok (.iload_n 1, 1) := by decide +kernel
theorem dX9_slip_47 : decode cX9_slip 47 = .ok (.iastore, 1) := by decide +kernel
theorem dX9_slip_48 : decode cX9_slip 48 = .ok (.aload_n 0, 1) := by decide +kernel
theorem dX9_slip_49 : decode cX9_slip 49 = .ok (.getfield 43, 3) := by decide +kernel
theorem dX9_slip_52 : decode cX9_slip 52 = .ok (.iconst 3, 1) := by decide +kernel
theorem dX9_slip_53 : decode cX9_slip 53 = .ok (.aload_n 0, 1) := by decide +kernel
theorem dX9_slip_54 : decode cX9_slip 54 = .ok (.getfield 140, 3) := by decide +kernel
theorem dX9_slip_57 : decode cX9_slip 57 = .ok (.imul, 1) := by decide +kernel
theorem dX9_slip_58 : decode cX9_slip 58 = .ok (.iconst 1, 1) := by decide +kernel
theorem dX9_slip_59 : decode cX9_slip 59 = .ok (.iadd, 1) := by decide +kernel
theorem dX9_slip_60 : decode cX9_slip 60 = .ok (.iload_n 2, 1) := by decide +kernel
theorem dX9_slip_61 : decode cX9_slip 61 = .ok (.iastore, 1) := by decide +kernel
theorem dX9_slip_62 : decode cX9_slip 62 = .ok (.aload_n 0, 1) := by decide +kernel
theorem dX9_slip_63 : decode cX9_slip 63 = .ok (.getfield 43, 3) := by decide +kernel
theorem dX9_slip_66 : decode cX9_slip 66 = .ok (.iconst 3, 1) := by decide +kernel
theorem dX9_slip_67 : decode cX9_slip 67 = .ok (.aload_n 0, 1) := by decide +kernel
theorem dX9_slip_68 : decode cX9_slip 68 = .ok (.getfield 140, 3) := by decide +kernel
theorem dX9_slip_71 : decode cX9_slip 71 = .ok (.imul, 1) := by decide +kernel
theorem dX9_slip_72 : decode cX9_slip 72 = .ok (.iconst 2, 1) := by decide +kernel
theorem dX9_slip_73 : decode cX9_slip 73 = .ok (.iadd, 1) := by decide +kernel
theorem dX9_slip_74 : decode cX9_slip 74 = .ok (.iload_n 3, 1) := by decide +kernel
theorem dX9_slip_75 : decode cX9_slip 75 = .ok (.iastore, 1) := by decide +kernel
theorem dX9_slip_76 : decode cX9_slip 76 = .ok (.aload_n 0, 1) := by decide +kernel
theorem dX9_slip_77 : decode cX9_slip 77 = .ok (.dup, 1) := by decide +kernel
theorem dX9_slip_78 : decode cX9_slip 78 = .ok (.getfield 140, 3) := by decide +kernel
theorem dX9_slip_81 : decode cX9_slip 81 = .ok (.iconst 1, 1) := by decide +kernel
theorem dX9_slip_82 : decode cX9_slip 82 = .ok (.iadd, 1) := by decide +kernel
theorem dX9_slip_83 : decode cX9_slip 83 = .ok (.putfield 140, 3) := by decide +kernel
theorem dX9_slip_86 : decode cX9_slip 86 = .ok (.aload_n 0, 1) := by decide +kernel
theorem dX9_slip_87 : decode cX9_slip 87 = .ok (.getfield 140, 3) := by decide +kernel
theorem dX9_slip_90 : decode cX9_slip 90 = .ok (.ireturn, 1) := by decide +kernel
theorem dX9_noSlips_0 : decode cX9_noSlips 0 = .ok (.aload_n 0, 1) := by decide +kernel
theorem dX9_noSlips_1 : decode cX9_noSlips 1 = .ok (.getfield 140, 3) := by decide +kernel
theorem dX9_noSlips_4 : decode cX9_noSlips 4 = .ok (.istore_n 1, 1) := by decide +kernel
theorem dX9_noSlips_5 : decode cX9_noSlips 5 = .ok (.aload_n 0, 1) := by decide +kernel
theorem dX9_noSlips_6 : decode cX9_noSlips 6 = .ok (.iconst 0, 1) := by decide +kernel
theorem dX9_noSlips_7 : decode cX9_noSlips 7 = .ok (.putfield 140, 3) := by decide +kernel
theorem dX9_noSlips_10 : decode cX9_noSlips 10 = .ok (.iload_n 1, 1) := by decide +kernel
theorem dX9_noSlips_11 : decode cX9_noSlips 11 = .ok (.ireturn, 1) := by decide +kernel
theorem dX9_isListed_0 : decode cX9_isListed 0 = .ok (.aload_n 0, 1) := by decide +kernel
theorem dX9_isListed_1 : decode cX9_isListed 1 = .ok (.getfield 16, 3) := by decide +kernel
theorem dX9_isListed_4 : decode cX9_isListed 4 = .ok (.iconst 3, 1) := by decide +kernel
theorem dX9_isListed_5 : decode cX9_isListed 5 = .ok (.iload_n 1, 1) := by decide +kernel
theorem dX9_isListed_6 : decode cX9_isListed 6 = .ok (.imul, 1) := by decide +kernel
theorem dX9_isListed_7 : decode cX9_isListed 7 = .ok (.iaload, 1) := by decide +kernel
theorem dX9_isListed_8 : decode cX9_isListed 8 = .ok (.aload_n 0, 1) := by decide +kernel
theorem dX9_isListed_9 : decode cX9_isListed 9 = .ok (.getfield 16, 3) := by decide +kernel
theorem dX9_isListed_12 : decode cX9_isListed 12 = .ok (.iconst 3, 1) := by decide +kernel
theorem dX9_isListed_13 : decode cX9_isListed 13 = .ok (.iload_n 2, 1) := by decide +kernel
theorem dX9_isListed_14 : decode cX9_isListed 14 = .ok (.imul, 1) := by decide +kernel
theorem dX9_isListed_15 : decode cX9_isListed 15 = .ok (.iaload, 1) := by decide +kernel
theorem dX9_isListed_16 : decode cX9_isListed 16 = .ok (.if_icmp .ne 26, 3) := by decide +kernel
theorem dX9_isListed_19 : decode cX9_isListed 19 = .ok (.aload_n 0, 1) := by decide +kernel
theorem dX9_isListed_20 : decode cX9_isListed 20 = .ok (.getfield 16, 3) := by decide +kernel
theorem dX9_isListed_23 : decode cX9_isListed 23 = .ok (.iconst 3, 1) := by decide +kernel
theorem dX9_isListed_24 : decode cX9_isListed 24 = .ok (.iload_n 1, 1) := by decide +kernel
theorem dX9_isListed_25 : decode cX9_isListed 25 = .ok (.imul, 1) := by decide +kernel
theorem dX9_isListed_26 : decode cX9_isListed 26 = .ok (.iconst 1, 1) := by decide +kernel
theorem dX9_isListed_27 : decode cX9_isListed 27 = .ok (.iadd, 1) := by decide +kernel
theorem dX9_isListed_28 : decode cX9_isListed 28 = .ok (.iaload, 1) := by decide +kernel
theorem dX9_isListed_29 : decode cX9_isListed 29 = .ok (.aload_n 0, 1) := by decide +kernel
theorem dX9_isListed_30 : decode cX9_isListed 30 = .ok (.getfield 16, 3) := by decide +kernel
theorem dX9_isListed_33 : decode cX9_isListed 33 = .ok (.iconst 3, 1) := by decide +kernel
theorem dX9_isListed_34 : decode cX9_isListed 34 = .ok (.iload_n 2, 1) := by decide +kernel
theorem dX9_isListed_35 : decode cX9_isListed 35 = .ok (.imul, 1) := by decide +kernel
theorem dX9_isListed_36 : decode cX9_isListed 36 = .ok (.iconst 1, 1) := by decide +kernel
theorem dX9_isListed_37 : decode cX9_isListed 37 = .ok (.iadd, 1) := by decide +kernel
theorem dX9_isListed_38 : decode cX9_isListed 38 = .ok (.iaload, 1) := by decide +kernel
theorem dX9_isListed_39 : decode cX9_isListed 39 = .ok (.if_icmp .eq 7, 3) := by decide +kernel
theorem dX9_isListed_42 : decode cX9_isListed 42 = .ok (.iconst 1, 1) := by decide +kernel
theorem dX9_isListed_43 : decode cX9_isListed 43 = .ok (.goto 4, 3) := by decide +kernel
theorem dX9_isListed_46 : decode cX9_isListed 46 = .ok (.iconst 0, 1) := by decide +kernel
theorem dX9_isListed_47 : decode cX9_isListed 47 = .ok (.ireturn, 1) := by decide +kernel
theorem dX9_fewestWays_0 : decode cX9_fewestWays 0 = .ok (.bipush (-4), 2) := by decide +kernel
theorem dX9_fewestWays_2 : decode cX9_fewestWays 2 = .ok (.istore_n 1, 1) := by decide +kernel
theorem dX9_fewestWays_3 : decode cX9_fewestWays 3 = .ok (.iconst 0, 1) := by decide +kernel
theorem dX9_fewestWays_4 : decode cX9_fewestWays 4 = .ok (.istore_n 2, 1) := by decide +kernel
theorem dX9_fewestWays_5 : decode cX9_fewestWays 5 = .ok (.iload_n 2, 1) := by decide +kernel
theorem dX9_fewestWays_6 : decode cX9_fewestWays 6 = .ok (.bipush 32, 2) := by decide +kernel
theorem dX9_fewestWays_8 : decode cX9_fewestWays 8 = .ok (.if_icmp .ge 92, 3) := by decide +kernel
theorem dX9_fewestWays_11 : decode cX9_fewestWays 11 = .ok (.iload_n 1, 1) := by decide +kernel
theorem dX9_fewestWays_12 : decode cX9_fewestWays 12 = .ok (.bipush (-4), 2) := by decide +kernel
theorem dX9_fewestWays_14 : decode cX9_fewestWays 14 = .ok (.if_icmp .eq 14, 3) := by decide +kernel
theorem dX9_fewestWays_17 : decode cX9_fewestWays 17 = .ok (.iload_n 2, 1) := by decide +kernel
theorem dX9_fewestWays_18 : decode cX9_fewestWays 18 = .ok (.invokestatic 245, 3) := by decide +kernel
theorem dX9_fewestWays_21 : decode cX9_fewestWays 21 = .ok (.iload_n 1, 1) := by decide +kernel
theorem dX9_fewestWays_22 : decode cX9_fewestWays 22 = .ok (.invokestatic 245, 3) := by decide +kernel
theorem dX9_fewestWays_25 : decode cX9_fewestWays 25 = .ok (.if_icmp .ge 7, 3) := by decide +kernel
theorem dX9_fewestWays_28 : decode cX9_fewestWays 28 = .ok (.iconst 1, 1) := by decide +kernel
theorem dX9_fewestWays_29 : decode cX9_fewestWays 29 = .ok (.goto 4, 3) := by decide +kernel
theorem dX9_fewestWays_32 : decode cX9_fewestWays 32 = .ok (.iconst 0, 1) := by decide +kernel
theorem dX9_fewestWays_33 : decode cX9_fewestWays 33 = .ok (.istore_n 3, 1) := by decide +kernel
theorem dX9_fewestWays_34 : decode cX9_fewestWays 34 = .ok (.iconst 0, 1) := by decide +kernel
theorem dX9_fewestWays_35 : decode cX9_fewestWays 35 = .ok (.istore 4, 2) := by decide +kernel
theorem dX9_fewestWays_37 : decode cX9_fewestWays 37 = .ok (.iload 4, 2) := by decide +kernel
theorem dX9_fewestWays_39 : decode cX9_fewestWays 39 = .ok (.aload_n 0, 1) := by decide +kernel
theorem dX9_fewestWays_40 : decode cX9_fewestWays 40 = .ok (.getfield 140, 3) := by decide +kernel
theorem dX9_fewestWays_43 : decode cX9_fewestWays 43 = .ok (.if_icmp .ge 41, 3) := by decide +kernel
theorem dX9_fewestWays_46 : decode cX9_fewestWays 46 = .ok (.iload_n 3, 1) := by decide +kernel
theorem dX9_fewestWays_47 : decode cX9_fewestWays 47 = .ok (.ifCond .eq 37, 3) := by decide +kernel
theorem dX9_fewestWays_50 : decode cX9_fewestWays 50 = .ok (.aload_n 0, 1) := by decide +kernel
theorem dX9_fewestWays_51 : decode cX9_fewestWays 51 = .ok (.getfield 83, 3) := by decide +kernel
theorem dX9_fewestWays_54 : decode cX9_fewestWays 54 = .ok (.iload 4, 2) := by decide +kernel
theorem dX9_fewestWays_56 : decode cX9_fewestWays 56 = .ok (.iaload, 1) := by decide +kernel
theorem dX9_fewestWays_57 : decode cX9_fewestWays 57 = .ok (.ifCond .eq 15, 3) := by decide +kernel
theorem dX9_fewestWays_60 : decode cX9_fewestWays 60 = .ok (.aload_n 0, 1) := by decide +kernel
theorem dX9_fewestWays_61 : decode cX9_fewestWays 61 = .ok (.getfield 83, 3) := by decide +kernel
theorem dX9_fewestWays_64 : decode cX9_fewestWays 64 = .ok (.iload 4, 2) := by decide +kernel
theorem dX9_fewestWays_66 : decode cX9_fewestWays 66 = .ok (.iaload, 1) := by decide +kernel
theorem dX9_fewestWays_67 : decode cX9_fewestWays 67 = .ok (.iload_n 2, 1) := by decide +kernel
theorem dX9_fewestWays_68 : decode cX9_fewestWays 68 = .ok (.iand, 1) := by decide +kernel
theorem dX9_fewestWays_69 : decode cX9_fewestWays 69 = .ok (.ifCond .eq 7, 3) := by decide +kernel
theorem dX9_fewestWays_72 : decode cX9_fewestWays 72 = .ok (.iconst 1, 1) := by decide +kernel
theorem dX9_fewestWays_73 : decode cX9_fewestWays 73 = .ok (.goto 4, 3) := by decide +kernel
theorem dX9_fewestWays_76 : decode cX9_fewestWays 76 = .ok (.iconst 0, 1) := by decide +kernel
theorem dX9_fewestWays_77 : decode cX9_fewestWays 77 = .ok (.istore_n 3, 1) := by decide +kernel
theorem dX9_fewestWays_78 : decode cX9_fewestWays 78 = .ok (.iinc 4 1, 3) := by decide +kernel
theorem dX9_fewestWays_81 : decode cX9_fewestWays 81 = .ok (.goto (-44), 3) := by decide +kernel
theorem dX9_fewestWays_84 : decode cX9_fewestWays 84 = .ok (.iload_n 3, 1) := by decide +kernel
theorem dX9_fewestWays_85 : decode cX9_fewestWays 85 = .ok (.ifCond .eq 7, 3) := by decide +kernel
theorem dX9_fewestWays_88 : decode cX9_fewestWays 88 = .ok (.iload_n 2, 1) := by decide +kernel
theorem dX9_fewestWays_89 : decode cX9_fewestWays 89 = .ok (.goto 4, 3) := by decide +kernel
theorem dX9_fewestWays_92 : decode cX9_fewestWays 92 = .ok (.iload_n 1, 1) := by decide +kernel
theorem dX9_fewestWays_93 : decode cX9_fewestWays 93 = .ok (.istore_n 1, 1) := by decide +kernel
theorem dX9_fewestWays_94 : decode cX9_fewestWays 94 = .ok (.iinc 2 1, 3) := by decide +kernel
theorem dX9_fewestWays_97 : decode cX9_fewestWays 97 = .ok (.goto (-92), 3) := by decide +kernel
theorem dX9_fewestWays_100 : decode cX9_fewestWays 100 = .ok (.iload_n 1, 1) := by decide +kernel
theorem dX9_fewestWays_101 : decode cX9_fewestWays 101 = .ok (.ireturn, 1) := by decide +kernel
theorem dX9_slips_0 : decode cX9_slips 0 = .ok (.iload_n 1, 1) := by decide +kernel
theorem dX9_slips_1 : decode cX9_slips 1 = .ok (.i2l, 1) := by decide +kernel
theorem dX9_slips_2 : decode cX9_slips 2 = .ok (.lconst 0, 1) := by decide +kernel
theorem dX9_slips_3 : decode cX9_slips 3 = .ok (.ldc2_w 248, 3) := by decide +kernel
theorem dX9_slips_6 : decode cX9_slips 6 = .ok (.invokestatic 92, 3) := by decide +kernel
theorem dX9_slips_9 : decode cX9_slips 9 = .ok (.ifCond .ne 5, 3) := by decide +kernel
theorem dX9_slips_12 : decode cX9_slips 12 = .ok (.iconst (-1), 1) := by decide +kernel
theorem dX9_slips_13 : decode cX9_slips 13 = .ok (.ireturn, 1) := by decide +kernel
theorem dX9_slips_14 : decode cX9_slips 14 = .ok (.iconst 0, 1) := by decide +kernel
theorem dX9_slips_15 : decode cX9_slips 15 = .ok (.istore_n 2, 1) := by decide +kernel
theorem dX9_slips_16 : decode cX9_slips 16 = .ok (.iconst 0, 1) := by decide +kernel
theorem dX9_slips_17 : decode cX9_slips 17 = .ok (.istore_n 3, 1) := by decide +kernel
theorem dX9_slips_18 : decode cX9_slips 18 = .ok (.iconst 0, 1) := by decide +kernel
theorem dX9_slips_19 : decode cX9_slips 19 = .ok (.istore 4, 2) := by decide +kernel
theorem dX9_slips_21 : decode cX9_slips 21 = .ok (.iconst 0, 1) := by decide +kernel
theorem dX9_slips_22 : decode cX9_slips 22 = .ok (.istore 5, 2) := by decide +kernel
theorem dX9_slips_24 : decode cX9_slips 24 = .ok (.iload 5, 2) := by decide +kernel
theorem dX9_slips_26 : decode cX9_slips 26 = .ok (.aload_n 0, 1) := by decide +kernel
theorem dX9_slips_27 : decode cX9_slips 27 = .ok (.getfield 140, 3) := by decide +kernel
theorem dX9_slips_30 : decode cX9_slips 30 = .ok (.if_icmp .ge 170, 3) := by decide +kernel
theorem dX9_slips_33 : decode cX9_slips 33 = .ok (.aload_n 0, 1) := by decide +kernel
theorem dX9_slips_34 : decode cX9_slips 34 = .ok (.getfield 43, 3) := by decide +kernel
theorem dX9_slips_37 : decode cX9_slips 37 = .ok (.iconst 3, 1) := by decide +kernel
theorem dX9_slips_38 : decode cX9_slips 38 = .ok (.iload 5, 2) := by decide +kernel
theorem dX9_slips_40 : decode cX9_slips 40 = .ok (.imul, 1) := by decide +kernel
theorem dX9_slips_41 : decode cX9_slips 41 = .ok (.iaload, 1) := by decide +kernel
theorem dX9_slips_42 : decode cX9_slips 42 = .ok (.istore 6, 2) := by decide +kernel
theorem dX9_slips_44 : decode cX9_slips 44 = .ok (.aload_n 0, 1) := by decide +kernel
theorem dX9_slips_45 : decode cX9_slips 45 = .ok (.getfield 43, 3) := by decide +kernel
theorem dX9_slips_48 : decode cX9_slips 48 = .ok (.iconst 3, 1) := by decide +kernel
theorem dX9_slips_49 : decode cX9_slips 49 = .ok (.iload 5, 2) := by decide +kernel
theorem dX9_slips_51 : decode cX9_slips 51 = .ok (.imul, 1) := by decide +kernel
theorem dX9_slips_52 : decode cX9_slips 52 = .ok (.iconst 1, 1) := by decide +kernel
theorem dX9_slips_53 : decode cX9_slips 53 = .ok (.iadd, 1) := by decide +kernel
theorem dX9_slips_54 : decode cX9_slips 54 = .ok (.iaload, 1) := by decide +kernel
theorem dX9_slips_55 : decode cX9_slips 55 = .ok (.istore 7, 2) := by decide +kernel
theorem dX9_slips_57 : decode cX9_slips 57 = .ok (.aload_n 0, 1) := by decide +kernel
theorem dX9_slips_58 : decode cX9_slips 58 = .ok (.getfield 43, 3) := by decide +kernel
theorem dX9_slips_61 : decode cX9_slips 61 = .ok (.iconst 3, 1) := by decide +kernel
theorem dX9_slips_62 : decode cX9_slips 62 = .ok (.iload 5, 2) := by decide +kernel
theorem dX9_slips_64 : decode cX9_slips 64 = .ok (.imul, 1) := by decide +kernel
theorem dX9_slips_65 : decode cX9_slips 65 = .ok (.iconst 2, 1) := by decide +kernel
theorem dX9_slips_66 : decode cX9_slips 66 = .ok (.iadd, 1) := by decide +kernel
theorem dX9_slips_67 : decode cX9_slips 67 = .ok (.iaload, 1) := by decide +kernel
theorem dX9_slips_68 : decode cX9_slips 68 = .ok (.istore 8, 2) := by decide +kernel
theorem dX9_slips_70 : decode cX9_slips 70 = .ok (.aload_n 0, 1) := by decide +kernel
theorem dX9_slips_71 : decode cX9_slips 71 = .ok (.iload 6, 2) := by decide +kernel
theorem dX9_slips_73 : decode cX9_slips 73 = .ok (.iload 7, 2) := by decide +kernel
theorem dX9_slips_75 : decode cX9_slips 75 = .ok (.iload 8, 2) := by decide +kernel
theorem dX9_slips_77 : decode cX9_slips 77 = .ok (.invokevirtual 238, 3) := by decide +kernel
theorem dX9_slips_80 : decode cX9_slips 80 = .ok (.istore 9, 2) := by decide +kernel
theorem dX9_slips_82 : decode cX9_slips 82 = .ok (.aload_n 0, 1) := by decide +kernel
theorem dX9_slips_83 : decode cX9_slips 83 = .ok (.getfield 83, 3) := by decide +kernel
theorem dX9_slips_86 : decode cX9_slips 86 = .ok (.iload 5, 2) := by decide +kernel
theorem dX9_slips_88 : decode cX9_slips 88 = .ok (.iload 9, 2) := by decide +kernel
theorem dX9_slips_90 : decode cX9_slips 90 = .ok (.ifCond .eq 16, 3) := by decide +kernel
theorem dX9_slips_93 : decode cX9_slips 93 = .ok (.aload_n 0, 1) := by decide +kernel
theorem dX9_slips_94 : decode cX9_slips 94 = .ok (.iload 6, 2) := by decide +kernel
theorem dX9_slips_96 : decode cX9_slips 96 = .ok (.iload 7, 2) := by decide +kernel
theorem dX9_slips_98 : decode cX9_slips 98 = .ok (.iload 8, 2) := by decide +kernel
theorem dX9_slips_100 : decode cX9_slips 100 = .ok (.invokevirtual 242, 3) := by decide +kernel
theorem dX9_slips_103 : decode cX9_slips 103 = .ok (.goto 4, 3) := by decide +kernel
theorem dX9_slips_106 : decode cX9_slips 106 = .ok (.iconst 0, 1) := by decide +kernel
theorem dX9_slips_107 : decode cX9_slips 107 = .ok (.iastore, 1) := by decide +kernel
theorem dX9_slips_108 : decode cX9_slips 108 = .ok (.iload 4, 2) := by decide +kernel
theorem dX9_slips_110 : decode cX9_slips 110 = .ok (.iload 9, 2) := by decide +kernel
theorem dX9_slips_112 : decode cX9_slips 112 = .ok (.ifCond .eq 7, 3) := by decide +kernel
theorem dX9_slips_115 : decode cX9_slips 115 = .ok (.iconst 1, 1) := by decide +kernel
theorem dX9_slips_116 : decode cX9_slips 116 = .ok (.goto 4, 3) := by decide +kernel
theorem dX9_slips_119 : decode cX9_slips 119 = .ok (.iconst 0, 1) := by decide +kernel
theorem dX9_slips_120 : decode cX9_slips 120 = .ok (.iadd, 1) := by decide +kernel
theorem dX9_slips_121 : decode cX9_slips 121 = .ok (.istore 4, 2) := by decide +kernel
theorem dX9_slips_123 : decode cX9_slips 123 = .ok (.iload_n 2, 1) := by decide +kernel
theorem dX9_slips_124 : decode cX9_slips 124 = .ok (.aload_n 0, 1) := by decide +kernel
theorem dX9_slips_125 : decode cX9_slips 125 = .ok (.getfield 83, 3) := by decide +kernel
theorem dX9_slips_128 : decode cX9_slips 128 = .ok (.iload 5, 2) := by decide +kernel
theorem dX9_slips_130 : decode cX9_slips 130 = .ok (.iaload, 1) := by decide +kernel
theorem dX9_slips_131 : decode cX9_slips 131 = .ok (.iconst 0, 1) := by decide +kernel
theorem dX9_slips_132 : decode cX9_slips 132 = .ok (.invokestatic 176, 3) := by decide +kernel
theorem dX9_slips_135 : decode cX9_slips 135 = .ok (.ifCond .ne 21, 3) := by decide +kernel
theorem dX9_slips_138 : decode cX9_slips 138 = .ok (.aload_n 0, 1) := by decide +kernel
theorem dX9_slips_139 : decode cX9_slips 139 = .ok (.getfield 83, 3) := by decide +kernel
theorem dX9_slips_142 : decode cX9_slips 142 = .ok (.iload 5, 2) := by decide +kernel
theorem dX9_slips_144 : decode cX9_slips 144 = .ok (.iaload, 1) := by decide +kernel
theorem dX9_slips_145 : decode cX9_slips 145 = .ok (.iconst 1, 1) := by decide +kernel
theorem dX9_slips_146 : decode cX9_slips 146 = .ok (.invokestatic 176, 3) := by decide +kernel
theorem dX9_slips_149 : decode cX9_slips 149 = .ok (.ifCond .eq 7, 3) := by decide +kernel
theorem dX9_slips_152 : decode cX9_slips 152 = .ok (.iconst 1, 1) := by decide +kernel
theorem dX9_slips_153 : decode cX9_slips 153 = .ok (.goto 4, 3) := by decide +kernel
theorem dX9_slips_156 : decode cX9_slips 156 = .ok (.iconst 0, 1) := by decide +kernel
theorem dX9_slips_157 : decode cX9_slips 157 = .ok (.iadd, 1) := by decide +kernel
theorem dX9_slips_158 : decode cX9_slips 158 = .ok (.istore_n 2, 1) := by decide +kernel
theorem dX9_slips_159 : decode cX9_slips 159 = .ok (.iload_n 3, 1) := by decide +kernel
theorem dX9_slips_160 : decode cX9_slips 160 = .ok (.iload 9, 2) := by decide +kernel
theorem dX9_slips_162 : decode cX9_slips 162 = .ok (.ifCond .eq 29, 3) := by decide +kernel
theorem dX9_slips_165 : decode cX9_slips 165 = .ok (.aload_n 0, 1) := by decide +kernel
theorem dX9_slips_166 : decode cX9_slips 166 = .ok (.aload_n 0, 1) := by decide +kernel
theorem dX9_slips_167 : decode cX9_slips 167 = .ok (.getfield 28, 3) := by decide +kernel
theorem dX9_slips_170 : decode cX9_slips 170 = .ok (.bipush 8, 2) := by decide +kernel
theorem dX9_slips_172 : decode cX9_slips 172 = .ok (.iload 6, 2) := by decide +kernel
theorem dX9_slips_174 : decode cX9_slips 174 = .ok (.imul, 1) := by decide +kernel
theorem dX9_slips_175 : decode cX9_slips 175 = .ok (.iload 7, 2) := by decide +kernel
theorem dX9_slips_177 : decode cX9_slips 177 = .ok (.iadd, 1) := by decide +kernel
theorem dX9_slips_178 : decode cX9_slips 178 = .ok (.iaload, 1) := by decide +kernel
theorem dX9_slips_179 : decode cX9_slips 179 = .ok (.iload 8, 2) := by decide +kernel
theorem dX9_slips_181 : decode cX9_slips 181 = .ok (.invokevirtual 250, 3) := by decide +kernel
theorem dX9_slips_184 : decode cX9_slips 184 = .ok (.ifCond .eq 7, 3) := by decide +kernel
theorem dX9_slips_187 : decode cX9_slips 187 = .ok (.iconst 1, 1) := by decide +kernel
theorem dX9_slips_188 : decode cX9_slips 188 = .ok (.goto 4, 3) := by decide +kernel
theorem dX9_slips_191 : decode cX9_slips 191 = .ok (.iconst 0, 1) := by decide +kernel
theorem dX9_slips_192 : decode cX9_slips 192 = .ok (.iadd, 1) := by decide +kernel
theorem dX9_slips_193 : decode cX9_slips 193 = .ok (.istore_n 3, 1) := by decide +kernel
theorem dX9_slips_194 : decode cX9_slips 194 = .ok (.iinc 5 1, 3) := by decide +kernel
theorem dX9_slips_197 : decode cX9_slips 197 = .ok (.goto (-173), 3) := by decide +kernel
theorem dX9_slips_200 : decode cX9_slips 200 = .ok (.iload_n 1, 1) := by decide +kernel
theorem dX9_slips_201 : decode cX9_slips 201 = .ok (.ifCond .ne 7, 3) := by decide +kernel
theorem dX9_slips_204 : decode cX9_slips 204 = .ok (.iload_n 2, 1) := by decide +kernel
theorem dX9_slips_205 : decode cX9_slips 205 = .ok (.goto 26, 3) := by decide +kernel
theorem dX9_slips_208 : decode cX9_slips 208 = .ok (.iload_n 1, 1) := by decide +kernel
theorem dX9_slips_209 : decode cX9_slips 209 = .ok (.iconst 1, 1) := by decide +kernel
theorem dX9_slips_210 : decode cX9_slips 210 = .ok (.if_icmp .ne 10, 3) := by decide +kernel
theorem dX9_slips_213 : decode cX9_slips 213 = .ok (.aload_n 0, 1) := by decide +kernel
theorem dX9_slips_214 : decode cX9_slips 214 = .ok (.invokevirtual 253, 3) := by decide +kernel
theorem dX9_slips_217 : decode cX9_slips 217 = .ok (.goto 14, 3) := by decide +kernel
theorem dX9_slips_220 : decode cX9_slips 220 = .ok (.iload_n 1, 1) := by decide +kernel
theorem dX9_slips_221 : decode cX9_slips 221 = .ok (.iconst 2, 1) := by decide +kernel
theorem dX9_slips_222 : decode cX9_slips 222 = .ok (.if_icmp .ne 7, 3) := by decide +kernel
theorem dX9_slips_225 : decode cX9_slips 225 = .ok (.iload_n 3, 1) := by decide +kernel
theorem dX9_slips_226 : decode cX9_slips 226 = .ok (.goto 5, 3) := by decide +kernel
theorem dX9_slips_229 : decode cX9_slips 229 = .ok (.iload 4, 2) := by decide +kernel
theorem dX9_slips_231 : decode cX9_slips 231 = .ok (.ireturn, 1) := by decide +kernel
theorem dX9_list_0 : decode cX9_list 0 = .ok (.iload_n 1, 1) := by decide +kernel
theorem dX9_list_1 : decode cX9_list 1 = .ok (.invokestatic 148, 3) := by decide +kernel
theorem dX9_list_4 : decode cX9_list 4 = .ok (.ifCond .eq 15, 3) := by decide +kernel
theorem dX9_list_7 : decode cX9_list 7 = .ok (.iload_n 2, 1) := by decide +kernel
theorem dX9_list_8 : decode cX9_list 8 = .ok (.i2l, 1) := by decide +kernel
theorem dX9_list_9 : decode cX9_list 9 = .ok (.lconst 0, 1) := by decide +kernel
theorem dX9_list_10 : decode cX9_list 10 = .ok (.ldc2_w 90, 3) := by decide +kernel
theorem dX9_list_13 : decode cX9_list 13 = .ok (.invokestatic 92, 3) := by decide +kernel
theorem dX9_list_16 : decode cX9_list 16 = .ok (.ifCond .ne 5, 3) := by decide +kernel
theorem dX9_list_19 : decode cX9_list 19 = .ok (.iconst (-1), 1) := by decide +kernel
theorem dX9_list_20 : decode cX9_list 20 = .ok (.ireturn, 1) := by decide +kernel
theorem dX9_list_21 : decode cX9_list 21 = .ok (.iconst 0, 1) := by decide +kernel
theorem dX9_list_22 : decode cX9_list 22 = .ok (.istore_n 3, 1) := by decide +kernel
theorem dX9_list_23 : decode cX9_list 23 = .ok (.iconst 0, 1) := by decide +kernel
theorem dX9_list_24 : decode cX9_list 24 = .ok (.istore 4, 2) := by decide +kernel
theorem dX9_list_26 : decode cX9_list 26 = .ok (.iload 4, 2) := by decide +kernel
theorem dX9_list_28 : decode cX9_list 28 = .ok (.aload_n 0, 1) := by decide +kernel
theorem dX9_list_29 : decode cX9_list 29 = .ok (.getfield 25, 3) := by decide +kernel
theorem dX9_list_32 : decode cX9_list 32 = .ok (.iload_n 1, 1) := by decide +kernel
theorem dX9_list_33 : decode cX9_list 33 = .ok (.iaload, 1) := by decide +kernel
theorem dX9_list_34 : decode cX9_list 34 = .ok (.if_icmp .ge 62, 3) := by decide +kernel
theorem dX9_list_37 : decode cX9_list 37 = .ok (.iconst 3, 1) := by decide +kernel
theorem dX9_list_38 : decode cX9_list 38 = .ok (.aload_n 0, 1) := by decide +kernel
theorem dX9_list_39 : decode cX9_list 39 = .ok (.getfield 28, 3) := by decide +kernel
theorem dX9_list_42 : decode cX9_list 42 = .ok (.bipush 8, 2) := by decide +kernel
theorem dX9_list_44 : decode cX9_list 44 = .ok (.iload_n 1, 1) := by decide +kernel
theorem dX9_list_45 : decode cX9_list 45 = .ok (.imul, 1) := by decide +kernel
theorem dX9_list_46 : decode cX9_list 46 = .ok (.iload 4, 2) := by decide +kernel
theorem dX9_list_48 : decode cX9_list 48 = .ok (.iadd, 1) := by decide +kernel
theorem dX9_list_49 : decode cX9_list 49 = .ok (.iaload, 1) := by decide +kernel
theorem dX9_list_50 : decode cX9_list 50 = .ok (.imul, 1) := by decide +kernel
theorem dX9_list_51 : decode cX9_list 51 = .ok (.istore 5, 2) := by decide +kernel
theorem dX9_list_53 : decode cX9_list 53 = .ok (.iload_n 3, 1) := by decide +kernel
theorem dX9_list_54 : decode cX9_list 54 = .ok (.iload_n 2, 1) := by decide +kernel
theorem dX9_list_55 : decode cX9_list 55 = .ok (.bipush 8, 2) := by decide +kernel
theorem dX9_list_57 : decode cX9_list 57 = .ok (.if_icmp .ne 15, 3) := by decide +kernel
theorem dX9_list_60 : decode cX9_list 60 = .ok (.aload_n 0, 1) := by decide +kernel
theorem dX9_list_61 : decode cX9_list 61 = .ok (.getfield 16, 3) := by decide +kernel
theorem dX9_list_64 : decode cX9_list 64 = .ok (.iload 5, 2) := by decide +kernel
theorem dX9_list_66 : decode cX9_list 66 = .ok (.iconst 1, 1) := by decide +kernel
theorem dX9_list_67 : decode cX9_list 67 = .ok (.iadd, 1) := by decide +kernel
theorem dX9_list_68 : decode cX9_list 68 = .ok (.iaload, 1) := by decide +kernel
theorem dX9_list_69 : decode cX9_list 69 = .ok (.goto 19, 3) := by decide +kernel
theorem dX9_list_72 : decode cX9_list 72 = .ok (.aload_n 0, 1) := by decide +kernel
theorem dX9_list_73 : decode cX9_list 73 = .ok (.getfield 16, 3) := by decide +kernel
theorem dX9_list_76 : decode cX9_list 76 = .ok (.iload 5, 2) := by decide +kernel
theorem dX9_list_78 : decode cX9_list 78 = .ok (.iaload, 1) := by decide +kernel
theorem dX9_list_79 : decode cX9_list 79 = .ok (.iload_n 2, 1) := by decide +kernel
theorem dX9_list_80 : decode cX9_list 80 = .ok (.if_icmp .ne 7, 3) := by decide +kernel
theorem dX9_list_83 : decode cX9_list 83 = .ok (.iconst 1, 1) := by decide +kernel
theorem dX9_list_84 : decode cX9_list 84 = .ok (.goto 4, 3) := by decide +kernel
theorem dX9_list_87 : decode cX9_list 87 = .ok (.iconst 0, 1) := by decide +kernel
theorem dX9_list_88 : decode cX9_list 88 = .ok (.iadd, 1) := by decide +kernel
theorem dX9_list_89 : decode cX9_list 89 = .ok (.istore_n 3, 1) := by decide +kernel
theorem dX9_list_90 : decode cX9_list 90 = .ok (.iinc 4 1, 3) := by decide +kernel
theorem dX9_list_93 : decode cX9_list 93 = .ok (.goto (-67), 3) := by decide +kernel
theorem dX9_list_96 : decode cX9_list 96 = .ok (.iload_n 2, 1) := by decide +kernel
theorem dX9_list_97 : decode cX9_list 97 = .ok (.bipush 8, 2) := by decide +kernel
theorem dX9_list_99 : decode cX9_list 99 = .ok (.if_icmp .ne 10, 3) := by decide +kernel
theorem dX9_list_102 : decode cX9_list 102 = .ok (.iload_n 3, 1) := by decide +kernel
theorem dX9_list_103 : decode cX9_list 103 = .ok (.bipush 16, 2) := by decide +kernel
theorem dX9_list_105 : decode cX9_list 105 = .ok (.irem, 1) := by decide +kernel
theorem dX9_list_106 : decode cX9_list 106 = .ok (.goto 4, 3) := by decide +kernel
theorem dX9_list_109 : decode cX9_list 109 = .ok (.iload_n 3, 1) := by decide +kernel
theorem dX9_list_110 : decode cX9_list 110 = .ok (.ireturn, 1) := by decide +kernel
theorem dX9_isHead_0 : decode cX9_isHead 0 = .ok (.iload_n 1, 1) := by decide +kernel
theorem dX9_isHead_1 : decode cX9_isHead 1 = .ok (.i2l, 1) := by decide +kernel
theorem dX9_isHead_2 : decode cX9_isHead 2 = .ok (.lconst 0, 1) := by decide +kernel
theorem dX9_isHead_3 : decode cX9_isHead 3 = .ok (.aload_n 0, 1) := by decide +kernel
theorem dX9_isHead_4 : decode cX9_isHead 4 = .ok (.getfield 143, 3) := by decide +kernel
theorem dX9_isHead_7 : decode cX9_isHead 7 = .ok (.iconst 1, 1) := by decide +kernel
theorem dX9_isHead_8 : decode cX9_isHead 8 = .ok (.isub, 1) := by decide +kernel
theorem dX9_isHead_9 : decode cX9_isHead 9 = .ok (.i2l, 1) := by decide +kernel
theorem dX9_isHead_10 : decode cX9_isHead 10 = .ok (.invokestatic 92, 3) := by decide +kernel
theorem dX9_isHead_13 : decode cX9_isHead 13 = .ok (.ireturn, 1) := by decide +kernel
theorem dX9_head_0 : decode cX9_head 0 = .ok (.iload_n 1, 1) := by decide +kernel
theorem dX9_head_1 : decode cX9_head 1 = .ok (.i2l, 1) := by decide +kernel
theorem dX9_head_2 : decode cX9_head 2 = .ok (.lconst 0, 1) := by decide +kernel
theorem dX9_head_3 : decode cX9_head 3 = .ok (.ldc2_w 256, 3) := by decide +kernel
theorem dX9_head_6 : decode cX9_head 6 = .ok (.invokestatic 92, 3) := by decide +kernel
theorem dX9_head_9 : decode cX9_head 9 = .ok (.ifCond .eq 44, 3) := by decide +kernel
theorem dX9_head_12 : decode cX9_head 12 = .ok (.iload_n 2, 1) := by decide +kernel
theorem dX9_head_13 : decode cX9_head 13 = .ok (.i2l, 1) := by decide +kernel
theorem dX9_head_14 : decode cX9_head 14 = .ok (.ldc2_w 258, 3) := by decide +kernel
theorem dX9_head_17 : decode cX9_head 17 = .ok (.aload_n 0, 1) := by decide +kernel
theorem dX9_head_18 : decode cX9_head 18 = .ok (.getfield 143, 3) := by decide +kernel
theorem dX9_head_21 : decode cX9_head 21 = .ok (.iconst 1, 1) := by decide +kernel
theorem dX9_head_22 : decode cX9_head 22 = .ok (.isub, 1) := by decide +kernel
theorem dX9_head_23 : decode cX9_head 23 = .ok (.i2l, 1) := by decide +kernel
theorem dX9_head_24 : decode cX9_head 24 = .ok (.invokestatic 92, 3) := by decide +kernel
theorem dX9_head_27 : decode cX9_head 27 = .ok (.ifCond .eq 26, 3) := by decide +kernel
theorem dX9_head_30 : decode cX9_head 30 = .ok (.iload_n 3, 1) := by decide +kernel
theorem dX9_head_31 : decode cX9_head 31 = .ok (.invokestatic 148, 3) := by decide +kernel
theorem dX9_head_34 : decode cX9_head 34 = .ok (.ifCond .eq 19, 3) := by decide +kernel
theorem dX9_head_37 : decode cX9_head 37 = .ok (.iload_n 2, 1) := by decide +kernel
theorem dX9_head_38 : decode cX9_head 38 = .ok (.ifCond .lt 17, 3) := by decide +kernel
theorem dX9_head_41 : decode cX9_head 41 = .ok (.aload_n 0, 1) := by decide +kernel
theorem dX9_head_42 : decode cX9_head 42 = .ok (.getfield 46, 3) := by decide +kernel
theorem dX9_head_45 : decode cX9_head 45 = .ok (.iconst 4, 1) := by decide +kernel
theorem dX9_head_46 : decode cX9_head 46 = .ok (.iload_n 2, 1) := by decide +kernel
theorem dX9_head_47 : decode cX9_head 47 = .ok (.imul, 1) := by decide +kernel
theorem dX9_head_48 : decode cX9_head 48 = .ok (.iaload, 1) := by decide +kernel
theorem dX9_head_49 : decode cX9_head 49 = .ok (.iload_n 1, 1) := by decide +kernel
theorem dX9_head_50 : decode cX9_head 50 = .ok (.if_icmp .lt 5, 3) := by decide +kernel
theorem dX9_head_53 : decode cX9_head 53 = .ok (.iconst (-1), 1) := by decide +kernel
theorem dX9_head_54 : decode cX9_head 54 = .ok (.ireturn, 1) := by decide +kernel
theorem dX9_head_55 : decode cX9_head 55 = .ok (.aload_n 0, 1) := by decide +kernel
theorem dX9_head_56 : decode cX9_head 56 = .ok (.getfield 143, 3) := by decide +kernel
theorem dX9_head_59 : decode cX9_head 59 = .ok (.bipush 16, 2) := by decide +kernel
theorem dX9_head_61 : decode cX9_head 61 = .ok (.if_icmp .ne 6, 3) := by decide +kernel
theorem dX9_head_64 : decode cX9_head 64 = .ok (.bipush (-3), 2) := by decide +kernel
theorem dX9_head_66 : decode cX9_head 66 = .ok (.ireturn, 1) := by decide +kernel
theorem dX9_head_67 : decode cX9_head 67 = .ok (.iconst 4, 1) := by decide +kernel
theorem dX9_head_68 : decode cX9_head 68 = .ok (.aload_n 0, 1) := by decide +kernel
theorem dX9_head_69 : decode cX9_head 69 = .ok (.getfield 143, 3) := by decide +kernel
theorem dX9_head_72 : decode cX9_head 72 = .ok (.imul, 1) := by decide +kernel
theorem dX9_head_73 : decode cX9_head 73 = .ok (.istore 4, 2) := by decide +kernel
theorem dX9_head_75 : decode cX9_head 75 = .ok (.aload_n 0, 1) := by decide +kernel
theorem dX9_head_76 : decode cX9_head 76 = .ok (.getfield 46, 3) := by decide +kernel
theorem dX9_head_79 : decode cX9_head 79 = .ok (.iload 4, 2) := by decide +kernel
theorem dX9_head_81 : decode cX9_head 81 = .ok (.iload_n 1, 1) := by decide +kernel
theorem dX9_head_82 : decode cX9_head 82 = .ok (.iastore, 1) := by decide +kernel
theorem dX9_head_83 : decode cX9_head 83 = .ok (.aload_n 0, 1) := by decide +kernel
theorem dX9_head_84 : decode cX9_head 84 = .ok (.getfield 46, 3) := by decide +kernel
theorem dX9_head_87 : decode cX9_head 87 = .ok (.iload 4, 2) := by decide +kernel
theorem dX9_head_89 : decode cX9_head 89 = .ok (.iconst 1, 1) := by decide +kernel
theorem dX9_head_90 : decode cX9_head 90 = .ok (.iadd, 1) := by decide +kernel
theorem dX9_head_91 : decode cX9_head 91 = .ok (.iload_n 2, 1) := by decide +kernel
theorem dX9_head_92 : decode cX9_head 92 = .ok (.iastore, 1) := by decide +kernel
theorem dX9_head_93 : decode cX9_head 93 = .ok (.aload_n 0, 1) := by decide +kernel
theorem dX9_head_94 : decode cX9_head 94 = .ok (.getfield 46, 3) := by decide +kernel
theorem dX9_head_97 : decode cX9_head 97 = .ok (.iload 4, 2) := by decide +kernel
theorem dX9_head_99 : decode cX9_head 99 = .ok (.iconst 2, 1) := by decide +kernel
theorem dX9_head_100 : decode cX9_head 100 = .ok (.iadd, 1) := by decide +kernel
theorem dX9_head_101 : decode cX9_head 101 = .ok (.iload_n 3, 1) := by decide +kernel
theorem dX9_head_102 : decode cX9_head 102 = .ok (.iastore, 1) := by decide +kernel
theorem dX9_head_103 : decode cX9_head 103 = .ok (.aload_n 0, 1) := by decide +kernel
theorem dX9_head_104 : decode cX9_head 104 = .ok (.getfield 46, 3) := by decide +kernel
theorem dX9_head_107 : decode cX9_head 107 = .ok (.iload 4, 2) := by decide +kernel
theorem dX9_head_109 : decode cX9_head 109 = .ok (.iconst 3, 1) := by decide +kernel
theorem dX9_head_110 : decode cX9_head 110 = .ok (.iadd, 1) := by decide +kernel
theorem dX9_head_111 : decode cX9_head 111 = .ok (.iconst 1, 1) := by decide +kernel
theorem dX9_head_112 : decode cX9_head 112 = .ok (.iastore, 1) := by decide +kernel
theorem dX9_head_113 : decode cX9_head 113 = .ok (.aload_n 0, 1) := by decide +kernel
theorem dX9_head_114 : decode cX9_head 114 = .ok (.dup, 1) := by decide +kernel
theorem dX9_head_115 : decode cX9_head 115 = .ok (.getfield 143, 3) := by decide +kernel
theorem dX9_head_118 : decode cX9_head 118 = .ok (.iconst 1, 1) := by decide +kernel
theorem dX9_head_119 : decode cX9_head 119 = .ok (.iadd, 1) := by decide +kernel
theorem dX9_head_120 : decode cX9_head 120 = .ok (.putfield 143, 3) := by decide +kernel
theorem dX9_head_123 : decode cX9_head 123 = .ok (.aload_n 0, 1) := by decide +kernel
theorem dX9_head_124 : decode cX9_head 124 = .ok (.getfield 143, 3) := by decide +kernel
theorem dX9_head_127 : decode cX9_head 127 = .ok (.iconst 1, 1) := by decide +kernel
theorem dX9_head_128 : decode cX9_head 128 = .ok (.isub, 1) := by decide +kernel
theorem dX9_head_129 : decode cX9_head 129 = .ok (.ireturn, 1) := by decide +kernel
theorem dX9_isAlive_0 : decode cX9_isAlive 0 = .ok (.aload_n 0, 1) := by decide +kernel
theorem dX9_isAlive_1 : decode cX9_isAlive 1 = .ok (.getfield 46, 3) := by decide +kernel
theorem dX9_isAlive_4 : decode cX9_isAlive 4 = .ok (.iconst 4, 1) := by decide +kernel
theorem dX9_isAlive_5 : decode cX9_isAlive 5 = .ok (.iload_n 1, 1) := by decide +kernel
theorem dX9_isAlive_6 : decode cX9_isAlive 6 = .ok (.imul, 1) := by decide +kernel
theorem dX9_isAlive_7 : decode cX9_isAlive 7 = .ok (.iconst 3, 1) := by decide +kernel
theorem dX9_isAlive_8 : decode cX9_isAlive 8 = .ok (.iadd, 1) := by decide +kernel
theorem dX9_isAlive_9 : decode cX9_isAlive 9 = .ok (.iaload, 1) := by decide +kernel
theorem dX9_isAlive_10 : decode cX9_isAlive 10 = .ok (.iconst 1, 1) := by decide +kernel
theorem dX9_isAlive_11 : decode cX9_isAlive 11 = .ok (.if_icmp .ne 7, 3) := by decide +kernel
theorem dX9_isAlive_14 : decode cX9_isAlive 14 = .ok (.iconst 1, 1) := by decide +kernel
theorem dX9_isAlive_15 : decode cX9_isAlive 15 = .ok (.goto 4, 3) := by decide +kernel
theorem dX9_isAlive_18 : decode cX9_isAlive 18 = .ok (.iconst 0, 1) := by decide +kernel
theorem dX9_isAlive_19 : decode cX9_isAlive 19 = .ok (.ireturn, 1) := by decide +kernel
theorem dX9_alive_0 : decode cX9_alive 0 = .ok (.aload_n 0, 1) := by decide +kernel
theorem dX9_alive_1 : decode cX9_alive 1 = .ok (.iload_n 1, 1) := by decide +kernel
theorem dX9_alive_2 : decode cX9_alive 2 = .ok (.invokevirtual 260, 3) := by decide +kernel
theorem dX9_alive_5 : decode cX9_alive 5 = .ok (.ifCond .ne 5, 3) := by decide +kernel
theorem dX9_alive_8 : decode cX9_alive 8 = .ok (.iconst (-1), 1) := by decide +kernel
theorem dX9_alive_9 : decode cX9_alive 9 = .ok (.ireturn, 1) := by decide +kernel
theorem dX9_alive_10 : decode cX9_alive 10 = .ok (.aload_n 0, 1) := by decide +kernel
theorem dX9_alive_11 : decode cX9_alive 11 = .ok (.getfield 46, 3) := by decide +kernel
theorem dX9_alive_14 : decode cX9_alive 14 = .ok (.iconst 4, 1) := by decide +kernel
theorem dX9_alive_15 : decode cX9_alive 15 = .ok (.iload_n 1, 1) := by decide +kernel
theorem dX9_alive_16 : decode cX9_alive 16 = .ok (.imul, 1) := by decide +kernel
theorem dX9_alive_17 : decode cX9_alive 17 = .ok (.iconst 3, 1) := by decide +kernel
theorem dX9_alive_18 : decode cX9_alive 18 = .ok (.iadd, 1) := by decide +kernel
theorem dX9_alive_19 : decode cX9_alive 19 = .ok (.iaload, 1) := by decide +kernel
theorem dX9_alive_20 : decode cX9_alive 20 = .ok (.istore_n 3, 1) := by decide +kernel
theorem dX9_alive_21 : decode cX9_alive 21 = .ok (.aload_n 0, 1) := by decide +kernel
theorem dX9_alive_22 : decode cX9_alive 22 = .ok (.getfield 46, 3) := by decide +kernel
theorem dX9_alive_25 : decode cX9_alive 25 = .ok (.iconst 4, 1) := by decide +kernel
theorem dX9_alive_26 : decode cX9_alive 26 = .ok (.iload_n 1, 1) := by decide +kernel
theorem dX9_alive_27 : decode cX9_alive 27 = .ok (.imul, 1) := by decide +kernel
theorem dX9_alive_28 : decode cX9_alive 28 = .ok (.iconst 3, 1) := by decide +kernel
theorem dX9_alive_29 : decode cX9_alive 29 = .ok (.iadd, 1) := by decide +kernel
theorem dX9_alive_30 : decode cX9_alive 30 = .ok (.iload_n 2, 1) := by decide +kernel
theorem dX9_alive_31 : decode cX9_alive 31 = .ok (.ifCond .eq 7, 3) := by decide +kernel
theorem dX9_alive_34 : decode cX9_alive 34 = .ok (.iconst 1, 1) := by decide +kernel
theorem dX9_alive_35 : decode cX9_alive 35 = .ok (.goto 4, 3) := by decide +kernel
theorem dX9_alive_38 : decode cX9_alive 38 = .ok (.iconst 0, 1) := by decide +kernel
theorem dX9_alive_39 : decode cX9_alive 39 = .ok (.iastore, 1) := by decide +kernel
theorem dX9_alive_40 : decode cX9_alive 40 = .ok (.iload_n 3, 1) := by decide +kernel
theorem dX9_alive_41 : decode cX9_alive 41 = .ok (.ireturn, 1) := by decide +kernel
theorem dX9_wordOf_0 : decode cX9_wordOf 0 = .ok (.aload_n 0, 1) := by decide +kernel
theorem dX9_wordOf_1 : decode cX9_wordOf 1 = .ok (.getfield 46, 3) := by decide +kernel
theorem dX9_wordOf_4 : decode cX9_wordOf 4 = .ok (.iconst 4, 1) := by decide +kernel
theorem dX9_wordOf_5 : decode cX9_wordOf 5 = .ok (.iload_n 1, 1) := by decide +kernel
theorem dX9_wordOf_6 : decode cX9_wordOf 6 = .ok (.imul, 1) := by decide +kernel
theorem dX9_wordOf_7 : decode cX9_wordOf 7 = .ok (.iconst 2, 1) := by decide +kernel
theorem dX9_wordOf_8 : decode cX9_wordOf 8 = .ok (.iadd, 1) := by decide +kernel
theorem dX9_wordOf_9 : decode cX9_wordOf 9 = .ok (.iaload, 1) := by decide +kernel
theorem dX9_wordOf_10 : decode cX9_wordOf 10 = .ok (.istore_n 3, 1) := by decide +kernel
theorem dX9_wordOf_11 : decode cX9_wordOf 11 = .ok (.iload_n 2, 1) := by decide +kernel
theorem dX9_wordOf_12 : decode cX9_wordOf 12 = .ok (.aload_n 0, 1) := by decide +kernel
theorem dX9_wordOf_13 : decode cX9_wordOf 13 = .ok (.getfield 25, 3) := by decide +kernel
theorem dX9_wordOf_16 : decode cX9_wordOf 16 = .ok (.iload_n 3, 1) := by decide +kernel
theorem dX9_wordOf_17 : decode cX9_wordOf 17 = .ok (.iaload, 1) := by decide +kernel
theorem dX9_wordOf_18 : decode cX9_wordOf 18 = .ok (.if_icmp .ge 17, 3) := by decide +kernel
theorem dX9_wordOf_21 : decode cX9_wordOf 21 = .ok (.aload_n 0, 1) := by decide +kernel
theorem dX9_wordOf_22 : decode cX9_wordOf 22 = .ok (.getfield 28, 3) := by decide +kernel
theorem dX9_wordOf_25 : decode cX9_wordOf 25 = .ok (.bipush 8, 2) := by decide +kernel
theorem dX9_wordOf_27 : decode cX9_wordOf 27 = .ok (.iload_n 3, 1) := by decide +kernel
theorem dX9_wordOf_28 : decode cX9_wordOf 28 = .ok (.imul, 1) := by decide +kernel
theorem dX9_wordOf_29 : decode cX9_wordOf 29 = .ok (.iload_n 2, 1) := by decide +kernel
theorem dX9_wordOf_30 : decode cX9_wordOf 30 = .ok (.iadd, 1) := by decide +kernel
theorem dX9_wordOf_31 : decode cX9_wordOf 31 = .ok (.iaload, 1) := by decide +kernel
theorem dX9_wordOf_32 : decode cX9_wordOf 32 = .ok (.goto 5, 3) := by decide +kernel
theorem dX9_wordOf_35 : decode cX9_wordOf 35 = .ok (.bipush (-4), 2) := by decide +kernel
theorem dX9_wordOf_37 : decode cX9_wordOf 37 = .ok (.ireturn, 1) := by decide +kernel
theorem dX9_same_0 : decode cX9_same 0 = .ok (.iload_n 1, 1) := by decide +kernel
theorem dX9_same_1 : decode cX9_same 1 = .ok (.invokestatic 154, 3) := by decide +kernel
theorem dX9_same_4 : decode cX9_same 4 = .ok (.ifCond .ne 5, 3) := by decide +kernel
theorem dX9_same_7 : decode cX9_same 7 = .ok (.iconst (-1), 1) := by decide +kernel
theorem dX9_same_8 : decode cX9_same 8 = .ok (.ireturn, 1) := by decide +kernel
theorem dX9_same_9 : decode cX9_same 9 = .ok (.bipush (-4), 2) := by decide +kernel
theorem dX9_same_11 : decode cX9_same 11 = .ok (.istore_n 2, 1) := by decide +kernel
theorem dX9_same_12 : decode cX9_same 12 = .ok (.iconst 1, 1) := by decide +kernel
theorem dX9_same_13 : decode cX9_same 13 = .ok (.istore_n 3, 1) := by decide +kernel
theorem dX9_same_14 : decode cX9_same 14 = .ok (.iconst 0, 1) := by decide +kernel
theorem dX9_same_15 : decode cX9_same 15 = .ok (.istore 4, 2) := by decide +kernel
theorem dX9_same_17 : decode cX9_same 17 = .ok (.iload 4, 2) := by decide +kernel
theorem dX9_same_19 : decode cX9_same 19 = .ok (.aload_n 0, 1) := by decide +kernel
theorem dX9_same_20 : decode cX9_same 20 = .ok (.getfield 143, 3) := by decide +kernel
theorem dX9_same_23 : decode cX9_same 23 = .ok (.if_icmp .ge 75, 3) := by decide +kernel
theorem dX9_same_26 : decode cX9_same 26 = .ok (.aload_n 0, 1) := by decide +kernel
theorem dX9_same_27 : decode cX9_same 27 = .ok (.iload 4, 2) := by decide +kernel
theorem dX9_same_29 : decode cX9_same 29 = .ok (.invokevirtual 263, 3) := by decide +kernel
theorem dX9_same_32 : decode cX9_same 32 = .ok (.ifCond .eq 13, 3) := by decide +kernel
theorem dX9_same_35 : decode cX9_same 35 = .ok (.aload_n 0, 1) := by decide +kernel
theorem dX9_same_36 : decode cX9_same 36 = .ok (.iload 4, 2) := by decide +kernel
theorem dX9_same_38 : decode cX9_same 38 = .ok (.iload_n 1, 1) := by decide +kernel
theorem dX9_same_39 : decode cX9_same 39 = .ok (.invokevirtual 266, 3) := by decide +kernel
theorem dX9_same_42 : decode cX9_same 42 = .ok (.goto 5, 3) := by decide +kernel
theorem dX9_same_45 : decode cX9_same 45 = .ok (.bipush (-4), 2) := by decide +kernel
theorem dX9_same_47 : decode cX9_same 47 = .ok (.istore 5, 2) := by decide +kernel
theorem dX9_same_49 : decode cX9_same 49 = .ok (.iload_n 3, 1) := by decide +kernel
theorem dX9_same_50 : decode cX9_same 50 = .ok (.ifCond .eq 26, 3) := by decide +kernel
theorem dX9_same_53 : decode cX9_same 53 = .ok (.iload 5, 2) := by decide +kernel
theorem dX9_same_55 : decode cX9_same 55 = .ok (.bipush (-4), 2) := by decide +kernel
theorem dX9_same_57 : decode cX9_same 57 = .ok (.if_icmp .eq 15, 3) := by decide +kernel
theorem dX9_same_60 : decode cX9_same 60 = .ok (.iload_n 2, 1) := by decide +kernel
theorem dX9_same_61 : decode cX9_same 61 = .ok (.bipush (-4), 2) := by decide +kernel
theorem dX9_same_63 : decode cX9_same 63 = .ok (.if_icmp .eq 9, 3) := by decide +kernel
theorem dX9_same_66 : decode cX9_same 66 = .ok (.iload 5, 2) := by decide +kernel
theorem dX9_same_68 : decode cX9_same 68 = .ok (.iload_n 2, 1) := by decide +kernel
theorem dX9_same_69 : decode cX9_same 69 = .ok (.if_icmp .ne 7, 3) := by decide +kernel
theorem dX9_same_72 : decode cX9_same 72 = .ok (.iconst 1, 1) := by decide +kernel
theorem dX9_same_73 : decode cX9_same 73 = .ok (.goto 4, 3) := by decide +kernel
theorem dX9_same_76 : decode cX9_same 76 = .ok (.iconst 0, 1) := by decide +kernel
theorem dX9_same_77 : decode cX9_same 77 = .ok (.istore_n 3, 1) := by decide +kernel
theorem dX9_same_78 : decode cX9_same 78 = .ok (.iload 5, 2) := by decide +kernel
theorem dX9_same_80 : decode cX9_same 80 = .ok (.bipush (-4), 2) := by decide +kernel
theorem dX9_same_82 : decode cX9_same 82 = .ok (.if_icmp .ne 7, 3) := by decide +kernel
theorem dX9_same_85 : decode cX9_same 85 = .ok (.iload_n 2, 1) := by decide +kernel
theorem dX9_same_86 : decode cX9_same 86 = .ok (.goto 5, 3) := by decide +kernel
theorem dX9_same_89 : decode cX9_same 89 = .ok (.iload 5, 2) := by decide +kernel
theorem dX9_same_91 : decode cX9_same 91 = .ok (.istore_n 2, 1) := by decide +kernel
theorem dX9_same_92 : decode cX9_same 92 = .ok (.iinc 4 1, 3) := by decide +kernel
theorem dX9_same_95 : decode cX9_same 95 = .ok (.goto (-78), 3) := by decide +kernel
theorem dX9_same_98 : decode cX9_same 98 = .ok (.iload_n 3, 1) := by decide +kernel
theorem dX9_same_99 : decode cX9_same 99 = .ok (.ifCond .eq 7, 3) := by decide +kernel
theorem dX9_same_102 : decode cX9_same 102 = .ok (.iconst 1, 1) := by decide +kernel
theorem dX9_same_103 : decode cX9_same 103 = .ok (.goto 4, 3) := by decide +kernel
theorem dX9_same_106 : decode cX9_same 106 = .ok (.iconst 0, 1) := by decide +kernel
theorem dX9_same_107 : decode cX9_same 107 = .ok (.ireturn, 1) := by decide +kernel
theorem dX9_isFrom_0 : decode cX9_isFrom 0 = .ok (.iload_n 1, 1) := by decide +kernel
theorem dX9_isFrom_1 : decode cX9_isFrom 1 = .ok (.istore_n 3, 1) := by decide +kernel
theorem dX9_isFrom_2 : decode cX9_isFrom 2 = .ok (.iload_n 3, 1) := by decide +kernel
theorem dX9_isFrom_3 : decode cX9_isFrom 3 = .ok (.ifCond .lt 22, 3) := by decide +kernel
theorem dX9_isFrom_6 : decode cX9_isFrom 6 = .ok (.iload_n 3, 1) := by decide +kernel
theorem dX9_isFrom_7 : decode cX9_isFrom 7 = .ok (.iload_n 2, 1) := by decide +kernel
theorem dX9_isFrom_8 : decode cX9_isFrom 8 = .ok (.if_icmp .eq 17, 3) := by decide +kernel
theorem dX9_isFrom_11 : decode cX9_isFrom 11 = .ok (.aload_n 0, 1) := by decide +kernel
theorem dX9_isFrom_12 : decode cX9_isFrom 12 = .ok (.getfield 46, 3) := by decide +kernel
theorem dX9_isFrom_15 : decode cX9_isFrom 15 = .ok (.iconst 4, 1) := by decide +kernel
theorem dX9_isFrom_16 : decode cX9_isFrom 16 = .ok (.iload_n 3, 1) := by decide +kernel
theorem dX9_isFrom_17 : decode cX9_isFrom 17 = .ok (.imul, 1) := by decide +kernel
theorem dX9_isFrom_18 : decode cX9_isFrom 18 = .ok (.iconst 1, 1) := by decide +kernel
theorem dX9_isFrom_19 : decode cX9_isFrom 19 = .ok (.iadd, 1) := by decide +kernel
theorem dX9_isFrom_20 : decode cX9_isFrom 20 = .ok (.iaload, 1) := by decide +kernel
theorem dX9_isFrom_21 : decode cX9_isFrom 21 = .ok (.istore_n 3, 1) := by decide +kernel
theorem dX9_isFrom_22 : decode cX9_isFrom 22 = .ok (.goto (-20), 3) := by decide +kernel
theorem dX9_isFrom_25 : decode cX9_isFrom 25 = .ok (.iload_n 3, 1) := by decide +kernel
theorem dX9_isFrom_26 : decode cX9_isFrom 26 = .ok (.iload_n 2, 1) := by decide +kernel
theorem dX9_isFrom_27 : decode cX9_isFrom 27 = .ok (.if_icmp .ne 7, 3) := by decide +kernel
theorem dX9_isFrom_30 : decode cX9_isFrom 30 = .ok (.iconst 1, 1) := by decide +kernel
theorem dX9_isFrom_31 : decode cX9_isFrom 31 = .ok (.goto 4, 3) := by decide +kernel
theorem dX9_isFrom_34 : decode cX9_isFrom 34 = .ok (.iconst 0, 1) := by decide +kernel
theorem dX9_isFrom_35 : decode cX9_isFrom 35 = .ok (.ireturn, 1) := by decide +kernel
theorem dX9_since_0 : decode cX9_since 0 = .ok (.iload_n 1, 1) := by decide +kernel
theorem dX9_since_1 : decode cX9_since 1 = .ok (.invokestatic 154, 3) := by decide +kernel
theorem dX9_since_4 : decode cX9_since 4 = .ok (.ifCond .eq 11, 3) := by decide +kernel
theorem dX9_since_7 : decode cX9_since 7 = .ok (.aload_n 0, 1) := by decide +kernel
theorem dX9_since_8 : decode cX9_since 8 = .ok (.iload_n 2, 1) := by decide +kernel
theorem dX9_since_9 : decode cX9_since 9 = .ok (.invokevirtual 151, 3) := by decide +kernel
theorem dX9_since_12 : decode cX9_since 12 = .ok (.ifCond .ne 5, 3) := by decide +kernel
theorem dX9_since_15 : decode cX9_since 15 = .ok (.iconst (-1), 1) := by decide +kernel
theorem dX9_since_16 : decode cX9_since 16 = .ok (.ireturn, 1) := by decide +kernel
theorem dX9_since_17 : decode cX9_since 17 = .ok (.bipush (-4), 2) := by decide +kernel
theorem dX9_since_19 : decode cX9_since 19 = .ok (.istore_n 3, 1) := by decide +kernel
theorem dX9_since_20 : decode cX9_since 20 = .ok (.iconst 0, 1) := by decide +kernel
theorem dX9_since_21 : decode cX9_since 21 = .ok (.istore 4, 2) := by decide +kernel
theorem dX9_since_23 : decode cX9_since 23 = .ok (.iconst 1, 1) := by decide +kernel
theorem dX9_since_24 : decode cX9_since 24 = .ok (.istore 5, 2) := by decide +kernel
theorem dX9_since_26 : decode cX9_since 26 = .ok (.iconst 0, 1) := by decide +kernel
theorem dX9_since_27 : decode cX9_since 27 = .ok (.istore 6, 2) := by decide +kernel
theorem dX9_since_29 : decode cX9_since 29 = .ok (.iload 6, 2) := by decide +kernel
theorem dX9_since_31 : decode cX9_since 31 = .ok (.aload_n 0, 1) := by decide +kernel
theorem dX9_since_32 : decode cX9_since 32 = .ok (.getfield 143, 3) := by decide +kernel
theorem dX9_since_35 : decode cX9_since 35 = .ok (.if_icmp .ge 62, 3) := by decide +kernel
theorem dX9_since_38 : decode cX9_since 38 = .ok (.iload 4, 2) := by decide +kernel
theorem dX9_since_40 : decode cX9_since 40 = .ok (.ifCond .ne 12, 3) := by decide +kernel
theorem dX9_since_43 : decode cX9_since 43 = .ok (.aload_n 0, 1) := by decide +kernel
theorem dX9_since_44 : decode cX9_since 44 = .ok (.iload 6, 2) := by decide +kernel
theorem dX9_since_46 : decode cX9_since 46 = .ok (.invokevirtual 263, 3) := by decide +kernel
theorem dX9_since_49 : decode cX9_since 49 = .ok (.ifCond .eq 7, 3) := by decide +kernel
theorem dX9_since_52 : decode cX9_since 52 = .ok (.iconst 1, 1) := by decide +kernel
theorem dX9_since_53 : decode cX9_since 53 = .ok (.goto 4, 3) := by decide +kernel
theorem dX9_since_56 : decode cX9_since 56 = .ok (.iconst 0, 1) := by decide +kernel
theorem dX9_since_57 : decode cX9_since 57 = .ok (.istore 4, 2) := by decide +kernel
theorem dX9_since_59 : decode cX9_since 59 = .ok (.iload 5, 2) := by decide +kernel
theorem dX9_since_61 : decode cX9_since 61 = .ok (.ifCond .eq 27, 3) := by decide +kernel
theorem dX9_since_64 : decode cX9_since 64 = .ok (.aload_n 0, 1) := by decide +kernel
theorem dX9_since_65 : decode cX9_since 65 = .ok (.iload 6, 2) := by decide +kernel
theorem dX9_since_67 : decode cX9_since 67 = .ok (.invokevirtual 263, 3) := by decide +kernel
theorem dX9_since_70 : decode cX9_since 70 = .ok (.ifCond .eq 14, 3) := by decide +kernel
theorem dX9_since_73 : decode cX9_since 73 = .ok (.aload_n 0, 1) := by decide +kernel
theorem dX9_since_74 : decode cX9_since 74 = .ok (.iload 6, 2) := by decide +kernel
theorem dX9_since_76 : decode cX9_since 76 = .ok (.iload_n 1, 1) := by decide +kernel
theorem dX9_since_77 : decode cX9_since 77 = .ok (.invokevirtual 266, 3) := by decide +kernel
theorem dX9_since_80 : decode cX9_since 80 = .ok (.iload_n 2, 1) := by decide +kernel
theorem dX9_since_81 : decode cX9_since 81 = .ok (.if_icmp .ne 7, 3) := by decide +kernel
theorem dX9_since_84 : decode cX9_since 84 = .ok (.iconst 1, 1) := by decide +kernel
theorem dX9_since_85 : decode cX9_since 85 = .ok (.goto 4, 3) := by decide +kernel
theorem dX9_since_88 : decode cX9_since 88 = .ok (.iconst 0, 1) := by decide +kernel
theorem dX9_since_89 : decode cX9_since 89 = .ok (.istore 5, 2) := by decide +kernel
theorem dX9_since_91 : decode cX9_since 91 = .ok (.iinc 6 1, 3) := by decide +kernel
theorem dX9_since_94 : decode cX9_since 94 = .ok (.goto (-65), 3) := by decide +kernel
theorem dX9_since_97 : decode cX9_since 97 = .ok (.iconst 0, 1) := by decide +kernel
theorem dX9_since_98 : decode cX9_since 98 = .ok (.istore 6, 2) := by decide +kernel
theorem dX9_since_100 : decode cX9_since 100 = .ok (.iload 6, 2) := by decide +kernel
theorem dX9_since_102 : decode cX9_since 102 = .ok (.aload_n 0, 1) := by decide +kernel
theorem dX9_since_103 : decode cX9_since 103 = .ok (.getfield 143, 3) := by decide +kernel
theorem dX9_since_106 : decode cX9_since 106 = .ok (.if_icmp .ge 104, 3) := by decide +kernel
theorem dX9_since_109 : decode cX9_since 109 = .ok (.iload 4, 2) := by decide +kernel
theorem dX9_since_111 : decode cX9_since 111 = .ok (.ifCond .eq 99, 3) := by decide +kernel
theorem dX9_since_114 : decode cX9_since 114 = .ok (.iload 5, 2) := by decide +kernel
theorem dX9_since_116 : decode cX9_since 116 = .ok (.ifCond .eq 94, 3) := by decide +kernel
theorem dX9_since_119 : decode cX9_since 119 = .ok (.iconst 1, 1) := by decide +kernel
theorem dX9_since_120 : decode cX9_since 120 = .ok (.istore 7, 2) := by decide +kernel
theorem dX9_since_122 : decode cX9_since 122 = .ok (.iconst 0, 1) := by decide +kernel
theorem dX9_since_123 : decode cX9_since 123 = .ok (.istore 8, 2) := by decide +kernel
theorem dX9_since_125 : decode cX9_since 125 = .ok (.iload 8, 2) := by decide +kernel
theorem dX9_since_127 : decode cX9_since 127 = .ok (.aload_n 0, 1) := by decide +kernel
theorem dX9_since_128 : decode cX9_since 128 = .ok (.getfield 143, 3) := by decide +kernel
theorem dX9_since_131 : decode cX9_since 131 = .ok (.if_icmp .ge 41, 3) := by decide +kernel
theorem dX9_since_134 : decode cX9_since 134 = .ok (.iload 7, 2) := by decide +kernel
theorem dX9_since_136 : decode cX9_since 136 = .ok (.ifCond .eq 27, 3) := by decide +kernel
theorem dX9_since_139 : decode cX9_since 139 = .ok (.aload_n 0, 1) := by decide +kernel
theorem dX9_since_140 : decode cX9_since 140 = .ok (.iload 8, 2) := by decide +kernel
theorem dX9_since_142 : decode cX9_since 142 = .ok (.invokevirtual 263, 3) := by decide +kernel
theorem dX9_since_145 : decode cX9_since 145 = .ok (.ifCond .eq 14, 3) := by decide +kernel
theorem dX9_since_148 : decode cX9_since 148 = .ok (.aload_n 0, 1) := by decide +kernel
theorem dX9_since_149 : decode cX9_since 149 = .ok (.iload 8, 2) := by decide +kernel
theorem dX9_since_151 : decode cX9_since 151 = .ok (.iload 6, 2) := by decide +kernel
theorem dX9_since_153 : decode cX9_since 153 = .ok (.invokevirtual 269, 3) := by decide +kernel
theorem dX9_since_156 : decode cX9_since 156 = .ok (.ifCond .eq 7, 3) := by decide +kernel
theorem dX9_since_159 : decode cX9_since 159 = .ok (.iconst 1, 1) := by decide +kernel
theorem dX9_since_160 : decode cX9_since 160 = .ok (.goto 4, 3) := by decide +kernel
theorem dX9_since_163 : decode cX9_since 163 = .ok (.iconst 0, 1) := by decide +kernel
theorem dX9_since_164 : decode cX9_since 164 = .ok (.istore 7, 2) := by decide +kernel
theorem dX9_since_166 : decode cX9_since 166 = .ok (.iinc 8 1, 3) := by decide +kernel
theorem dX9_since_169 : decode cX9_since 169 = .ok (.goto (-44), 3) := by decide +kernel
theorem dX9_since_172 : decode cX9_since 172 = .ok (.iload 7, 2) := by decide +kernel
theorem dX9_since_174 : decode cX9_since 174 = .ok (.ifCond .eq 28, 3) := by decide +kernel
theorem dX9_since_177 : decode cX9_since 177 = .ok (.aload_n 0, 1) := by decide +kernel
theorem dX9_since_178 : decode cX9_since 178 = .ok (.getfield 46, 3) := by decide +kernel
theorem dX9_since_181 : decode cX9_since 181 = .ok (.iconst 4, 1) := by decide +kernel
theorem dX9_since_182 : decode cX9_since 182 = .ok (.iload 6, 2) := by decide +kernel
theorem dX9_since_184 : decode cX9_since 184 = .ok (.imul, 1) := by decide +kernel
theorem dX9_since_185 : decode cX9_since 185 = .ok (.iaload, 1) := by decide +kernel
theorem dX9_since_186 : decode cX9_since 186 = .ok (.iload_n 3, 1) := by decide +kernel
theorem dX9_since_187 : decode cX9_since 187 = .ok (.if_icmp .le 15, 3) := by decide +kernel
theorem dX9_since_190 : decode cX9_since 190 = .ok (.aload_n 0, 1) := by decide +kernel
theorem dX9_since_191 : decode cX9_since 191 = .ok (.getfield 46, 3) := by decide +kernel
theorem dX9_since_194 : decode cX9_since 194 = .ok (.iconst 4, 1) := by decide +kernel
theorem dX9_since_195 : decode cX9_since 195 = .ok (.iload 6, 2) := by decide +kernel
theorem dX9_since_197 : decode cX9_since 197 = .ok (.imul, 1) := by decide +kernel
theorem dX9_since_198 : decode cX9_since 198 = .ok (.iaload, 1) := by decide +kernel
theorem dX9_since_199 : decode cX9_since 199 = .ok (.goto 4, 3) := by decide +kernel
theorem dX9_since_202 : decode cX9_since 202 = .ok (.iload_n 3, 1) := by decide +kernel
theorem dX9_since_203 : decode cX9_since 203 = .ok (.istore_n 3, 1) := by decide +kernel
theorem dX9_since_204 : decode cX9_since 204 = .ok (.iinc 6 1, 3) := by decide +kernel
theorem dX9_since_207 : decode cX9_since 207 = .ok (.goto (-107), 3) := by decide +kernel
theorem dX9_since_210 : decode cX9_since 210 = .ok (.iload_n 3, 1) := by decide +kernel
theorem dX9_since_211 : decode cX9_since 211 = .ok (.ireturn, 1) := by decide +kernel
theorem dX9_areHeads_0 : decode cX9_areHeads 0 = .ok (.iload_n 1, 1) := by decide +kernel
theorem dX9_areHeads_1 : decode cX9_areHeads 1 = .ok (.i2l, 1) := by decide +kernel
theorem dX9_areHeads_2 : decode cX9_areHeads 2 = .ok (.lconst 0, 1) := by decide +kernel
theorem dX9_areHeads_3 : decode cX9_areHeads 3 = .ok (.iconst 1, 1) := by decide +kernel
theorem dX9_areHeads_4 : decode cX9_areHeads 4 = .ok (.aload_n 0, 1) := by decide +kernel
theorem dX9_areHeads_5 : decode cX9_areHeads 5 = .ok (.getfield 143, 3) := by decide +kernel
theorem dX9_areHeads_8 : decode cX9_areHeads 8 = .ok (.ishl, 1) := by decide +kernel
theorem dX9_areHeads_9 : decode cX9_areHeads 9 = .ok (.iconst 1, 1) := by decide +kernel
theorem dX9_areHeads_10 : decode cX9_areHeads 10 = .ok (.isub, 1) := by decide +kernel
theorem dX9_areHeads_11 : decode cX9_areHeads 11 = .ok (.i2l, 1) := by decide +kernel
theorem dX9_areHeads_12 : decode cX9_areHeads 12 = .ok (.invokestatic 92, 3) := by decide +kernel
theorem dX9_areHeads_15 : decode cX9_areHeads 15 = .ok (.ireturn, 1) := by decide +kernel
theorem dX9_lost_0 : decode cX9_lost 0 = .ok (.aload_n 0, 1) := by decide +kernel
theorem dX9_lost_1 : decode cX9_lost 1 = .ok (.iload_n 1, 1) := by decide +kernel
theorem dX9_lost_2 : decode cX9_lost 2 = .ok (.invokevirtual 272, 3) := by decide +kernel
theorem dX9_lost_5 : decode cX9_lost 5 = .ok (.ifCond .ne 5, 3) := by decide +kernel
theorem dX9_lost_8 : decode cX9_lost 8 = .ok (.iconst (-1), 1) := by decide +kernel
theorem dX9_lost_9 : decode cX9_lost 9 = .ok (.ireturn, 1) := by decide +kernel
theorem dX9_lost_10 : decode cX9_lost 10 = .ok (.iconst 0, 1) := by decide +kernel
theorem dX9_lost_11 : decode cX9_lost 11 = .ok (.istore_n 2, 1) := by decide +kernel
theorem dX9_lost_12 : decode cX9_lost 12 = .ok (.iconst 0, 1) := by decide +kernel
theorem dX9_lost_13 : decode cX9_lost 13 = .ok (.istore_n 3, 1) := by decide +kernel
theorem dX9_lost_14 : decode cX9_lost 14 = .ok (.iconst 0, 1) := by decide +kernel
theorem dX9_lost_15 : decode cX9_lost 15 = .ok (.istore 4, 2) := by decide +kernel
theorem dX9_lost_17 : decode cX9_lost 17 = .ok (.iload 4, 2) := by decide +kernel
theorem dX9_lost_19 : decode cX9_lost 19 = .ok (.aload_n 0, 1) := by decide +kernel
theorem dX9_lost_20 : decode cX9_lost 20 = .ok (.getfield 143, 3) := by decide +kernel
theorem dX9_lost_23 : decode cX9_lost 23 = .ok (.if_icmp .ge 60, 3) := by decide +kernel
theorem dX9_lost_26 : decode cX9_lost 26 = .ok (.aload_n 0, 1) := by decide +kernel
theorem dX9_lost_27 : decode cX9_lost 27 = .ok (.iload 4, 2) := by decide +kernel
theorem dX9_lost_29 : decode cX9_lost 29 = .ok (.invokevirtual 263, 3) := by decide +kernel
theorem dX9_lost_32 : decode cX9_lost 32 = .ok (.ifCond .eq 19, 3) := by decide +kernel
theorem dX9_lost_35 : decode cX9_lost 35 = .ok (.iconst 1, 1) := by decide +kernel
theorem dX9_lost_36 : decode cX9_lost 36 = .ok (.aload_n 0, 1) := by decide +kernel
theorem dX9_lost_37 : decode cX9_lost 37 = .ok (.getfield 46, 3) := by decide +kernel
theorem dX9_lost_40 : decode cX9_lost 40 = .ok (.iconst 4, 1) := by decide +kernel
theorem dX9_lost_41 : decode cX9_lost 41 = .ok (.iload 4, 2) := by decide +kernel
theorem dX9_lost_43 : decode cX9_lost 43 = .ok (.imul, 1) := by decide +kernel
theorem dX9_lost_44 : decode cX9_lost 44 = .ok (.iconst 2, 1) := by decide +kernel
theorem dX9_lost_45 : decode cX9_lost 45 = .ok (.iadd, 1) := by decide +kernel
theorem dX9_lost_46 : decode cX9_lost 46 = .ok (.iaload, 1) := by decide +kernel
theorem dX9_lost_47 : decode cX9_lost 47 = .ok (.ishl, 1) := by decide +kernel
theorem dX9_lost_48 : decode cX9_lost 48 = .ok (.goto 4, 3) := by decide +kernel
theorem dX9_lost_51 : decode cX9_lost 51 = .ok (.iconst 0, 1) := by decide +kernel
theorem dX9_lost_52 : decode cX9_lost 52 = .ok (.istore 5, 2) := by decide +kernel
theorem dX9_lost_54 : decode cX9_lost 54 = .ok (.iload_n 2, 1) := by decide +kernel
theorem dX9_lost_55 : decode cX9_lost 55 = .ok (.iload 5, 2) := by decide +kernel
theorem dX9_lost_57 : decode cX9_lost 57 = .ok (.ior, 1) := by decide +kernel
theorem dX9_lost_58 : decode cX9_lost 58 = .ok (.istore_n 2, 1) := by decide +kernel
theorem dX9_lost_59 : decode cX9_lost 59 = .ok (.iload_n 3, 1) := by decide +kernel
theorem dX9_lost_60 : decode cX9_lost 60 = .ok (.iload_n 1, 1) := by decide +kernel
theorem dX9_lost_61 : decode cX9_lost 61 = .ok (.iload 4, 2) := by decide +kernel
theorem dX9_lost_63 : decode cX9_lost 63 = .ok (.invokestatic 176, 3) := by decide +kernel
theorem dX9_lost_66 : decode cX9_lost 66 = .ok (.ifCond .eq 7, 3) := by decide +kernel
theorem dX9_lost_69 : decode cX9_lost 69 = .ok (.iconst 0, 1) := by decide +kernel
theorem dX9_lost_70 : decode cX9_lost 70 = .ok (.goto 5, 3) := by decide +kernel
theorem dX9_lost_73 : decode cX9_lost 73 = .ok (.iload 5, 2) := by decide +kernel
theorem dX9_lost_75 : decode cX9_lost 75 = .ok (.ior, 1) := by decide +kernel
theorem dX9_lost_76 : decode cX9_lost 76 = .ok (.istore_n 3, 1) := by decide +kernel
theorem dX9_lost_77 : decode cX9_lost 77 = .ok (.iinc 4 1, 3) := by decide +kernel
theorem dX9_lost_80 : decode cX9_lost 80 = .ok (.goto (-63), 3) := by decide +kernel
theorem dX9_lost_83 : decode cX9_lost 83 = .ok (.iload_n 2, 1) := by decide +kernel
theorem dX9_lost_84 : decode cX9_lost 84 = .ok (.iload_n 3, 1) := by decide +kernel
theorem dX9_lost_85 : decode cX9_lost 85 = .ok (.iconst (-1), 1) := by decide +kernel
theorem dX9_lost_86 : decode cX9_lost 86 = .ok (.ixor, 1) := by decide +kernel
theorem dX9_lost_87 : decode cX9_lost 87 = .ok (.iand, 1) := by decide +kernel
theorem dX9_lost_88 : decode cX9_lost 88 = .ok (.ireturn, 1) := by decide +kernel
theorem dX9_from_0 : decode cX9_from 0 = .ok (.aload_n 0, 1) := by decide +kernel
theorem dX9_from_1 : decode cX9_from 1 = .ok (.iload_n 1, 1) := by decide +kernel
theorem dX9_from_2 : decode cX9_from 2 = .ok (.invokevirtual 272, 3) := by decide +kernel
theorem dX9_from_5 : decode cX9_from 5 = .ok (.ifCond .eq 10, 3) := by decide +kernel
theorem dX9_from_8 : decode cX9_from 8 = .ok (.iload_n 2, 1) := by decide +kernel
theorem dX9_from_9 : decode cX9_from 9 = .ok (.invokestatic 148, 3) := by decide +kernel
theorem dX9_from_12 : decode cX9_from 12 = .ok (.ifCond .ne 5, 3) := by decide +kernel
theorem dX9_from_15 : decode cX9_from 15 = .ok (.iconst (-1), 1) := by decide +kernel
theorem dX9_from_16 : decode cX9_from 16 = .ok (.ireturn, 1) := by decide +kernel
theorem dX9_from_17 : decode cX9_from 17 = .ok (.iconst 0, 1) := by decide +kernel
theorem dX9_from_18 : decode cX9_from 18 = .ok (.istore_n 3, 1) := by decide +kernel
theorem dX9_from_19 : decode cX9_from 19 = .ok (.iload_n 3, 1) := by decide +kernel
theorem dX9_from_20 : decode cX9_from 20 = .ok (.aload_n 0, 1) := by decide +kernel
theorem dX9_from_21 : decode cX9_from 21 = .ok (.getfield 143, 3) := by decide +kernel
theorem dX9_from_24 : decode cX9_from 24 = .ok (.if_icmp .ge 41, 3) := by decide +kernel
theorem dX9_from_27 : decode cX9_from 27 = .ok (.aload_n 0, 1) := by decide +kernel
theorem dX9_from_28 : decode cX9_from 28 = .ok (.iload_n 3, 1) := by decide +kernel
theorem dX9_from_29 : decode cX9_from 29 = .ok (.invokevirtual 263, 3) := by decide +kernel
theorem dX9_from_32 : decode cX9_from 32 = .ok (.ifCond .eq 27, 3) := by decide +kernel
theorem dX9_from_35 : decode cX9_from 35 = .ok (.iload_n 1, 1) := by decide +kernel
theorem dX9_from_36 : decode cX9_from 36 = .ok (.iload_n 3, 1) := by decide +kernel
theorem dX9_from_37 : decode cX9_from 37 = .ok (.invokestatic 176, 3) := by decide +kernel
theorem dX9_from_40 : decode cX9_from 40 = .ok (.ifCond .ne 19, 3) := by decide +kernel
theorem dX9_from_43 : decode cX9_from 43 = .ok (.aload_n 0, 1) := by decide +kernel
theorem dX9_from_44 : decode cX9_from 44 = .ok (.getfield 46, 3) := by decide +kernel
theorem dX9_from_47 : decode cX9_from 47 = .ok (.iconst 4, 1) := by decide +kernel
theorem dX9_from_48 : decode cX9_from 48 = .ok (.iload_n 3, 1) := by decide +kernel
theorem dX9_from_49 : decode cX9_from 49 = .ok (.imul, 1) := by decide +kernel
theorem dX9_from_50 : decode cX9_from 50 = .ok (.iconst 2, 1) := by decide +kernel
theorem dX9_from_51 : decode cX9_from 51 = .ok (.iadd, 1) := by decide +kernel
theorem dX9_from_52 : decode cX9_from 52 = .ok (.iaload, 1) := by decide +kernel
theorem dX9_from_53 : decode cX9_from 53 = .ok (.iload_n 2, 1) := by decide +kernel
theorem dX9_from_54 : decode cX9_from 54 = .ok (.if_icmp .ne 5, 3) := by decide +kernel
theorem dX9_from_57 : decode cX9_from 57 = .ok (.iload_n 3, 1) := by decide +kernel
theorem dX9_from_58 : decode cX9_from 58 = .ok (.ireturn, 1) := by decide +kernel
theorem dX9_from_59 : decode cX9_from 59 = .ok (.iinc 3 1, 3) := by decide +kernel
theorem dX9_from_62 : decode cX9_from 62 = .ok (.goto (-43), 3) := by decide +kernel
theorem dX9_from_65 : decode cX9_from 65 = .ok (.bipush (-4), 2) := by decide +kernel
theorem dX9_from_67 : decode cX9_from 67 = .ok (.ireturn, 1) := by decide +kernel
theorem dX9_odds_0 : decode cX9_odds 0 = .ok (.iload_n 1, 1) := by decide +kernel
theorem dX9_odds_1 : decode cX9_odds 1 = .ok (.i2l, 1) := by decide +kernel
theorem dX9_odds_2 : decode cX9_odds 2 = .ok (.lconst 0, 1) := by decide +kernel
theorem dX9_odds_3 : decode cX9_odds 3 = .ok (.ldc2_w 275, 3) := by decide +kernel
theorem dX9_odds_6 : decode cX9_odds 6 = .ok (.invokestatic 92, 3) := by decide +kernel
theorem dX9_odds_9 : decode cX9_odds 9 = .ok (.ifCond .eq 38, 3) := by decide +kernel
theorem dX9_odds_12 : decode cX9_odds 12 = .ok (.iload_n 2, 1) := by decide +kernel
theorem dX9_odds_13 : decode cX9_odds 13 = .ok (.i2l, 1) := by decide +kernel
theorem dX9_odds_14 : decode cX9_odds 14 = .ok (.lconst 0, 1) := by decide +kernel
theorem dX9_odds_15 : decode cX9_odds 15 = .ok (.ldc2_w 275, 3) := by decide +kernel
theorem dX9_odds_18 : decode cX9_odds 18 = .ok (.invokestatic 92, 3) := by decide +kernel
theorem dX9_odds_21 : decode cX9_odds 21 = .ok (.ifCond .eq 26, 3) := by decide +kernel
theorem dX9_odds_24 : decode cX9_odds 24 = .ok (.iload_n 3, 1) := by decide +kernel
theorem dX9_odds_25 : decode cX9_odds 25 = .ok (.i2l, 1) := by decide +kernel
theorem dX9_odds_26 : decode cX9_odds 26 = .ok (.lconst 1, 1) := by decide +kernel
theorem dX9_odds_27 : decode cX9_odds 27 = .ok (.ldc2_w 128, 3) := by decide +kernel
theorem dX9_odds_30 : decode cX9_odds 30 = .ok (.invokestatic 92, 3) := by decide +kernel
theorem dX9_odds_33 : decode cX9_odds 33 = .ok (.ifCond .eq 14, 3) := by decide +kernel
theorem dX9_odds_36 : decode cX9_odds 36 = .ok (.iload 4, 2) := by decide +kernel
theorem dX9_odds_38 : decode cX9_odds 38 = .ok (.i2l, 1) := by decide +kernel
theorem dX9_odds_39 : decode cX9_odds 39 = .ok (.lconst 0, 1) := by decide +kernel
theorem dX9_odds_40 : decode cX9_odds 40 = .ok (.lconst 1, 1) := by decide +kernel
theorem dX9_odds_41 : decode cX9_odds 41 = .ok (.invokestatic 92, 3) := by decide +kernel
theorem dX9_odds_44 : decode cX9_odds 44 = .ok (.ifCond .ne 7, 3) := by decide +kernel
theorem dX9_odds_47 : decode cX9_odds 47 = .ok (.ldc2_w 258, 3) := by decide +kernel
theorem dX9_odds_50 : decode cX9_odds 50 = .ok (.lreturn, 1) := by decide +kernel
theorem dX9_odds_51 : decode cX9_odds 51 = .ok (.ldc2_w 277, 3) := by decide +kernel
theorem dX9_odds_54 : decode cX9_odds 54 = .ok (.iload_n 1, 1) := by decide +kernel
theorem dX9_odds_55 : decode cX9_odds 55 = .ok (.bipush 100, 2) := by decide +kernel
theorem dX9_odds_57 : decode cX9_odds 57 = .ok (.iload_n 2, 1) := by decide +kernel
theorem dX9_odds_58 : decode cX9_odds 58 = .ok (.isub, 1) := by decide +kernel
theorem dX9_odds_59 : decode cX9_odds 59 = .ok (.imul, 1) := by decide +kernel
theorem dX9_odds_60 : decode cX9_odds 60 = .ok (.i2l, 1) := by decide +kernel
theorem dX9_odds_61 : decode cX9_odds 61 = .ok (.lsub, 1) := by decide +kernel
theorem dX9_odds_62 : decode cX9_odds 62 = .ok (.lstore 5, 2) := by decide +kernel
theorem dX9_odds_64 : decode cX9_odds 64 = .ok (.ldc2_w 277, 3) := by decide +kernel
theorem dX9_odds_67 : decode cX9_odds 67 = .ok (.lstore 7, 2) := by decide +kernel
theorem dX9_odds_69 : decode cX9_odds 69 = .ok (.lload 7, 2) := by decide +kernel
theorem dX9_odds_71 : decode cX9_odds 71 = .ok (.lstore 9, 2) := by decide +kernel
theorem dX9_odds_73 : decode cX9_odds 73 = .ok (.lload 5, 2) := by decide +kernel
theorem dX9_odds_75 : decode cX9_odds 75 = .ok (.lstore 11, 2) := by decide +kernel
theorem dX9_odds_77 : decode cX9_odds 77 = .ok (.lload 11, 2) := by decide +kernel
theorem dX9_odds_79 : decode cX9_odds 79 = .ok (.lconst 0, 1) := by decide +kernel
theorem dX9_odds_80 : decode cX9_odds 80 = .ok (.lcmp, 1) := by decide +kernel
theorem dX9_odds_81 : decode cX9_odds 81 = .ok (.ifCond .eq 21, 3) := by decide +kernel
theorem dX9_odds_84 : decode cX9_odds 84 = .ok (.lload 9, 2) := by decide +kernel
theorem dX9_odds_86 : decode cX9_odds 86 = .ok (.lload 11, 2) := by decide +kernel
theorem dX9_odds_88 : decode cX9_odds 88 = .ok (.lrem, 1) := by decide +kernel
theorem dX9_odds_89 : decode cX9_odds 89 = .ok (.lstore 13, 2) := by decide +kernel
theorem dX9_odds_91 : decode cX9_odds 91 = .ok (.lload 11, 2) := by decide +kernel
theorem dX9_odds_93 : decode cX9_odds 93 = .ok (.lstore 9, 2) := by decide +kernel
theorem dX9_odds_95 : decode cX9_odds 95 = .ok (.lload 13, 2) := by decide +kernel
theorem dX9_odds_97 : decode cX9_odds 97 = .ok (.lstore 11, 2) := by decide +kernel
theorem dX9_odds_99 : decode cX9_odds 99 = .ok (.goto (-22), 3) := by decide +kernel
theorem dX9_odds_102 : decode cX9_odds 102 = .ok (.iload 4, 2) := by decide +kernel
theorem dX9_odds_104 : decode cX9_odds 104 = .ok (.ifCond .ne 11, 3) := by decide +kernel
theorem dX9_odds_107 : decode cX9_odds 107 = .ok (.lload 5, 2) := by decide +kernel
theorem dX9_odds_109 : decode cX9_odds 109 = .ok (.lload 9, 2) := by decide +kernel
theorem dX9_odds_111 : decode cX9_odds 111 = .ok (.ldiv, 1) := by decide +kernel
theorem dX9_odds_112 : decode cX9_odds 112 = .ok (.goto 8, 3) := by decide +kernel
theorem dX9_odds_115 : decode cX9_odds 115 = .ok (.lload 7, 2) := by decide +kernel
theorem dX9_odds_117 : decode cX9_odds 117 = .ok (.lload 9, 2) := by decide +kernel
theorem dX9_odds_119 : decode cX9_odds 119 = .ok (.ldiv, 1) := by decide +kernel
theorem dX9_odds_120 : decode cX9_odds 120 = .ok (.lstore 13, 2) := by decide +kernel
theorem dX9_odds_122 : decode cX9_odds 122 = .ok (.lconst 1, 1) := by decide +kernel
theorem dX9_odds_123 : decode cX9_odds 123 = .ok (.lstore 15, 2) := by decide +kernel
theorem dX9_odds_125 : decode cX9_odds 125 = .ok (.iconst 0, 1) := by decide +kernel
theorem dX9_odds_126 : decode cX9_odds 126 = .ok (.istore 17, 2) := by decide +kernel
theorem dX9_odds_128 : decode cX9_odds 128 = .ok (.iload 17, 2) := by decide +kernel
theorem dX9_odds_130 : decode cX9_odds 130 = .ok (.iload_n 3, 1) := by decide +kernel
theorem dX9_odds_131 : decode cX9_odds 131 = .ok (.if_icmp .ge 16, 3) := by decide +kernel
theorem dX9_odds_134 : decode cX9_odds 134 = .ok (.lload 15, 2) := by decide +kernel
theorem dX9_odds_136 : decode cX9_odds 136 = .ok (.lload 13, 2) := by decide +kernel
theorem dX9_odds_138 : decode cX9_odds 138 = .ok (.lmul, 1) := by decide +kernel
theorem dX9_odds_139 : decode cX9_odds 139 = .ok (.lstore 15, 2) := by decide +kernel
theorem dX9_odds_141 : decode cX9_odds 141 = .ok (.iinc 17 1, 3) := by decide +kernel
theorem dX9_odds_144 : decode cX9_odds 144 = .ok (.goto (-16), 3) := by decide +kernel
theorem dX9_odds_147 : decode cX9_odds 147 = .ok (.lload 15, 2) := by decide +kernel
theorem dX9_odds_149 : decode cX9_odds 149 = .ok (.lreturn, 1) := by decide +kernel
theorem dX9_copy_0 : decode cX9_copy 0 = .ok (.iconst 0, 1) := by decide +kernel
theorem dX9_copy_1 : decode cX9_copy 1 = .ok (.istore_n 3, 1) := by decide +kernel
theorem dX9_copy_2 : decode cX9_copy 2 = .ok (.iload_n 3, 1) := by decide +kernel
theorem dX9_copy_3 : decode cX9_copy 3 = .ok (.bipush 6, 2) := by decide +kernel
theorem dX9_copy_5 : decode cX9_copy 5 = .ok (.if_icmp .ge 31, 3) := by decide +kernel
theorem dX9_copy_8 : decode cX9_copy 8 = .ok (.aload_n 0, 1) := by decide +kernel
theorem dX9_copy_9 : decode cX9_copy 9 = .ok (.getfield 25, 3) := by decide +kernel
theorem dX9_copy_12 : decode cX9_copy 12 = .ok (.bipush 6, 2) := by decide +kernel
theorem dX9_copy_14 : decode cX9_copy 14 = .ok (.iload_n 2, 1) := by decide +kernel
theorem dX9_copy_15 : decode cX9_copy 15 = .ok (.imul, 1) := by decide +kernel
theorem dX9_copy_16 : decode cX9_copy 16 = .ok (.iload_n 3, 1) := by decide +kernel
theorem dX9_copy_17 : decode cX9_copy 17 = .ok (.iadd, 1) := by decide +kernel
theorem dX9_copy_18 : decode cX9_copy 18 = .ok (.aload_n 0, 1) := by decide +kernel
theorem dX9_copy_19 : decode cX9_copy 19 = .ok (.getfield 25, 3) := by decide +kernel
theorem dX9_copy_22 : decode cX9_copy 22 = .ok (.bipush 6, 2) := by decide +kernel
theorem dX9_copy_24 : decode cX9_copy 24 = .ok (.iload_n 1, 1) := by decide +kernel
theorem dX9_copy_25 : decode cX9_copy 25 = .ok (.imul, 1) := by decide +kernel
theorem dX9_copy_26 : decode cX9_copy 26 = .ok (.iload_n 3, 1) := by decide +kernel
theorem dX9_copy_27 : decode cX9_copy 27 = .ok (.iadd, 1) := by decide +kernel
theorem dX9_copy_28 : decode cX9_copy 28 = .ok (.iaload, 1) := by decide +kernel
theorem dX9_copy_29 : decode cX9_copy 29 = .ok (.iastore, 1) := by decide +kernel
theorem dX9_copy_30 : decode cX9_copy 30 = .ok (.iinc 3 1, 3) := by decide +kernel
theorem dX9_copy_33 : decode cX9_copy 33 = .ok (.goto (-31), 3) := by decide +kernel
theorem dX9_copy_36 : decode cX9_copy 36 = .ok (.iconst 0, 1) := by decide +kernel
theorem dX9_copy_37 : decode cX9_copy 37 = .ok (.istore_n 3, 1) := by decide +kernel
theorem dX9_copy_38 : decode cX9_copy 38 = .ok (.iload_n 3, 1) := by decide +kernel
theorem dX9_copy_39 : decode cX9_copy 39 = .ok (.bipush 48, 2) := by decide +kernel
theorem dX9_copy_41 : decode cX9_copy 41 = .ok (.if_icmp .ge 31, 3) := by decide +kernel
theorem dX9_copy_44 : decode cX9_copy 44 = .ok (.aload_n 0, 1) := by decide +kernel
theorem dX9_copy_45 : decode cX9_copy 45 = .ok (.getfield 28, 3) := by decide +kernel
theorem dX9_copy_48 : decode cX9_copy 48 = .ok (.bipush 48, 2) := by decide +kernel
theorem dX9_copy_50 : decode cX9_copy 50 = .ok (.iload_n 2, 1) := by decide +kernel
theorem dX9_copy_51 : decode cX9_copy 51 = .ok (.imul, 1) := by decide +kernel
theorem dX9_copy_52 : decode cX9_copy 52 = .ok (.iload_n 3, 1) := by decide +kernel
theorem dX9_copy_53 : decode cX9_copy 53 = .ok (.iadd, 1) := by decide +kernel
theorem dX9_copy_54 : decode cX9_copy 54 = .ok (.aload_n 0, 1) := by decide +kernel
theorem dX9_copy_55 : decode cX9_copy 55 = .ok (.getfield 28, 3) := by decide +kernel
theorem dX9_copy_58 : decode cX9_copy 58 = .ok (.bipush 48, 2) := by decide +kernel
theorem dX9_copy_60 : decode cX9_copy 60 = .ok (.iload_n 1, 1) := by decide +kernel
theorem dX9_copy_61 : decode cX9_copy 61 = .ok (.imul, 1) := by decide +kernel
theorem dX9_copy_62 : decode cX9_copy 62 = .ok (.iload_n 3, 1) := by decide +kernel
theorem dX9_copy_63 : decode cX9_copy 63 = .ok (.iadd, 1) := by decide +kernel
theorem dX9_copy_64 : decode cX9_copy 64 = .ok (.iaload, 1) := by decide +kernel
theorem dX9_copy_65 : decode cX9_copy 65 = .ok (.iastore, 1) := by decide +kernel
theorem dX9_copy_66 : decode cX9_copy 66 = .ok (.iinc 3 1, 3) := by decide +kernel
theorem dX9_copy_69 : decode cX9_copy 69 = .ok (.goto (-31), 3) := by decide +kernel
theorem dX9_copy_72 : decode cX9_copy 72 = .ok (.aload_n 0, 1) := by decide +kernel
theorem dX9_copy_73 : decode cX9_copy 73 = .ok (.getfield 31, 3) := by decide +kernel
theorem dX9_copy_76 : decode cX9_copy 76 = .ok (.iload_n 2, 1) := by decide +kernel
theorem dX9_copy_77 : decode cX9_copy 77 = .ok (.aload_n 0, 1) := by decide +kernel
theorem dX9_copy_78 : decode cX9_copy 78 = .ok (.getfield 31, 3) := by decide +kernel
theorem dX9_copy_81 : decode cX9_copy 81 = .ok (.iload_n 1, 1) := by decide +kernel
theorem dX9_copy_82 : decode cX9_copy 82 = .ok (.iaload, 1) := by decide +kernel
theorem dX9_copy_83 : decode cX9_copy 83 = .ok (.iastore, 1) := by decide +kernel
theorem dX9_copy_84 : decode cX9_copy 84 = .ok (.aload_n 0, 1) := by decide +kernel
theorem dX9_copy_85 : decode cX9_copy 85 = .ok (.getfield 34, 3) := by decide +kernel
theorem dX9_copy_88 : decode cX9_copy 88 = .ok (.iload_n 2, 1) := by decide +kernel
theorem dX9_copy_89 : decode cX9_copy 89 = .ok (.aload_n 0, 1) := by decide +kernel
theorem dX9_copy_90 : decode cX9_copy 90 = .ok (.getfield 34, 3) := by decide +kernel
theorem dX9_copy_93 : decode cX9_copy 93 = .ok (.iload_n 1, 1) := by decide +kernel
theorem dX9_copy_94 : decode cX9_copy 94 = .ok (.iaload, 1) := by decide +kernel
theorem dX9_copy_95 : decode cX9_copy 95 = .ok (.iastore, 1) := by decide +kernel
theorem dX9_copy_96 : decode cX9_copy 96 = .ok (.aload_n 0, 1) := by decide +kernel
theorem dX9_copy_97 : decode cX9_copy 97 = .ok (.getfield 37, 3) := by decide +kernel
theorem dX9_copy_100 : decode cX9_copy 100 = .ok (.iload_n 2, 1) := by decide +kernel
theorem dX9_copy_101 : decode cX9_copy 101 = .ok (.aload_n 0, 1) := by decide +kernel
theorem dX9_copy_102 : decode cX9_copy 102 = .ok (.getfield 37, 3) := by decide +kernel
theorem dX9_copy_105 : decode cX9_copy 105 = .ok (.iload_n 1, 1) := by decide +kernel
theorem dX9_copy_106 : decode cX9_copy 106 = .ok (.iaload, 1) := by decide +kernel
theorem dX9_copy_107 : decode cX9_copy 107 = .ok (.iastore, 1) := by decide +kernel
theorem dX9_copy_108 : decode cX9_copy 108 = .ok (.iconst 0, 1) := by decide +kernel
theorem dX9_copy_109 : decode cX9_copy 109 = .ok (.istore_n 3, 1) := by decide +kernel
theorem dX9_copy_110 : decode cX9_copy 110 = .ok (.iload_n 3, 1) := by decide +kernel
theorem dX9_copy_111 : decode cX9_copy 111 = .ok (.bipush 84, 2) := by decide +kernel
theorem dX9_copy_113 : decode cX9_copy 113 = .ok (.if_icmp .ge 31, 3) := by decide +kernel
theorem dX9_copy_116 : decode cX9_copy 116 = .ok (.aload_n 0, 1) := by decide +kernel
theorem dX9_copy_117 : decode cX9_copy 117 = .ok (.getfield 40, 3) := by decide +kernel
theorem dX9_copy_120 : decode cX9_copy 120 = .ok (.bipush 84, 2) := by decide +kernel
theorem dX9_copy_122 : decode cX9_copy 122 = .ok (.iload_n 2, 1) := by decide +kernel
theorem dX9_copy_123 : decode cX9_copy 123 = .ok (.imul, 1) := by decide +kernel
theorem dX9_copy_124 : decode cX9_copy 124 = .ok (.iload_n 3, 1) := by decide +kernel
theorem dX9_copy_125 : decode cX9_copy 125 = .ok (.iadd, 1) := by decide +kernel
theorem dX9_copy_126 : decode cX9_copy 126 = .ok (.aload_n 0, 1) := by decide +kernel
theorem dX9_copy_127 : decode cX9_copy 127 = .ok (.getfield 40, 3) := by decide +kernel
theorem dX9_copy_130 : decode cX9_copy 130 = .ok (.bipush 84, 2) := by decide +kernel
theorem dX9_copy_132 : decode cX9_copy 132 = .ok (.iload_n 1, 1) := by decide +kernel
theorem dX9_copy_133 : decode cX9_copy 133 = .ok (.imul, 1) := by decide +kernel
theorem dX9_copy_134 : decode cX9_copy 134 = .ok (.iload_n 3, 1) := by decide +kernel
theorem dX9_copy_135 : decode cX9_copy 135 = .ok (.iadd, 1) := by decide +kernel
theorem dX9_copy_136 : decode cX9_copy 136 = .ok (.iaload, 1) := by decide +kernel
theorem dX9_copy_137 : decode cX9_copy 137 = .ok (.iastore, 1) := by decide +kernel
theorem dX9_copy_138 : decode cX9_copy 138 = .ok (.iinc 3 1, 3) := by decide +kernel
theorem dX9_copy_141 : decode cX9_copy 141 = .ok (.goto (-31), 3) := by decide +kernel
theorem dX9_copy_144 : decode cX9_copy 144 = .ok (.return_, 1) := by decide +kernel
end
section
theorem dX9_keep_0 : decode cX9_keep 0 = .ok (.aload_n 0, 1) := by decide +kernel
theorem dX9_keep_1 : decode cX9_keep 1 = .ok (.getfield 137, 3) := by decide +kernel
theorem dX9_keep_4 : decode cX9_keep 4 = .ok (.iconst 2, 1) := by decide +kernel
theorem dX9_keep_5 : decode cX9_keep 5 = .ok (.if_icmp .ne 6, 3) := by decide +kernel
theorem dX9_keep_8 : decode cX9_keep 8 = .ok (.bipush (-3), 2) := by decide +kernel
theorem dX9_keep_10 : decode cX9_keep 10 = .ok (.ireturn, 1) := by decide +kernel
theorem dX9_keep_11 : decode cX9_keep 11 = .ok (.aload_n 0, 1) := by decide +kernel
theorem dX9_keep_12 : decode cX9_keep 12 = .ok (.iconst 0, 1) := by decide +kernel
theorem dX9_keep_13 : decode cX9_keep 13 = .ok (.iconst 1, 1) := by decide +kernel
theorem dX9_keep_14 : decode cX9_keep 14 = .ok (.aload_n 0, 1) := by decide +kernel
theorem dX9_keep_15 : decode cX9_keep 15 = .ok (.getfield 137, 3) := by decide +kernel
theorem dX9_keep_18 : decode cX9_keep 18 = .ok (.iadd, 1) := by decide +kernel
theorem dX9_keep_19 : decode cX9_keep 19 = .ok (.invokevirtual 279, 3) := by decide +kernel
theorem dX9_keep_22 : decode cX9_keep 22 = .ok (.aload_n 0, 1) := by decide +kernel
theorem dX9_keep_23 : decode cX9_keep 23 = .ok (.dup, 1) := by decide +kernel
theorem dX9_keep_24 : decode cX9_keep 24 = .ok (.getfield 137, 3) := by decide +kernel
theorem dX9_keep_27 : decode cX9_keep 27 = .ok (.iconst 1, 1) := by decide +kernel
theorem dX9_keep_28 : decode cX9_keep 28 = .ok (.iadd, 1) := by decide +kernel
theorem dX9_keep_29 : decode cX9_keep 29 = .ok (.putfield 137, 3) := by decide +kernel
theorem dX9_keep_32 : decode cX9_keep 32 = .ok (.aload_n 0, 1) := by decide +kernel
theorem dX9_keep_33 : decode cX9_keep 33 = .ok (.getfield 137, 3) := by decide +kernel
theorem dX9_keep_36 : decode cX9_keep 36 = .ok (.ireturn, 1) := by decide +kernel
theorem dX9_back_0 : decode cX9_back 0 = .ok (.aload_n 0, 1) := by decide +kernel
theorem dX9_back_1 : decode cX9_back 1 = .ok (.getfield 137, 3) := by decide +kernel
theorem dX9_back_4 : decode cX9_back 4 = .ok (.ifCond .ne 6, 3) := by decide +kernel
theorem dX9_back_7 : decode cX9_back 7 = .ok (.bipush (-2), 2) := by decide +kernel
theorem dX9_back_9 : decode cX9_back 9 = .ok (.ireturn, 1) := by decide +kernel
theorem dX9_back_10 : decode cX9_back 10 = .ok (.aload_n 0, 1) := by decide +kernel
theorem dX9_back_11 : decode cX9_back 11 = .ok (.dup, 1) := by decide +kernel
theorem dX9_back_12 : decode cX9_back 12 = .ok (.getfield 137, 3) := by decide +kernel
theorem dX9_back_15 : decode cX9_back 15 = .ok (.iconst 1, 1) := by decide +kernel
theorem dX9_back_16 : decode cX9_back 16 = .ok (.isub, 1) := by decide +kernel
theorem dX9_back_17 : decode cX9_back 17 = .ok (.putfield 137, 3) := by decide +kernel
theorem dX9_back_20 : decode cX9_back 20 = .ok (.aload_n 0, 1) := by decide +kernel
theorem dX9_back_21 : decode cX9_back 21 = .ok (.iconst 1, 1) := by decide +kernel
theorem dX9_back_22 : decode cX9_back 22 = .ok (.aload_n 0, 1) := by decide +kernel
theorem dX9_back_23 : decode cX9_back 23 = .ok (.getfield 137, 3) := by decide +kernel
theorem dX9_back_26 : decode cX9_back 26 = .ok (.iadd, 1) := by decide +kernel
theorem dX9_back_27 : decode cX9_back 27 = .ok (.iconst 0, 1) := by decide +kernel
theorem dX9_back_28 : decode cX9_back 28 = .ok (.invokevirtual 279, 3) := by decide +kernel
theorem dX9_back_31 : decode cX9_back 31 = .ok (.aload_n 0, 1) := by decide +kernel
theorem dX9_back_32 : decode cX9_back 32 = .ok (.getfield 137, 3) := by decide +kernel
theorem dX9_back_35 : decode cX9_back 35 = .ok (.ireturn, 1) := by decide +kernel
theorem dX9_count_0 : decode cX9_count 0 = .ok (.iconst 0, 1) := by decide +kernel
theorem dX9_count_1 : decode cX9_count 1 = .ok (.istore_n 2, 1) := by decide +kernel
theorem dX9_count_2 : decode cX9_count 2 = .ok (.iload_n 1, 1) := by decide +kernel
theorem dX9_count_3 : decode cX9_count 3 = .ok (.tableswitch 100 0 6 #[41, 48, 53, 60, 65, 70, 75], 41) := by decide +kernel
theorem dX9_count_44 : decode cX9_count 44 = .ok (.aload_n 0, 1) := by decide +kernel
theorem dX9_count_45 : decode cX9_count 45 = .ok (.getfield 13, 3) := by decide +kernel
theorem dX9_count_48 : decode cX9_count 48 = .ok (.iconst 0, 1) := by decide +kernel
theorem dX9_count_49 : decode cX9_count 49 = .ok (.iaload, 1) := by decide +kernel
theorem dX9_count_50 : decode cX9_count 50 = .ok (.ireturn, 1) := by decide +kernel
theorem dX9_count_51 : decode cX9_count 51 = .ok (.aload_n 0, 1) := by decide +kernel
theorem dX9_count_52 : decode cX9_count 52 = .ok (.getfield 96, 3) := by decide +kernel
theorem dX9_count_55 : decode cX9_count 55 = .ok (.ireturn, 1) := by decide +kernel
theorem dX9_count_56 : decode cX9_count 56 = .ok (.aload_n 0, 1) := by decide +kernel
theorem dX9_count_57 : decode cX9_count 57 = .ok (.getfield 31, 3) := by decide +kernel
theorem dX9_count_60 : decode cX9_count 60 = .ok (.iconst 0, 1) := by decide +kernel
theorem dX9_count_61 : decode cX9_count 61 = .ok (.iaload, 1) := by decide +kernel
theorem dX9_count_62 : decode cX9_count 62 = .ok (.ireturn, 1) := by decide +kernel
theorem dX9_count_63 : decode cX9_count 63 = .ok (.aload_n 0, 1) := by decide +kernel
theorem dX9_count_64 : decode cX9_count 64 = .ok (.getfield 140, 3) := by decide +kernel
theorem dX9_count_67 : decode cX9_count 67 = .ok (.ireturn, 1) := by decide +kernel
theorem dX9_count_68 : decode cX9_count 68 = .ok (.aload_n 0, 1) := by decide +kernel
theorem dX9_count_69 : decode cX9_count 69 = .ok (.getfield 143, 3) := by decide +kernel
theorem dX9_count_72 : decode cX9_count 72 = .ok (.ireturn, 1) := by decide +kernel
theorem dX9_count_73 : decode cX9_count 73 = .ok (.aload_n 0, 1) := by decide +kernel
theorem dX9_count_74 : decode cX9_count 74 = .ok (.getfield 137, 3) := by decide +kernel
theorem dX9_count_77 : decode cX9_count 77 = .ok (.ireturn, 1) := by decide +kernel
theorem dX9_count_78 : decode cX9_count 78 = .ok (.iconst 0, 1) := by decide +kernel
theorem dX9_count_79 : decode cX9_count 79 = .ok (.istore_n 3, 1) := by decide +kernel
theorem dX9_count_80 : decode cX9_count 80 = .ok (.iload_n 3, 1) := by decide +kernel
theorem dX9_count_81 : decode cX9_count 81 = .ok (.bipush 6, 2) := by decide +kernel
theorem dX9_count_83 : decode cX9_count 83 = .ok (.if_icmp .ge 18, 3) := by decide +kernel
theorem dX9_count_86 : decode cX9_count 86 = .ok (.iload_n 2, 1) := by decide +kernel
theorem dX9_count_87 : decode cX9_count 87 = .ok (.aload_n 0, 1) := by decide +kernel
theorem dX9_count_88 : decode cX9_count 88 = .ok (.getfield 25, 3) := by decide +kernel
theorem dX9_count_91 : decode cX9_count 91 = .ok (.iload_n 3, 1) := by decide +kernel
theorem dX9_count_92 : decode cX9_count 92 = .ok (.iaload, 1) := by decide +kernel
theorem dX9_count_93 : decode cX9_count 93 = .ok (.iadd, 1) := by decide +kernel
theorem dX9_count_94 : decode cX9_count 94 = .ok (.istore_n 2, 1) := by decide +kernel
theorem dX9_count_95 : decode cX9_count 95 = .ok (.iinc 3 1, 3) := by decide +kernel
theorem dX9_count_98 : decode cX9_count 98 = .ok (.goto (-18), 3) := by decide +kernel
theorem dX9_count_101 : decode cX9_count 101 = .ok (.iload_n 2, 1) := by decide +kernel
theorem dX9_count_102 : decode cX9_count 102 = .ok (.ireturn, 1) := by decide +kernel
theorem dX9_count_103 : decode cX9_count 103 = .ok (.iconst (-1), 1) := by decide +kernel
theorem dX9_count_104 : decode cX9_count 104 = .ok (.ireturn, 1) := by decide +kernel
theorem dJ6_bitCount_0f7a4_0 : decode cJ6_bitCount_0f7a4 0 = .ok (.iload_n 0, 1) := by decide +kernel
theorem dJ6_bitCount_0f7a4_1 : decode cJ6_bitCount_0f7a4 1 = .ok (.iload_n 0, 1) := by decide +kernel
theorem dJ6_bitCount_0f7a4_2 : decode cJ6_bitCount_0f7a4 2 = .ok (.iconst 1, 1) := by decide +kernel
theorem dJ6_bitCount_0f7a4_3 : decode cJ6_bitCount_0f7a4 3 = .ok (.iushr, 1) := by decide +kernel
theorem dJ6_bitCount_0f7a4_4 : decode cJ6_bitCount_0f7a4 4 = .ok (.ldc_w 265, 3) := by decide +kernel
theorem dJ6_bitCount_0f7a4_7 : decode cJ6_bitCount_0f7a4 7 = .ok (.iand, 1) := by decide +kernel
theorem dJ6_bitCount_0f7a4_8 : decode cJ6_bitCount_0f7a4 8 = .ok (.isub, 1) := by decide +kernel
theorem dJ6_bitCount_0f7a4_9 : decode cJ6_bitCount_0f7a4 9 = .ok (.istore_n 0, 1) := by decide +kernel
theorem dJ6_bitCount_0f7a4_10 : decode cJ6_bitCount_0f7a4 10 = .ok (.iload_n 0, 1) := by decide +kernel
theorem dJ6_bitCount_0f7a4_11 : decode cJ6_bitCount_0f7a4 11 = .ok (.ldc_w 266, 3) := by decide +kernel
theorem dJ6_bitCount_0f7a4_14 : decode cJ6_bitCount_0f7a4 14 = .ok (.iand, 1) := by decide +kernel
theorem dJ6_bitCount_0f7a4_15 : decode cJ6_bitCount_0f7a4 15 = .ok (.iload_n 0, 1) := by decide +kernel
theorem dJ6_bitCount_0f7a4_16 : decode cJ6_bitCount_0f7a4 16 = .ok (.iconst 2, 1) := by decide +kernel
theorem dJ6_bitCount_0f7a4_17 : decode cJ6_bitCount_0f7a4 17 = .ok (.iushr, 1) := by decide +kernel
theorem dJ6_bitCount_0f7a4_18 : decode cJ6_bitCount_0f7a4 18 = .ok (.ldc_w 266, 3) := by decide +kernel
theorem dJ6_bitCount_0f7a4_21 : decode cJ6_bitCount_0f7a4 21 = .ok (.iand, 1) := by decide +kernel
theorem dJ6_bitCount_0f7a4_22 : decode cJ6_bitCount_0f7a4 22 = .ok (.iadd, 1) := by decide +kernel
theorem dJ6_bitCount_0f7a4_23 : decode cJ6_bitCount_0f7a4 23 = .ok (.istore_n 0, 1) := by decide +kernel
theorem dJ6_bitCount_0f7a4_24 : decode cJ6_bitCount_0f7a4 24 = .ok (.iload_n 0, 1) := by decide +kernel
theorem dJ6_bitCount_0f7a4_25 : decode cJ6_bitCount_0f7a4 25 = .ok (.iload_n 0, 1) := by decide +kernel
theorem dJ6_bitCount_0f7a4_26 : decode cJ6_bitCount_0f7a4 26 = .ok (.iconst 4, 1) := by decide +kernel
theorem dJ6_bitCount_0f7a4_27 : decode cJ6_bitCount_0f7a4 27 = .ok (.iushr, 1) := by decide +kernel
theorem dJ6_bitCount_0f7a4_28 : decode cJ6_bitCount_0f7a4 28 = .ok (.iadd, 1) := by decide +kernel
theorem dJ6_bitCount_0f7a4_29 : decode cJ6_bitCount_0f7a4 29 = .ok (.ldc_w 267, 3) := by decide +kernel
theorem dJ6_bitCount_0f7a4_32 : decode cJ6_bitCount_0f7a4 32 = .ok (.iand, 1) := by decide +kernel
theorem dJ6_bitCount_0f7a4_33 : decode cJ6_bitCount_0f7a4 33 = .ok (.istore_n 0, 1) := by decide +kernel
theorem dJ6_bitCount_0f7a4_34 : decode cJ6_bitCount_0f7a4 34 = .ok (.iload_n 0, 1) := by decide +kernel
theorem dJ6_bitCount_0f7a4_35 : decode cJ6_bitCount_0f7a4 35 = .ok (.iload_n 0, 1) := by decide +kernel
theorem dJ6_bitCount_0f7a4_36 : decode cJ6_bitCount_0f7a4 36 = .ok (.bipush 8, 2) := by decide +kernel
theorem dJ6_bitCount_0f7a4_38 : decode cJ6_bitCount_0f7a4 38 = .ok (.iushr, 1) := by decide +kernel
theorem dJ6_bitCount_0f7a4_39 : decode cJ6_bitCount_0f7a4 39 = .ok (.iadd, 1) := by decide +kernel
theorem dJ6_bitCount_0f7a4_40 : decode cJ6_bitCount_0f7a4 40 = .ok (.istore_n 0, 1) := by decide +kernel
theorem dJ6_bitCount_0f7a4_41 : decode cJ6_bitCount_0f7a4 41 = .ok (.iload_n 0, 1) := by decide +kernel
theorem dJ6_bitCount_0f7a4_42 : decode cJ6_bitCount_0f7a4 42 = .ok (.iload_n 0, 1) := by decide +kernel
theorem dJ6_bitCount_0f7a4_43 : decode cJ6_bitCount_0f7a4 43 = .ok (.bipush 16, 2) := by decide +kernel
theorem dJ6_bitCount_0f7a4_45 : decode cJ6_bitCount_0f7a4 45 = .ok (.iushr, 1) := by decide +kernel
theorem dJ6_bitCount_0f7a4_46 : decode cJ6_bitCount_0f7a4 46 = .ok (.iadd, 1) := by decide +kernel
theorem dJ6_bitCount_0f7a4_47 : decode cJ6_bitCount_0f7a4 47 = .ok (.istore_n 0, 1) := by decide +kernel
theorem dJ6_bitCount_0f7a4_48 : decode cJ6_bitCount_0f7a4 48 = .ok (.iload_n 0, 1) := by decide +kernel
theorem dJ6_bitCount_0f7a4_49 : decode cJ6_bitCount_0f7a4 49 = .ok (.bipush 63, 2) := by decide +kernel
theorem dJ6_bitCount_0f7a4_51 : decode cJ6_bitCount_0f7a4 51 = .ok (.iand, 1) := by decide +kernel
theorem dJ6_bitCount_0f7a4_52 : decode cJ6_bitCount_0f7a4 52 = .ok (.ireturn, 1) := by decide +kernel
theorem dJ9_abs_0f7a4_0 : decode cJ9_abs_0f7a4 0 = .ok (.iload_n 0, 1) := by decide +kernel
theorem dJ9_abs_0f7a4_1 : decode cJ9_abs_0f7a4 1 = .ok (.ifCond .ge 8, 3) := by decide +kernel
theorem dJ9_abs_0f7a4_4 : decode cJ9_abs_0f7a4 4 = .ok (.iload_n 0, 1) := by decide +kernel
theorem dJ9_abs_0f7a4_5 : decode cJ9_abs_0f7a4 5 = .ok (.ineg, 1) := by decide +kernel
theorem dJ9_abs_0f7a4_6 : decode cJ9_abs_0f7a4 6 = .ok (.goto 4, 3) := by decide +kernel
theorem dJ9_abs_0f7a4_9 : decode cJ9_abs_0f7a4 9 = .ok (.iload_n 0, 1) := by decide +kernel
theorem dJ9_abs_0f7a4_10 : decode cJ9_abs_0f7a4 10 = .ok (.ireturn, 1) := by decide +kernel
theorem dJ9_max_7cf53_0 : decode cJ9_max_7cf53 0 = .ok (.iload_n 0, 1) := by decide +kernel
theorem dJ9_max_7cf53_1 : decode cJ9_max_7cf53 1 = .ok (.iload_n 1, 1) := by decide +kernel
theorem dJ9_max_7cf53_2 : decode cJ9_max_7cf53 2 = .ok (.if_icmp .lt 7, 3) := by decide +kernel
theorem dJ9_max_7cf53_5 : decode cJ9_max_7cf53 5 = .ok (.iload_n 0, 1) := by decide +kernel
theorem dJ9_max_7cf53_6 : decode cJ9_max_7cf53 6 = .ok (.goto 4, 3) := by decide +kernel
theorem dJ9_max_7cf53_9 : decode cJ9_max_7cf53 9 = .ok (.iload_n 1, 1) := by decide +kernel
theorem dJ9_max_7cf53_10 : decode cJ9_max_7cf53 10 = .ok (.ireturn, 1) := by decide +kernel
theorem dJ9_min_7cf53_0 : decode cJ9_min_7cf53 0 = .ok (.iload_n 0, 1) := by decide +kernel
theorem dJ9_min_7cf53_1 : decode cJ9_min_7cf53 1 = .ok (.iload_n 1, 1) := by decide +kernel
theorem dJ9_min_7cf53_2 : decode cJ9_min_7cf53 2 = .ok (.if_icmp .gt 7, 3) := by decide +kernel
theorem dJ9_min_7cf53_5 : decode cJ9_min_7cf53 5 = .ok (.iload_n 0, 1) := by decide +kernel
theorem dJ9_min_7cf53_6 : decode cJ9_min_7cf53 6 = .ok (.goto 4, 3) := by decide +kernel
theorem dJ9_min_7cf53_9 : decode cJ9_min_7cf53 9 = .ok (.iload_n 1, 1) := by decide +kernel
theorem dJ9_min_7cf53_10 : decode cJ9_min_7cf53 10 = .ok (.ireturn, 1) := by decide +kernel
theorem dL_law_0 : decode cL_law 0 = .ok (.new 7, 3) := by decide +kernel
theorem dL_law_3 : decode cL_law 3 = .ok (.dup, 1) := by decide +kernel
theorem dL_law_4 : decode cL_law 4 = .ok (.invokespecial 9, 3) := by decide +kernel
theorem dL_law_7 : decode cL_law 7 = .ok (.astore_n 1, 1) := by decide +kernel
theorem dL_law_8 : decode cL_law 8 = .ok (.new 10, 3) := by decide +kernel
theorem dL_law_11 : decode cL_law 11 = .ok (.dup, 1) := by decide +kernel
theorem dL_law_12 : decode cL_law 12 = .ok (.invokespecial 12, 3) := by decide +kernel
theorem dL_law_15 : decode cL_law 15 = .ok (.astore_n 2, 1) := by decide +kernel
theorem dL_law_16 : decode cL_law 16 = .ok (.iconst 0, 1) := by decide +kernel
theorem dL_law_17 : decode cL_law 17 = .ok (.istore_n 3, 1) := by decide +kernel
theorem dL_law_18 : decode cL_law 18 = .ok (.iload_n 3, 1) := by decide +kernel
theorem dL_law_19 : decode cL_law 19 = .ok (.aload_n 0, 1) := by decide +kernel
theorem dL_law_20 : decode cL_law 20 = .ok (.arraylength, 1) := by decide +kernel
theorem dL_law_21 : decode cL_law 21 = .ok (.iconst 5, 1) := by decide +kernel
theorem dL_law_22 : decode cL_law 22 = .ok (.isub, 1) := by decide +kernel
theorem dL_law_23 : decode cL_law 23 = .ok (.if_icmp .gt 1087, 3) := by decide +kernel
theorem dL_law_26 : decode cL_law 26 = .ok (.aload_n 0, 1) := by decide +kernel
theorem dL_law_27 : decode cL_law 27 = .ok (.iload_n 3, 1) := by decide +kernel
theorem dL_law_28 : decode cL_law 28 = .ok (.iaload, 1) := by decide +kernel
theorem dL_law_29 : decode cL_law 29 = .ok (.bipush 31, 2) := by decide +kernel
theorem dL_law_31 : decode cL_law 31 = .ok (.iand, 1) := by decide +kernel
theorem dL_law_32 : decode cL_law 32 = .ok (.tableswitch 1072 0 30 #[140, 203, 216, 229, 242, 275, 308, 331, 364, 407, 440, 473, 487, 510, 524, 567, 610, 653, 696, 709, 732, 765, 808, 857, 880, 913, 936, 969, 1023, 1036, 1049], 140) := by decide +kernel
theorem dL_law_172 : decode cL_law 172 = .ok (.aload_n 1, 1) := by decide +kernel
theorem dL_law_173 : decode cL_law 173 = .ok (.aload_n 0, 1) := by decide +kernel
theorem dL_law_174 : decode cL_law 174 = .ok (.iload_n 3, 1) := by decide +kernel
theorem dL_law_175 : decode cL_law 175 = .ok (.iconst 1, 1) := by decide +kernel
theorem dL_law_176 : decode cL_law 176 = .ok (.iadd, 1) := by decide +kernel
theorem dL_law_177 : decode cL_law 177 = .ok (.iaload, 1) := by decide +kernel
theorem dL_law_178 : decode cL_law 178 = .ok (.aload_n 0, 1) := by decide +kernel
theorem dL_law_179 : decode cL_law 179 = .ok (.iload_n 3, 1) := by decide +kernel
theorem dL_law_180 : decode cL_law 180 = .ok (.iconst 2, 1) := by decide +kernel
theorem dL_law_181 : decode cL_law 181 = .ok (.iadd, 1) := by decide +kernel
theorem dL_law_182 : decode cL_law 182 = .ok (.iaload, 1) := by decide +kernel
theorem dL_law_183 : decode cL_law 183 = .ok (.i2l, 1) := by decide +kernel
theorem dL_law_184 : decode cL_law 184 = .ok (.bipush 32, 2) := by decide +kernel
theorem dL_law_186 : decode cL_law 186 = .ok (.lshl, 1) := by decide +kernel
theorem dL_law_187 : decode cL_law 187 = .ok (.aload_n 0, 1) := by decide +kernel
theorem dL_law_188 : decode cL_law 188 = .ok (.iload_n 3, 1) := by decide +kernel
theorem dL_law_189 : decode cL_law 189 = .ok (.iconst 3, 1) := by decide +kernel
theorem dL_law_190 : decode cL_law 190 = .ok (.iadd, 1) := by decide +kernel
theorem dL_law_191 : decode cL_law 191 = .ok (.iaload, 1) := by decide +kernel
theorem dL_law_192 : decode cL_law 192 = .ok (.i2l, 1) := by decide +kernel
theorem dL_law_193 : decode cL_law 193 = .ok (.ldc2_w 13, 3) := by decide +kernel
theorem dL_law_196 : decode cL_law 196 = .ok (.land, 1) := by decide +kernel
theorem dL_law_197 : decode cL_law 197 = .ok (.lor, 1) := by decide +kernel
theorem dL_law_198 : decode cL_law 198 = .ok (.invokevirtual 15, 3) := by decide +kernel
theorem dL_law_201 : decode cL_law 201 = .ok (.aload_n 2, 1) := by decide +kernel
theorem dL_law_202 : decode cL_law 202 = .ok (.aload_n 0, 1) := by decide +kernel
theorem dL_law_203 : decode cL_law 203 = .ok (.iload_n 3, 1) := by decide +kernel
theorem dL_law_204 : decode cL_law 204 = .ok (.iconst 1, 1) := by decide +kernel
theorem dL_law_205 : decode cL_law 205 = .ok (.iadd, 1) := by decide +kernel
theorem dL_law_206 : decode cL_law 206 = .ok (.iaload, 1) := by decide +kernel
theorem dL_law_207 : decode cL_law 207 = .ok (.aload_n 0, 1) := by decide +kernel
theorem dL_law_208 : decode cL_law 208 = .ok (.iload_n 3, 1) := by decide +kernel
theorem dL_law_209 : decode cL_law 209 = .ok (.iconst 2, 1) := by decide +kernel
theorem dL_law_210 : decode cL_law 210 = .ok (.iadd, 1) := by decide +kernel
theorem dL_law_211 : decode cL_law 211 = .ok (.iaload, 1) := by decide +kernel
theorem dL_law_212 : decode cL_law 212 = .ok (.i2l, 1) := by decide +kernel
theorem dL_law_213 : decode cL_law 213 = .ok (.bipush 32, 2) := by decide +kernel
theorem dL_law_215 : decode cL_law 215 = .ok (.lshl, 1) := by decide +kernel
theorem dL_law_216 : decode cL_law 216 = .ok (.aload_n 0, 1) := by decide +kernel
theorem dL_law_217 : decode cL_law 217 = .ok (.iload_n 3, 1) := by decide +kernel
theorem dL_law_218 : decode cL_law 218 = .ok (.iconst 3, 1) := by decide +kernel
theorem dL_law_219 : decode cL_law 219 = .ok (.iadd, 1) := by decide +kernel
theorem dL_law_220 : decode cL_law 220 = .ok (.iaload, 1) := by decide +kernel
theorem dL_law_221 : decode cL_law 221 = .ok (.i2l, 1) := by decide +kernel
theorem dL_law_222 : decode cL_law 222 = .ok (.ldc2_w 13, 3) := by decide +kernel
theorem dL_law_225 : decode cL_law 225 = .ok (.land, 1) := by decide +kernel
theorem dL_law_226 : decode cL_law 226 = .ok (.lor, 1) := by decide +kernel
theorem dL_law_227 : decode cL_law 227 = .ok (.invokevirtual 19, 3) := by decide +kernel
theorem dL_law_230 : decode cL_law 230 = .ok (.if_icmp .eq 874, 3) := by decide +kernel
theorem dL_law_233 : decode cL_law 233 = .ok (.iconst 0, 1) := by decide +kernel
theorem dL_law_234 : decode cL_law 234 = .ok (.ireturn, 1) := by decide +kernel
theorem dL_law_235 : decode cL_law 235 = .ok (.aload_n 1, 1) := by decide +kernel
theorem dL_law_236 : decode cL_law 236 = .ok (.invokevirtual 20, 3) := by decide +kernel
theorem dL_law_239 : decode cL_law 239 = .ok (.aload_n 2, 1) := by decide +kernel
theorem dL_law_240 : decode cL_law 240 = .ok (.invokevirtual 24, 3) := by decide +kernel
theorem dL_law_243 : decode cL_law 243 = .ok (.if_icmp .eq 861, 3) := by decide +kernel
theorem dL_law_246 : decode cL_law 246 = .ok (.iconst 0, 1) := by decide +kernel
theorem dL_law_247 : decode cL_law 247 = .ok (.ireturn, 1) := by decide +kernel
theorem dL_law_248 : decode cL_law 248 = .ok (.aload_n 1, 1) := by decide +kernel
theorem dL_law_249 : decode cL_law 249 = .ok (.invokevirtual 25, 3) := by decide +kernel
theorem dL_law_252 : decode cL_law 252 = .ok (.aload_n 2, 1) := by decide +kernel
theorem dL_law_253 : decode cL_law 253 = .ok (.invokevirtual 28, 3) := by decide +kernel
theorem dL_law_256 : decode cL_law 256 = .ok (.if_icmp .eq 848, 3) := by decide +kernel
theorem dL_law_259 : decode cL_law 259 = .ok (.iconst 0, 1) := by decide +kernel
theorem dL_law_260 : decode cL_law 260 = .ok (.ireturn, 1) := by decide +kernel
theorem dL_law_261 : decode cL_law 261 = .ok (.aload_n 1, 1) := by decide +kernel
theorem dL_law_262 : decode cL_law 262 = .ok (.invokevirtual 29, 3) := by decide +kernel
theorem dL_law_265 : decode cL_law 265 = .ok (.aload_n 2, 1) := by decide +kernel
theorem dL_law_266 : decode cL_law 266 = .ok (.invokevirtual 32, 3) := by decide +kernel
theorem dL_law_269 : decode cL_law 269 = .ok (.if_icmp .eq 835, 3) := by decide +kernel
theorem dL_law_272 : decode cL_law 272 = .ok (.iconst 0, 1) := by decide +kernel
theorem dL_law_273 : decode cL_law 273 = .ok (.ireturn, 1) := by decide +kernel
theorem dL_law_274 : decode cL_law 274 = .ok (.aload_n 1, 1) := by decide +kernel
theorem dL_law_275 : decode cL_law 275 = .ok (.aload_n 0, 1) := by decide +kernel
theorem dL_law_276 : decode cL_law 276 = .ok (.iload_n 3, 1) := by decide +kernel
theorem dL_law_277 : decode cL_law 277 = .ok (.iconst 1, 1) := by decide +kernel
theorem dL_law_278 : decode cL_law 278 = .ok (.iadd, 1) := by decide +kernel
theorem dL_law_279 : decode cL_law 279 = .ok (.iaload, 1) := by decide +kernel
theorem dL_law_280 : decode cL_law 280 = .ok (.aload_n 0, 1) := by decide +kernel
theorem dL_law_281 : decode cL_law 281 = .ok (.iload_n 3, 1) := by decide +kernel
theorem dL_law_282 : decode cL_law 282 = .ok (.iconst 2, 1) := by decide +kernel
theorem dL_law_283 : decode cL_law 283 = .ok (.iadd, 1) := by decide +kernel
theorem dL_law_284 : decode cL_law 284 = .ok (.iaload, 1) := by decide +kernel
theorem dL_law_285 : decode cL_law 285 = .ok (.invokevirtual 33, 3) := by decide +kernel
theorem dL_law_288 : decode cL_law 288 = .ok (.aload_n 2, 1) := by decide +kernel
theorem dL_law_289 : decode cL_law 289 = .ok (.aload_n 0, 1) := by decide +kernel
theorem dL_law_290 : decode cL_law 290 = .ok (.iload_n 3, 1) := by decide +kernel
theorem dL_law_291 : decode cL_law 291 = .ok (.iconst 1, 1) := by decide +kernel
theorem dL_law_292 : decode cL_law 292 = .ok (.iadd, 1) := by decide +kernel
theorem dL_law_293 : decode cL_law 293 = .ok (.iaload, 1) := by decide +kernel
theorem dL_law_294 : decode cL_law 294 = .ok (.aload_n 0, 1) := by decide +kernel
theorem dL_law_295 : decode cL_law 295 = .ok (.iload_n 3, 1) := by decide +kernel
theorem dL_law_296 : decode cL_law 296 = .ok (.iconst 2, 1) := by decide +kernel
theorem dL_law_297 : decode cL_law 297 = .ok (.iadd, 1) := by decide +kernel
theorem dL_law_298 : decode cL_law 298 = .ok (.iaload, 1) := by decide +kernel
theorem dL_law_299 : decode cL_law 299 = .ok (.invokevirtual 37, 3) := by decide +kernel
theorem dL_law_302 : decode cL_law 302 = .ok (.if_icmp .eq 802, 3) := by decide +kernel
theorem dL_law_305 : decode cL_law 305 = .ok (.iconst 0, 1) := by decide +kernel
theorem dL_law_306 : decode cL_law 306 = .ok (.ireturn, 1) := by decide +kernel
theorem dL_law_307 : decode cL_law 307 = .ok (.aload_n 1, 1) := by decide +kernel
theorem dL_law_308 : decode cL_law 308 = .ok (.aload_n 0, 1) := by decide +kernel
theorem dL_law_309 : decode cL_law 309 = .ok (.iload_n 3, 1) := by decide +kernel
theorem dL_law_310 : decode cL_law 310 = .ok (.iconst 1, 1) := by decide +kernel
theorem dL_law_311 : decode cL_law 311 = .ok (.iadd, 1) := by decide +kernel
theorem dL_law_312 : decode cL_law 312 = .ok (.iaload, 1) := by decide +kernel
theorem dL_law_313 : decode cL_law 313 = .ok (.aload_n 0, 1) := by decide +kernel
theorem dL_law_314 : decode cL_law 314 = .ok (.iload_n 3, 1) := by decide +kernel
theorem dL_law_315 : decode cL_law 315 = .ok (.iconst 2, 1) := by decide +kernel
theorem dL_law_316 : decode cL_law 316 = .ok (.iadd, 1) := by decide +kernel
theorem dL_law_317 : decode cL_law 317 = .ok (.iaload, 1) := by decide +kernel
theorem dL_law_318 : decode cL_law 318 = .ok (.invokevirtual 38, 3) := by decide +kernel
theorem dL_law_321 : decode cL_law 321 = .ok (.aload_n 2, 1) := by decide +kernel
theorem dL_law_322 : decode cL_law 322 = .ok (.aload_n 0, 1) := by decide +kernel
theorem dL_law_323 : decode cL_law 323 = .ok (.iload_n 3, 1) := by decide +kernel
theorem dL_law_324 : decode cL_law 324 = .ok (.iconst 1, 1) := by decide +kernel
theorem dL_law_325 : decode cL_law 325 = .ok (.iadd, 1) := by decide +kernel
theorem dL_law_326 : decode cL_law 326 = .ok (.iaload, 1) := by decide +kernel
theorem dL_law_327 : decode cL_law 327 = .ok (.aload_n 0, 1) := by decide +kernel
theorem dL_law_328 : decode cL_law 328 = .ok (.iload_n 3, 1) := by decide +kernel
theorem dL_law_329 : decode cL_law 329 = .ok (.iconst 2, 1) := by decide +kernel
theorem dL_law_330 : decode cL_law 330 = .ok (.iadd, 1) := by decide +kernel
theorem dL_law_331 : decode cL_law 331 = .ok (.iaload, 1) := by decide +kernel
theorem dL_law_332 : decode cL_law 332 = .ok (.invokevirtual 41, 3) := by decide +kernel
theorem dL_law_335 : decode cL_law 335 = .ok (.if_icmp .eq 769, 3) := by decide +kernel
theorem dL_law_338 : decode cL_law 338 = .ok (.iconst 0, 1) := by decide +kernel
theorem dL_law_339 : decode cL_law 339 = .ok (.ireturn, 1) := by decide +kernel
theorem dL_law_340 : decode cL_law 340 = .ok (.aload_n 1, 1) := by decide +kernel
theorem dL_law_341 : decode cL_law 341 = .ok (.aload_n 0, 1) := by decide +kernel
theorem dL_law_342 : decode cL_law 342 = .ok (.iload_n 3, 1) := by decide +kernel
theorem dL_law_343 : decode cL_law 343 = .ok (.iconst 1, 1) := by decide +kernel
theorem dL_law_344 : decode cL_law 344 = .ok (.iadd, 1) := by decide +kernel
theorem dL_law_345 : decode cL_law 345 = .ok (.iaload, 1) := by decide +kernel
theorem dL_law_346 : decode cL_law 346 = .ok (.invokevirtual 42, 3) := by decide +kernel
theorem dL_law_349 : decode cL_law 349 = .ok (.aload_n 2, 1) := by decide +kernel
theorem dL_law_350 : decode cL_law 350 = .ok (.aload_n 0, 1) := by decide +kernel
theorem dL_law_351 : decode cL_law 351 = .ok (.iload_n 3, 1) := by decide +kernel
theorem dL_law_352 : decode cL_law 352 = .ok (.iconst 1, 1) := by decide +kernel
theorem dL_law_353 : decode cL_law 353 = .ok (.iadd, 1) := by decide +kernel
theorem dL_law_354 : decode cL_law 354 = .ok (.iaload, 1) := by decide +kernel
theorem dL_law_355 : decode cL_law 355 = .ok (.invokevirtual 46, 3) := by decide +kernel
theorem dL_law_358 : decode cL_law 358 = .ok (.if_icmp .eq 746, 3) := by decide +kernel
theorem dL_law_361 : decode cL_law 361 = .ok (.iconst 0, 1) := by decide +kernel
theorem dL_law_362 : decode cL_law 362 = .ok (.ireturn, 1) := by decide +kernel
theorem dL_law_363 : decode cL_law 363 = .ok (.aload_n 1, 1) := by decide +kernel
theorem dL_law_364 : decode cL_law 364 = .ok (.aload_n 0, 1) := by decide +kernel
theorem dL_law_365 : decode cL_law 365 = .ok (.iload_n 3, 1) := by decide +kernel
theorem dL_law_366 : decode cL_law 366 = .ok (.iconst 1, 1) := by decide +kernel
theorem dL_law_367 : decode cL_law 367 = .ok (.iadd, 1) := by decide +kernel
theorem dL_law_368 : decode cL_law 368 = .ok (.iaload, 1) := by decide +kernel
theorem dL_law_369 : decode cL_law 369 = .ok (.aload_n 0, 1) := by decide +kernel
theorem dL_law_370 : decode cL_law 370 = .ok (.iload_n 3, 1) := by decide +kernel
theorem dL_law_371 : decode cL_law 371 = .ok (.iconst 2, 1) := by decide +kernel
theorem dL_law_372 : decode cL_law 372 = .ok (.iadd, 1) := by decide +kernel
theorem dL_law_373 : decode cL_law 373 = .ok (.iaload, 1) := by decide +kernel
theorem dL_law_374 : decode cL_law 374 = .ok (.invokevirtual 47, 3) := by decide +kernel
theorem dL_law_377 : decode cL_law 377 = .ok (.aload_n 2, 1) := by decide +kernel
theorem dL_law_378 : decode cL_law 378 = .ok (.aload_n 0, 1) := by decide +kernel
theorem dL_law_379 : decode cL_law 379 = .ok (.iload_n 3, 1) := by decide +kernel
theorem dL_law_380 : decode cL_law 380 = .ok (.iconst 1, 1) := by decide +kernel
theorem dL_law_381 : decode cL_law 381 = .ok (.iadd, 1) := by decide +kernel
theorem dL_law_382 : decode cL_law 382 = .ok (.iaload, 1) := by decide +kernel
theorem dL_law_383 : decode cL_law 383 = .ok (.aload_n 0, 1) := by decide +kernel
theorem dL_law_384 : decode cL_law 384 = .ok (.iload_n 3, 1) := by decide +kernel
theorem dL_law_385 : decode cL_law 385 = .ok (.iconst 2, 1) := by decide +kernel
theorem dL_law_386 : decode cL_law 386 = .ok (.iadd, 1) := by decide +kernel
theorem dL_law_387 : decode cL_law 387 = .ok (.iaload, 1) := by decide +kernel
theorem dL_law_388 : decode cL_law 388 = .ok (.invokevirtual 50, 3) := by decide +kernel
theorem dL_law_391 : decode cL_law 391 = .ok (.if_icmp .eq 713, 3) := by decide +kernel
theorem dL_law_394 : decode cL_law 394 = .ok (.iconst 0, 1) := by decide +kernel
theorem dL_law_395 : decode cL_law 395 = .ok (.ireturn, 1) := by decide +kernel
theorem dL_law_396 : decode cL_law 396 = .ok (.aload_n 1, 1) := by decide +kernel
theorem dL_law_397 : decode cL_law 397 = .ok (.aload_n 0, 1) := by decide +kernel
theorem dL_law_398 : decode cL_law 398 = .ok (.iload_n 3, 1) := by decide +kernel
theorem dL_law_399 : decode cL_law 399 = .ok (.iconst 1, 1) := by decide +kernel
theorem dL_law_400 : decode cL_law 400 = .ok (.iadd, 1) := by decide +kernel
theorem dL_law_401 : decode cL_law 401 = .ok (.iaload, 1) := by decide +kernel
theorem dL_law_402 : decode cL_law 402 = .ok (.aload_n 0, 1) := by decide +kernel
theorem dL_law_403 : decode cL_law 403 = .ok (.iload_n 3, 1) := by decide +kernel
theorem dL_law_404 : decode cL_law 404 = .ok (.iconst 2, 1) := by decide +kernel
theorem dL_law_405 : decode cL_law 405 = .ok (.iadd, 1) := by decide +kernel
theorem dL_law_406 : decode cL_law 406 = .ok (.iaload, 1) := by decide +kernel
theorem dL_law_407 : decode cL_law 407 = .ok (.aload_n 0, 1) := by decide +kernel
theorem dL_law_408 : decode cL_law 408 = .ok (.iload_n 3, 1) := by decide +kernel
theorem dL_law_409 : decode cL_law 409 = .ok (.iconst 3, 1) := by decide +kernel
theorem dL_law_410 : decode cL_law 410 = .ok (.iadd, 1) := by decide +kernel
theorem dL_law_411 : decode cL_law 411 = .ok (.iaload, 1) := by decide +kernel
theorem dL_law_412 : decode cL_law 412 = .ok (.invokevirtual 51, 3) := by decide +kernel
theorem dL_law_415 : decode cL_law 415 = .ok (.aload_n 2, 1) := by decide +kernel
theorem dL_law_416 : decode cL_law 416 = .ok (.aload_n 0, 1) := by decide +kernel
theorem dL_law_417 : decode cL_law 417 = .ok (.iload_n 3, 1) := by decide +kernel
theorem dL_law_418 : decode cL_law 418 = .ok (.iconst 1, 1) := by decide +kernel
theorem dL_law_419 : decode cL_law 419 = .ok (.iadd, 1) := by decide +kernel
theorem dL_law_420 : decode cL_law 420 = .ok (.iaload, 1) := by decide +kernel
theorem dL_law_421 : decode cL_law 421 = .ok (.aload_n 0, 1) := by decide +kernel
theorem dL_law_422 : decode cL_law 422 = .ok (.iload_n 3, 1) := by decide +kernel
theorem dL_law_423 : decode cL_law 423 = .ok (.iconst 2, 1) := by decide +kernel
theorem dL_law_424 : decode cL_law 424 = .ok (.iadd, 1) := by decide +kernel
theorem dL_law_425 : decode cL_law 425 = .ok (.iaload, 1) := by decide +kernel
theorem dL_law_426 : decode cL_law 426 = .ok (.aload_n 0, 1) := by decide +kernel
theorem dL_law_427 : decode cL_law 427 = .ok (.iload_n 3, 1) := by decide +kernel
theorem dL_law_428 : decode cL_law 428 = .ok (.iconst 3, 1) := by decide +kernel
theorem dL_law_429 : decode cL_law 429 = .ok (.iadd, 1) := by decide +kernel
theorem dL_law_430 : decode cL_law 430 = .ok (.iaload, 1) := by decide +kernel
theorem dL_law_431 : decode cL_law 431 = .ok (.invokevirtual 55, 3) := by decide +kernel
theorem dL_law_434 : decode cL_law 434 = .ok (.if_icmp .eq 670, 3) := by decide +kernel
theorem dL_law_437 : decode cL_law 437 = .ok (.iconst 0, 1) := by decide +kernel
theorem dL_law_438 : decode cL_law 438 = .ok (.ireturn, 1) := by decide +kernel
theorem dL_law_439 : decode cL_law 439 = .ok (.aload_n 1, 1) := by decide +kernel
theorem dL_law_440 : decode cL_law 440 = .ok (.aload_n 0, 1) := by decide +kernel
theorem dL_law_441 : decode cL_law 441 = .ok (.iload_n 3, 1) := by decide +kernel
theorem dL_law_442 : decode cL_law 442 = .ok (.iconst 1, 1) := by decide +kernel
theorem dL_law_443 : decode cL_law 443 = .ok (.iadd, 1) := by decide +kernel
theorem dL_law_444 : decode cL_law 444 = .ok (.iaload, 1) := by decide +kernel
theorem dL_law_445 : decode cL_law 445 = .ok (.aload_n 0, 1) := by decide +kernel
theorem dL_law_446 : decode cL_law 446 = .ok (.iload_n 3, 1) := by decide +kernel
theorem dL_law_447 : decode cL_law 447 = .ok (.iconst 2, 1) := by decide +kernel
theorem dL_law_448 : decode cL_law 448 = .ok (.iadd, 1) := by decide +kernel
theorem dL_law_449 : decode cL_law 449 = .ok (.iaload, 1) := by decide +kernel
theorem dL_law_450 : decode cL_law 450 = .ok (.invokevirtual 56, 3) := by decide +kernel
theorem dL_law_453 : decode cL_law 453 = .ok (.aload_n 2, 1) := by decide +kernel
theorem dL_law_454 : decode cL_law 454 = .ok (.aload_n 0, 1) := by decide +kernel
theorem dL_law_455 : decode cL_law 455 = .ok (.iload_n 3, 1) := by decide +kernel
theorem dL_law_456 : decode cL_law 456 = .ok (.iconst 1, 1) := by decide +kernel
theorem dL_law_457 : decode cL_law 457 = .ok (.iadd, 1) := by decide +kernel
theorem dL_law_458 : decode cL_law 458 = .ok (.iaload, 1) := by decide +kernel
theorem dL_law_459 : decode cL_law 459 = .ok (.aload_n 0, 1) := by decide +kernel
theorem dL_law_460 : decode cL_law 460 = .ok (.iload_n 3, 1) := by decide +kernel
theorem dL_law_461 : decode cL_law 461 = .ok (.iconst 2, 1) := by decide +kernel
theorem dL_law_462 : decode cL_law 462 = .ok (.iadd, 1) := by decide +kernel
theorem dL_law_463 : decode cL_law 463 = .ok (.iaload, 1) := by decide +kernel
theorem dL_law_464 : decode cL_law 464 = .ok (.invokevirtual 59, 3) := by decide +kernel
theorem dL_law_467 : decode cL_law 467 = .ok (.if_icmp .eq 637, 3) := by decide +kernel
theorem dL_law_470 : decode cL_law 470 = .ok (.iconst 0, 1) := by decide +kernel
theorem dL_law_471 : decode cL_law 471 = .ok (.ireturn, 1) := by decide +kernel
theorem dL_law_472 : decode cL_law 472 = .ok (.aload_n 1, 1) := by decide +kernel
theorem dL_law_473 : decode cL_law 473 = .ok (.aload_n 0, 1) := by decide +kernel
theorem dL_law_474 : decode cL_law 474 = .ok (.iload_n 3, 1) := by decide +kernel
theorem dL_law_475 : decode cL_law 475 = .ok (.iconst 1, 1) := by decide +kernel
theorem dL_law_476 : decode cL_law 476 = .ok (.iadd, 1) := by decide +kernel
theorem dL_law_477 : decode cL_law 477 = .ok (.iaload, 1) := by decide +kernel
theorem dL_law_478 : decode cL_law 478 = .ok (.aload_n 0, 1) := by decide +kernel
theorem dL_law_479 : decode cL_law 479 = .ok (.iload_n 3, 1) := by decide +kernel
theorem dL_law_480 : decode cL_law 480 = .ok (.iconst 2, 1) := by decide +kernel
theorem dL_law_481 : decode cL_law 481 = .ok (.iadd, 1) := by decide +kernel
theorem dL_law_482 : decode cL_law 482 = .ok (.iaload, 1) := by decide +kernel
theorem dL_law_483 : decode cL_law 483 = .ok (.invokevirtual 60, 3) := by decide +kernel
theorem dL_law_486 : decode cL_law 486 = .ok (.aload_n 2, 1) := by decide +kernel
theorem dL_law_487 : decode cL_law 487 = .ok (.aload_n 0, 1) := by decide +kernel
theorem dL_law_488 : decode cL_law 488 = .ok (.iload_n 3, 1) := by decide +kernel
theorem dL_law_489 : decode cL_law 489 = .ok (.iconst 1, 1) := by decide +kernel
theorem dL_law_490 : decode cL_law 490 = .ok (.iadd, 1) := by decide +kernel
theorem dL_law_491 : decode cL_law 491 = .ok (.iaload, 1) := by decide +kernel
theorem dL_law_492 : decode cL_law 492 = .ok (.aload_n 0, 1) := by decide +kernel
theorem dL_law_493 : decode cL_law 493 = .ok (.iload_n 3, 1) := by decide +kernel
theorem dL_law_494 : decode cL_law 494 = .ok (.iconst 2, 1) := by decide +kernel
theorem dL_law_495 : decode cL_law 495 = .ok (.iadd, 1) := by decide +kernel
theorem dL_law_496 : decode cL_law 496 = .ok (.iaload, 1) := by decide +kernel
theorem dL_law_497 : decode cL_law 497 = .ok (.invokevirtual 63, 3) := by decide +kernel
theorem dL_law_500 : decode cL_law 500 = .ok (.if_icmp .eq 604, 3) := by decide +kernel
theorem dL_law_503 : decode cL_law 503 = .ok (.iconst 0, 1) := by decide +kernel
theorem dL_law_504 : decode cL_law 504 = .ok (.ireturn, 1) := by decide +kernel
theorem dL_law_505 : decode cL_law 505 = .ok (.aload_n 1, 1) := by decide +kernel
theorem dL_law_506 : decode cL_law 506 = .ok (.invokevirtual 64, 3) := by decide +kernel
theorem dL_law_509 : decode cL_law 509 = .ok (.aload_n 2, 1) := by decide +kernel
theorem dL_law_510 : decode cL_law 510 = .ok (.invokevirtual 68, 3) := by decide +kernel
theorem dL_law_513 : decode cL_law 513 = .ok (.lcmp, 1) := by decide +kernel
theorem dL_law_514 : decode cL_law 514 = .ok (.ifCond .eq 590, 3) := by decide +kernel
theorem dL_law_517 : decode cL_law 517 = .ok (.iconst 0, 1) := by decide +kernel
theorem dL_law_518 : decode cL_law 518 = .ok (.ireturn, 1) := by decide +kernel
theorem dL_law_519 : decode cL_law 519 = .ok (.aload_n 1, 1) := by decide +kernel
theorem dL_law_520 : decode cL_law 520 = .ok (.aload_n 0, 1) := by decide +kernel
theorem dL_law_521 : decode cL_law 521 = .ok (.iload_n 3, 1) := by decide +kernel
theorem dL_law_522 : decode cL_law 522 = .ok (.iconst 1, 1) := by decide +kernel
theorem dL_law_523 : decode cL_law 523 = .ok (.iadd, 1) := by decide +kernel
theorem dL_law_524 : decode cL_law 524 = .ok (.iaload, 1) := by decide +kernel
theorem dL_law_525 : decode cL_law 525 = .ok (.invokevirtual 69, 3) := by decide +kernel
theorem dL_law_528 : decode cL_law 528 = .ok (.aload_n 2, 1) := by decide +kernel
theorem dL_law_529 : decode cL_law 529 = .ok (.aload_n 0, 1) := by decide +kernel
theorem dL_law_530 : decode cL_law 530 = .ok (.iload_n 3, 1) := by decide +kernel
theorem dL_law_531 : decode cL_law 531 = .ok (.iconst 1, 1) := by decide +kernel
theorem dL_law_532 : decode cL_law 532 = .ok (.iadd, 1) := by decide +kernel
theorem dL_law_533 : decode cL_law 533 = .ok (.iaload, 1) := by decide +kernel
theorem dL_law_534 : decode cL_law 534 = .ok (.invokevirtual 72, 3) := by decide +kernel
theorem dL_law_537 : decode cL_law 537 = .ok (.if_icmp .eq 567, 3) := by decide +kernel
theorem dL_law_540 : decode cL_law 540 = .ok (.iconst 0, 1) := by decide +kernel
theorem dL_law_541 : decode cL_law 541 = .ok (.ireturn, 1) := by decide +kernel
theorem dL_law_542 : decode cL_law 542 = .ok (.aload_n 1, 1) := by decide +kernel
theorem dL_law_543 : decode cL_law 543 = .ok (.invokevirtual 73, 3) := by decide +kernel
theorem dL_law_546 : decode cL_law 546 = .ok (.aload_n 2, 1) := by decide +kernel
theorem dL_law_547 : decode cL_law 547 = .ok (.invokevirtual 76, 3) := by decide +kernel
theorem dL_law_550 : decode cL_law 550 = .ok (.lcmp, 1) := by decide +kernel
theorem dL_law_551 : decode cL_law 551 = .ok (.ifCond .eq 553, 3) := by decide +kernel
theorem dL_law_554 : decode cL_law 554 = .ok (.iconst 0, 1) := by decide +kernel
theorem dL_law_555 : decode cL_law 555 = .ok (.ireturn, 1) := by decide +kernel
theorem dL_law_556 : decode cL_law 556 = .ok (.aload_n 1, 1) := by decide +kernel
theorem dL_law_557 : decode cL_law 557 = .ok (.aload_n 0, 1) := by decide +kernel
theorem dL_law_558 : decode cL_law 558 = .ok (.iload_n 3, 1) := by decide +kernel
theorem dL_law_559 : decode cL_law 559 = .ok (.iconst 1, 1) := by decide +kernel
theorem dL_law_560 : decode cL_law 560 = .ok (.iadd, 1) := by decide +kernel
theorem dL_law_561 : decode cL_law 561 = .ok (.iaload, 1) := by decide +kernel
theorem dL_law_562 : decode cL_law 562 = .ok (.aload_n 0, 1) := by decide +kernel
theorem dL_law_563 : decode cL_law 563 = .ok (.iload_n 3, 1) := by decide +kernel
theorem dL_law_564 : decode cL_law 564 = .ok (.iconst 2, 1) := by decide +kernel
theorem dL_law_565 : decode cL_law 565 = .ok (.iadd, 1) := by decide +kernel
theorem dL_law_566 : decode cL_law 566 = .ok (.iaload, 1) := by decide +kernel
theorem dL_law_567 : decode cL_law 567 = .ok (.aload_n 0, 1) := by decide +kernel
theorem dL_law_568 : decode cL_law 568 = .ok (.iload_n 3, 1) := by decide +kernel
theorem dL_law_569 : decode cL_law 569 = .ok (.iconst 3, 1) := by decide +kernel
theorem dL_law_570 : decode cL_law 570 = .ok (.iadd, 1) := by decide +kernel
theorem dL_law_571 : decode cL_law 571 = .ok (.iaload, 1) := by decide +kernel
theorem dL_law_572 : decode cL_law 572 = .ok (.invokevirtual 77, 3) := by decide +kernel
theorem dL_law_575 : decode cL_law 575 = .ok (.aload_n 2, 1) := by decide +kernel
theorem dL_law_576 : decode cL_law 576 = .ok (.aload_n 0, 1) := by decide +kernel
theorem dL_law_577 : decode cL_law 577 = .ok (.iload_n 3, 1) := by decide +kernel
theorem dL_law_578 : decode cL_law 578 = .ok (.iconst 1, 1) := by decide +kernel
theorem dL_law_579 : decode cL_law 579 = .ok (.iadd, 1) := by decide +kernel
theorem dL_law_580 : decode cL_law 580 = .ok (.iaload, 1) := by decide +kernel
theorem dL_law_581 : decode cL_law 581 = .ok (.aload_n 0, 1) := by decide +kernel
theorem dL_law_582 : decode cL_law 582 = .ok (.iload_n 3, 1) := by decide +kernel
theorem dL_law_583 : decode cL_law 583 = .ok (.iconst 2, 1) := by decide +kernel
theorem dL_law_584 : decode cL_law 584 = .ok (.iadd, 1) := by decide +kernel
theorem dL_law_585 : decode cL_law 585 = .ok (.iaload, 1) := by decide +kernel
theorem dL_law_586 : decode cL_law 586 = .ok (.aload_n 0, 1) := by decide +kernel
theorem dL_law_587 : decode cL_law 587 = .ok (.iload_n 3, 1) := by decide +kernel
theorem dL_law_588 : decode cL_law 588 = .ok (.iconst 3, 1) := by decide +kernel
theorem dL_law_589 : decode cL_law 589 = .ok (.iadd, 1) := by decide +kernel
theorem dL_law_590 : decode cL_law 590 = .ok (.iaload, 1) := by decide +kernel
theorem dL_law_591 : decode cL_law 591 = .ok (.invokevirtual 80, 3) := by decide +kernel
theorem dL_law_594 : decode cL_law 594 = .ok (.if_icmp .eq 510, 3) := by decide +kernel
theorem dL_law_597 : decode cL_law 597 = .ok (.iconst 0, 1) := by decide +kernel
theorem dL_law_598 : decode cL_law 598 = .ok (.ireturn, 1) := by decide +kernel
theorem dL_law_599 : decode cL_law 599 = .ok (.aload_n 1, 1) := by decide +kernel
theorem dL_law_600 : decode cL_law 600 = .ok (.aload_n 0, 1) := by decide +kernel
theorem dL_law_601 : decode cL_law 601 = .ok (.iload_n 3, 1) := by decide +kernel
theorem dL_law_602 : decode cL_law 602 = .ok (.iconst 1, 1) := by decide +kernel
theorem dL_law_603 : decode cL_law 603 = .ok (.iadd, 1) := by decide +kernel
theorem dL_law_604 : decode cL_law 604 = .ok (.iaload, 1) := by decide +kernel
theorem dL_law_605 : decode cL_law 605 = .ok (.aload_n 0, 1) := by decide +kernel
theorem dL_law_606 : decode cL_law 606 = .ok (.iload_n 3, 1) := by decide +kernel
theorem dL_law_607 : decode cL_law 607 = .ok (.iconst 2, 1) := by decide +kernel
theorem dL_law_608 : decode cL_law 608 = .ok (.iadd, 1) := by decide +kernel
theorem dL_law_609 : decode cL_law 609 = .ok (.iaload, 1) := by decide +kernel
theorem dL_law_610 : decode cL_law 610 = .ok (.aload_n 0, 1) := by decide +kernel
theorem dL_law_611 : decode cL_law 611 = .ok (.iload_n 3, 1) := by decide +kernel
theorem dL_law_612 : decode cL_law 612 = .ok (.iconst 3, 1) := by decide +kernel
theorem dL_law_613 : decode cL_law 613 = .ok (.iadd, 1) := by decide +kernel
theorem dL_law_614 : decode cL_law 614 = .ok (.iaload, 1) := by decide +kernel
theorem dL_law_615 : decode cL_law 615 = .ok (.invokevirtual 81, 3) := by decide +kernel
theorem dL_law_618 : decode cL_law 618 = .ok (.aload_n 2, 1) := by decide +kernel
theorem dL_law_619 : decode cL_law 619 = .ok (.aload_n 0, 1) := by decide +kernel
theorem dL_law_620 : decode cL_law 620 = .ok (.iload_n 3, 1) := by decide +kernel
theorem dL_law_621 : decode cL_law 621 = .ok (.iconst 1, 1) := by decide +kernel
theorem dL_law_622 : decode cL_law 622 = .ok (.iadd, 1) := by decide +kernel
theorem dL_law_623 : decode cL_law 623 = .ok (.iaload, 1) := by decide +kernel
theorem dL_law_624 : decode cL_law 624 = .ok (.aload_n 0, 1) := by decide +kernel
theorem dL_law_625 : decode cL_law 625 = .ok (.iload_n 3, 1) := by decide +kernel
theorem dL_law_626 : decode cL_law 626 = .ok (.iconst 2, 1) := by decide +kernel
theorem dL_law_627 : decode cL_law 627 = .ok (.iadd, 1) := by decide +kernel
theorem dL_law_628 : decode cL_law 628 = .ok (.iaload, 1) := by decide +kernel
theorem dL_law_629 : decode cL_law 629 = .ok (.aload_n 0, 1) := by decide +kernel
theorem dL_law_630 : decode cL_law 630 = .ok (.iload_n 3, 1) := by decide +kernel
theorem dL_law_631 : decode cL_law 631 = .ok (.iconst 3, 1) := by decide +kernel
theorem dL_law_632 : decode cL_law 632 = .ok (.iadd, 1) := by decide +kernel
theorem dL_law_633 : decode cL_law 633 = .ok (.iaload, 1) := by decide +kernel
theorem dL_law_634 : decode cL_law 634 = .ok (.invokevirtual 84, 3) := by decide +kernel
theorem dL_law_637 : decode cL_law 637 = .ok (.if_icmp .eq 467, 3) := by decide +kernel
theorem dL_law_640 : decode cL_law 640 = .ok (.iconst 0, 1) := by decide +kernel
theorem dL_law_641 : decode cL_law 641 = .ok (.ireturn, 1) := by decide +kernel
theorem dL_law_642 : decode cL_law 642 = .ok (.aload_n 1, 1) := by decide +kernel
theorem dL_law_643 : decode cL_law 643 = .ok (.aload_n 0, 1) := by decide +kernel
theorem dL_law_644 : decode cL_law 644 = .ok (.iload_n 3, 1) := by decide +kernel
theorem dL_law_645 : decode cL_law 645 = .ok (.iconst 1, 1) := by decide +kernel
theorem dL_law_646 : decode cL_law 646 = .ok (.iadd, 1) := by decide +kernel
theorem dL_law_647 : decode cL_law 647 = .ok (.iaload, 1) := by decide +kernel
theorem dL_law_648 : decode cL_law 648 = .ok (.aload_n 0, 1) := by decide +kernel
theorem dL_law_649 : decode cL_law 649 = .ok (.iload_n 3, 1) := by decide +kernel
theorem dL_law_650 : decode cL_law 650 = .ok (.iconst 2, 1) := by decide +kernel
theorem dL_law_651 : decode cL_law 651 = .ok (.iadd, 1) := by decide +kernel
theorem dL_law_652 : decode cL_law 652 = .ok (.iaload, 1) := by decide +kernel
theorem dL_law_653 : decode cL_law 653 = .ok (.aload_n 0, 1) := by decide +kernel
theorem dL_law_654 : decode cL_law 654 = .ok (.iload_n 3, 1) := by decide +kernel
theorem dL_law_655 : decode cL_law 655 = .ok (.iconst 3, 1) := by decide +kernel
theorem dL_law_656 : decode cL_law 656 = .ok (.iadd, 1) := by decide +kernel
theorem dL_law_657 : decode cL_law 657 = .ok (.iaload, 1) := by decide +kernel
theorem dL_law_658 : decode cL_law 658 = .ok (.invokevirtual 85, 3) := by decide +kernel
theorem dL_law_661 : decode cL_law 661 = .ok (.aload_n 2, 1) := by decide +kernel
theorem dL_law_662 : decode cL_law 662 = .ok (.aload_n 0, 1) := by decide +kernel
theorem dL_law_663 : decode cL_law 663 = .ok (.iload_n 3, 1) := by decide +kernel
theorem dL_law_664 : decode cL_law 664 = .ok (.iconst 1, 1) := by decide +kernel
theorem dL_law_665 : decode cL_law 665 = .ok (.iadd, 1) := by decide +kernel
theorem dL_law_666 : decode cL_law 666 = .ok (.iaload, 1) := by decide +kernel
theorem dL_law_667 : decode cL_law 667 = .ok (.aload_n 0, 1) := by decide +kernel
theorem dL_law_668 : decode cL_law 668 = .ok (.iload_n 3, 1) := by decide +kernel
theorem dL_law_669 : decode cL_law 669 = .ok (.iconst 2, 1) := by decide +kernel
theorem dL_law_670 : decode cL_law 670 = .ok (.iadd, 1) := by decide +kernel
theorem dL_law_671 : decode cL_law 671 = .ok (.iaload, 1) := by decide +kernel
theorem dL_law_672 : decode cL_law 672 = .ok (.aload_n 0, 1) := by decide +kernel
theorem dL_law_673 : decode cL_law 673 = .ok (.iload_n 3, 1) := by decide +kernel
theorem dL_law_674 : decode cL_law 674 = .ok (.iconst 3, 1) := by decide +kernel
theorem dL_law_675 : decode cL_law 675 = .ok (.iadd, 1) := by decide +kernel
theorem dL_law_676 : decode cL_law 676 = .ok (.iaload, 1) := by decide +kernel
theorem dL_law_677 : decode cL_law 677 = .ok (.invokevirtual 88, 3) := by decide +kernel
theorem dL_law_680 : decode cL_law 680 = .ok (.if_icmp .eq 424, 3) := by decide +kernel
theorem dL_law_683 : decode cL_law 683 = .ok (.iconst 0, 1) := by decide +kernel
theorem dL_law_684 : decode cL_law 684 = .ok (.ireturn, 1) := by decide +kernel
theorem dL_law_685 : decode cL_law 685 = .ok (.aload_n 1, 1) := by decide +kernel
theorem dL_law_686 : decode cL_law 686 = .ok (.aload_n 0, 1) := by decide +kernel
theorem dL_law_687 : decode cL_law 687 = .ok (.iload_n 3, 1) := by decide +kernel
theorem dL_law_688 : decode cL_law 688 = .ok (.iconst 1, 1) := by decide +kernel
theorem dL_law_689 : decode cL_law 689 = .ok (.iadd, 1) := by decide +kernel
theorem dL_law_690 : decode cL_law 690 = .ok (.iaload, 1) := by decide +kernel
theorem dL_law_691 : decode cL_law 691 = .ok (.aload_n 0, 1) := by decide +kernel
theorem dL_law_692 : decode cL_law 692 = .ok (.iload_n 3, 1) := by decide +kernel
theorem dL_law_693 : decode cL_law 693 = .ok (.iconst 2, 1) := by decide +kernel
theorem dL_law_694 : decode cL_law 694 = .ok (.iadd, 1) := by decide +kernel
theorem dL_law_695 : decode cL_law 695 = .ok (.iaload, 1) := by decide +kernel
theorem dL_law_696 : decode cL_law 696 = .ok (.aload_n 0, 1) := by decide +kernel
theorem dL_law_697 : decode cL_law 697 = .ok (.iload_n 3, 1) := by decide +kernel
theorem dL_law_698 : decode cL_law 698 = .ok (.iconst 3, 1) := by decide +kernel
theorem dL_law_699 : decode cL_law 699 = .ok (.iadd, 1) := by decide +kernel
theorem dL_law_700 : decode cL_law 700 = .ok (.iaload, 1) := by decide +kernel
theorem dL_law_701 : decode cL_law 701 = .ok (.invokevirtual 89, 3) := by decide +kernel
theorem dL_law_704 : decode cL_law 704 = .ok (.aload_n 2, 1) := by decide +kernel
theorem dL_law_705 : decode cL_law 705 = .ok (.aload_n 0, 1) := by decide +kernel
theorem dL_law_706 : decode cL_law 706 = .ok (.iload_n 3, 1) := by decide +kernel
theorem dL_law_707 : decode cL_law 707 = .ok (.iconst 1, 1) := by decide +kernel
theorem dL_law_708 : decode cL_law 708 = .ok (.iadd, 1) := by decide +kernel
theorem dL_law_709 : decode cL_law 709 = .ok (.iaload, 1) := by decide +kernel
theorem dL_law_710 : decode cL_law 710 = .ok (.aload_n 0, 1) := by decide +kernel
theorem dL_law_711 : decode cL_law 711 = .ok (.iload_n 3, 1) := by decide +kernel
theorem dL_law_712 : decode cL_law 712 = .ok (.iconst 2, 1) := by decide +kernel
theorem dL_law_713 : decode cL_law 713 = .ok (.iadd, 1) := by decide +kernel
theorem dL_law_714 : decode cL_law 714 = .ok (.iaload, 1) := by decide +kernel
theorem dL_law_715 : decode cL_law 715 = .ok (.aload_n 0, 1) := by decide +kernel
theorem dL_law_716 : decode cL_law 716 = .ok (.iload_n 3, 1) := by decide +kernel
theorem dL_law_717 : decode cL_law 717 = .ok (.iconst 3, 1) := by decide +kernel
theorem dL_law_718 : decode cL_law 718 = .ok (.iadd, 1) := by decide +kernel
theorem dL_law_719 : decode cL_law 719 = .ok (.iaload, 1) := by decide +kernel
theorem dL_law_720 : decode cL_law 720 = .ok (.invokevirtual 92, 3) := by decide +kernel
theorem dL_law_723 : decode cL_law 723 = .ok (.if_icmp .eq 381, 3) := by decide +kernel
theorem dL_law_726 : decode cL_law 726 = .ok (.iconst 0, 1) := by decide +kernel
theorem dL_law_727 : decode cL_law 727 = .ok (.ireturn, 1) := by decide +kernel
theorem dL_law_728 : decode cL_law 728 = .ok (.aload_n 1, 1) := by decide +kernel
theorem dL_law_729 : decode cL_law 729 = .ok (.invokevirtual 93, 3) := by decide +kernel
theorem dL_law_732 : decode cL_law 732 = .ok (.aload_n 2, 1) := by decide +kernel
theorem dL_law_733 : decode cL_law 733 = .ok (.invokevirtual 96, 3) := by decide +kernel
theorem dL_law_736 : decode cL_law 736 = .ok (.if_icmp .eq 368, 3) := by decide +kernel
theorem dL_law_739 : decode cL_law 739 = .ok (.iconst 0, 1) := by decide +kernel
theorem dL_law_740 : decode cL_law 740 = .ok (.ireturn, 1) := by decide +kernel
theorem dL_law_741 : decode cL_law 741 = .ok (.aload_n 1, 1) := by decide +kernel
theorem dL_law_742 : decode cL_law 742 = .ok (.aload_n 0, 1) := by decide +kernel
theorem dL_law_743 : decode cL_law 743 = .ok (.iload_n 3, 1) := by decide +kernel
theorem dL_law_744 : decode cL_law 744 = .ok (.iconst 1, 1) := by decide +kernel
theorem dL_law_745 : decode cL_law 745 = .ok (.iadd, 1) := by decide +kernel
theorem dL_law_746 : decode cL_law 746 = .ok (.iaload, 1) := by decide +kernel
theorem dL_law_747 : decode cL_law 747 = .ok (.invokevirtual 97, 3) := by decide +kernel
theorem dL_law_750 : decode cL_law 750 = .ok (.aload_n 2, 1) := by decide +kernel
theorem dL_law_751 : decode cL_law 751 = .ok (.aload_n 0, 1) := by decide +kernel
theorem dL_law_752 : decode cL_law 752 = .ok (.iload_n 3, 1) := by decide +kernel
theorem dL_law_753 : decode cL_law 753 = .ok (.iconst 1, 1) := by decide +kernel
theorem dL_law_754 : decode cL_law 754 = .ok (.iadd, 1) := by decide +kernel
theorem dL_law_755 : decode cL_law 755 = .ok (.iaload, 1) := by decide +kernel
theorem dL_law_756 : decode cL_law 756 = .ok (.invokevirtual 100, 3) := by decide +kernel
theorem dL_law_759 : decode cL_law 759 = .ok (.if_icmp .eq 345, 3) := by decide +kernel
theorem dL_law_762 : decode cL_law 762 = .ok (.iconst 0, 1) := by decide +kernel
theorem dL_law_763 : decode cL_law 763 = .ok (.ireturn, 1) := by decide +kernel
theorem dL_law_764 : decode cL_law 764 = .ok (.aload_n 1, 1) := by decide +kernel
theorem dL_law_765 : decode cL_law 765 = .ok (.aload_n 0, 1) := by decide +kernel
theorem dL_law_766 : decode cL_law 766 = .ok (.iload_n 3, 1) := by decide +kernel
theorem dL_law_767 : decode cL_law 767 = .ok (.iconst 1, 1) := by decide +kernel
theorem dL_law_768 : decode cL_law 768 = .ok (.iadd, 1) := by decide +kernel
theorem dL_law_769 : decode cL_law 769 = .ok (.iaload, 1) := by decide +kernel
theorem dL_law_770 : decode cL_law 770 = .ok (.aload_n 0, 1) := by decide +kernel
theorem dL_law_771 : decode cL_law 771 = .ok (.iload_n 3, 1) := by decide +kernel
theorem dL_law_772 : decode cL_law 772 = .ok (.iconst 2, 1) := by decide +kernel
theorem dL_law_773 : decode cL_law 773 = .ok (.iadd, 1) := by decide +kernel
theorem dL_law_774 : decode cL_law 774 = .ok (.iaload, 1) := by decide +kernel
theorem dL_law_775 : decode cL_law 775 = .ok (.invokevirtual 101, 3) := by decide +kernel
theorem dL_law_778 : decode cL_law 778 = .ok (.aload_n 2, 1) := by decide +kernel
theorem dL_law_779 : decode cL_law 779 = .ok (.aload_n 0, 1) := by decide +kernel
theorem dL_law_780 : decode cL_law 780 = .ok (.iload_n 3, 1) := by decide +kernel
theorem dL_law_781 : decode cL_law 781 = .ok (.iconst 1, 1) := by decide +kernel
theorem dL_law_782 : decode cL_law 782 = .ok (.iadd, 1) := by decide +kernel
theorem dL_law_783 : decode cL_law 783 = .ok (.iaload, 1) := by decide +kernel
theorem dL_law_784 : decode cL_law 784 = .ok (.aload_n 0, 1) := by decide +kernel
theorem dL_law_785 : decode cL_law 785 = .ok (.iload_n 3, 1) := by decide +kernel
theorem dL_law_786 : decode cL_law 786 = .ok (.iconst 2, 1) := by decide +kernel
theorem dL_law_787 : decode cL_law 787 = .ok (.iadd, 1) := by decide +kernel
theorem dL_law_788 : decode cL_law 788 = .ok (.iaload, 1) := by decide +kernel
theorem dL_law_789 : decode cL_law 789 = .ok (.invokevirtual 104, 3) := by decide +kernel
theorem dL_law_792 : decode cL_law 792 = .ok (.if_icmp .eq 312, 3) := by decide +kernel
theorem dL_law_795 : decode cL_law 795 = .ok (.iconst 0, 1) := by decide +kernel
theorem dL_law_796 : decode cL_law 796 = .ok (.ireturn, 1) := by decide +kernel
theorem dL_law_797 : decode cL_law 797 = .ok (.aload_n 1, 1) := by decide +kernel
theorem dL_law_798 : decode cL_law 798 = .ok (.aload_n 0, 1) := by decide +kernel
theorem dL_law_799 : decode cL_law 799 = .ok (.iload_n 3, 1) := by decide +kernel
theorem dL_law_800 : decode cL_law 800 = .ok (.iconst 1, 1) := by decide +kernel
theorem dL_law_801 : decode cL_law 801 = .ok (.iadd, 1) := by decide +kernel
theorem dL_law_802 : decode cL_law 802 = .ok (.iaload, 1) := by decide +kernel
theorem dL_law_803 : decode cL_law 803 = .ok (.aload_n 0, 1) := by decide +kernel
theorem dL_law_804 : decode cL_law 804 = .ok (.iload_n 3, 1) := by decide +kernel
theorem dL_law_805 : decode cL_law 805 = .ok (.iconst 2, 1) := by decide +kernel
theorem dL_law_806 : decode cL_law 806 = .ok (.iadd, 1) := by decide +kernel
theorem dL_law_807 : decode cL_law 807 = .ok (.iaload, 1) := by decide +kernel
theorem dL_law_808 : decode cL_law 808 = .ok (.aload_n 0, 1) := by decide +kernel
theorem dL_law_809 : decode cL_law 809 = .ok (.iload_n 3, 1) := by decide +kernel
theorem dL_law_810 : decode cL_law 810 = .ok (.iconst 3, 1) := by decide +kernel
theorem dL_law_811 : decode cL_law 811 = .ok (.iadd, 1) := by decide +kernel
theorem dL_law_812 : decode cL_law 812 = .ok (.iaload, 1) := by decide +kernel
theorem dL_law_813 : decode cL_law 813 = .ok (.invokevirtual 105, 3) := by decide +kernel
theorem dL_law_816 : decode cL_law 816 = .ok (.aload_n 2, 1) := by decide +kernel
theorem dL_law_817 : decode cL_law 817 = .ok (.aload_n 0, 1) := by decide +kernel
theorem dL_law_818 : decode cL_law 818 = .ok (.iload_n 3, 1) := by decide +kernel
theorem dL_law_819 : decode cL_law 819 = .ok (.iconst 1, 1) := by decide +kernel
theorem dL_law_820 : decode cL_law 820 = .ok (.iadd, 1) := by decide +kernel
theorem dL_law_821 : decode cL_law 821 = .ok (.iaload, 1) := by decide +kernel
theorem dL_law_822 : decode cL_law 822 = .ok (.aload_n 0, 1) := by decide +kernel
theorem dL_law_823 : decode cL_law 823 = .ok (.iload_n 3, 1) := by decide +kernel
theorem dL_law_824 : decode cL_law 824 = .ok (.iconst 2, 1) := by decide +kernel
theorem dL_law_825 : decode cL_law 825 = .ok (.iadd, 1) := by decide +kernel
theorem dL_law_826 : decode cL_law 826 = .ok (.iaload, 1) := by decide +kernel
theorem dL_law_827 : decode cL_law 827 = .ok (.aload_n 0, 1) := by decide +kernel
theorem dL_law_828 : decode cL_law 828 = .ok (.iload_n 3, 1) := by decide +kernel
theorem dL_law_829 : decode cL_law 829 = .ok (.iconst 3, 1) := by decide +kernel
theorem dL_law_830 : decode cL_law 830 = .ok (.iadd, 1) := by decide +kernel
theorem dL_law_831 : decode cL_law 831 = .ok (.iaload, 1) := by decide +kernel
theorem dL_law_832 : decode cL_law 832 = .ok (.invokevirtual 108, 3) := by decide +kernel
theorem dL_law_835 : decode cL_law 835 = .ok (.if_icmp .eq 269, 3) := by decide +kernel
theorem dL_law_838 : decode cL_law 838 = .ok (.iconst 0, 1) := by decide +kernel
theorem dL_law_839 : decode cL_law 839 = .ok (.ireturn, 1) := by decide +kernel
theorem dL_law_840 : decode cL_law 840 = .ok (.aload_n 1, 1) := by decide +kernel
theorem dL_law_841 : decode cL_law 841 = .ok (.aload_n 0, 1) := by decide +kernel
theorem dL_law_842 : decode cL_law 842 = .ok (.iload_n 3, 1) := by decide +kernel
theorem dL_law_843 : decode cL_law 843 = .ok (.iconst 1, 1) := by decide +kernel
theorem dL_law_844 : decode cL_law 844 = .ok (.iadd, 1) := by decide +kernel
theorem dL_law_845 : decode cL_law 845 = .ok (.iaload, 1) := by decide +kernel
theorem dL_law_846 : decode cL_law 846 = .ok (.aload_n 0, 1) := by decide +kernel
theorem dL_law_847 : decode cL_law 847 = .ok (.iload_n 3, 1) := by decide +kernel
theorem dL_law_848 : decode cL_law 848 = .ok (.iconst 2, 1) := by decide +kernel
theorem dL_law_849 : decode cL_law 849 = .ok (.iadd, 1) := by decide +kernel
theorem dL_law_850 : decode cL_law 850 = .ok (.iaload, 1) := by decide +kernel
theorem dL_law_851 : decode cL_law 851 = .ok (.ifCond .eq 7, 3) := by decide +kernel
theorem dL_law_854 : decode cL_law 854 = .ok (.iconst 1, 1) := by decide +kernel
theorem dL_law_855 : decode cL_law 855 = .ok (.goto 4, 3) := by decide +kernel
theorem dL_law_858 : decode cL_law 858 = .ok (.iconst 0, 1) := by decide +kernel
theorem dL_law_859 : decode cL_law 859 = .ok (.invokevirtual 109, 3) := by decide +kernel
theorem dL_law_862 : decode cL_law 862 = .ok (.aload_n 2, 1) := by decide +kernel
theorem dL_law_863 : decode cL_law 863 = .ok (.aload_n 0, 1) := by decide +kernel
theorem dL_law_864 : decode cL_law 864 = .ok (.iload_n 3, 1) := by decide +kernel
theorem dL_law_865 : decode cL_law 865 = .ok (.iconst 1, 1) := by decide +kernel
theorem dL_law_866 : decode cL_law 866 = .ok (.iadd, 1) := by decide +kernel
theorem dL_law_867 : decode cL_law 867 = .ok (.iaload, 1) := by decide +kernel
theorem dL_law_868 : decode cL_law 868 = .ok (.aload_n 0, 1) := by decide +kernel
theorem dL_law_869 : decode cL_law 869 = .ok (.iload_n 3, 1) := by decide +kernel
theorem dL_law_870 : decode cL_law 870 = .ok (.iconst 2, 1) := by decide +kernel
theorem dL_law_871 : decode cL_law 871 = .ok (.iadd, 1) := by decide +kernel
theorem dL_law_872 : decode cL_law 872 = .ok (.iaload, 1) := by decide +kernel
theorem dL_law_873 : decode cL_law 873 = .ok (.ifCond .eq 7, 3) := by decide +kernel
theorem dL_law_876 : decode cL_law 876 = .ok (.iconst 1, 1) := by decide +kernel
theorem dL_law_877 : decode cL_law 877 = .ok (.goto 4, 3) := by decide +kernel
theorem dL_law_880 : decode cL_law 880 = .ok (.iconst 0, 1) := by decide +kernel
theorem dL_law_881 : decode cL_law 881 = .ok (.invokevirtual 113, 3) := by decide +kernel
theorem dL_law_884 : decode cL_law 884 = .ok (.if_icmp .eq 220, 3) := by decide +kernel
theorem dL_law_887 : decode cL_law 887 = .ok (.iconst 0, 1) := by decide +kernel
theorem dL_law_888 : decode cL_law 888 = .ok (.ireturn, 1) := by decide +kernel
theorem dL_law_889 : decode cL_law 889 = .ok (.aload_n 1, 1) := by decide +kernel
theorem dL_law_890 : decode cL_law 890 = .ok (.aload_n 0, 1) := by decide +kernel
theorem dL_law_891 : decode cL_law 891 = .ok (.iload_n 3, 1) := by decide +kernel
theorem dL_law_892 : decode cL_law 892 = .ok (.iconst 1, 1) := by decide +kernel
theorem dL_law_893 : decode cL_law 893 = .ok (.iadd, 1) := by decide +kernel
theorem dL_law_894 : decode cL_law 894 = .ok (.iaload, 1) := by decide +kernel
theorem dL_law_895 : decode cL_law 895 = .ok (.invokevirtual 114, 3) := by decide +kernel
theorem dL_law_898 : decode cL_law 898 = .ok (.aload_n 2, 1) := by decide +kernel
theorem dL_law_899 : decode cL_law 899 = .ok (.aload_n 0, 1) := by decide +kernel
theorem dL_law_900 : decode cL_law 900 = .ok (.iload_n 3, 1) := by decide +kernel
theorem dL_law_901 : decode cL_law 901 = .ok (.iconst 1, 1) := by decide +kernel
theorem dL_law_902 : decode cL_law 902 = .ok (.iadd, 1) := by decide +kernel
theorem dL_law_903 : decode cL_law 903 = .ok (.iaload, 1) := by decide +kernel
theorem dL_law_904 : decode cL_law 904 = .ok (.invokevirtual 117, 3) := by decide +kernel
theorem dL_law_907 : decode cL_law 907 = .ok (.if_icmp .eq 197, 3) := by decide +kernel
theorem dL_law_910 : decode cL_law 910 = .ok (.iconst 0, 1) := by decide +kernel
theorem dL_law_911 : decode cL_law 911 = .ok (.ireturn, 1) := by decide +kernel
theorem dL_law_912 : decode cL_law 912 = .ok (.aload_n 1, 1) := by decide +kernel
theorem dL_law_913 : decode cL_law 913 = .ok (.aload_n 0, 1) := by decide +kernel
theorem dL_law_914 : decode cL_law 914 = .ok (.iload_n 3, 1) := by decide +kernel
theorem dL_law_915 : decode cL_law 915 = .ok (.iconst 1, 1) := by decide +kernel
theorem dL_law_916 : decode cL_law 916 = .ok (.iadd, 1) := by decide +kernel
theorem dL_law_917 : decode cL_law 917 = .ok (.iaload, 1) := by decide +kernel
theorem dL_law_918 : decode cL_law 918 = .ok (.aload_n 0, 1) := by decide +kernel
theorem dL_law_919 : decode cL_law 919 = .ok (.iload_n 3, 1) := by decide +kernel
theorem dL_law_920 : decode cL_law 920 = .ok (.iconst 2, 1) := by decide +kernel
theorem dL_law_921 : decode cL_law 921 = .ok (.iadd, 1) := by decide +kernel
theorem dL_law_922 : decode cL_law 922 = .ok (.iaload, 1) := by decide +kernel
theorem dL_law_923 : decode cL_law 923 = .ok (.invokevirtual 118, 3) := by decide +kernel
theorem dL_law_926 : decode cL_law 926 = .ok (.aload_n 2, 1) := by decide +kernel
theorem dL_law_927 : decode cL_law 927 = .ok (.aload_n 0, 1) := by decide +kernel
theorem dL_law_928 : decode cL_law 928 = .ok (.iload_n 3, 1) := by decide +kernel
theorem dL_law_929 : decode cL_law 929 = .ok (.iconst 1, 1) := by decide +kernel
theorem dL_law_930 : decode cL_law 930 = .ok (.iadd, 1) := by decide +kernel
theorem dL_law_931 : decode cL_law 931 = .ok (.iaload, 1) := by decide +kernel
theorem dL_law_932 : decode cL_law 932 = .ok (.aload_n 0, 1) := by decide +kernel
theorem dL_law_933 : decode cL_law 933 = .ok (.iload_n 3, 1) := by decide +kernel
theorem dL_law_934 : decode cL_law 934 = .ok (.iconst 2, 1) := by decide +kernel
theorem dL_law_935 : decode cL_law 935 = .ok (.iadd, 1) := by decide +kernel
theorem dL_law_936 : decode cL_law 936 = .ok (.iaload, 1) := by decide +kernel
theorem dL_law_937 : decode cL_law 937 = .ok (.invokevirtual 121, 3) := by decide +kernel
theorem dL_law_940 : decode cL_law 940 = .ok (.if_icmp .eq 164, 3) := by decide +kernel
theorem dL_law_943 : decode cL_law 943 = .ok (.iconst 0, 1) := by decide +kernel
theorem dL_law_944 : decode cL_law 944 = .ok (.ireturn, 1) := by decide +kernel
theorem dL_law_945 : decode cL_law 945 = .ok (.aload_n 1, 1) := by decide +kernel
theorem dL_law_946 : decode cL_law 946 = .ok (.aload_n 0, 1) := by decide +kernel
theorem dL_law_947 : decode cL_law 947 = .ok (.iload_n 3, 1) := by decide +kernel
theorem dL_law_948 : decode cL_law 948 = .ok (.iconst 1, 1) := by decide +kernel
theorem dL_law_949 : decode cL_law 949 = .ok (.iadd, 1) := by decide +kernel
theorem dL_law_950 : decode cL_law 950 = .ok (.iaload, 1) := by decide +kernel
theorem dL_law_951 : decode cL_law 951 = .ok (.invokevirtual 122, 3) := by decide +kernel
theorem dL_law_954 : decode cL_law 954 = .ok (.aload_n 2, 1) := by decide +kernel
theorem dL_law_955 : decode cL_law 955 = .ok (.aload_n 0, 1) := by decide +kernel
theorem dL_law_956 : decode cL_law 956 = .ok (.iload_n 3, 1) := by decide +kernel
theorem dL_law_957 : decode cL_law 957 = .ok (.iconst 1, 1) := by decide +kernel
theorem dL_law_958 : decode cL_law 958 = .ok (.iadd, 1) := by decide +kernel
theorem dL_law_959 : decode cL_law 959 = .ok (.iaload, 1) := by decide +kernel
theorem dL_law_960 : decode cL_law 960 = .ok (.invokevirtual 125, 3) := by decide +kernel
theorem dL_law_963 : decode cL_law 963 = .ok (.if_icmp .eq 141, 3) := by decide +kernel
theorem dL_law_966 : decode cL_law 966 = .ok (.iconst 0, 1) := by decide +kernel
theorem dL_law_967 : decode cL_law 967 = .ok (.ireturn, 1) := by decide +kernel
theorem dL_law_968 : decode cL_law 968 = .ok (.aload_n 1, 1) := by decide +kernel
theorem dL_law_969 : decode cL_law 969 = .ok (.aload_n 0, 1) := by decide +kernel
theorem dL_law_970 : decode cL_law 970 = .ok (.iload_n 3, 1) := by decide +kernel
theorem dL_law_971 : decode cL_law 971 = .ok (.iconst 1, 1) := by decide +kernel
theorem dL_law_972 : decode cL_law 972 = .ok (.iadd, 1) := by decide +kernel
theorem dL_law_973 : decode cL_law 973 = .ok (.iaload, 1) := by decide +kernel
theorem dL_law_974 : decode cL_law 974 = .ok (.aload_n 0, 1) := by decide +kernel
theorem dL_law_975 : decode cL_law 975 = .ok (.iload_n 3, 1) := by decide +kernel
theorem dL_law_976 : decode cL_law 976 = .ok (.iconst 2, 1) := by decide +kernel
theorem dL_law_977 : decode cL_law 977 = .ok (.iadd, 1) := by decide +kernel
theorem dL_law_978 : decode cL_law 978 = .ok (.iaload, 1) := by decide +kernel
theorem dL_law_979 : decode cL_law 979 = .ok (.invokevirtual 126, 3) := by decide +kernel
theorem dL_law_982 : decode cL_law 982 = .ok (.aload_n 2, 1) := by decide +kernel
theorem dL_law_983 : decode cL_law 983 = .ok (.aload_n 0, 1) := by decide +kernel
theorem dL_law_984 : decode cL_law 984 = .ok (.iload_n 3, 1) := by decide +kernel
theorem dL_law_985 : decode cL_law 985 = .ok (.iconst 1, 1) := by decide +kernel
theorem dL_law_986 : decode cL_law 986 = .ok (.iadd, 1) := by decide +kernel
theorem dL_law_987 : decode cL_law 987 = .ok (.iaload, 1) := by decide +kernel
theorem dL_law_988 : decode cL_law 988 = .ok (.aload_n 0, 1) := by decide +kernel
theorem dL_law_989 : decode cL_law 989 = .ok (.iload_n 3, 1) := by decide +kernel
theorem dL_law_990 : decode cL_law 990 = .ok (.iconst 2, 1) := by decide +kernel
theorem dL_law_991 : decode cL_law 991 = .ok (.iadd, 1) := by decide +kernel
theorem dL_law_992 : decode cL_law 992 = .ok (.iaload, 1) := by decide +kernel
theorem dL_law_993 : decode cL_law 993 = .ok (.invokevirtual 129, 3) := by decide +kernel
theorem dL_law_996 : decode cL_law 996 = .ok (.if_icmp .eq 108, 3) := by decide +kernel
theorem dL_law_999 : decode cL_law 999 = .ok (.iconst 0, 1) := by decide +kernel
theorem dL_law_1000 : decode cL_law 1000 = .ok (.ireturn, 1) := by decide +kernel
theorem dL_law_1001 : decode cL_law 1001 = .ok (.aload_n 1, 1) := by decide +kernel
theorem dL_law_1002 : decode cL_law 1002 = .ok (.aload_n 0, 1) := by decide +kernel
theorem dL_law_1003 : decode cL_law 1003 = .ok (.iload_n 3, 1) := by decide +kernel
theorem dL_law_1004 : decode cL_law 1004 = .ok (.iconst 1, 1) := by decide +kernel
theorem dL_law_1005 : decode cL_law 1005 = .ok (.iadd, 1) := by decide +kernel
theorem dL_law_1006 : decode cL_law 1006 = .ok (.iaload, 1) := by decide +kernel
theorem dL_law_1007 : decode cL_law 1007 = .ok (.aload_n 0, 1) := by decide +kernel
theorem dL_law_1008 : decode cL_law 1008 = .ok (.iload_n 3, 1) := by decide +kernel
theorem dL_law_1009 : decode cL_law 1009 = .ok (.iconst 2, 1) := by decide +kernel
theorem dL_law_1010 : decode cL_law 1010 = .ok (.iadd, 1) := by decide +kernel
theorem dL_law_1011 : decode cL_law 1011 = .ok (.iaload, 1) := by decide +kernel
theorem dL_law_1012 : decode cL_law 1012 = .ok (.aload_n 0, 1) := by decide +kernel
theorem dL_law_1013 : decode cL_law 1013 = .ok (.iload_n 3, 1) := by decide +kernel
theorem dL_law_1014 : decode cL_law 1014 = .ok (.iconst 3, 1) := by decide +kernel
theorem dL_law_1015 : decode cL_law 1015 = .ok (.iadd, 1) := by decide +kernel
theorem dL_law_1016 : decode cL_law 1016 = .ok (.iaload, 1) := by decide +kernel
theorem dL_law_1017 : decode cL_law 1017 = .ok (.aload_n 0, 1) := by decide +kernel
theorem dL_law_1018 : decode cL_law 1018 = .ok (.iload_n 3, 1) := by decide +kernel
theorem dL_law_1019 : decode cL_law 1019 = .ok (.iconst 4, 1) := by decide +kernel
theorem dL_law_1020 : decode cL_law 1020 = .ok (.iadd, 1) := by decide +kernel
theorem dL_law_1021 : decode cL_law 1021 = .ok (.iaload, 1) := by decide +kernel
theorem dL_law_1022 : decode cL_law 1022 = .ok (.invokevirtual 130, 3) := by decide +kernel
theorem dL_law_1025 : decode cL_law 1025 = .ok (.aload_n 2, 1) := by decide +kernel
theorem dL_law_1026 : decode cL_law 1026 = .ok (.aload_n 0, 1) := by decide +kernel
theorem dL_law_1027 : decode cL_law 1027 = .ok (.iload_n 3, 1) := by decide +kernel
theorem dL_law_1028 : decode cL_law 1028 = .ok (.iconst 1, 1) := by decide +kernel
theorem dL_law_1029 : decode cL_law 1029 = .ok (.iadd, 1) := by decide +kernel
theorem dL_law_1030 : decode cL_law 1030 = .ok (.iaload, 1) := by decide +kernel
theorem dL_law_1031 : decode cL_law 1031 = .ok (.aload_n 0, 1) := by decide +kernel
theorem dL_law_1032 : decode cL_law 1032 = .ok (.iload_n 3, 1) := by decide +kernel
theorem dL_law_1033 : decode cL_law 1033 = .ok (.iconst 2, 1) := by decide +kernel
theorem dL_law_1034 : decode cL_law 1034 = .ok (.iadd, 1) := by decide +kernel
theorem dL_law_1035 : decode cL_law 1035 = .ok (.iaload, 1) := by decide +kernel
theorem dL_law_1036 : decode cL_law 1036 = .ok (.aload_n 0, 1) := by decide +kernel
theorem dL_law_1037 : decode cL_law 1037 = .ok (.iload_n 3, 1) := by decide +kernel
theorem dL_law_1038 : decode cL_law 1038 = .ok (.iconst 3, 1) := by decide +kernel
theorem dL_law_1039 : decode cL_law 1039 = .ok (.iadd, 1) := by decide +kernel
theorem dL_law_1040 : decode cL_law 1040 = .ok (.iaload, 1) := by decide +kernel
theorem dL_law_1041 : decode cL_law 1041 = .ok (.aload_n 0, 1) := by decide +kernel
theorem dL_law_1042 : decode cL_law 1042 = .ok (.iload_n 3, 1) := by decide +kernel
theorem dL_law_1043 : decode cL_law 1043 = .ok (.iconst 4, 1) := by decide +kernel
theorem dL_law_1044 : decode cL_law 1044 = .ok (.iadd, 1) := by decide +kernel
theorem dL_law_1045 : decode cL_law 1045 = .ok (.iaload, 1) := by decide +kernel
theorem dL_law_1046 : decode cL_law 1046 = .ok (.invokevirtual 134, 3) := by decide +kernel
theorem dL_law_1049 : decode cL_law 1049 = .ok (.lcmp, 1) := by decide +kernel
theorem dL_law_1050 : decode cL_law 1050 = .ok (.ifCond .eq 54, 3) := by decide +kernel
theorem dL_law_1053 : decode cL_law 1053 = .ok (.iconst 0, 1) := by decide +kernel
theorem dL_law_1054 : decode cL_law 1054 = .ok (.ireturn, 1) := by decide +kernel
theorem dL_law_1055 : decode cL_law 1055 = .ok (.aload_n 1, 1) := by decide +kernel
theorem dL_law_1056 : decode cL_law 1056 = .ok (.invokevirtual 135, 3) := by decide +kernel
theorem dL_law_1059 : decode cL_law 1059 = .ok (.aload_n 2, 1) := by decide +kernel
theorem dL_law_1060 : decode cL_law 1060 = .ok (.invokevirtual 138, 3) := by decide +kernel
theorem dL_law_1063 : decode cL_law 1063 = .ok (.if_icmp .eq 41, 3) := by decide +kernel
theorem dL_law_1066 : decode cL_law 1066 = .ok (.iconst 0, 1) := by decide +kernel
theorem dL_law_1067 : decode cL_law 1067 = .ok (.ireturn, 1) := by decide +kernel
theorem dL_law_1068 : decode cL_law 1068 = .ok (.aload_n 1, 1) := by decide +kernel
theorem dL_law_1069 : decode cL_law 1069 = .ok (.invokevirtual 139, 3) := by decide +kernel
theorem dL_law_1072 : decode cL_law 1072 = .ok (.aload_n 2, 1) := by decide +kernel
theorem dL_law_1073 : decode cL_law 1073 = .ok (.invokevirtual 142, 3) := by decide +kernel
theorem dL_law_1076 : decode cL_law 1076 = .ok (.if_icmp .eq 28, 3) := by decide +kernel
theorem dL_law_1079 : decode cL_law 1079 = .ok (.iconst 0, 1) := by decide +kernel
theorem dL_law_1080 : decode cL_law 1080 = .ok (.ireturn, 1) := by decide +kernel
theorem dL_law_1081 : decode cL_law 1081 = .ok (.aload_n 1, 1) := by decide +kernel
theorem dL_law_1082 : decode cL_law 1082 = .ok (.aload_n 0, 1) := by decide +kernel
theorem dL_law_1083 : decode cL_law 1083 = .ok (.iload_n 3, 1) := by decide +kernel
theorem dL_law_1084 : decode cL_law 1084 = .ok (.iconst 1, 1) := by decide +kernel
theorem dL_law_1085 : decode cL_law 1085 = .ok (.iadd, 1) := by decide +kernel
theorem dL_law_1086 : decode cL_law 1086 = .ok (.iaload, 1) := by decide +kernel
theorem dL_law_1087 : decode cL_law 1087 = .ok (.invokevirtual 143, 3) := by decide +kernel
theorem dL_law_1090 : decode cL_law 1090 = .ok (.aload_n 2, 1) := by decide +kernel
theorem dL_law_1091 : decode cL_law 1091 = .ok (.aload_n 0, 1) := by decide +kernel
theorem dL_law_1092 : decode cL_law 1092 = .ok (.iload_n 3, 1) := by decide +kernel
theorem dL_law_1093 : decode cL_law 1093 = .ok (.iconst 1, 1) := by decide +kernel
theorem dL_law_1094 : decode cL_law 1094 = .ok (.iadd, 1) := by decide +kernel
theorem dL_law_1095 : decode cL_law 1095 = .ok (.iaload, 1) := by decide +kernel
theorem dL_law_1096 : decode cL_law 1096 = .ok (.invokevirtual 146, 3) := by decide +kernel
theorem dL_law_1099 : decode cL_law 1099 = .ok (.if_icmp .eq 5, 3) := by decide +kernel
theorem dL_law_1102 : decode cL_law 1102 = .ok (.iconst 0, 1) := by decide +kernel
theorem dL_law_1103 : decode cL_law 1103 = .ok (.ireturn, 1) := by decide +kernel
theorem dL_law_1104 : decode cL_law 1104 = .ok (.iinc 3 5, 3) := by decide +kernel
theorem dL_law_1107 : decode cL_law 1107 = .ok (.goto (-1089), 3) := by decide +kernel
theorem dL_law_1110 : decode cL_law 1110 = .ok (.iconst 1, 1) := by decide +kernel
theorem dL_law_1111 : decode cL_law 1111 = .ok (.ireturn, 1) := by decide +kernel
end
section
/-! THE WORLD: what our cells hold, by their numbers. A cell q of ours lies at the address base + q. -/
abbrev Wd : Type := (Nat → Nat → Int32) × (Nat → Nat → Int64) × (Nat → Nat → Nat) × Nat
abbrev M (R : Type) : Type := Wd → Option (R × Wd)
def gi (w : Wd) (q k : Nat) : Int32 := w.1 q k
def gl (w : Wd) (q k : Nat) : Int64 := w.2.1 q k
def gr (w : Wd) (q k : Nat) : Nat := w.2.2.1 q k
def gn (w : Wd) : Nat := w.2.2.2
def up2 {α : Type} (f : Nat → Nat → α) (q k : Nat) (v : α) : Nat → Nat → α := fun a b => if a = q ∧ b = k then v else f a b
def si (w : Wd) (q k : Nat) (v : Int32) : Wd := (up2 w.1 q k v, w.2)
def sl (w : Wd) (q k : Nat) (v : Int64) : Wd := (w.1, up2 w.2.1 q k v, w.2.2)
def sr (w : Wd) (q k v : Nat) : Wd := (w.1, w.2.1, up2 w.2.2.1 q k v, w.2.2.2)
/-- n ints of the row a from place p on to the row b from place o on -/
def cpi (w : Wd) (a p b o n : Nat) : Wd := (fun x y => if x = b ∧ o ≤ y ∧ y < o + n then w.1 a (p + (y - o)) else w.1 x y, w.2)
/-- c new cells, all nought -/
def aw (w : Wd) (c : Nat) : Wd := (fun x y => if gn w ≤ x then 0 else w.1 x y, fun x y => if gn w ≤ x then 0 else w.2.1 x y, fun x y => if gn w ≤ x then 0 else w.2.2.1 x y, gn w + c)
/-- the kind of each cell (a class's number, or 10 bytes, 11 ints, 12 longs, 13 booleans, 14 rows of ints, 15 rows of longs), how many places -/
def SHL : List (Nat × Nat) := [(8, 13), (4, 4), (10, 300), (11, 4), (6, 8), (11, 16), (11, 16), (11, 16), (11, 64), (11, 5), (11, 289), (11, 289), (6, 8), (11, 16), (11, 16), (11, 16), (11, 64), (11, 5), (11, 289), (11, 289), (0, 6), (14, 6), (11, 8), (11, 8), (11, 8), (11, 8), (11, 8), (11, 8), (11, 6), (11, 84), (0, 6), (14, 6), (11, 8), (11, 8), (11, 8), (11, 8), (11, 8), (11, 8), (11, 6), (11, 84), (0, 6), (14, 6), (11, 8), (11, 8), (11, 8), (11, 8), (11, 8), (11, 8), (11, 6), (11, 84), (1, 3), (11, 84), (13, 84), (3, 8), (14, 8), (11, 128), (11, 128), (11, 128), (11, 128), (11, 128), (11, 128), (11, 128), (11, 128), (15, 8), (12, 128), (12, 128), (12, 128), (12, 128), (12, 128), (12, 128), (12, 128), (12, 128), (11, 8), (7, 12), (11, 8), (14, 8), (11, 16), (11, 16), (11, 16), (11, 16), (11, 16), (11, 16), (11, 16), (11, 16), (14, 8), (11, 16), (11, 16), (11, 16), (11, 16), (11, 16), (11, 16), (11, 16), (11, 16), (14, 8), (11, 16), (11, 16), (11, 16), (11, 16), (11, 16), (11, 16), (11, 16), (11, 16), (14, 8), (11, 16), (11, 16), (11, 16), (11, 16), (11, 16), (11, 16), (11, 16), (11, 16), (14, 8), (11, 16), (11, 16), (11, 16), (11, 16), (11, 16), (11, 16), (11, 16), (11, 16), (11, 8), (14, 8), (11, 3), (11, 3), (11, 3), (11, 3), (11, 3), (11, 3), (11, 3), (11, 3), (14, 8), (11, 3), (11, 3), (11, 3), (11, 3), (11, 3), (11, 3), (11, 3), (11, 3), (14, 8), (11, 3), (11, 3), (11, 3), (11, 3), (11, 3), (11, 3), (11, 3), (11, 3), (11, 3), (5, 5), (11, 20), (11, 20), (11, 20), (11, 20), (2, 5), (13, 16), (11, 16), (11, 16), (11, 16), (11, 8), (11, 32), (9, 32), (11, 300), (11, 2), (11, 96), (11, 128), (11, 10), (11, 18), (11, 144), (11, 3), (11, 3), (11, 3), (11, 252), (11, 60), (11, 64), (11, 4), (11, 168), (11, 168), (11, 168), (11, 8), (11, 168), (11, 8), (11, 168), (11, 2304), (12, 2304), (12, 2304), (11, 20)]
def SH (q : Nat) : Nat × Nat := SHL.getD q (99, 0)
def FKL : List (List Nat) := [[2, 2, 2, 0, 0, 0], [0, 2, 2], [0, 2, 2, 2, 2], [2, 0, 1, 0, 0, 2, 2, 2], [2, 0, 0, 2], [0, 2, 2, 2, 2], [0, 2, 2, 2, 2, 2, 2, 2], [2, 2, 2, 2, 2, 2, 2, 2, 2, 2, 2, 2], [2, 2, 2, 2, 2, 2, 0, 2, 2, 2, 2, 2, 2], [0, 2, 2, 2, 2, 2, 2, 2, 2, 2, 2, 2, 0, 0, 2, 0, 2, 0, 2, 0, 2, 2, 2, 0, 2, 2, 2, 2, 2, 2, 2, 2]]
def fkinds (c : Nat) : List Nat := FKL.getD c []
/-- what final references hold -/
def CR (q : Nat) : List (Nat × Nat) := match q with
  | 0 => [(0, 1), (3, 20), (4, 30), (5, 40), (7, 50), (8, 53), (9, 149), (10, 154), (11, 159), (12, 160)]
  | 1 => [(0, 2), (3, 3)]
  | 4 => [(1, 5), (2, 6), (3, 7), (4, 8), (5, 9), (6, 10), (7, 11)]
  | 12 => [(1, 13), (2, 14), (3, 15), (4, 16), (5, 17), (6, 18), (7, 19)]
  | 20 => [(0, 21), (1, 28), (2, 29)]
  | 30 => [(0, 31), (1, 38), (2, 39)]
  | 40 => [(0, 41), (1, 48), (2, 49)]
  | 50 => [(1, 51), (2, 52)]
  | 53 => [(0, 73), (5, 54), (6, 63), (7, 72)]
  | 73 => [(1, 74), (2, 75), (3, 84), (4, 93), (5, 102), (6, 111), (7, 120), (8, 121), (9, 130), (10, 139), (11, 148)]
  | 149 => [(1, 150), (2, 151), (3, 152), (4, 153)]
  | 154 => [(1, 155), (2, 156), (3, 157), (4, 158)]
  | 161 => [(1, 162), (2, 163), (3, 164), (4, 165), (5, 166), (6, 167), (7, 168), (8, 169), (9, 170), (10, 171), (11, 172), (14, 173), (16, 174), (18, 175), (20, 176), (21, 177), (22, 178), (24, 179), (25, 180), (26, 181), (27, 182), (28, 183), (29, 184), (30, 185), (31, 186)]
  | _ => []
def mx (q : Nat) : Nat := match q with
  | 0 => 160
  | 1 => 3
  | 4 => 11
  | 12 => 19
  | 20 => 29
  | 30 => 39
  | 40 => 49
  | 50 => 52
  | 53 => 148
  | 73 => 148
  | 149 => 153
  | 154 => 158
  | 161 => 186
  | _ => 186
def Whl (w : Wd) (q : Nat) : Prop := q < gn w ∧ mx q < gn w ∧ ∀ p ∈ CR q, gr w q p.1 = p.2 + 1
def va_rn (ad : Nat → Nat) (r : Nat) : Value := if r = 0 then .null else .ref (ad (r - 1))
def fv (ad : Nat → Nat) (w : Wd) (q k t : Nat) : Value := if t = 0 then .int (gi w q k) else if t = 1 then .long (gl w q k) else va_rn ad (gr w q k)
def fvl (ad : Nat → Nat) (w : Wd) (q : Nat) : Nat → List Nat → List Value
  | _, [] => []
  | k, t :: ts => fv ad w q k t :: fvl ad w q (k + 1) ts
def cellOf (ad : Nat → Nat) (cy : Nat → ClassId) (w : Wd) (q : Nat) : va_E :=
  if (SH q).1 < 10 then .inr ((SH q).1, fvl ad w q 0 (fkinds (SH q).1))
  else if (SH q).1 = 12 then .inl (cy 12, (SH q).2, .inr (.inl (gl w q)))
  else if (SH q).1 < 14 then .inl (cy (SH q).1, (SH q).2, .inl (gi w q))
  else .inl (cy (SH q).1, (SH q).2, .inr (.inr (.inr (.inr (fun i => if i < (SH q).2 then some (ad (q + 1 + i)) else none)))))
abbrev Ev : Type := va_G × (Nat → Nat) × (Nat → ClassId) × Nat
def Rel (E : Ev) (G : Nat → Prop) (w : Wd) (H : Heap) : Prop :=
  H.size = E.2.2.2 + gn w ∧ (∀ k, k < gn w → va_at E.1 vwCl (E.2.2.2 + k, cellOf E.2.1 E.2.2.1 w k) H) ∧ ∀ q, G q → Whl w q
abbrev tysOf (cy : Nat → ClassId) : List (ClassId × FieldType) := [(cy 10, .byte), (cy 11, .int), (cy 12, .long), (cy 13, .boolean), (cy 14, .array .int), (cy 15, .array .long)]
def stN (j : Nat) : String := if j = 0 then "ROW" else if j = 1 then "BRAID" else "THREES"
def stV (j : Nat) : List Int32 := if j = 0 then [0, 1, 2, 3, 4, 5, 6, 7] else if j = 1 then [0, 1, 1, 0, 0, 1] else [0, 1, 1, 0, 0, 1, 2, 2, 1, 0, 0, 1, 2]
def stL (j : Nat) : Nat := (stV j).length
def stG (j i : Nat) : Int32 := (stV j).getD i 0
def NW : List Cond := [.methodLinkNest RX8 11 yX4_init "SaidWoven", .methodLinkNest RX8 28 yX0_init "SaidWoven", .methodLinkNest RX8 41 yX1_init "SaidWoven", .methodLinkNest RX8 57 yX5_init "SaidWoven", .methodLinkNest RX8 64 yX2_init "SaidWoven", .methodLinkNest RX2 29 yX8_isBelow "SaidWoven"]
def KS (E : Ev) (U : State) : Prop :=
  va_K E.1 vwCl (tysOf E.2.2.1) U ∧ (∀ k, k < 1000 → E.2.1 k = E.2.2.2 + k) ∧
  (∀ j, j < 3 → va_Z "SaidWoven$Course" (stN j) "[I" (.ref (E.2.1 (1000 + j))) (fun q => E.2.2.2 ≤ q) U U.heap ∧ va_T .int (E.2.1 (1000 + j)) (stL j) (fun i => .int (stG j i)) (fun q => E.2.2.2 ≤ q) U U.heap) ∧
  ∀ w ∈ NW, va_Nw w U

abbrev Cx : Type := (Program × Launch × Env × Room) × (State × MethodId × Array Value × List Frame) × (Method × Code) × Ev × ((Nat → Prop) × Nat × Nat × Nat)
abbrev cxP (X : Cx) : Program := X.1.1
abbrev cxL (X : Cx) : Launch := X.1.2.1
abbrev cxE (X : Cx) : Env := X.1.2.2.1
abbrev cxR (X : Cx) : Room := X.1.2.2.2
abbrev cxS (X : Cx) : State := X.2.1.1
abbrev cxM (X : Cx) : MethodId := X.2.1.2.1
abbrev cxA (X : Cx) : Array Value := X.2.1.2.2.1
abbrev cxB (X : Cx) : List Frame := X.2.1.2.2.2
abbrev cxMe (X : Cx) : Method := X.2.2.1.1
abbrev cxC (X : Cx) : Code := X.2.2.1.2
abbrev cxV (X : Cx) : Ev := X.2.2.2.1
abbrev cxAd (X : Cx) : Nat → Nat := X.2.2.2.1.2.1
abbrev cxBs (X : Cx) : Nat := X.2.2.2.1.2.2.2
abbrev cxG (X : Cx) : Nat → Prop := X.2.2.2.2.1
abbrev cxN (X : Cx) : Nat := X.2.2.2.2.2.1
abbrev cxMc (X : Cx) : Nat := X.2.2.2.2.2.2.1
abbrev cxMs (X : Cx) : Nat := X.2.2.2.2.2.2.2
def Good (X : Cx) (own : String) (cc : ByteArray) (ret : Option FieldType) : Prop :=
  (cxP X).tables.exec = Jvm.exec ∧ (cxC X).code = cc ∧ (cxC X).maxLocals = cxN X ∧ (cxS X).vm.findClass own = some (cxM X).cls ∧ (∀ w ∈ wsL_law, w.before (cxA X) (cxS X) = true) ∧ (cxMe X).sig.returnType = ret ∧ (cxMe X).locks = false ∧ KS (cxV X) (cxS X)
def Qr (E : Ev) (G : Nat → Prop) (r : Option Value) (w : Wd) : Array Value → State → Outcome → State → Prop := fun _ st o t => o = .returned r ∧ Rel E G w t.heap ∧ va_F (fun q => E.2.2.2 ≤ q) st t
/-- running on from here, the method does what k says -/
def Tr (X : Cx) {R : Type} (enc : R → Option Value) (cu su pc : Nat) (lv : List (Nat × Value)) (st : List Value) (k : M R) : Prop :=
  ∀ (H : Heap) (locs : List Loc) (ls : Array Slot) (w : Wd) (r : R) (w' : Wd), lv_has ls (cxN X) lv → Rel (cxV X) (cxG X) w H → va_S (fun q => cxBs X ≤ q) (cxS X).heap H locs → k w = some (r, w') →
    W (cxP X) (cxL X) (cxE X) (cxR X) (cxS X) (cxM X) (cxA X) (cxB X) (cxMe X) (cxC X) H locs cu su (MQ (cxB X) (Qr (cxV X) (cxG X) (enc r) w') (cxA X) (cxS X) (cxMc X) (cxMs X) (fun q => cxBs X ≤ q)) (F0 (cxM X) pc ls st)
/-- a method's contract: what f says, the method does -/
def Ok (l : Launch) (E : Ev) (G : Nat → Prop) (y : MethodName) (cc : ByteArray) (maxL : Nat) (ret : Option FieldType) (rm : Room) {R : Type} (enc : R → Option Value) (av : List Value) (f : M R) : Prop :=
  ∀ (w : Wd) (r : R) (w' : Wd), f w = some (r, w') → Met l y (Cond.code y cc maxL ret :: wsL_law) rm (va_Pc av (fun U => Rel E G w U.heap ∧ KS E U)) (Qr E G (enc r) w') rm.cells rm.slots (fun q => E.2.2.2 ≤ q)
-- the words of the programs: reads, writes, guards, calls, loops
def rI {R : Type} (q k : Nat) (K : Int32 → M R) : M R := fun w => K (gi w q k) w
def rL {R : Type} (q k : Nat) (K : Int64 → M R) : M R := fun w => K (gl w q k) w
def wI {R : Type} (q k : Nat) (v : Int32) (K : M R) : M R := fun w => K (si w q k v)
def wL {R : Type} (q k : Nat) (v : Int64) (K : M R) : M R := fun w => K (sl w q k v)
def wR {R : Type} (q k t : Nat) (K : M R) : M R := fun w => K (sr w q k (t + 1))
abbrev isT (t : Nat) : Prop := t = 4 ∨ t = 12
abbrev isB (b : Nat) : Prop := b = 20 ∨ b = 30 ∨ b = 40
abbrev isP (p : Nat) : Prop := p = 1000 ∨ p = 1001 ∨ p = 1002
/-- a reference to a Tongue is read -/
def rT {R : Type} (q k : Nat) (K : Nat → M R) : M R := fun w => if gr w q k = 5 ∨ gr w q k = 13 then K (gr w q k - 1) w else none
def gd {R : Type} (P : Prop) [Decidable P] (K : M R) : M R := fun w => if P then K w else none
def rt {R : Type} (r : R) : M R := fun w => some (r, w)
def bnd {A R : Type} (f : M A) (K : A → M R) : M R := fun w => match f w with
  | some (a, w') => K a w'
  | none => none
def nm {A R : Type} (e : A) (K : A → M R) : M R := K e
def cp {R : Type} (a p b o n : Nat) (K : M R) : M R := fun w => K (cpi w a p b o n)
def al {R : Type} (n c : Nat) (K : M R) : M R := fun w => if gn w = n then K (aw w c) else none
/-- an index that is in range -/
abbrev inb (i : Int32) (n : Nat) : Prop := ¬ (i < 0 ∨ n ≤ i.toNatClampNeg)
def aI {R : Type} (q n : Nat) (i : Int32) (K : Int32 → M R) : M R := gd (inb i n) (rI q i.toNatClampNeg K)
def aL {R : Type} (q n : Nat) (i : Int32) (K : Int64 → M R) : M R := gd (inb i n) (rL q i.toNatClampNeg K)
def sI {R : Type} (q n : Nat) (i v : Int32) (K : M R) : M R := gd (inb i n) (wI q i.toNatClampNeg v K)
def sL {R : Type} (q n : Nat) (i : Int32) (v : Int64) (K : M R) : M R := gd (inb i n) (wL q i.toNatClampNeg v K)
def FU : Nat := 1000000
def fix1 {A R : Type} : Nat → ((A → M R) → A → M R) → A → M R
  | 0, _ => fun _ _ => none
  | n + 1, F => F (fix1 n F)
def fix2 {A B R : Type} : Nat → ((A → B → M R) → A → B → M R) → A → B → M R
  | 0, _ => fun _ _ _ => none
  | n + 1, F => F (fix2 n F)
def fix3 {A B C R : Type} : Nat → ((A → B → C → M R) → A → B → C → M R) → A → B → C → M R
  | 0, _ => fun _ _ _ _ => none
  | n + 1, F => F (fix3 n F)
def fix4 {A B C D R : Type} : Nat → ((A → B → C → D → M R) → A → B → C → D → M R) → A → B → C → D → M R
  | 0, _ => fun _ _ _ _ _ => none
  | n + 1, F => F (fix4 n F)
def fix5 {A B C D E R : Type} : Nat → ((A → B → C → D → E → M R) → A → B → C → D → E → M R) → A → B → C → D → E → M R
  | 0, _ => fun _ _ _ _ _ _ => none
  | n + 1, F => F (fix5 n F)
def fix6 {A B C D E G R : Type} : Nat → ((A → B → C → D → E → G → M R) → A → B → C → D → E → G → M R) → A → B → C → D → E → G → M R
  | 0, _ => fun _ _ _ _ _ _ _ => none
  | n + 1, F => F (fix6 n F)
def fix0 {R : Type} : Nat → (M R → M R) → M R
  | 0, _ => fun _ => none
  | n + 1, F => F (fix0 n F)
abbrev eI (v : Int32) : Option Value := some (.int v)
abbrev eL (v : Int64) : Option Value := some (.long v)
abbrev eU (_ : Unit) : Option Value := none
abbrev eR (ad : Nat → Nat) (q : Nat) : Option Value := some (.ref (ad q))
def Gall : Nat → Prop := fun _ => True
end
section
/-! THE RULES: one for each kind of instruction, from the machine's rows to Tr -/
section RLS
variable {X : Cx} {R : Type} {enc : R → Option Value} {cu su pc : Nat} {lv lv' : List (Nat × Value)} {st : List Value} {k : M R} {own : String} {cc : ByteArray} {ret : Option FieldType}
theorem tr_iconst {n : Int} (v : Int32) (hX : Good X own cc ret) (hd : decode cc pc = .ok (.iconst n, 1)) (hv : Int32.ofInt n = v) (h : Tr X enc cu su (pc + 1) lv (.int v :: st) k) : Tr X enc cu su pc lv st k := fun H locs ls w r w' hl hR hS hk => lv_iconst hX.1 hX.2.1 hd hv (h H locs ls w r w' hl hR hS hk)
theorem tr_bipush {n : Int} (v : Int32) (hX : Good X own cc ret) (hd : decode cc pc = .ok (.bipush n, 2)) (hv : (Int8.ofInt n).toInt32 = v) (h : Tr X enc cu su (pc + 2) lv (.int v :: st) k) : Tr X enc cu su pc lv st k := fun H locs ls w r w' hl hR hS hk => lv_bipush hX.1 hX.2.1 hd hv (h H locs ls w r w' hl hR hS hk)
theorem tr_sipush {n : Int} (v : Int32) (hX : Good X own cc ret) (hd : decode cc pc = .ok (.sipush n, 3)) (hv : (Int16.ofInt n).toInt32 = v) (h : Tr X enc cu su (pc + 3) lv (.int v :: st) k) : Tr X enc cu su pc lv st k := fun H locs ls w r w' hl hR hS hk => lv_sipush hX.1 hX.2.1 hd hv (h H locs ls w r w' hl hR hS hk)
theorem tr_lconst {n : Fin 2} (v : Int64) (hX : Good X own cc ret) (hd : decode cc pc = .ok (.lconst n, 1)) (hv : Int64.ofNat (n : Nat) = v) (h : Tr X enc cu su (pc + 1) lv (.long v :: st) k) : Tr X enc cu su pc lv st k := fun H locs ls w r w' hl hR hS hk => lv_lconst hX.1 hX.2.1 hd hv (h H locs ls w r w' hl hR hS hk)
theorem tr_iload_n {n : Fin 4} {i : Nat} {x : Int32} (j : Nat) (hX : Good X own cc ret) (hd : decode cc pc = .ok (.iload_n n, 1)) (hi : (n : Nat) = i) (hj : lv[j]? = some (i, .int x)) (h : Tr X enc cu su (pc + 1) lv (.int x :: st) k) : Tr X enc cu su pc lv st k := fun H locs ls w r w' hl hR hS hk => lv_iload_n hX.1 hX.2.1 hd hi (lv_at hl j hj) (h H locs ls w r w' hl hR hS hk)
theorem tr_iload {i : Nat} {x : Int32} (j : Nat) (hX : Good X own cc ret) (hd : decode cc pc = .ok (.iload i, 2)) (hj : lv[j]? = some (i, .int x)) (h : Tr X enc cu su (pc + 2) lv (.int x :: st) k) : Tr X enc cu su pc lv st k := fun H locs ls w r w' hl hR hS hk => lv_iload hX.1 hX.2.1 hd (lv_at hl j hj) (h H locs ls w r w' hl hR hS hk)
theorem tr_lload_n {n : Fin 4} {i : Nat} {x : Int64} (j : Nat) (hX : Good X own cc ret) (hd : decode cc pc = .ok (.lload_n n, 1)) (hi : (n : Nat) = i) (hj : lv[j]? = some (i, .long x)) (h : Tr X enc cu su (pc + 1) lv (.long x :: st) k) : Tr X enc cu su pc lv st k := fun H locs ls w r w' hl hR hS hk => lv_lload_n hX.1 hX.2.1 hd hi (lv_at hl j hj) (h H locs ls w r w' hl hR hS hk)
theorem tr_lload {i : Nat} {x : Int64} (j : Nat) (hX : Good X own cc ret) (hd : decode cc pc = .ok (.lload i, 2)) (hj : lv[j]? = some (i, .long x)) (h : Tr X enc cu su (pc + 2) lv (.long x :: st) k) : Tr X enc cu su pc lv st k := fun H locs ls w r w' hl hR hS hk => lv_lload hX.1 hX.2.1 hd (lv_at hl j hj) (h H locs ls w r w' hl hR hS hk)
theorem tr_aload_n {n : Fin 4} {i : Nat} {x : Nat} (j : Nat) (hX : Good X own cc ret) (hd : decode cc pc = .ok (.aload_n n, 1)) (hi : (n : Nat) = i) (hj : lv[j]? = some (i, .ref x)) (h : Tr X enc cu su (pc + 1) lv (.ref x :: st) k) : Tr X enc cu su pc lv st k := fun H locs ls w r w' hl hR hS hk => lv_aload_n hX.1 hX.2.1 hd hi (lv_at hl j hj) (h H locs ls w r w' hl hR hS hk)
theorem tr_istore_n {n : Fin 4} {i : Nat} {x : Int32} (hX : Good X own cc ret) (hd : decode cc pc = .ok (.istore_n n, 1)) (hi : (n : Nat) = i) (hn : i < cxN X) (hl' : (i, Value.int x) :: lv.filter (fun q => !(q.1 == i) && !(q.1 + 1 == i && q.2.category == 2)) = lv') (h : Tr X enc cu su (pc + 1) lv' st k) : Tr X enc cu su pc lv (.int x :: st) k := fun H locs ls w r w' hl hR hS hk => lv_istore_n hX.1 hX.2.1 hd hi hl hn hl' (fun ls' hl2 => h H locs ls' w r w' hl2 hR hS hk)
theorem tr_istore {i : Nat} {x : Int32} (hX : Good X own cc ret) (hd : decode cc pc = .ok (.istore i, 2)) (hn : i < cxN X) (hl' : (i, Value.int x) :: lv.filter (fun q => !(q.1 == i) && !(q.1 + 1 == i && q.2.category == 2)) = lv') (h : Tr X enc cu su (pc + 2) lv' st k) : Tr X enc cu su pc lv (.int x :: st) k := fun H locs ls w r w' hl hR hS hk => lv_istore hX.1 hX.2.1 hd hl hn hl' (fun ls' hl2 => h H locs ls' w r w' hl2 hR hS hk)
theorem tr_lstore {i : Nat} {x : Int64} (hX : Good X own cc ret) (hd : decode cc pc = .ok (.lstore i, 2)) (hn : i + 1 < cxN X) (hl' : (i, Value.long x) :: lv.filter (fun q => !(q.1 == i) && (!(q.1 == i + 1) && !(q.1 + 1 == i && q.2.category == 2))) = lv') (h : Tr X enc cu su (pc + 2) lv' st k) : Tr X enc cu su pc lv (.long x :: st) k := fun H locs ls w r w' hl hR hS hk => lv_lstore hX.1 hX.2.1 hd hl hn hl' (fun ls' hl2 => h H locs ls' w r w' hl2 hR hS hk)
theorem tr_astore_n {n : Fin 4} {i : Nat} {x : Nat} (hX : Good X own cc ret) (hd : decode cc pc = .ok (.astore_n n, 1)) (hi : (n : Nat) = i) (hn : i < cxN X) (hl' : (i, Value.ref x) :: lv.filter (fun q => !(q.1 == i) && !(q.1 + 1 == i && q.2.category == 2)) = lv') (h : Tr X enc cu su (pc + 1) lv' st k) : Tr X enc cu su pc lv (.ref x :: st) k := fun H locs ls w r w' hl hR hS hk => lv_astore_n hX.1 hX.2.1 hd hi hl hn hl' (fun ls' hl2 => h H locs ls' w r w' hl2 hR hS hk)
theorem tr_iinc {i : Nat} {n : Int} {x : Int32} (v : Int32) (j : Nat) (hX : Good X own cc ret) (hd : decode cc pc = .ok (.iinc i n, 3)) (hj : lv[j]? = some (i, .int x)) (hv : x + Int32.ofInt n = v) (hn : i < cxN X) (hl' : (i, Value.int v) :: lv.filter (fun q => !(q.1 == i) && !(q.1 + 1 == i && q.2.category == 2)) = lv') (h : Tr X enc cu su (pc + 3) lv' st k) : Tr X enc cu su pc lv st k := fun H locs ls w r w' hl hR hS hk => lv_iinc hX.1 hX.2.1 hd hl hj hv hn hl' (fun ls' hl2 => h H locs ls' w r w' hl2 hR hS hk)
theorem tr_iadd {x y : Int32} (hX : Good X own cc ret) (hd : decode cc pc = .ok (.iadd, 1)) (h : Tr X enc cu su (pc + 1) lv (.int (x + y) :: st) k) : Tr X enc cu su pc lv (.int y :: .int x :: st) k := fun H locs ls w r w' hl hR hS hk => lv_iadd hX.1 hX.2.1 hd (h H locs ls w r w' hl hR hS hk)
theorem tr_isub {x y : Int32} (hX : Good X own cc ret) (hd : decode cc pc = .ok (.isub, 1)) (h : Tr X enc cu su (pc + 1) lv (.int (x - y) :: st) k) : Tr X enc cu su pc lv (.int y :: .int x :: st) k := fun H locs ls w r w' hl hR hS hk => lv_isub hX.1 hX.2.1 hd (h H locs ls w r w' hl hR hS hk)
theorem tr_imul {x y : Int32} (hX : Good X own cc ret) (hd : decode cc pc = .ok (.imul, 1)) (h : Tr X enc cu su (pc + 1) lv (.int (x * y) :: st) k) : Tr X enc cu su pc lv (.int y :: .int x :: st) k := fun H locs ls w r w' hl hR hS hk => lv_imul hX.1 hX.2.1 hd (h H locs ls w r w' hl hR hS hk)
theorem tr_iand {x y : Int32} (hX : Good X own cc ret) (hd : decode cc pc = .ok (.iand, 1)) (h : Tr X enc cu su (pc + 1) lv (.int (x &&& y) :: st) k) : Tr X enc cu su pc lv (.int y :: .int x :: st) k := fun H locs ls w r w' hl hR hS hk => lv_iand hX.1 hX.2.1 hd (h H locs ls w r w' hl hR hS hk)
theorem tr_ior {x y : Int32} (hX : Good X own cc ret) (hd : decode cc pc = .ok (.ior, 1)) (h : Tr X enc cu su (pc + 1) lv (.int (x ||| y) :: st) k) : Tr X enc cu su pc lv (.int y :: .int x :: st) k := fun H locs ls w r w' hl hR hS hk => lv_ior hX.1 hX.2.1 hd (h H locs ls w r w' hl hR hS hk)
theorem tr_ixor {x y : Int32} (hX : Good X own cc ret) (hd : decode cc pc = .ok (.ixor, 1)) (h : Tr X enc cu su (pc + 1) lv (.int (x ^^^ y) :: st) k) : Tr X enc cu su pc lv (.int y :: .int x :: st) k := fun H locs ls w r w' hl hR hS hk => lv_ixor hX.1 hX.2.1 hd (h H locs ls w r w' hl hR hS hk)
theorem tr_ishl {x y : Int32} (hX : Good X own cc ret) (hd : decode cc pc = .ok (.ishl, 1)) (h : Tr X enc cu su (pc + 1) lv (.int (x <<< (y &&& 31)) :: st) k) : Tr X enc cu su pc lv (.int y :: .int x :: st) k := fun H locs ls w r w' hl hR hS hk => lv_ishl hX.1 hX.2.1 hd (h H locs ls w r w' hl hR hS hk)
theorem tr_ishr {x y : Int32} (hX : Good X own cc ret) (hd : decode cc pc = .ok (.ishr, 1)) (h : Tr X enc cu su (pc + 1) lv (.int (x >>> (y &&& 31)) :: st) k) : Tr X enc cu su pc lv (.int y :: .int x :: st) k := fun H locs ls w r w' hl hR hS hk => lv_ishr hX.1 hX.2.1 hd (h H locs ls w r w' hl hR hS hk)
theorem tr_iushr {x y : Int32} (hX : Good X own cc ret) (hd : decode cc pc = .ok (.iushr, 1)) (h : Tr X enc cu su (pc + 1) lv (.int ((x.toUInt32 >>> (y.toUInt32 &&& Int32.toUInt32 31)).toInt32) :: st) k) : Tr X enc cu su pc lv (.int y :: .int x :: st) k := fun H locs ls w r w' hl hR hS hk => lv_iushr hX.1 hX.2.1 hd rfl (h H locs ls w r w' hl hR hS hk)
theorem tr_ineg {x : Int32} (hX : Good X own cc ret) (hd : decode cc pc = .ok (.ineg, 1)) (h : Tr X enc cu su (pc + 1) lv (.int (-x) :: st) k) : Tr X enc cu su pc lv (.int x :: st) k := fun H locs ls w r w' hl hR hS hk => lv_ineg hX.1 hX.2.1 hd (h H locs ls w r w' hl hR hS hk)
theorem tr_idiv {x y : Int32} (hX : Good X own cc ret) (hd : decode cc pc = .ok (.idiv, 1)) (h : ¬ y = 0 → Tr X enc cu su (pc + 1) lv (.int (x / y) :: st) k) : Tr X enc cu su pc lv (.int y :: .int x :: st) (gd (¬ y = 0) k) := by
  intro H locs ls w r w' hl hR hS hk
  by_cases hy : y = 0
  · simp [gd, hy] at hk
  · simp only [gd, hy, not_false_eq_true, if_true] at hk
    exact lv_idiv hX.1 hX.2.1 hd hy (h hy H locs ls w r w' hl hR hS hk)
theorem tr_irem {x y : Int32} (hX : Good X own cc ret) (hd : decode cc pc = .ok (.irem, 1)) (h : ¬ y = 0 → Tr X enc cu su (pc + 1) lv (.int (x - x / y * y) :: st) k) : Tr X enc cu su pc lv (.int y :: .int x :: st) (gd (¬ y = 0) k) := by
  intro H locs ls w r w' hl hR hS hk
  by_cases hy : y = 0
  · simp [gd, hy] at hk
  · simp only [gd, hy, not_false_eq_true, if_true] at hk
    exact lv_irem hX.1 hX.2.1 hd hy (h hy H locs ls w r w' hl hR hS hk)
theorem tr_ldiv {x y : Int64} (hX : Good X own cc ret) (hd : decode cc pc = .ok (.ldiv, 1)) (h : ¬ y = 0 → Tr X enc cu su (pc + 1) lv (.long (x / y) :: st) k) : Tr X enc cu su pc lv (.long y :: .long x :: st) (gd (¬ y = 0) k) := by
  intro H locs ls w r w' hl hR hS hk
  by_cases hy : y = 0
  · simp [gd, hy] at hk
  · simp only [gd, hy, not_false_eq_true, if_true] at hk
    exact lv_ldiv hX.1 hX.2.1 hd hy (h hy H locs ls w r w' hl hR hS hk)
theorem tr_lrem {x y : Int64} (hX : Good X own cc ret) (hd : decode cc pc = .ok (.lrem, 1)) (h : ¬ y = 0 → Tr X enc cu su (pc + 1) lv (.long (x - x / y * y) :: st) k) : Tr X enc cu su pc lv (.long y :: .long x :: st) (gd (¬ y = 0) k) := by
  intro H locs ls w r w' hl hR hS hk
  by_cases hy : y = 0
  · simp [gd, hy] at hk
  · simp only [gd, hy, not_false_eq_true, if_true] at hk
    exact lv_lrem hX.1 hX.2.1 hd hy (h hy H locs ls w r w' hl hR hS hk)
theorem tr_ladd {x y : Int64} (hX : Good X own cc ret) (hd : decode cc pc = .ok (.ladd, 1)) (h : Tr X enc cu su (pc + 1) lv (.long (x + y) :: st) k) : Tr X enc cu su pc lv (.long y :: .long x :: st) k := fun H locs ls w r w' hl hR hS hk => lv_ladd hX.1 hX.2.1 hd (h H locs ls w r w' hl hR hS hk)
theorem tr_lsub {x y : Int64} (hX : Good X own cc ret) (hd : decode cc pc = .ok (.lsub, 1)) (h : Tr X enc cu su (pc + 1) lv (.long (x - y) :: st) k) : Tr X enc cu su pc lv (.long y :: .long x :: st) k := fun H locs ls w r w' hl hR hS hk => lv_lsub hX.1 hX.2.1 hd (h H locs ls w r w' hl hR hS hk)
theorem tr_lmul {x y : Int64} (hX : Good X own cc ret) (hd : decode cc pc = .ok (.lmul, 1)) (h : Tr X enc cu su (pc + 1) lv (.long (x * y) :: st) k) : Tr X enc cu su pc lv (.long y :: .long x :: st) k := fun H locs ls w r w' hl hR hS hk => lv_lmul hX.1 hX.2.1 hd (h H locs ls w r w' hl hR hS hk)
theorem tr_land {x y : Int64} (hX : Good X own cc ret) (hd : decode cc pc = .ok (.land, 1)) (h : Tr X enc cu su (pc + 1) lv (.long (x &&& y) :: st) k) : Tr X enc cu su pc lv (.long y :: .long x :: st) k := fun H locs ls w r w' hl hR hS hk => lv_land hX.1 hX.2.1 hd (h H locs ls w r w' hl hR hS hk)
theorem tr_lor {x y : Int64} (hX : Good X own cc ret) (hd : decode cc pc = .ok (.lor, 1)) (h : Tr X enc cu su (pc + 1) lv (.long (x ||| y) :: st) k) : Tr X enc cu su pc lv (.long y :: .long x :: st) k := fun H locs ls w r w' hl hR hS hk => lv_lor hX.1 hX.2.1 hd (h H locs ls w r w' hl hR hS hk)
theorem tr_lshl {x : Int64} {y : Int32} (hX : Good X own cc ret) (hd : decode cc pc = .ok (.lshl, 1)) (h : Tr X enc cu su (pc + 1) lv (.long (x <<< (y.toInt64 &&& 63)) :: st) k) : Tr X enc cu su pc lv (.int y :: .long x :: st) k := fun H locs ls w r w' hl hR hS hk => lv_lshl hX.1 hX.2.1 hd rfl (h H locs ls w r w' hl hR hS hk)
theorem tr_lshr {x : Int64} {y : Int32} (hX : Good X own cc ret) (hd : decode cc pc = .ok (.lshr, 1)) (h : Tr X enc cu su (pc + 1) lv (.long (x >>> (y.toInt64 &&& 63)) :: st) k) : Tr X enc cu su pc lv (.int y :: .long x :: st) k := fun H locs ls w r w' hl hR hS hk => lv_lshr hX.1 hX.2.1 hd rfl (h H locs ls w r w' hl hR hS hk)
theorem tr_i2l {x : Int32} (hX : Good X own cc ret) (hd : decode cc pc = .ok (.i2l, 1)) (h : Tr X enc cu su (pc + 1) lv (.long x.toInt64 :: st) k) : Tr X enc cu su pc lv (.int x :: st) k := fun H locs ls w r w' hl hR hS hk => lv_i2l hX.1 hX.2.1 hd rfl (h H locs ls w r w' hl hR hS hk)
theorem tr_l2i {x : Int64} (hX : Good X own cc ret) (hd : decode cc pc = .ok (.l2i, 1)) (h : Tr X enc cu su (pc + 1) lv (.int x.toInt32 :: st) k) : Tr X enc cu su pc lv (.long x :: st) k := fun H locs ls w r w' hl hR hS hk => lv_l2i hX.1 hX.2.1 hd rfl (h H locs ls w r w' hl hR hS hk)
theorem tr_i2b {x : Int32} (hX : Good X own cc ret) (hd : decode cc pc = .ok (.i2b, 1)) (h : Tr X enc cu su (pc + 1) lv (.int x.toInt8.toInt32 :: st) k) : Tr X enc cu su pc lv (.int x :: st) k := fun H locs ls w r w' hl hR hS hk => lv_i2b hX.1 hX.2.1 hd rfl (h H locs ls w r w' hl hR hS hk)
theorem tr_lcmp {x y : Int64} (hX : Good X own cc ret) (hd : decode cc pc = .ok (.lcmp, 1)) (h : Tr X enc cu su (pc + 1) lv (.int (lg_cmp x y) :: st) k) : Tr X enc cu su pc lv (.long y :: .long x :: st) k := fun H locs ls w r w' hl hR hS hk => W.lcmp hX.1 hX.2.1 hd (h H locs ls w r w' hl hR hS hk)
theorem tr_dup {va : Value} (hX : Good X own cc ret) (hd : decode cc pc = .ok (.dup, 1)) (hva : va.category = 1) (h : Tr X enc cu su (pc + 1) lv (va :: va :: st) k) : Tr X enc cu su pc lv (va :: st) k := fun H locs ls w r w' hl hR hS hk => lv_dup hX.1 hX.2.1 hd hva (h H locs ls w r w' hl hR hS hk)
theorem tr_dup2 {va vb : Value} (hX : Good X own cc ret) (hd : decode cc pc = .ok (.dup2, 1)) (hva : va.category = 1) (hvb : vb.category = 1) (h : Tr X enc cu su (pc + 1) lv (va :: vb :: va :: vb :: st) k) : Tr X enc cu su pc lv (va :: vb :: st) k := fun H locs ls w r w' hl hR hS hk => lv_dup2_11 hX.1 hX.2.1 hd hva hvb (h H locs ls w r w' hl hR hS hk)
theorem tr_pop {va : Value} (hX : Good X own cc ret) (hd : decode cc pc = .ok (.pop, 1)) (hva : va.category = 1) (h : Tr X enc cu su (pc + 1) lv st k) : Tr X enc cu su pc lv (va :: st) k := fun H locs ls w r w' hl hR hS hk => lv_pop hX.1 hX.2.1 hd hva (h H locs ls w r w' hl hR hS hk)
theorem tr_goto {off : Int} (tgt : Nat) (hX : Good X own cc ret) (hd : decode cc pc = .ok (.goto off, 3)) (ht : (pc : Int) + off = (tgt : Int)) (h : Tr X enc cu su tgt lv st k) : Tr X enc cu su pc lv st k := fun H locs ls w r w' hl hR hS hk => lv_goto hX.1 hX.2.1 hd ht (h H locs ls w r w' hl hR hS hk)
theorem tr_ldc {index : Nat} {v : Int32} (hX : Good X own cc ret) (hd : decode cc pc = .ok (.ldc index, 2)) (hw : Cond.constant own index v ∈ wsL_law) (h : Tr X enc cu su (pc + 2) lv (.int v :: st) k) : Tr X enc cu su pc lv st k := fun H locs ls w r w' hl hR hS hk => lv_ldc hX.1 hX.2.1 hX.2.2.2.1 (hX.2.2.2.2.1 _ hw) hd (h H locs ls w r w' hl hR hS hk)
theorem tr_ldc_w {index : Nat} {v : Int32} (hX : Good X own cc ret) (hd : decode cc pc = .ok (.ldc_w index, 3)) (hw : Cond.constant own index v ∈ wsL_law) (h : Tr X enc cu su (pc + 3) lv (.int v :: st) k) : Tr X enc cu su pc lv st k := fun H locs ls w r w' hl hR hS hk => lv_ldcw hX.1 hX.2.1 hX.2.2.2.1 (hX.2.2.2.2.1 _ hw) hd (h H locs ls w r w' hl hR hS hk)
theorem tr_ldc2 {index : Nat} {v : Int64} (hX : Good X own cc ret) (hd : decode cc pc = .ok (.ldc2_w index, 3)) (hw : Cond.constantLong own index v ∈ wsL_law) (h : Tr X enc cu su (pc + 3) lv (.long v :: st) k) : Tr X enc cu su pc lv st k := fun H locs ls w r w' hl hR hS hk => lv_ldc2 hX.1 hX.2.1 hX.2.2.2.1 (hX.2.2.2.2.1 _ hw) hd (h H locs ls w r w' hl hR hS hk)
theorem tr_sub (ks : List Nat) (hl' : lv_pick lv ks = lv') (h : Tr X enc cu su pc lv' st k) : Tr X enc cu su pc lv st k := fun H locs ls w r w' hl hR hS hk => h H locs ls w r w' (lv_sub hl ks hl') hR hS hk
theorem tr_nm {x : Int32} {K : Int32 → M R} (h : ∀ v : Int32, v = x → Tr X enc cu su pc lv (.int v :: st) (K v)) : Tr X enc cu su pc lv (.int x :: st) (nm x K) := h x rfl
theorem tr_nmL {x : Int64} {K : Int64 → M R} (h : ∀ v : Int64, v = x → Tr X enc cu su pc lv (.long v :: st) (K v)) : Tr X enc cu su pc lv (.long x :: st) (nm x K) := h x rfl
theorem tr_gd {P : Prop} [Decidable P] (h : P → Tr X enc cu su pc lv st k) : Tr X enc cu su pc lv st (gd P k) := by
  intro H locs ls w r w' hl hR hS hk
  by_cases hP : P
  · simp only [gd, hP, if_true] at hk
    exact h hP H locs ls w r w' hl hR hS hk
  · simp [gd, hP] at hk
variable {k1 k2 : M R} {x y : Int32} {off : Int}
theorem ite_pos' {P : Prop} [Decidable P] {w : Wd} {z : Option (R × Wd)} (hP : P) (hk : (if P then k1 else k2) w = z) : k1 w = z := by rw [if_pos hP] at hk; exact hk
theorem ite_neg' {P : Prop} [Decidable P] {w : Wd} {z : Option (R × Wd)} (hP : ¬ P) (hk : (if P then k1 else k2) w = z) : k2 w = z := by rw [if_neg hP] at hk; exact hk
theorem tr_if_eq (tgt : Nat) (hX : Good X own cc ret) (hd : decode cc pc = .ok (.ifCond .eq off, 3)) (ht : (pc : Int) + off = (tgt : Int)) (h1 : x = 0 → Tr X enc cu su tgt lv st k1) (h2 : ¬ x = 0 → Tr X enc cu su (pc + 3) lv st k2) : Tr X enc cu su pc lv (.int x :: st) (if x = 0 then k1 else k2) := fun H locs ls w r w' hl hR hS hk => lv_if_eq hX.1 hX.2.1 hd ht (fun c => h1 c H locs ls w r w' hl hR hS (ite_pos' c hk)) (fun c => h2 c H locs ls w r w' hl hR hS (ite_neg' c hk))
theorem tr_if_ne (tgt : Nat) (hX : Good X own cc ret) (hd : decode cc pc = .ok (.ifCond .ne off, 3)) (ht : (pc : Int) + off = (tgt : Int)) (h1 : x = 0 → Tr X enc cu su (pc + 3) lv st k1) (h2 : ¬ x = 0 → Tr X enc cu su tgt lv st k2) : Tr X enc cu su pc lv (.int x :: st) (if x = 0 then k1 else k2) := fun H locs ls w r w' hl hR hS hk => lv_if_ne hX.1 hX.2.1 hd ht (fun c => h2 c H locs ls w r w' hl hR hS (ite_neg' c hk)) (fun c => h1 c H locs ls w r w' hl hR hS (ite_pos' c hk))
theorem tr_if_lt (tgt : Nat) (hX : Good X own cc ret) (hd : decode cc pc = .ok (.ifCond .lt off, 3)) (ht : (pc : Int) + off = (tgt : Int)) (h1 : x < 0 → Tr X enc cu su tgt lv st k1) (h2 : ¬ x < 0 → Tr X enc cu su (pc + 3) lv st k2) : Tr X enc cu su pc lv (.int x :: st) (if x < 0 then k1 else k2) := fun H locs ls w r w' hl hR hS hk => lv_if_lt hX.1 hX.2.1 hd ht (fun c => h1 c H locs ls w r w' hl hR hS (ite_pos' c hk)) (fun c => h2 c H locs ls w r w' hl hR hS (ite_neg' c hk))
theorem tr_if_ge (tgt : Nat) (hX : Good X own cc ret) (hd : decode cc pc = .ok (.ifCond .ge off, 3)) (ht : (pc : Int) + off = (tgt : Int)) (h1 : 0 ≤ x → Tr X enc cu su tgt lv st k1) (h2 : ¬ 0 ≤ x → Tr X enc cu su (pc + 3) lv st k2) : Tr X enc cu su pc lv (.int x :: st) (if 0 ≤ x then k1 else k2) := fun H locs ls w r w' hl hR hS hk => lv_if_ge hX.1 hX.2.1 hd ht (fun c => h1 c H locs ls w r w' hl hR hS (ite_pos' c hk)) (fun c => h2 c H locs ls w r w' hl hR hS (ite_neg' c hk))
theorem tr_if_gt (tgt : Nat) (hX : Good X own cc ret) (hd : decode cc pc = .ok (.ifCond .gt off, 3)) (ht : (pc : Int) + off = (tgt : Int)) (h1 : 0 < x → Tr X enc cu su tgt lv st k1) (h2 : ¬ 0 < x → Tr X enc cu su (pc + 3) lv st k2) : Tr X enc cu su pc lv (.int x :: st) (if 0 < x then k1 else k2) := fun H locs ls w r w' hl hR hS hk => lv_if_gt hX.1 hX.2.1 hd ht (fun c => h1 c H locs ls w r w' hl hR hS (ite_pos' c hk)) (fun c => h2 c H locs ls w r w' hl hR hS (ite_neg' c hk))
theorem tr_if_le (tgt : Nat) (hX : Good X own cc ret) (hd : decode cc pc = .ok (.ifCond .le off, 3)) (ht : (pc : Int) + off = (tgt : Int)) (h1 : x ≤ 0 → Tr X enc cu su tgt lv st k1) (h2 : ¬ x ≤ 0 → Tr X enc cu su (pc + 3) lv st k2) : Tr X enc cu su pc lv (.int x :: st) (if x ≤ 0 then k1 else k2) := fun H locs ls w r w' hl hR hS hk => lv_if_le hX.1 hX.2.1 hd ht (fun c => h1 c H locs ls w r w' hl hR hS (ite_pos' c hk)) (fun c => h2 c H locs ls w r w' hl hR hS (ite_neg' c hk))
theorem tr_ic_eq (tgt : Nat) (hX : Good X own cc ret) (hd : decode cc pc = .ok (.if_icmp .eq off, 3)) (ht : (pc : Int) + off = (tgt : Int)) (h1 : x = y → Tr X enc cu su tgt lv st k1) (h2 : ¬ x = y → Tr X enc cu su (pc + 3) lv st k2) : Tr X enc cu su pc lv (.int y :: .int x :: st) (if x = y then k1 else k2) := fun H locs ls w r w' hl hR hS hk => lv_icmp_eq hX.1 hX.2.1 hd ht (fun c => h1 c H locs ls w r w' hl hR hS (ite_pos' c hk)) (fun c => h2 c H locs ls w r w' hl hR hS (ite_neg' c hk))
theorem tr_ic_ne (tgt : Nat) (hX : Good X own cc ret) (hd : decode cc pc = .ok (.if_icmp .ne off, 3)) (ht : (pc : Int) + off = (tgt : Int)) (h1 : x = y → Tr X enc cu su (pc + 3) lv st k1) (h2 : ¬ x = y → Tr X enc cu su tgt lv st k2) : Tr X enc cu su pc lv (.int y :: .int x :: st) (if x = y then k1 else k2) := fun H locs ls w r w' hl hR hS hk => lv_icmp_ne hX.1 hX.2.1 hd ht (fun c => h2 c H locs ls w r w' hl hR hS (ite_neg' c hk)) (fun c => h1 c H locs ls w r w' hl hR hS (ite_pos' c hk))
theorem tr_ic_lt (tgt : Nat) (hX : Good X own cc ret) (hd : decode cc pc = .ok (.if_icmp .lt off, 3)) (ht : (pc : Int) + off = (tgt : Int)) (h1 : x < y → Tr X enc cu su tgt lv st k1) (h2 : ¬ x < y → Tr X enc cu su (pc + 3) lv st k2) : Tr X enc cu su pc lv (.int y :: .int x :: st) (if x < y then k1 else k2) := fun H locs ls w r w' hl hR hS hk => lv_icmp_lt hX.1 hX.2.1 hd ht (fun c => h1 c H locs ls w r w' hl hR hS (ite_pos' c hk)) (fun c => h2 c H locs ls w r w' hl hR hS (ite_neg' c hk))
theorem tr_ic_ge (tgt : Nat) (hX : Good X own cc ret) (hd : decode cc pc = .ok (.if_icmp .ge off, 3)) (ht : (pc : Int) + off = (tgt : Int)) (h1 : y ≤ x → Tr X enc cu su tgt lv st k1) (h2 : ¬ y ≤ x → Tr X enc cu su (pc + 3) lv st k2) : Tr X enc cu su pc lv (.int y :: .int x :: st) (if y ≤ x then k1 else k2) := fun H locs ls w r w' hl hR hS hk => lv_icmp_ge hX.1 hX.2.1 hd ht (fun c => h1 c H locs ls w r w' hl hR hS (ite_pos' c hk)) (fun c => h2 c H locs ls w r w' hl hR hS (ite_neg' c hk))
theorem tr_ic_gt (tgt : Nat) (hX : Good X own cc ret) (hd : decode cc pc = .ok (.if_icmp .gt off, 3)) (ht : (pc : Int) + off = (tgt : Int)) (h1 : y < x → Tr X enc cu su tgt lv st k1) (h2 : ¬ y < x → Tr X enc cu su (pc + 3) lv st k2) : Tr X enc cu su pc lv (.int y :: .int x :: st) (if y < x then k1 else k2) := fun H locs ls w r w' hl hR hS hk => lv_icmp_gt hX.1 hX.2.1 hd ht (fun c => h1 c H locs ls w r w' hl hR hS (ite_pos' c hk)) (fun c => h2 c H locs ls w r w' hl hR hS (ite_neg' c hk))
theorem tr_ic_le (tgt : Nat) (hX : Good X own cc ret) (hd : decode cc pc = .ok (.if_icmp .le off, 3)) (ht : (pc : Int) + off = (tgt : Int)) (h1 : x ≤ y → Tr X enc cu su tgt lv st k1) (h2 : ¬ x ≤ y → Tr X enc cu su (pc + 3) lv st k2) : Tr X enc cu su pc lv (.int y :: .int x :: st) (if x ≤ y then k1 else k2) := fun H locs ls w r w' hl hR hS hk => lv_icmp_le hX.1 hX.2.1 hd ht (fun c => h1 c H locs ls w r w' hl hR hS (ite_pos' c hk)) (fun c => h2 c H locs ls w r w' hl hR hS (ite_neg' c hk))
end RLS
end
section
/-! the rules of the heap -/
theorem va_P1 {D : va_G} {cl : List vw_C} {q : Nat × va_E} {H : Heap} (h : va_at D cl q H) : va_P D cl [q] H := by
  intro k x hx
  cases k with
  | zero => cases hx; exact h
  | succ k => simp at hx
theorem mx_le (q : Nat) : mx q ≤ 186 := by
  unfold mx
  split <;> omega
def Ex (G : Nat → Prop) (q : Nat) : Prop := ∃ o, G o ∧ q ≤ mx o
theorem Ex.lt {E : Ev} {G : Nat → Prop} {w : Wd} {H : Heap} {q : Nat} (h : Ex G q) (hR : Rel E G w H) : q < gn w := by
  obtain ⟨o, h1, h2⟩ := h
  exact Nat.lt_of_le_of_lt h2 (hR.2.2 o h1).2.1
theorem Ex.small {G : Nat → Prop} {q : Nat} (h : Ex G q) : q < 1000 := by
  obtain ⟨o, -, h2⟩ := h
  have := mx_le o
  omega
theorem ex_all {q : Nat} (h : q ≤ 186) : Ex Gall q := ⟨161, trivial, h⟩
theorem fvl_get {ad : Nat → Nat} {w : Wd} {q : Nat} : ∀ (ts : List Nat) (n k t : Nat), ts[k]? = some t → (fvl ad w q n ts)[k]? = some (fv ad w q (n + k) t)
  | [], n, k, t, h => by simp at h
  | a :: ts, n, 0, t, h => by
    simp at h
    subst h
    simp [fvl]
  | a :: ts, n, k + 1, t, h => by
    rw [List.getElem?_cons_succ] at h
    show (fvl ad w q (n + 1) ts)[k]? = _
    rw [fvl_get ts (n + 1) k t h]
    rw [show n + 1 + k = n + (k + 1) by omega]
theorem fvl_V {ad : Nat → Nat} {w : Wd} {q k t : Nat} {ts : List Nat} (h : ts[k]? = some t) : vp_V (fvl ad w q 0 ts) k = fv ad w q k t := by
  unfold vp_V
  rw [List.getD_eq_getElem?_getD, fvl_get ts 0 k t h]
  simp
theorem fvl_congr {ad : Nat → Nat} {w w1 : Wd} {q : Nat} (h1 : gi w1 q = gi w q) (h2 : gl w1 q = gl w q) (h3 : gr w1 q = gr w q) : ∀ (ts : List Nat) (n : Nat), fvl ad w1 q n ts = fvl ad w q n ts
  | [], n => rfl
  | t :: ts, n => by
    show fv ad w1 q n t :: fvl ad w1 q (n + 1) ts = fv ad w q n t :: fvl ad w q (n + 1) ts
    rw [fvl_congr h1 h2 h3 ts (n + 1)]
    unfold fv
    rw [h1, h2, h3]
theorem cellOf_congr {ad : Nat → Nat} {cy : Nat → ClassId} {w w1 : Wd} {q : Nat} (h1 : gi w1 q = gi w q) (h2 : gl w1 q = gl w q) (h3 : gr w1 q = gr w q) : cellOf ad cy w1 q = cellOf ad cy w q := by
  unfold cellOf
  rw [fvl_congr h1 h2 h3, h1, h2]
theorem cellOf_obj {ad : Nat → Nat} {cy : Nat → ClassId} {w : Wd} {q ci N : Nat} (h : SH q = (ci, N)) (hc : ci < 10) : cellOf ad cy w q = .inr (ci, fvl ad w q 0 (fkinds ci)) := by
  unfold cellOf
  rw [h, if_pos hc]
theorem cellOf_int {ad : Nat → Nat} {cy : Nat → ClassId} {w : Wd} {q n : Nat} (h : SH q = (11, n)) : cellOf ad cy w q = .inl (cy 11, n, .inl (gi w q)) := by
  unfold cellOf
  rw [h]
  rfl
theorem cellOf_byte {ad : Nat → Nat} {cy : Nat → ClassId} {w : Wd} {q n : Nat} (h : SH q = (10, n)) : cellOf ad cy w q = .inl (cy 10, n, .inl (gi w q)) := by
  unfold cellOf
  rw [h]
  rfl
theorem cellOf_bool {ad : Nat → Nat} {cy : Nat → ClassId} {w : Wd} {q n : Nat} (h : SH q = (13, n)) : cellOf ad cy w q = .inl (cy 13, n, .inl (gi w q)) := by
  unfold cellOf
  rw [h]
  rfl
theorem cellOf_long {ad : Nat → Nat} {cy : Nat → ClassId} {w : Wd} {q n : Nat} (h : SH q = (12, n)) : cellOf ad cy w q = .inl (cy 12, n, .inr (.inl (gl w q))) := by
  unfold cellOf
  rw [h]
  rfl
theorem cellOf_rows {ad : Nat → Nat} {cy : Nat → ClassId} {w : Wd} {q n : Nat} (h : SH q = (14, n)) : cellOf ad cy w q = .inl (cy 14, n, .inr (.inr (.inr (.inr (fun i => if i < n then some (ad (q + 1 + i)) else none))))) := by
  unfold cellOf
  rw [h]
  rfl
theorem cellOf_rowsL {ad : Nat → Nat} {cy : Nat → ClassId} {w : Wd} {q n : Nat} (h : SH q = (15, n)) : cellOf ad cy w q = .inl (cy 15, n, .inr (.inr (.inr (.inr (fun i => if i < n then some (ad (q + 1 + i)) else none))))) := by
  unfold cellOf
  rw [h]
  rfl
theorem gi_si_ne {w : Wd} {q k : Nat} {v : Int32} {j : Nat} (h : j ≠ q) : gi (si w q k v) j = gi w j := by
  funext b
  show (if j = q ∧ b = k then v else w.1 j b) = w.1 j b
  rw [if_neg (fun e => h e.1)]
theorem gl_sl_ne {w : Wd} {q k : Nat} {v : Int64} {j : Nat} (h : j ≠ q) : gl (sl w q k v) j = gl w j := by
  funext b
  show (if j = q ∧ b = k then v else w.2.1 j b) = w.2.1 j b
  rw [if_neg (fun e => h e.1)]
theorem gr_sr_ne {w : Wd} {q k v : Nat} {j : Nat} (h : j ≠ q) : gr (sr w q k v) j = gr w j := by
  funext b
  show (if j = q ∧ b = k then v else w.2.2.1 j b) = w.2.2.1 j b
  rw [if_neg (fun e => h e.1)]
theorem gi_cpi_ne {w : Wd} {a p b o n : Nat} {j : Nat} (h : j ≠ b) : gi (cpi w a p b o n) j = gi w j := by
  funext y
  show (if j = b ∧ o ≤ y ∧ y < o + n then w.1 a (p + (y - o)) else w.1 j y) = w.1 j y
  rw [if_neg (fun e => h e.1)]
theorem gi_si_at (w : Wd) (q k : Nat) (v : Int32) : gi (si w q k v) q = upd (gi w q) k v := by
  funext b
  show (if q = q ∧ b = k then v else w.1 q b) = if b = k then v else w.1 q b
  simp
theorem gl_sl_at (w : Wd) (q k : Nat) (v : Int64) : gl (sl w q k v) q = vp_updL (gl w q) k v := by
  funext b
  show (if q = q ∧ b = k then v else w.2.1 q b) = if b = k then v else w.2.1 q b
  simp
/-- one cell is written: the world goes along -/
theorem Rel.put {E : Ev} {G : Nat → Prop} {w w1 : Wd} {H H1 : Heap} {q : Nat} (hR : Rel E G w H) (z : H1.size = H.size) (oq : ∀ a : Nat, a ≠ E.2.2.2 + q → H1[a]? = H[a]?) (hn : gn w1 = gn w) (hat : va_at E.1 vwCl (E.2.2.2 + q, cellOf E.2.1 E.2.2.1 w1 q) H1) (hne : ∀ j, j ≠ q → cellOf E.2.1 E.2.2.1 w1 j = cellOf E.2.1 E.2.2.1 w j) (hF : ∀ o, G o → Whl w o → Whl w1 o) : Rel E G w1 H1 := by
  refine ⟨by rw [z, hn]; exact hR.1, fun j hj => ?_, fun o ho => hF o ho (hR.2.2 o ho)⟩
  rw [hn] at hj
  by_cases e : j = q
  · rw [e]; exact hat
  · rw [hne j e]
    exact (hR.2.1 j hj).kept (oq _ (by show E.2.2.2 + j ≠ E.2.2.2 + q; omega))
theorem S_put {B : Nat} {H0 H H1 : Heap} {locs : List Loc} {a k : Nat} (h : va_S (fun q => B ≤ q) H0 H locs) (z : H1.size = H.size) (oq : ∀ q : Nat, q ≠ a → H1[q]? = H[q]?) (ha : B ≤ a) : va_S (fun q => B ≤ q) H0 H1 (locs ++ [⟨a, k⟩]) := h.put z oq ha
section RLH
variable {X : Cx} {R : Type} {enc : R → Option Value} {cu su pc : Nat} {lv lv' : List (Nat × Value)} {st : List Value} {k : M R} {own : String} {cc : ByteArray} {ret : Option FieldType}
theorem Good.K (hX : Good X own cc ret) : va_K (cxV X).1 vwCl (tysOf (cxV X).2.2.1) (cxS X) := hX.2.2.2.2.2.2.2.1
theorem Good.ad (hX : Good X own cc ret) {q : Nat} (h : q < 1000) : cxAd X q = cxBs X + q := hX.2.2.2.2.2.2.2.2.1 q h
theorem Good.ts (hX : Good X own cc ret) : ∀ w ∈ wsL_law, w.before (cxA X) (cxS X) = true := hX.2.2.2.2.1
theorem Good.ow (hX : Good X own cc ret) : (cxS X).vm.findClass own = some (cxM X).cls := hX.2.2.2.1
variable {q ci k0 N index n : Nat} {C : String} {T : u_T}
theorem tr_getI {K : Int32 → M R} (hX : Good X own cc ret) (hd : decode cc pc = .ok (.getfield index, 3)) (hs : SH q = (ci, N)) (hci : ci < 10) (hc : vwCl[ci]? = some (C, T, N)) (hin : ∀ w ∈ u_ws C T N, w ∈ wsL_law) (hk : k0 < N) (hf : (fkinds ci)[k0]? = some 0) (hx : Ex (cxG X) q) (hw : Cond.fieldLink own index (T k0).1 (T k0).2.1 (T k0).2.2.1 ∈ wsL_law) (h : ∀ v, Tr X enc cu su (pc + 3) lv (.int v :: st) (K v)) : Tr X enc cu su pc lv (.ref (cxAd X q) :: st) (rI q k0 K) := by
  intro H locs ls w r w' hl hR hS hk'
  have hat := hR.2.1 q (hx.lt hR)
  rw [cellOf_obj hs hci] at hat
  rw [hX.ad hx.small]
  exact va_get hX.1 hX.2.1 hX.ts hin hX.ow hX.K (va_P1 hat) 0 rfl hc k0 hk (hX.ts _ hw) (fun _ h => h) (v := .int (gi w q k0)) (by rw [fvl_get _ 0 k0 0 hf]; simp [fv]) hd (h _ H locs ls w r w' hl hR hS hk')
theorem tr_getL {K : Int64 → M R} (hX : Good X own cc ret) (hd : decode cc pc = .ok (.getfield index, 3)) (hs : SH q = (ci, N)) (hci : ci < 10) (hc : vwCl[ci]? = some (C, T, N)) (hin : ∀ w ∈ u_ws C T N, w ∈ wsL_law) (hk : k0 < N) (hf : (fkinds ci)[k0]? = some 1) (hx : Ex (cxG X) q) (hw : Cond.fieldLink own index (T k0).1 (T k0).2.1 (T k0).2.2.1 ∈ wsL_law) (h : ∀ v, Tr X enc cu su (pc + 3) lv (.long v :: st) (K v)) : Tr X enc cu su pc lv (.ref (cxAd X q) :: st) (rL q k0 K) := by
  intro H locs ls w r w' hl hR hS hk'
  have hat := hR.2.1 q (hx.lt hR)
  rw [cellOf_obj hs hci] at hat
  rw [hX.ad hx.small]
  exact va_get hX.1 hX.2.1 hX.ts hin hX.ow hX.K (va_P1 hat) 0 rfl hc k0 hk (hX.ts _ hw) (fun _ h => h) (v := .long (gl w q k0)) (by rw [fvl_get _ 0 k0 1 hf]; simp [fv]) hd (h _ H locs ls w r w' hl hR hS hk')
/-- a final reference of an object that is made whole -/
theorem tr_getF {a : Nat} (hX : Good X own cc ret) (hd : decode cc pc = .ok (.getfield index, 3)) (hs : SH q = (ci, N)) (hci : ci < 10) (hc : vwCl[ci]? = some (C, T, N)) (hin : ∀ w ∈ u_ws C T N, w ∈ wsL_law) (hk : k0 < N) (hf : (fkinds ci)[k0]? = some 2) (hG : cxG X q) (ha : (k0, a) ∈ CR q) (hw : Cond.fieldLink own index (T k0).1 (T k0).2.1 (T k0).2.2.1 ∈ wsL_law) (hq : q ≤ mx q) (h : Tr X enc cu su (pc + 3) lv (.ref (cxAd X a) :: st) k) : Tr X enc cu su pc lv (.ref (cxAd X q) :: st) k := by
  intro H locs ls w r w' hl hR hS hk'
  have hx : Ex (cxG X) q := ⟨q, hG, hq⟩
  have hat := hR.2.1 q (hx.lt hR)
  rw [cellOf_obj hs hci] at hat
  rw [hX.ad hx.small]
  have e : gr w q k0 = a + 1 := (hR.2.2 q hG).2.2 _ ha
  exact va_get hX.1 hX.2.1 hX.ts hin hX.ow hX.K (va_P1 hat) 0 rfl hc k0 hk (hX.ts _ hw) (fun _ h => h) (v := .ref (cxAd X a)) (by rw [fvl_get _ 0 k0 2 hf]; simp [fv, va_rn, e]) hd (h H locs ls w r w' hl hR hS hk')
/-- a reference to a Tongue -/
theorem tr_getT {K : Nat → M R} (hX : Good X own cc ret) (hd : decode cc pc = .ok (.getfield index, 3)) (hs : SH q = (ci, N)) (hci : ci < 10) (hc : vwCl[ci]? = some (C, T, N)) (hin : ∀ w ∈ u_ws C T N, w ∈ wsL_law) (hk : k0 < N) (hf : (fkinds ci)[k0]? = some 2) (hx : Ex (cxG X) q) (hw : Cond.fieldLink own index (T k0).1 (T k0).2.1 (T k0).2.2.1 ∈ wsL_law) (h : ∀ t, isT t → Tr X enc cu su (pc + 3) lv (.ref (cxAd X t) :: st) (K t)) : Tr X enc cu su pc lv (.ref (cxAd X q) :: st) (rT q k0 K) := by
  intro H locs ls w r w' hl hR hS hk'
  have hat := hR.2.1 q (hx.lt hR)
  rw [cellOf_obj hs hci] at hat
  rw [hX.ad hx.small]
  unfold rT at hk'
  split at hk'
  · rename_i hT
    have hne : gr w q k0 ≠ 0 := by omega
    exact va_get hX.1 hX.2.1 hX.ts hin hX.ow hX.K (va_P1 hat) 0 rfl hc k0 hk (hX.ts _ hw) (fun _ h => h) (v := .ref (cxAd X (gr w q k0 - 1))) (by rw [fvl_get _ 0 k0 2 hf]; simp [fv, va_rn, hne]) hd (h (gr w q k0 - 1) (by unfold isT; omega) H locs ls w r w' hl hR hS hk')
  · cases hk'
theorem tr_iald {i : Int32} {K : Int32 → M R} (hX : Good X own cc ret) (hd : decode cc pc = .ok (.iaload, 1)) (hs : SH q = (11, n)) (hx : Ex (cxG X) q) (h : inb i n → ∀ v, Tr X enc cu su (pc + 1) lv (.int v :: st) (K v)) : Tr X enc cu su pc lv (.int i :: .ref (cxAd X q) :: st) (aI q n i K) := by
  intro H locs ls w r w' hl hR hS hk'
  have hat := hR.2.1 q (hx.lt hR)
  rw [cellOf_int hs] at hat
  rw [hX.ad hx.small]
  unfold aI gd at hk'
  split at hk'
  · rename_i hb
    exact va_iald hX.1 hX.2.1 hX.K (va_P1 hat) 0 1 rfl rfl hb hd (h hb _ H locs ls w r w' hl hR hS hk')
  · cases hk'
theorem tr_bald {i : Int32} {K : Int32 → M R} (hX : Good X own cc ret) (hd : decode cc pc = .ok (.baload, 1)) (hs : SH q = (10, n)) (hx : Ex (cxG X) q) (h : inb i n → ∀ v, Tr X enc cu su (pc + 1) lv (.int v :: st) (K v)) : Tr X enc cu su pc lv (.int i :: .ref (cxAd X q) :: st) (aI q n i K) := by
  intro H locs ls w r w' hl hR hS hk'
  have hat := hR.2.1 q (hx.lt hR)
  rw [cellOf_byte hs] at hat
  rw [hX.ad hx.small]
  unfold aI gd at hk'
  split at hk'
  · rename_i hb
    exact va_bald hX.1 hX.2.1 hX.K (va_P1 hat) 0 0 rfl rfl hb hd (h hb _ H locs ls w r w' hl hR hS hk')
  · cases hk'
theorem tr_zald {i : Int32} {K : Int32 → M R} (hX : Good X own cc ret) (hd : decode cc pc = .ok (.baload, 1)) (hs : SH q = (13, n)) (hx : Ex (cxG X) q) (h : inb i n → ∀ v, Tr X enc cu su (pc + 1) lv (.int v :: st) (K v)) : Tr X enc cu su pc lv (.int i :: .ref (cxAd X q) :: st) (aI q n i K) := by
  intro H locs ls w r w' hl hR hS hk'
  have hat := hR.2.1 q (hx.lt hR)
  rw [cellOf_bool hs] at hat
  rw [hX.ad hx.small]
  unfold aI gd at hk'
  split at hk'
  · rename_i hb
    exact va_zald hX.1 hX.2.1 hX.K (va_P1 hat) 0 3 rfl rfl hb hd (h hb _ H locs ls w r w' hl hR hS hk')
  · cases hk'
theorem tr_lald {i : Int32} {K : Int64 → M R} (hX : Good X own cc ret) (hd : decode cc pc = .ok (.laload, 1)) (hs : SH q = (12, n)) (hx : Ex (cxG X) q) (h : inb i n → ∀ v, Tr X enc cu su (pc + 1) lv (.long v :: st) (K v)) : Tr X enc cu su pc lv (.int i :: .ref (cxAd X q) :: st) (aL q n i K) := by
  intro H locs ls w r w' hl hR hS hk'
  have hat := hR.2.1 q (hx.lt hR)
  rw [cellOf_long hs] at hat
  rw [hX.ad hx.small]
  unfold aL gd at hk'
  split at hk'
  · rename_i hb
    exact va_lald hX.1 hX.2.1 hX.K (va_P1 hat) 0 2 rfl rfl hb hd (h hb _ H locs ls w r w' hl hR hS hk')
  · cases hk'
/-- a row of a grid -/
theorem tr_aald {i : Int32} (hX : Good X own cc ret) (hd : decode cc pc = .ok (.aaload, 1)) (hs : SH q = (14, n)) (hx : Ex (cxG X) q) (h : inb i n → Tr X enc cu su (pc + 1) lv (.ref (cxAd X (q + 1 + i.toNatClampNeg)) :: st) k) : Tr X enc cu su pc lv (.int i :: .ref (cxAd X q) :: st) (gd (inb i n) k) := by
  intro H locs ls w r w' hl hR hS hk'
  have hat := hR.2.1 q (hx.lt hR)
  rw [cellOf_rows hs] at hat
  rw [hX.ad hx.small]
  unfold gd at hk'
  split at hk'
  · rename_i hb
    have hlt : i.toNatClampNeg < n := Nat.not_le.mp fun z => hb (Or.inr z)
    refine W.aald (v := .ref (cxAd X (q + 1 + i.toNatClampNeg))) (ty := .array .int) hX.1 hX.2.1 hat ((hX.K.2 4 _ rfl).1 n (fun j => va_rf (if j < n then some (cxAd X (q + 1 + j)) else none))) rfl (fun z => by cases z) (by show ¬ (i < 0 ∨ (arrV _ _ _).slots.size ≤ _); rw [arrV_size]; exact hb) (by show (arrV _ _ _).slots[_]? = _; rw [arrV_read _ _ hlt]; simp [hlt, va_rf]) rfl rfl hd (h hb H locs ls w r w' hl hR hS hk')
  · cases hk'
theorem tr_aaldL {i : Int32} (hX : Good X own cc ret) (hd : decode cc pc = .ok (.aaload, 1)) (hs : SH q = (15, n)) (hx : Ex (cxG X) q) (h : inb i n → Tr X enc cu su (pc + 1) lv (.ref (cxAd X (q + 1 + i.toNatClampNeg)) :: st) k) : Tr X enc cu su pc lv (.int i :: .ref (cxAd X q) :: st) (gd (inb i n) k) := by
  intro H locs ls w r w' hl hR hS hk'
  have hat := hR.2.1 q (hx.lt hR)
  rw [cellOf_rowsL hs] at hat
  rw [hX.ad hx.small]
  unfold gd at hk'
  split at hk'
  · rename_i hb
    have hlt : i.toNatClampNeg < n := Nat.not_le.mp fun z => hb (Or.inr z)
    refine W.aald (v := .ref (cxAd X (q + 1 + i.toNatClampNeg))) (ty := .array .long) hX.1 hX.2.1 hat ((hX.K.2 5 _ rfl).1 n (fun j => va_rf (if j < n then some (cxAd X (q + 1 + j)) else none))) rfl (fun z => by cases z) (by show ¬ (i < 0 ∨ (arrV _ _ _).slots.size ≤ _); rw [arrV_size]; exact hb) (by show (arrV _ _ _).slots[_]? = _; rw [arrV_read _ _ hlt]; simp [hlt, va_rf]) rfl rfl hd (h hb H locs ls w r w' hl hR hS hk')
  · cases hk'
theorem tr_iast {i x : Int32} (hX : Good X own cc ret) (hd : decode cc pc = .ok (.iastore, 1)) (hs : SH q = (11, n)) (hx : Ex (cxG X) q) (h : inb i n → Tr X enc cu su (pc + 1) lv st k) : Tr X enc cu su pc lv (.int x :: .int i :: .ref (cxAd X q) :: st) (sI q n i x k) := by
  intro H locs ls w r w' hl hR hS hk'
  have hat := hR.2.1 q (hx.lt hR)
  rw [cellOf_int hs] at hat
  rw [hX.ad hx.small]
  unfold sI gd at hk'
  split at hk'
  · rename_i hb
    refine W.iast hX.1 hX.2.1 hat ((hX.K.2 1 _ rfl).1 n (fun j => .int (gi w q j))) (fun z => by cases z) (by show ¬ (i < 0 ∨ (arrV _ _ _).slots.size ≤ _); rw [arrV_size]; exact hb) rfl rfl hd fun H1 e z oq => ?_
    refine h hb H1 _ ls (si w q i.toNatClampNeg x) r w' hl (hR.put z oq rfl ?_ (fun j hj => cellOf_congr (gi_si_ne hj) rfl rfl) (fun o _ h => h)) (S_put hS z oq (Nat.le_add_right _ _)) hk'
    rw [cellOf_int hs]
    show H1[_]? = some (vp_cell _ _)
    rw [e, vp_cell_i, vp_cell_i, arrV_store, gi_si_at]
    congr 2
    funext j
    by_cases hj : j = i.toNatClampNeg
    · subst hj
      simp [updV, upd]
    · simp [updV, upd, hj]
  · cases hk'
theorem tr_bast {i x : Int32} (hX : Good X own cc ret) (hd : decode cc pc = .ok (.bastore, 1)) (hs : SH q = (10, n)) (hx : Ex (cxG X) q) (h : inb i n → Tr X enc cu su (pc + 1) lv st k) : Tr X enc cu su pc lv (.int x :: .int i :: .ref (cxAd X q) :: st) (sI q n i (vp_nar .byte x) k) := by
  intro H locs ls w r w' hl hR hS hk'
  have hat := hR.2.1 q (hx.lt hR)
  rw [cellOf_byte hs] at hat
  rw [hX.ad hx.small]
  unfold sI gd at hk'
  split at hk'
  · rename_i hb
    refine W.bast hX.1 hX.2.1 hat ((hX.K.2 0 _ rfl).1 n (fun j => .int (gi w q j))) (fun z => by cases z) (by show ¬ (i < 0 ∨ (arrV _ _ _).slots.size ≤ _); rw [arrV_size]; exact hb) rfl rfl hd fun H1 e z oq => ?_
    refine h hb H1 _ ls (si w q i.toNatClampNeg (vp_nar .byte x)) r w' hl (hR.put z oq rfl ?_ (fun j hj => cellOf_congr (gi_si_ne hj) rfl rfl) (fun o _ h => h)) (S_put hS z oq (Nat.le_add_right _ _)) hk'
    rw [cellOf_byte hs]
    show H1[_]? = some (vp_cell _ _)
    rw [e, vp_cell_i, vp_cell_i, arrV_store, gi_si_at]
    congr 2
    funext j
    by_cases hj : j = i.toNatClampNeg
    · subst hj
      simp [updV, upd]
      rfl
    · simp [updV, upd, hj]
  · cases hk'
theorem tr_zast {i x : Int32} (hX : Good X own cc ret) (hd : decode cc pc = .ok (.bastore, 1)) (hs : SH q = (13, n)) (hx : Ex (cxG X) q) (h : inb i n → Tr X enc cu su (pc + 1) lv st k) : Tr X enc cu su pc lv (.int x :: .int i :: .ref (cxAd X q) :: st) (sI q n i (vp_nar .boolean x) k) := by
  intro H locs ls w r w' hl hR hS hk'
  have hat := hR.2.1 q (hx.lt hR)
  rw [cellOf_bool hs] at hat
  rw [hX.ad hx.small]
  unfold sI gd at hk'
  split at hk'
  · rename_i hb
    refine W.zast hX.1 hX.2.1 hat ((hX.K.2 3 _ rfl).1 n (fun j => .int (gi w q j))) (fun z => by cases z) (by show ¬ (i < 0 ∨ (arrV _ _ _).slots.size ≤ _); rw [arrV_size]; exact hb) rfl rfl hd fun H1 e z oq => ?_
    refine h hb H1 _ ls (si w q i.toNatClampNeg (vp_nar .boolean x)) r w' hl (hR.put z oq rfl ?_ (fun j hj => cellOf_congr (gi_si_ne hj) rfl rfl) (fun o _ h => h)) (S_put hS z oq (Nat.le_add_right _ _)) hk'
    rw [cellOf_bool hs]
    show H1[_]? = some (vp_cell _ _)
    rw [e, vp_cell_i, vp_cell_i, arrV_store, gi_si_at]
    congr 2
    funext j
    by_cases hj : j = i.toNatClampNeg
    · subst hj
      simp [updV, upd]
      rfl
    · simp [updV, upd, hj]
  · cases hk'
theorem tr_last {i : Int32} {x : Int64} (hX : Good X own cc ret) (hd : decode cc pc = .ok (.lastore, 1)) (hs : SH q = (12, n)) (hx : Ex (cxG X) q) (h : inb i n → Tr X enc cu su (pc + 1) lv st k) : Tr X enc cu su pc lv (.long x :: .int i :: .ref (cxAd X q) :: st) (sL q n i x k) := by
  intro H locs ls w r w' hl hR hS hk'
  have hat := hR.2.1 q (hx.lt hR)
  rw [cellOf_long hs] at hat
  rw [hX.ad hx.small]
  unfold sL gd at hk'
  split at hk'
  · rename_i hb
    refine W.last hX.1 hX.2.1 hat ((hX.K.2 2 _ rfl).1 n (fun j => .long (gl w q j))) (fun z => by cases z) (by show ¬ (i < 0 ∨ (arrV _ _ _).slots.size ≤ _); rw [arrV_size]; exact hb) rfl rfl hd fun H1 e z oq => ?_
    refine h hb H1 _ ls (sl w q i.toNatClampNeg x) r w' hl (hR.put z oq rfl ?_ (fun j hj => cellOf_congr rfl (gl_sl_ne hj) rfl) (fun o _ h => h)) (S_put hS z oq (Nat.le_add_right _ _)) hk'
    rw [cellOf_long hs]
    show H1[_]? = some (vp_cell _ _)
    rw [e, vp_cell_l, vp_cell_l, arrV_store, gl_sl_at]
    congr 2
    funext j
    by_cases hj : j = i.toNatClampNeg
    · subst hj
      simp [updV, vp_updL]
    · simp [updV, vp_updL, hj]
  · cases hk'
end RLH
end
section
/-! returns, loops, calls, field writes -/
theorem ts_good : ∀ w ∈ wsL_law, ((w.onTables && w.keeps) = true ∨ ∃ ty, w = .arrayClass ty) := by
  have h : wsL_law.all goodWord = true := by decide +kernel
  exact fun w hw => good_of_word (List.all_eq_true.mp h w hw)
theorem ts_in {w : Cond} (h : w ∈ wsL_law) : w ∈ wsL_law ∧ ((w.onTables && w.keeps) = true ∨ ∃ ty, w = .arrayClass ty) := ⟨h, ts_good w h⟩
theorem gd_M {y : MethodName} {b : ByteArray} {n : Nat} {r : Option FieldType} (hc : Cond.code y b n r ∈ wsL_law) : GoodIn wsL_law (Cond.code y b n r :: wsL_law) := fun w hw => (List.mem_cons.mp hw).elim (fun e => by rw [e]; exact ts_in hc) (fun h => ts_in h)
theorem gd_V {own C : String} {idx : Nat} {y : MethodName} {b : ByteArray} {n : Nat} {r : Option FieldType} (h1 : Cond.methodLink own idx y ∈ wsL_law) (h2 : Cond.instanceMethod y ∈ wsL_law) (h3 : Cond.selects C y y ∈ wsL_law) (h4 : Cond.initialized C ∈ wsL_law) (hc : Cond.code y b n r ∈ wsL_law) : GoodIn wsL_law (wsV own idx C y (Cond.code y b n r :: wsL_law)) := by
  intro w hw
  unfold wsV at hw
  rcases List.mem_append.mp hw with h | h
  · simp only [List.mem_cons, List.not_mem_nil, or_false] at h
    rcases h with e | e | e | e <;> (rw [e]; exact ts_in (by assumption))
  · exact gd_M hc w h
theorem gd_S {own : String} {idx : Nat} {y : MethodName} {b : ByteArray} {n : Nat} {r : Option FieldType} (h1 : Cond.methodLink own idx y ∈ wsL_law) (h2 : Cond.static y ∈ wsL_law) (h3 : Cond.initialized own ∈ wsL_law) (hc : Cond.code y b n r ∈ wsL_law) : GoodIn wsL_law (wsS own idx y (Cond.code y b n r :: wsL_law)) := by
  intro w hw
  unfold wsS at hw
  rcases List.mem_append.mp hw with h | h
  · simp only [List.mem_cons, List.not_mem_nil, or_false] at h
    rcases h with e | e | e <;> (rw [e]; exact ts_in (by assumption))
  · exact gd_M hc w h
/-- what is known of a state's tables stays: at another state whose heap is the same outside ours -/
theorem nw_on : ∀ w ∈ NW, w.onTables = true := by decide +kernel
theorem nw_warm {s U : State} (hW : s.WarmedH U.vm) (h : ∀ w ∈ NW, va_Nw w s) : ∀ w ∈ NW, va_Nw w U := by
  intro w hw
  have hz := h w hw
  simp only [NW, List.mem_cons, List.not_mem_nil, or_false] at hw
  rcases hw with e | e | e | e | e | e <;> (rw [e] at hz ⊢; exact hz.warmM hW)
theorem KS.to {E : Ev} {s U : State} {H : Heap} {locs : List Loc} (h : KS E s) (hW : s.WarmedH U.vm) (hS : va_S (fun q => E.2.2.2 ≤ q) s.heap H locs) (hU : U.heap = H) : KS E U := by
  obtain ⟨h1, h2, h3, h4⟩ := h
  refine ⟨h1.moved hW.alike, h2, fun j hj => ?_, nw_warm hW h4⟩
  obtain ⟨a, b⟩ := h3 j hj
  refine ⟨?_, ?_⟩
  · obtain ⟨cf, kf, fi, f, ad, cell, g1, g2, g3, g4, g5, g6, g7, g8⟩ := va_Z.moved (H := s.heap) hW.alike a
    exact ⟨cf, kf, fi, f, ad, cell, g1, g2, g3, g4, by rw [hU, hS.2.1 ad (Array.getElem?_eq_some_iff.mp g5).1 g8]; exact g5, g6, g7, g8⟩
  · obtain ⟨cell, g1, g2, g3, g4, g5, g6, g7⟩ := va_T.moved (H := s.heap) hW.alike b
    exact ⟨cell, by rw [hU, hS.2.1 _ (Array.getElem?_eq_some_iff.mp g1).1 g7]; exact g1, g2, g3, g4, g5, g6, g7⟩
theorem KS.call {E : Ev} {U : State} {g : JFrame} {mk : MethodId} {a : Array Value} (h : KS E U) : KS E (U.calling g mk a) := by
  obtain ⟨h1, h2, h3, h4⟩ := h
  refine ⟨h1.moved (u := U) (U := U.calling g mk a) (Vm.Alike.refl U.vm), h2, fun j hj => ⟨va_Z.moved (u := U) (U := U.calling g mk a) (H := U.heap) (Vm.Alike.refl U.vm) (h3 j hj).1, va_T.moved (u := U) (U := U.calling g mk a) (H := U.heap) (Vm.Alike.refl U.vm) (h3 j hj).2⟩, fun w hw => va_Nw.same (nw_on w hw) (u := U) (U := U.calling g mk a) rfl (h4 w hw)⟩
theorem blind {E : Ev} {G : Nat → Prop} {w : Wd} {av : List Value} : FrameBlind (va_Pc av (fun U => Rel E G w U.heap ∧ KS E U)) := fun _ _ _ _ h => ⟨h.1, h.2.1, h.2.2.call⟩
section RLC
variable {X : Cx} {R : Type} {enc : R → Option Value} {cu su pc : Nat} {lv lv' : List (Nat × Value)} {st : List Value} {k : M R} {own : String} {cc : ByteArray} {ret : Option FieldType}
theorem tr_iret {v : Int32} (hX : Good X own cc (some .int)) (hd : decode cc pc = .ok (.ireturn, 1)) : Tr X eI (cxMc X) (cxMs X) pc lv [.int v] (rt v) := by
  intro H locs ls w r w' hl hR hS hk
  cases hk
  exact W.iret hX.1 hX.2.1 hX.2.2.2.2.2.1 (fun t ht hW => ⟨rfl, by rw [ht]; exact hR, hS.F ht⟩) hS.2.2 hd hX.2.2.2.2.2.2.1
theorem tr_zret {v : Int32} (hX : Good X own cc (some .boolean)) (hd : decode cc pc = .ok (.ireturn, 1)) : Tr X eI (cxMc X) (cxMs X) pc lv [.int v] (gd (v = 0 ∨ v = 1) (rt v)) := by
  intro H locs ls w r w' hl hR hS hk
  unfold gd at hk
  split at hk
  · rename_i hv
    cases hk
    exact W.zret hX.1 hX.2.1 hX.2.2.2.2.2.1 (by rcases hv with e | e <;> (rw [e]; rfl)) (fun t ht hW => ⟨rfl, by rw [ht]; exact hR, hS.F ht⟩) hS.2.2 hd hX.2.2.2.2.2.2.1
  · cases hk
theorem tr_lret {v : Int64} (hX : Good X own cc (some .long)) (hd : decode cc pc = .ok (.lreturn, 1)) : Tr X eL (cxMc X) (cxMs X) pc lv [.long v] (rt v) := by
  intro H locs ls w r w' hl hR hS hk
  cases hk
  exact W.lret hX.1 hX.2.1 hX.2.2.2.2.2.1 (fun t ht hW => ⟨rfl, by rw [ht]; exact hR, hS.F ht⟩) hS.2.2 hd hX.2.2.2.2.2.2.1
theorem tr_vret (hX : Good X own cc none) (hd : decode cc pc = .ok (.return_, 1)) : Tr X eU (cxMc X) (cxMs X) pc lv [] (rt ()) := by
  intro H locs ls w r w' hl hR hS hk
  cases hk
  exact W.vret hX.1 hX.2.1 hX.2.2.2.2.2.1 (fun t ht hW => ⟨rfl, by rw [ht]; exact hR, hS.F ht⟩) hS.2.2 hd hX.2.2.2.2.2.2.1
theorem tr_aret {q : Nat} {C : String} (hX : Good X own cc (some (.object C))) (hd : decode cc pc = .ok (.areturn, 1)) : Tr X (eR (cxAd X)) (cxMc X) (cxMs X) pc lv [.ref (cxAd X q)] (rt q) := by
  intro H locs ls w r w' hl hR hS hk
  cases hk
  exact W.aret hX.1 hX.2.1 hX.2.2.2.2.2.1 (Or.inl ⟨C, rfl⟩) (Or.inr ⟨_, rfl⟩) (fun t ht hW => ⟨rfl, by rw [ht]; exact hR, hS.F ht⟩) hS.2.2 hd hX.2.2.2.2.2.2.1
theorem tr_none : Tr X enc cu su pc lv st (fun _ => none) := fun H locs ls w r w' hl hR hS hk => by cases hk
section FIX
variable {A B C D E F' : Type}
theorem tr_fix0 {lv : List (Nat × Value)} {F : M R → M R} (h : ∀ self, Tr X enc cu su pc lv st self → Tr X enc cu su pc lv st (F self)) : ∀ n, Tr X enc cu su pc lv st (fix0 n F)
  | 0 => tr_none
  | n + 1 => h _ (tr_fix0 h n)
theorem tr_fix1 {lvf : A → List (Nat × Value)} {F : (A → M R) → A → M R} (h : ∀ self, (∀ a, Tr X enc cu su pc (lvf a) st (self a)) → ∀ a, Tr X enc cu su pc (lvf a) st (F self a)) : ∀ n a, Tr X enc cu su pc (lvf a) st (fix1 n F a)
  | 0, _ => tr_none
  | n + 1, a => h _ (tr_fix1 h n) a
theorem tr_fix2 {lvf : A → B → List (Nat × Value)} {F : (A → B → M R) → A → B → M R} (h : ∀ self, (∀ a b, Tr X enc cu su pc (lvf a b) st (self a b)) → ∀ a b, Tr X enc cu su pc (lvf a b) st (F self a b)) : ∀ n a b, Tr X enc cu su pc (lvf a b) st (fix2 n F a b)
  | 0, _, _ => tr_none
  | n + 1, a, b => h _ (tr_fix2 h n) a b
theorem tr_fix3 {lvf : A → B → C → List (Nat × Value)} {F : (A → B → C → M R) → A → B → C → M R} (h : ∀ self, (∀ a b c, Tr X enc cu su pc (lvf a b c) st (self a b c)) → ∀ a b c, Tr X enc cu su pc (lvf a b c) st (F self a b c)) : ∀ n a b c, Tr X enc cu su pc (lvf a b c) st (fix3 n F a b c)
  | 0, _, _, _ => tr_none
  | n + 1, a, b, c => h _ (tr_fix3 h n) a b c
theorem tr_fix4 {lvf : A → B → C → D → List (Nat × Value)} {F : (A → B → C → D → M R) → A → B → C → D → M R} (h : ∀ self, (∀ a b c d, Tr X enc cu su pc (lvf a b c d) st (self a b c d)) → ∀ a b c d, Tr X enc cu su pc (lvf a b c d) st (F self a b c d)) : ∀ n a b c d, Tr X enc cu su pc (lvf a b c d) st (fix4 n F a b c d)
  | 0, _, _, _, _ => tr_none
  | n + 1, a, b, c, d => h _ (tr_fix4 h n) a b c d
theorem tr_fix5 {lvf : A → B → C → D → E → List (Nat × Value)} {F : (A → B → C → D → E → M R) → A → B → C → D → E → M R} (h : ∀ self, (∀ a b c d e, Tr X enc cu su pc (lvf a b c d e) st (self a b c d e)) → ∀ a b c d e, Tr X enc cu su pc (lvf a b c d e) st (F self a b c d e)) : ∀ n a b c d e, Tr X enc cu su pc (lvf a b c d e) st (fix5 n F a b c d e)
  | 0, _, _, _, _, _ => tr_none
  | n + 1, a, b, c, d, e => h _ (tr_fix5 h n) a b c d e
theorem tr_fix6 {lvf : A → B → C → D → E → F' → List (Nat × Value)} {F : (A → B → C → D → E → F' → M R) → A → B → C → D → E → F' → M R} (h : ∀ self, (∀ a b c d e f, Tr X enc cu su pc (lvf a b c d e f) st (self a b c d e f)) → ∀ a b c d e f, Tr X enc cu su pc (lvf a b c d e f) st (F self a b c d e f)) : ∀ n a b c d e f, Tr X enc cu su pc (lvf a b c d e f) st (fix6 n F a b c d e f)
  | 0, _, _, _, _, _, _ => tr_none
  | n + 1, a, b, c, d, e, f => h _ (tr_fix6 h n) a b c d e f
end FIX
/-- behind a call -/
theorem tr_back {S : Type} {enc' : S → Option Value} {f : M S} {K : S → M R} {mc ms : Nat} {a : Array Value} {G : Nat → Prop} {H : Heap} {locs : List Loc} {ls : Array Slot} {w : Wd} {r : R} {w' : Wd} {st0 : List Value} {v0 : S} {w0 : Wd} (hl : lv_has ls (cxN X) lv) (hS : va_S (fun q => cxBs X ≤ q) (cxS X).heap H locs) (hGG : ∀ H1, Rel (cxV X) G w0 H1 → Rel (cxV X) (cxG X) w0 H1)
    (hr : va_Run (cxP X) (cxL X) (cxE X) (cxR X) (cxS X) (cxM X) (cxA X) (cxB X) (cxMe X) (cxC X) H locs cu su mc ms (F0 (cxM X) pc ls st0) st (Qr (cxV X) G (enc' v0) w0 a) (fun q => cxBs X ≤ q))
    (h : Tr X enc (cu + mc) (su + ms) (pc + 3) lv ((enc' v0).toList ++ st) (K v0)) (hk : K v0 w0 = some (r, w')) :
    W (cxP X) (cxL X) (cxE X) (cxR X) (cxS X) (cxM X) (cxA X) (cxB X) (cxMe X) (cxC X) H locs cu su (MQ (cxB X) (Qr (cxV X) (cxG X) (enc r) w') (cxA X) (cxS X) (cxMc X) (cxMs X) (fun q => cxBs X ≤ q)) (F0 (cxM X) pc ls st0) := by
  intro T hT Y
  obtain ⟨v, st₀, t, T', L, h0, X', hL, e1, e2, ⟨hv, hRel, hz, hkk⟩, stp⟩ := hr T hT Y
  cases hv
  rw [h0] at hz hkk
  have hS1 : va_S (fun q => cxBs X ≤ q) (cxS X).heap T'.heap (locs ++ L) := ⟨Nat.le_trans hS.1 (by rw [e1]; exact hz), fun q h1 h2 => by rw [e1, hkk q (Nat.lt_of_lt_of_le h1 hS.1) h2]; exact hS.2.1 q h1 h2, fun q hq => by
      rcases List.mem_append.mp hq with h | h
      · exact hS.2.2 q h
      · exact hL q h⟩
  obtain ⟨t2, a1, b1⟩ := h T'.heap (locs ++ L) ls w0 r w' hl (hGG _ (by rw [e1]; exact hRel)) hS1 hk T' rfl X'
  exact ⟨t2, stp t2 a1, b1⟩
theorem bnd_some {S : Type} {f : M S} {K : S → M R} {w : Wd} {r : R} {w' : Wd} (h : bnd f K w = some (r, w')) : ∃ v w0, f w = some (v, w0) ∧ K v w0 = some (r, w') := by
  unfold bnd at h
  cases hf : f w with
  | none => rw [hf] at h; cases h
  | some p =>
    obtain ⟨a, w1⟩ := p
    rw [hf] at h
    exact ⟨a, w1, rfl, h⟩
variable {S : Type} {enc' : S → Option Value} {f : M S} {K : S → M R} {q ci N index n maxL : Nat} {C : String} {T : u_T} {y : MethodName} {bytes : ByteArray} {ret' : Option FieldType} {rm : Room} {As : List Value}
/-- invokevirtual -/
theorem tr_callV (n : Nat) (hX : Good X own cc ret) (hd : decode cc pc = .ok (.invokevirtual index, 3)) (hO : Ok (cxL X) (cxV X) (cxG X) y bytes maxL ret' rm enc' (.ref (cxAd X q) :: As) f) (hs : SH q = (ci, N)) (hci : ci < 10) (hc : vwCl[ci]? = some (C, T, N)) (hx : Ex (cxG X) q)
    (h1 : Cond.methodLink own index y ∈ wsL_law) (h2 : Cond.instanceMethod y ∈ wsL_law) (h3 : Cond.selects C y y ∈ wsL_law) (h4 : Cond.initialized C ∈ wsL_law) (h5 : Cond.code y bytes maxL ret' ∈ wsL_law)
    (hy : y.cls = C ∧ y.cls ≠ "java/lang/invoke/MethodHandle" ∧ y.cls ≠ "java/lang/invoke/VarHandle" ∧ (parseMethodDescriptor y.desc).map (fun d => d.parameters.length) = some n) (hn : As.length = n)
    (hR1 : rm.frames + 1 ≤ (cxR X).frames ∧ 8 + (maxL + 11) + rm.locals ≤ (cxR X).locals) (hR2 : cu + rm.cells ≤ (cxR X).cells ∧ su + rm.slots ≤ (cxR X).slots) (hW : (st.map fun v => v.category).sum ≤ 8)
    {st0 : List Value} (hst : st0 = As.reverse ++ .ref (cxAd X q) :: st) (h : ∀ v, Tr X enc (cu + rm.cells) (su + rm.slots) (pc + 3) lv ((enc' v).toList ++ st) (K v)) : Tr X enc cu su pc lv st0 (bnd f K) := by
  subst hst
  intro H locs ls w r w' hl hR hS hk'
  obtain ⟨v0, w0, hf, hk2⟩ := bnd_some hk'
  have hat := hR.2.1 q (hx.lt hR)
  rw [cellOf_obj hs hci] at hat
  have had : cxAd X q = cxBs X + q := hX.ad hx.small
  refine tr_back (f := f) (a := (.ref (cxAd X q) :: As).toArray) (G := cxG X) (w := w) hl hS (fun _ h => h) ?_ (h v0) hk2
  refine va_runV (As := As) (C := C) (b := cxAd X q) (rest := st) ⟨hX.1, hX.2.1, hX.2.2.1, hX.ow, hX.ts⟩ (hO w v0 w0 hf) (cwV n hX.ts (gd_V h1 h2 h3 h4 h5) rfl rfl rfl hy hR1) ⟨blind, ?_, fun U hU hW => ⟨rfl, by rw [hU]; exact hR, hX.2.2.2.2.2.2.2.to hW hS hU⟩⟩ rfl hn hl.1 rfl (lv_room hW) hd hR2
  rw [had]
  exact va_recv hX.K (va_P1 hat) hc (q0 := 0) rfl
/-- invokestatic, of the own class -/
theorem tr_callS (n : Nat) (hX : Good X own cc ret) (hd : decode cc pc = .ok (.invokestatic index, 3)) (hO : Ok (cxL X) (cxV X) (cxG X) y bytes maxL ret' rm enc' As f)
    (h1 : Cond.methodLink own index y ∈ wsL_law) (h2 : Cond.static y ∈ wsL_law) (h3 : Cond.initialized own ∈ wsL_law) (h5 : Cond.code y bytes maxL ret' ∈ wsL_law)
    (hy : y.cls = own ∧ y.cls ≠ "java/lang/invoke/MethodHandle" ∧ y.cls ≠ "java/lang/invoke/VarHandle" ∧ (parseMethodDescriptor y.desc).map (fun d => d.parameters.length) = some n) (hn : As.length = n)
    (hR1 : rm.frames + 1 ≤ (cxR X).frames ∧ 8 + (maxL + 11) + rm.locals ≤ (cxR X).locals) (hR2 : cu + rm.cells ≤ (cxR X).cells ∧ su + rm.slots ≤ (cxR X).slots) (hW : (st.map fun v => v.category).sum ≤ 8)
    {st0 : List Value} (hst : st0 = As.reverse ++ st) (h : ∀ v, Tr X enc (cu + rm.cells) (su + rm.slots) (pc + 3) lv ((enc' v).toList ++ st) (K v)) : Tr X enc cu su pc lv st0 (bnd f K) := by
  subst hst
  intro H locs ls w r w' hl hR hS hk'
  obtain ⟨v0, w0, hf, hk2⟩ := bnd_some hk'
  refine tr_back (f := f) (a := As.toArray) (G := cxG X) (w := w) hl hS (fun _ h => h) ?_ (h v0) hk2
  exact va_runS (As := As) (rest := st) ⟨hX.1, hX.2.1, hX.2.2.1, hX.ow, hX.ts⟩ (hO w v0 w0 hf) (cwS n hX.ts (gd_S h1 h2 h3 h5) rfl rfl rfl hy hR1) ⟨blind, fun U hU hW => ⟨rfl, by rw [hU]; exact hR, hX.2.2.2.2.2.2.2.to hW hS hU⟩⟩ rfl hn hl.1 rfl (lv_room hW) hd hR2
/-- invokestatic, of another class -/
theorem tr_callSO (n : Nat) (hX : Good X own cc ret) (hd : decode cc pc = .ok (.invokestatic index, 3)) (hO : Ok (cxL X) (cxV X) (cxG X) y bytes maxL ret' rm enc' As f)
    (h1 : Cond.methodLink own index y ∈ wsL_law) (h2 : Cond.static y ∈ wsL_law) (h3 : Cond.initialized y.cls ∈ wsL_law) (h5 : Cond.code y bytes maxL ret' ∈ wsL_law)
    (hy : y.cls ≠ "java/lang/invoke/MethodHandle" ∧ y.cls ≠ "java/lang/invoke/VarHandle" ∧ (parseMethodDescriptor y.desc).map (fun d => d.parameters.length) = some n) (hn : As.length = n)
    (hR1 : rm.frames + 1 ≤ (cxR X).frames ∧ 8 + (maxL + 11) + rm.locals ≤ (cxR X).locals) (hR2 : cu + rm.cells ≤ (cxR X).cells ∧ su + rm.slots ≤ (cxR X).slots) (hW : (st.map fun v => v.category).sum ≤ 8)
    {st0 : List Value} (hst : st0 = As.reverse ++ st) (h : ∀ v, Tr X enc (cu + rm.cells) (su + rm.slots) (pc + 3) lv ((enc' v).toList ++ st) (K v)) : Tr X enc cu su pc lv st0 (bnd f K) := by
  subst hst
  intro H locs ls w r w' hl hR hS hk'
  obtain ⟨v0, w0, hf, hk2⟩ := bnd_some hk'
  refine tr_back (f := f) (a := As.toArray) (G := cxG X) (w := w) hl hS (fun _ h => h) ?_ (h v0) hk2
  exact va_runS (As := As) (rest := st) ⟨hX.1, hX.2.1, hX.2.2.1, hX.ow, hX.ts⟩ (hO w v0 w0 hf) ⟨callB_of n hX.ts (gd_M h5) rfl rfl rfl (hX.ts _ h3) (hX.ts _ h1) hy hR1, hX.ts _ h2⟩ ⟨blind, fun U hU hW => ⟨rfl, by rw [hU]; exact hR, hX.2.2.2.2.2.2.2.to hW hS hU⟩⟩ rfl hn hl.1 rfl (lv_room hW) hd hR2
/-- invokestatic of a nest mate's private method -/
theorem tr_callSN (n : Nat) {host : String} (hX : Good X own cc ret) (hd : decode cc pc = .ok (.invokestatic index, 3)) (hO : Ok (cxL X) (cxV X) (cxG X) y bytes maxL ret' rm enc' As f)
    (h1 : Cond.methodLinkNest own index y host ∈ NW) (h2 : Cond.static y ∈ wsL_law) (h3 : Cond.initialized y.cls ∈ wsL_law) (h5 : Cond.code y bytes maxL ret' ∈ wsL_law)
    (hy : y.cls ≠ "java/lang/invoke/MethodHandle" ∧ y.cls ≠ "java/lang/invoke/VarHandle" ∧ (parseMethodDescriptor y.desc).map (fun d => d.parameters.length) = some n) (hn : As.length = n)
    (hR1 : rm.frames + 1 ≤ (cxR X).frames ∧ 8 + (maxL + 11) + rm.locals ≤ (cxR X).locals) (hR2 : cu + rm.cells ≤ (cxR X).cells ∧ su + rm.slots ≤ (cxR X).slots) (hW : (st.map fun v => v.category).sum ≤ 8)
    {st0 : List Value} (hst : st0 = As.reverse ++ st) (h : ∀ v, Tr X enc (cu + rm.cells) (su + rm.slots) (pc + 3) lv ((enc' v).toList ++ st) (K v)) : Tr X enc cu su pc lv st0 (bnd f K) := by
  subst hst
  intro H locs ls w r w' hl hR hS hk'
  obtain ⟨v0, w0, hf, hk2⟩ := bnd_some hk'
  refine tr_back (f := f) (a := As.toArray) (G := cxG X) (w := w) hl hS (fun _ h => h) ?_ (h v0) hk2
  exact va_runSN (As := As) (rest := st) (host := host) ⟨hX.1, hX.2.1, hX.2.2.1, hX.ow, hX.ts⟩ (hO w v0 w0 hf) ⟨va_cnB n hX.ts (gd_M h5) rfl rfl rfl (hX.2.2.2.2.2.2.2.2.2.2 _ h1) (hX.ts _ h3) hy hR1, hX.ts _ h2, trivial⟩ ⟨blind, fun U hU hW => ⟨rfl, by rw [hU]; exact hR, hX.2.2.2.2.2.2.2.to hW hS hU⟩⟩ rfl hn hl.1 rfl (lv_room hW) hd hR2
/-- a method's contract out of its walk -/
theorem ok_of {l : Launch} {E : Ev} {G : Nat → Prop} {y : MethodName} {cc : ByteArray} {maxL : Nat} {ret : Option FieldType} {rm : Room} {R : Type} {enc : R → Option Value} {av : List Value} {f : M R} (hy : plainName y.cls = true) (hav : (lg_sl av).length ≤ maxL)
    (h : ∀ X : Cx, Good X y.cls cc ret → cxL X = l → cxV X = E → cxG X = G → cxN X = maxL → cxMc X = rm.cells → cxMs X = rm.slots → cxR X = rm → Tr X enc 0 0 0 (lv_args 0 av) [] f) : Ok l E G y cc maxL ret rm enc av f := by
  intro w r w' hf
  refine Met.ofW (cc := cc) (maxL := maxL) (ret := ret) hy rfl ?_
  intro p e s m args below meth c s₁ B hml hv
  obtain ⟨rfl, hR, hKS⟩ := hv
  have hts := atoms_spec (ws := Cond.code y cc maxL ret :: wsL_law) B.pre
  have hl := lv_entry av (n := maxL) hav
  rw [lg_entry_eq]
  exact h ((p, l, e, rm), (s, m, av.toArray, below), (meth, c), E, (G, maxL, rm.cells, rm.slots)) ⟨B.exec, B.bytes, hml, findClass_of_methodNamed B.named, fun w hw => hts w (List.mem_cons_of_mem _ hw), B.returns, B.notSynchronized, hKS⟩ rfl rfl rfl rfl rfl rfl rfl s.heap [] _ w r w' hl hR va_S.rf hf
end RLC
end
section
/-! field writes, the library's methods, statics, switches -/
theorem fk_len : ∀ ci, ci < 10 → ∀ C T N, vwCl[ci]? = some (C, T, N) → (fkinds ci).length = N := by
  intro ci hci C T N h
  rcases (by omega : ci = 0 ∨ ci = 1 ∨ ci = 2 ∨ ci = 3 ∨ ci = 4 ∨ ci = 5 ∨ ci = 6 ∨ ci = 7 ∨ ci = 8 ∨ ci = 9) with rfl | rfl | rfl | rfl | rfl | rfl | rfl | rfl | rfl | rfl <;> (cases h; rfl)
section RLM
variable {X : Cx} {R : Type} {enc : R → Option Value} {cu su pc : Nat} {lv lv' : List (Nat × Value)} {st : List Value} {k : M R} {own : String} {cc : ByteArray} {ret : Option FieldType}
variable {q ci k0 N index n : Nat} {C : String} {T : u_T}
/-- a field is written: what the object's cell is then -/
theorem put_cell {w w1 : Wd} {H1 : Heap} {cell : Cell} {t0 : Nat} {v : Value} (hX : Good X own cc ret) (hs : SH q = (ci, N)) (hci : ci < 10) (hc : vwCl[ci]? = some (C, T, N)) (hin : ∀ w ∈ u_ws C T N, w ∈ wsL_law) (ty0 : Nat → FieldType) (hty : ∀ k, k < N → parseFieldDescriptor (T k).2.2.1 = some (ty0 k)) (hnm : ∀ a, a < N → ∀ b, b < N → a ≠ b → (T a).2.1 ≠ (T b).2.1) (hk : k0 < N) (hf : (fkinds ci)[k0]? = some t0)
    (q2 : cell.cls = (cxV X).1.1 ci) (q3 : cell.vm = .none) (q4 : ∀ j, j < N → cell.slots[(cxV X).1.2 ci j]? = some (vp_V (fvl (cxAd X) w q 0 (fkinds ci)) j)) (e1 : H1[cxBs X + q]? = some (cell.setSlot ((cxV X).1.2 ci k0) v))
    (hv : fv (cxAd X) w1 q k0 t0 = v) (hne : ∀ j t, j ≠ k0 → fv (cxAd X) w1 q j t = fv (cxAd X) w q j t) : va_at (cxV X).1 vwCl (cxBs X + q, cellOf (cxV X).2.1 (cxV X).2.2.1 w1 q) H1 := by
  rw [cellOf_obj hs hci]
  have hap := va_apart (own := own) hX.ts hin ty0 hty hnm hX.K hc
  refine ⟨_, hc, t_OB.to (V := updV (vp_V (fvl (cxAd X) w q 0 (fkinds ci))) k0 v) ⟨_, e1, q2, q3, t_set q4 hap hk v⟩ (fun j hj => ?_)⟩
  have hlen := fk_len ci hci C T N hc
  obtain ⟨t, ht⟩ : ∃ t, (fkinds ci)[j]? = some t := ⟨_, List.getElem?_eq_getElem (by rw [hlen]; exact hj)⟩
  rw [fvl_V ht]
  unfold updV
  by_cases e : j = k0
  · subst e
    rw [if_pos rfl]
    cases hf.symm.trans ht
    exact hv.symm
  · rw [if_neg e, fvl_V ht, hne j t e]
theorem tr_putI {x : Int32} {ty : FieldType} (hX : Good X own cc ret) (hd : decode cc pc = .ok (.putfield index, 3)) (hs : SH q = (ci, N)) (hci : ci < 10) (hc : vwCl[ci]? = some (C, T, N)) (hin : ∀ w ∈ u_ws C T N, w ∈ wsL_law) (ty0 : Nat → FieldType) (hty : ∀ k, k < N → parseFieldDescriptor (T k).2.2.1 = some (ty0 k)) (hnm : ∀ a, a < N → ∀ b, b < N → a ≠ b → (T a).2.1 ≠ (T b).2.1) (hk : k0 < N) (hf : (fkinds ci)[k0]? = some 0) (hx : Ex (cxG X) q) (hw : Cond.fieldLink own index (T k0).1 (T k0).2.1 (T k0).2.2.1 ∈ wsL_law) (hfin : (T k0).2.2.2 = false) (hp : parseFieldDescriptor (T k0).2.2.1 = some ty) (hn : narrow ty (.int x) = .int x) (hfit : fits ty (.int x) = true)
    (h : Tr X enc cu su (pc + 3) lv st k) : Tr X enc cu su pc lv (.int x :: .ref (cxAd X q) :: st) (wI q k0 x k) := by
  intro H locs ls w r w' hl hR hS hk'
  have hat := hR.2.1 q (hx.lt hR)
  rw [cellOf_obj hs hci] at hat
  rw [hX.ad hx.small]
  obtain ⟨r0, h1, cell, q1, q2, q3, q4⟩ := hat
  have hr : r0 = (C, T, N) := Option.some.inj (h1.symm.trans hc)
  subst hr
  obtain ⟨hSl, hfc, kC, hkC, hkind⟩ := hX.K.1 ci _ hc
  obtain ⟨cf, kf, fi, f, hi, hsl⟩ := hSl k0 hk
  have hlay := hX.ts _ (hin _ (u_in_lay hk))
  unfold u_lay at hlay
  rw [if_neg (by rw [hfin]; decide)] at hlay
  have hst := (u_facts hfc hkC (u_lays hX.ts hin hk) hi).1
  have h6 := u_store hfc hkC hkind hlay hi hp hn hfit
  refine W.putK hX.1 hX.2.1 (f := f) ⟨hX.ow, hX.ts _ hw, ⟨_, _, _, hi⟩, hst⟩ (by rw [q2]; exact h6) q1 q3 (by rw [hsl]; exact k2_hasslot (q4 k0 hk)) rfl rfl hd fun H1 e1 e2 e3 => ?_
  rw [hsl] at e1 ⊢
  refine h H1 _ ls (si w q k0 x) r w' hl (hR.put e2 e3 rfl (put_cell hX hs hci hc hin ty0 hty hnm hk hf q2 q3 q4 e1 ?_ ?_) (fun j hj => cellOf_congr (gi_si_ne hj) rfl rfl) (fun o _ h => h)) (S_put hS e2 e3 (Nat.le_add_right _ _)) hk'
  · simp [fv, gi, si, up2]
  · intro j t hj
    simp [fv, gi, gl, gr, si, up2, hj]
theorem tr_putL {x : Int64} {ty : FieldType} (hX : Good X own cc ret) (hd : decode cc pc = .ok (.putfield index, 3)) (hs : SH q = (ci, N)) (hci : ci < 10) (hc : vwCl[ci]? = some (C, T, N)) (hin : ∀ w ∈ u_ws C T N, w ∈ wsL_law) (ty0 : Nat → FieldType) (hty : ∀ k, k < N → parseFieldDescriptor (T k).2.2.1 = some (ty0 k)) (hnm : ∀ a, a < N → ∀ b, b < N → a ≠ b → (T a).2.1 ≠ (T b).2.1) (hk : k0 < N) (hf : (fkinds ci)[k0]? = some 1) (hx : Ex (cxG X) q) (hw : Cond.fieldLink own index (T k0).1 (T k0).2.1 (T k0).2.2.1 ∈ wsL_law) (hfin : (T k0).2.2.2 = false) (hp : parseFieldDescriptor (T k0).2.2.1 = some ty) (hn : narrow ty (.long x) = .long x) (hfit : fits ty (.long x) = true)
    (h : Tr X enc cu su (pc + 3) lv st k) : Tr X enc cu su pc lv (.long x :: .ref (cxAd X q) :: st) (wL q k0 x k) := by
  intro H locs ls w r w' hl hR hS hk'
  have hat := hR.2.1 q (hx.lt hR)
  rw [cellOf_obj hs hci] at hat
  rw [hX.ad hx.small]
  obtain ⟨r0, h1, cell, q1, q2, q3, q4⟩ := hat
  have hr : r0 = (C, T, N) := Option.some.inj (h1.symm.trans hc)
  subst hr
  obtain ⟨hSl, hfc, kC, hkC, hkind⟩ := hX.K.1 ci _ hc
  obtain ⟨cf, kf, fi, f, hi, hsl⟩ := hSl k0 hk
  have hlay := hX.ts _ (hin _ (u_in_lay hk))
  unfold u_lay at hlay
  rw [if_neg (by rw [hfin]; decide)] at hlay
  have hst := (u_facts hfc hkC (u_lays hX.ts hin hk) hi).1
  have h6 := u_store hfc hkC hkind hlay hi hp hn hfit
  refine W.putK hX.1 hX.2.1 (f := f) ⟨hX.ow, hX.ts _ hw, ⟨_, _, _, hi⟩, hst⟩ (by rw [q2]; exact h6) q1 q3 (by rw [hsl]; exact k2_hasslot (q4 k0 hk)) rfl rfl hd fun H1 e1 e2 e3 => ?_
  rw [hsl] at e1 ⊢
  refine h H1 _ ls (sl w q k0 x) r w' hl (hR.put e2 e3 rfl (put_cell hX hs hci hc hin ty0 hty hnm hk hf q2 q3 q4 e1 ?_ ?_) (fun j hj => cellOf_congr rfl (gl_sl_ne hj) rfl) (fun o _ h => h)) (S_put hS e2 e3 (Nat.le_add_right _ _)) hk'
  · simp [fv, gl, sl, up2]
  · intro j t hj
    simp [fv, gi, gl, gr, sl, up2, hj]
/-- a reference that may change -/
theorem tr_putT {a : Nat} {ty : FieldType} (hX : Good X own cc ret) (hd : decode cc pc = .ok (.putfield index, 3)) (hs : SH q = (ci, N)) (hci : ci < 10) (hc : vwCl[ci]? = some (C, T, N)) (hin : ∀ w ∈ u_ws C T N, w ∈ wsL_law) (ty0 : Nat → FieldType) (hty : ∀ k, k < N → parseFieldDescriptor (T k).2.2.1 = some (ty0 k)) (hnm : ∀ a, a < N → ∀ b, b < N → a ≠ b → (T a).2.1 ≠ (T b).2.1) (hk : k0 < N) (hf : (fkinds ci)[k0]? = some 2) (hx : Ex (cxG X) q) (hw : Cond.fieldLink own index (T k0).1 (T k0).2.1 (T k0).2.2.1 ∈ wsL_law) (hfin : (T k0).2.2.2 = false) (hp : parseFieldDescriptor (T k0).2.2.1 = some ty) (hn : narrow ty (.ref (cxAd X a)) = .ref (cxAd X a)) (hfit : fits ty (.ref (cxAd X a)) = true) (hcr : ∀ p ∈ CR q, p.1 ≠ k0)
    (h : Tr X enc cu su (pc + 3) lv st k) : Tr X enc cu su pc lv (.ref (cxAd X a) :: .ref (cxAd X q) :: st) (wR q k0 a k) := by
  intro H locs ls w r w' hl hR hS hk'
  have hat := hR.2.1 q (hx.lt hR)
  rw [cellOf_obj hs hci] at hat
  rw [hX.ad hx.small]
  obtain ⟨r0, h1, cell, q1, q2, q3, q4⟩ := hat
  have hr : r0 = (C, T, N) := Option.some.inj (h1.symm.trans hc)
  subst hr
  obtain ⟨hSl, hfc, kC, hkC, hkind⟩ := hX.K.1 ci _ hc
  obtain ⟨cf, kf, fi, f, hi, hsl⟩ := hSl k0 hk
  have hlay := hX.ts _ (hin _ (u_in_lay hk))
  unfold u_lay at hlay
  rw [if_neg (by rw [hfin]; decide)] at hlay
  have hst := (u_facts hfc hkC (u_lays hX.ts hin hk) hi).1
  have h6 := u_store hfc hkC hkind hlay hi hp hn hfit
  refine W.putK hX.1 hX.2.1 (f := f) ⟨hX.ow, hX.ts _ hw, ⟨_, _, _, hi⟩, hst⟩ (by rw [q2]; exact h6) q1 q3 (by rw [hsl]; exact k2_hasslot (q4 k0 hk)) rfl rfl hd fun H1 e1 e2 e3 => ?_
  rw [hsl] at e1 ⊢
  refine h H1 _ ls (sr w q k0 (a + 1)) r w' hl (hR.put e2 e3 rfl (put_cell hX hs hci hc hin ty0 hty hnm hk hf q2 q3 q4 e1 ?_ ?_) (fun j hj => cellOf_congr rfl rfl (gr_sr_ne hj)) ?_) (S_put hS e2 e3 (Nat.le_add_right _ _)) hk'
  · simp [fv, gr, sr, up2, va_rn]
  · intro j t hj
    simp [fv, gi, gl, gr, sr, up2, hj]
  · intro o _ hF
    refine ⟨hF.1, hF.2.1, fun p hp => ?_⟩
    have := hF.2.2 p hp
    simp only [gr, sr, up2]
    by_cases e : o = q
    · subst e
      rw [if_neg (fun z => hcr p hp z.2)]
      exact this
    · rw [if_neg (fun z => e z.1)]
      exact this
/-- a final reference, in its constructor -/
theorem tr_putF {a : Nat} {ty : FieldType} (hX : Good X own cc ret) (hd : decode cc pc = .ok (.putfield index, 3)) (hs : SH q = (ci, N)) (hci : ci < 10) (hc : vwCl[ci]? = some (C, T, N)) (hin : ∀ w ∈ u_ws C T N, w ∈ wsL_law) (ty0 : Nat → FieldType) (hty : ∀ k, k < N → parseFieldDescriptor (T k).2.2.1 = some (ty0 k)) (hnm : ∀ a, a < N → ∀ b, b < N → a ≠ b → (T a).2.1 ≠ (T b).2.1) (hk : k0 < N) (hf : (fkinds ci)[k0]? = some 2) (hw : Cond.fieldLink own index (T k0).1 (T k0).2.1 (T k0).2.2.1 ∈ wsL_law) (hfin : (T k0).2.2.2 = true) (hmn : (cxMe X).name = "<init>") (hdecl : (T k0).1 = own) (hp : parseFieldDescriptor (T k0).2.2.1 = some ty) (hn : narrow ty (.ref (cxAd X a)) = .ref (cxAd X a)) (hfit : fits ty (.ref (cxAd X a)) = true) (hq : q < 1000) (hG : ∀ o, ¬ cxG X o)
    (h : Tr X enc cu su (pc + 3) lv st k) : Tr X enc cu su pc lv (.ref (cxAd X a) :: .ref (cxAd X q) :: st) (fun w => if q < gn w then wR q k0 a k w else none) := by
  intro H locs ls w r w' hl hR hS hk'
  dsimp only at hk'
  split at hk'
  rotate_left
  · cases hk'
  rename_i hlt
  have hat := hR.2.1 q hlt
  rw [cellOf_obj hs hci] at hat
  rw [hX.ad hq]
  obtain ⟨r0, h1, cell, q1, q2, q3, q4⟩ := hat
  have hr : r0 = (C, T, N) := Option.some.inj (h1.symm.trans hc)
  subst hr
  obtain ⟨hSl, hfc, kC, hkC, hkind⟩ := hX.K.1 ci _ hc
  obtain ⟨cf, kf, fi, f, hi, hsl⟩ := hSl k0 hk
  have hlay := hX.ts _ (hin _ (u_in_lay hk))
  unfold u_lay at hlay
  rw [if_pos hfin] at hlay
  have hst := (u_facts hfc hkC (u_lays hX.ts hin hk) hi).1
  have hcf : (cxM X).cls = cf := by
    obtain ⟨_, _, c', _, _, _, -, -, hf', -, -, -, hown2, -⟩ := Cond.laysFinal_spec hlay
    have e1 : c' = cf := by have := hi.symm.trans hf'; simp at this; exact this.1.symm
    rw [hdecl] at hown2
    rw [← e1]; exact Option.some.inj (hX.ow.symm.trans hown2)
  have h6 := u_fits hfc hkC hkind (Or.inr hlay) hi hp hn hfit
  refine W.putFinK hX.1 hX.2.1 hX.ow (hX.ts _ hw) hi hst hcf hmn (by rw [q2]; exact h6) q1 q3 (by rw [hsl]; exact k2_hasslot (q4 k0 hk)) rfl rfl hd fun H1 e1 e2 e3 => ?_
  rw [hsl] at e1 ⊢
  refine h H1 _ ls (sr w q k0 (a + 1)) r w' hl (hR.put e2 e3 rfl (put_cell hX hs hci hc hin ty0 hty hnm hk hf q2 q3 q4 e1 ?_ ?_) (fun j hj => cellOf_congr rfl rfl (gr_sr_ne hj)) (fun o ho _ => (hG o ho).elim)) (S_put hS e2 e3 (Nat.le_add_right _ _)) hk'
  · simp [fv, gr, sr, up2, va_rn]
  · intro j t hj
    simp [fv, gi, gl, gr, sr, up2, hj]
variable {x y : Int32}
theorem tr_max (hX : Good X own cc ret) (hd : decode cc pc = .ok (.invokestatic index, 3)) (hw : Cond.methodLink own index Lib.Math.max.name ∈ wsL_law) (h2 : Cond.static Lib.Math.max.name ∈ wsL_law) (h3 : Cond.initialized "java/lang/Math" ∈ wsL_law) (h4 : Cond.code Lib.Math.max.name Lib.Math.max.code 2 (some .int) ∈ wsL_law) (hR1 : 1 ≤ (cxR X).frames) (hR2 : (st.map fun v => v.category).sum + 13 ≤ (cxR X).locals) (hR3 : cu ≤ (cxR X).cells) (hR4 : su ≤ (cxR X).slots) (h : Tr X enc cu su (pc + 3) lv (.int (if x < y then y else x) :: st) k) : Tr X enc cu su pc lv (.int y :: .int x :: st) k := fun H locs ls w r w' hl hR hS hk => va_mmax hX.1 hX.2.1 (by rw [hX.2.2.1, hl.1]) hX.ow (hX.ts _ hw) (hX.ts _ h2) (hX.ts _ h3) (hX.ts _ h4) hR1 hR2 hR3 hR4 hd (h H locs ls w r w' hl hR hS hk)
theorem tr_min (hX : Good X own cc ret) (hd : decode cc pc = .ok (.invokestatic index, 3)) (hw : Cond.methodLink own index Lib.Math.min.name ∈ wsL_law) (h2 : Cond.static Lib.Math.min.name ∈ wsL_law) (h3 : Cond.initialized "java/lang/Math" ∈ wsL_law) (h4 : Cond.code Lib.Math.min.name Lib.Math.min.code 2 (some .int) ∈ wsL_law) (hR1 : 1 ≤ (cxR X).frames) (hR2 : (st.map fun v => v.category).sum + 13 ≤ (cxR X).locals) (hR3 : cu ≤ (cxR X).cells) (hR4 : su ≤ (cxR X).slots) (h : Tr X enc cu su (pc + 3) lv (.int (if y < x then y else x) :: st) k) : Tr X enc cu su pc lv (.int y :: .int x :: st) k := fun H locs ls w r w' hl hR hS hk => va_mmin hX.1 hX.2.1 (by rw [hX.2.2.1, hl.1]) hX.ow (hX.ts _ hw) (hX.ts _ h2) (hX.ts _ h3) (hX.ts _ h4) hR1 hR2 hR3 hR4 hd (h H locs ls w r w' hl hR hS hk)
theorem tr_abs (hX : Good X own cc ret) (hd : decode cc pc = .ok (.invokestatic index, 3)) (hw : Cond.methodLink own index Lib.Math.abs.name ∈ wsL_law) (h2 : Cond.static Lib.Math.abs.name ∈ wsL_law) (h3 : Cond.initialized "java/lang/Math" ∈ wsL_law) (h4 : Cond.code Lib.Math.abs.name Lib.Math.abs.code 1 (some .int) ∈ wsL_law) (hR1 : 1 ≤ (cxR X).frames) (hR2 : (st.map fun v => v.category).sum + 13 ≤ (cxR X).locals) (hR3 : cu ≤ (cxR X).cells) (hR4 : su ≤ (cxR X).slots) (h : Tr X enc cu su (pc + 3) lv (.int (if 0 ≤ x then x else 0 - x) :: st) k) : Tr X enc cu su pc lv (.int x :: st) k := fun H locs ls w r w' hl hR hS hk => va_mabs hX.1 hX.2.1 (by rw [hX.2.2.1, hl.1]) hX.ow (hX.ts _ hw) (hX.ts _ h2) (hX.ts _ h3) (hX.ts _ h4) hR1 hR2 hR3 hR4 hd (h H locs ls w r w' hl hR hS hk)
/-- the three constant rows of Course -/
theorem tr_gets {j : Nat} (hX : Good X own cc ret) (hj : j < 3) (hd : decode cc pc = .ok (.getstatic index, 3)) (hw : Cond.fieldLink own index "SaidWoven$Course" (stN j) "[I" ∈ wsL_law) (h : Tr X enc cu su (pc + 3) lv (.ref (cxAd X (1000 + j)) :: st) k) : Tr X enc cu su pc lv st k := fun H locs ls w r w' hl hR hS hk => va_gets hX.1 hX.2.1 (hX.2.2.2.2.2.2.2.2.2.1 j hj).1 hS hX.ow (hX.ts _ hw) (fun _ h => h) hd (h H locs ls w r w' hl hR hS hk)
theorem tr_tald {p : Nat} {i : Int32} {K : Int32 → M R} (hX : Good X own cc ret) (hd : decode cc pc = .ok (.iaload, 1)) (hp : isP p) (h : inb i (stL (p - 1000)) → Tr X enc cu su (pc + 1) lv (.int (stG (p - 1000) i.toNatClampNeg) :: st) k) : Tr X enc cu su pc lv (.int i :: .ref (cxAd X p) :: st) (gd (inb i (stL (p - 1000))) k) := by
  intro H locs ls w r w' hl hR hS hk'
  unfold gd at hk'
  split at hk'
  · rename_i hb
    have e : p = 1000 + (p - 1000) := by unfold isP at hp; omega
    have hT := (hX.2.2.2.2.2.2.2.2.2.1 (p - 1000) (by unfold isP at hp; omega)).2
    rw [← e] at hT
    exact va_ti hX.1 hX.2.1 hT hS hb rfl hd (h hb H locs ls w r w' hl hR hS hk')
  · cases hk'
theorem tr_tlen {j : Nat} {n : Int32} (hX : Good X own cc ret) (hj : j < 3) (hn : Int32.ofNat (stL j) = n) (hd : decode cc pc = .ok (.arraylength, 1)) (h : Tr X enc cu su (pc + 1) lv (.int n :: st) k) : Tr X enc cu su pc lv (.ref (cxAd X (1000 + j)) :: st) k := by
  intro H locs ls w r w' hl hR hS hk'
  exact va_tlen hX.1 hX.2.1 (hX.2.2.2.2.2.2.2.2.2.1 j hj).2 hS hn hd (h H locs ls w r w' hl hR hS hk')
/-- cases of a switch -/
theorem tr_case {k1 k2 : M R} (c : Int32) (h1 : x = c → Tr X enc cu su pc lv (.int x :: st) k1) (h2 : ¬ x = c → Tr X enc cu su pc lv (.int x :: st) k2) : Tr X enc cu su pc lv (.int x :: st) (if x = c then k1 else k2) := fun H locs ls w r w' hl hR hS hk => by
  by_cases e : x = c
  · exact h1 e H locs ls w r w' hl hR hS (ite_pos' e hk)
  · exact h2 e H locs ls w r w' hl hR hS (ite_neg' e hk)
theorem tr_tabIn {dflt lo hi : Int} {offs : Array Int} {len : Nat} {off : Int} (c : Int32) (tgt : Nat) (hX : Good X own cc ret) (hd : decode cc pc = .ok (.tableswitch dflt lo hi offs, len)) (hx : x = c) (h1 : ¬ c.toInt < lo) (h2 : ¬ hi < c.toInt) (ho : offs[(c.toInt - lo).toNat]? = some off) (ht : (pc : Int) + off = (tgt : Int)) (h : Tr X enc cu su tgt lv st k) : Tr X enc cu su pc lv (.int x :: st) k := fun H locs ls w r w' hl hR hS hk => by
  subst hx
  exact lv_tableIn hX.1 hX.2.1 hd h1 h2 ho ht (h H locs ls w r w' hl hR hS hk)
theorem tr_tabOut {dflt lo hi : Int} {offs : Array Int} {len : Nat} (tgt : Nat) (hX : Good X own cc ret) (hd : decode cc pc = .ok (.tableswitch dflt lo hi offs, len)) (hx : x.toInt < lo ∨ hi < x.toInt) (ht : (pc : Int) + dflt = (tgt : Int)) (h : Tr X enc cu su tgt lv st k) : Tr X enc cu su pc lv (.int x :: st) k := fun H locs ls w r w' hl hR hS hk => lv_tableOut hX.1 hX.2.1 hd hx ht (h H locs ls w r w' hl hR hS hk)
theorem tr_look {dflt : Int} {ps : Array (Int × Int)} {len : Nat} {off : Int} (tgt : Nat) (hX : Good X own cc ret) (hd : decode cc pc = .ok (.lookupswitch dflt ps, len)) (hp : (ps.toList.zip (ps.toList.drop 1)).all (fun (a, next) => a.1 < next.1) = true) (ho : Op.lookupswitch.offset ps.toList dflt x.toInt = off) (ht : (pc : Int) + off = (tgt : Int)) (h : Tr X enc cu su tgt lv st k) : Tr X enc cu su pc lv (.int x :: st) k := fun H locs ls w r w' hl hR hS hk => lv_lookup hX.1 hX.2.1 hd hp ho ht (h H locs ls w r w' hl hR hS hk)
/-- System.arraycopy of ints: what the machine's heap is then -/
theorem W_copyi {p : Program} {l : Launch} {e : Env} {Rm : Room} {s : State} {m : MethodId} {args : Array Value} {below : List Frame} {meth : Method} {c : Code} {H : Heap} {locs : List Loc} {cells slots : Nat} {Q : State → Prop} {ls : Array Slot} {rest : List Value} {D : va_G} {cls : List vw_C} {tys : List (ClassId × FieldType)} (hexec : p.tables.exec = Jvm.exec) (hb : c.code = cc) (hml : c.maxLocals = ls.size) (hown : s.vm.findClass own = some m.cls) (hlink : (Cond.methodLink own index arraycopyName).before args s = true) (hnat : (Cond.native arraycopyName).before args s = true) (hstat : (Cond.static arraycopyName).before args s = true) (hini : (Cond.initialized "java/lang/System").before args s = true)
    (hK : va_K D cls tys s) {a0 a1 : Nat} {c0 : ClassId} {n0 n1 : Nat} {f g : Nat → Int32} (hc0 : H[a0]? = some (vp_cell c0 (n0, .inl f))) (hc1 : H[a1]? = some (vp_cell c0 (n1, .inl g))) (ht : tys[1]? = some (c0, .int))
    {sp dp n : Int32} (h1 : ¬ sp < 0) (h2 : ¬ dp < 0) (h3 : ¬ n < 0) (h4 : sp.toNatClampNeg + n.toNatClampNeg ≤ n0) (h5 : dp.toNatClampNeg + n.toNatClampNeg ≤ n1)
    (hframes : 1 ≤ Rm.frames) (hlocals : (rest.map fun v => v.category).sum + (nativeFrameWords "java/lang/System" "arraycopy" 5 + 11) ≤ Rm.locals) (hdg : decode cc pc = .ok (.invokestatic index, 3))
    (kk : ∀ (H1 : Heap) (locs1 : List Loc), H1[a1]? = some (vp_cell c0 (n1, .inl (va_cpy f g sp.toNatClampNeg dp.toNatClampNeg n.toNatClampNeg))) → H1.size = H.size → (∀ q : Nat, q ≠ a1 → H1[q]? = H[q]?) → (∀ z ∈ locs1, z ∈ locs ∨ z.base = a1) → W p l e Rm s m args below meth c H1 locs1 cells slots Q (F0 m (pc + 3) ls rest)) : W p l e Rm s m args below meth c H locs cells slots Q (F0 m pc ls (.int n :: .int dp :: .ref a1 :: .int sp :: .ref a0 :: rest)) := by
  have nn : ∀ z : Int32, ¬ z < 0 → z.toInt = (z.toNatClampNeg : Int) := by
    intro z hz
    have hz0 : (0 : Int) ≤ z.toInt := by
      have := Int32.not_lt.mp hz
      simpa using Int32.le_iff_toInt_le.mp this
    show z.toInt = ((z.toInt.toNat : Nat) : Int)
    omega
  intro T hT X
  obtain ⟨-, k0, hk0, cm0, hkk0⟩ := (hK.2 1 _ ht).1 n0 (fun j => .int (f j))
  obtain ⟨vm', X', step⟩ := X.arraycopy hexec hown hlink hnat hstat hini (src := a0) (dst := a1) (cs := vp_cell c0 (n0, .inl f)) (cd := vp_cell c0 (n1, .inl g)) (srcPos := sp) (destPos := dp) (n := n) (by rw [hT]; exact hc0) (by rw [hT]; exact hc1)
    (fun _ h => by cases h) (fun _ h => by cases h) (fun h => by cases h) (fun h => by cases h) hk0 hk0 hkk0 hkk0 (by simp) h1 h2 h3
    (by rw [nn sp h1, nn n h3]; show ¬ _ > ((arrV c0 n0 (fun j => .int (f j))).slots.size : Int); rw [arrV_size]; omega)
    (by rw [nn dp h2, nn n h3]; show ¬ _ > ((arrV c0 n1 (fun j => .int (g j))).slots.size : Int); rw [arrV_size]; omega)
    (fun vm₁ _ i hi => by
      have e : (vp_cell c0 (n0, .inl f)).slots.getD (sp.toNatClampNeg + i) .null = .int (f (sp.toNatClampNeg + i)) := by
        show (arrV c0 n0 (fun j => .int (f j))).slots.getD _ _ = _
        rw [Array.getD_eq_getD_getElem?, arrV_read _ _ (by omega)]
        rfl
      refine ⟨?_, ?_⟩
      · rw [e]
        rfl
      · rw [e]
        exact trivial)
    (g := F0 m pc ls (.int n :: .int dp :: .ref a1 :: .int sp :: .ref a0 :: rest)) rfl (by rw [hml]) (rest := rest) rfl (by rw [hb]; exact hdg) hframes (by show 2 * 0 + _ + _ ≤ _; omega)
  have e1 : copied (vp_cell c0 (n0, .inl f)) (vp_cell c0 (n1, .inl g)) sp dp n = vp_cell c0 (n1, .inl (va_cpy f g sp.toNatClampNeg dp.toNatClampNeg n.toNatClampNeg)) := va_copied (fun z => .int z) c0 c0 f g h4
  rw [e1] at X' step
  have hl : a1 < H.size := (Array.getElem?_eq_some_iff.mp hc1).1
  have hheap : ((T.setVm vm').setCell a1 (vp_cell c0 (n1, .inl (va_cpy f g sp.toNatClampNeg dp.toNatClampNeg n.toNatClampNeg)))).heap = H.setIfInBounds a1 (vp_cell c0 (n1, .inl (va_cpy f g sp.toNatClampNeg dp.toNatClampNeg n.toNatClampNeg))) := by rw [← hT]; rfl
  obtain ⟨t, z1, b1⟩ := kk _ _ (show (H.setIfInBounds a1 _)[a1]? = some _ by simp [Array.getElem?_setIfInBounds, hl]) (by simp) (fun q hq => by simp [Array.getElem?_setIfInBounds, Ne.symm hq]) (fun z hz => by
      rcases List.mem_append.mp hz with h | h
      · exact Or.inl h
      · obtain ⟨z', -, hz'⟩ := List.mem_map.mp h
        exact Or.inr (by rw [← hz'])) _ hheap X'
  exact ⟨t, step t z1, b1⟩
theorem tr_copy {a b n0 n1 : Nat} {sp dp m : Int32} (hX : Good X own cc ret) (hd : decode cc pc = .ok (.invokestatic index, 3)) (hw : Cond.methodLink own index arraycopyName ∈ wsL_law) (h2 : Cond.native arraycopyName ∈ wsL_law) (h3 : Cond.static arraycopyName ∈ wsL_law) (h4 : Cond.initialized "java/lang/System" ∈ wsL_law) (hs0 : SH a = (11, n0)) (hs1 : SH b = (11, n1)) (hx0 : Ex (cxG X) a) (hx1 : Ex (cxG X) b)
    (h5 : ¬ sp < 0) (h6 : ¬ dp < 0) (h7 : ¬ m < 0) (h8 : sp.toNatClampNeg + m.toNatClampNeg ≤ n0) (h9 : dp.toNatClampNeg + m.toNatClampNeg ≤ n1) (hR1 : 1 ≤ (cxR X).frames) (hR2 : (st.map fun v => v.category).sum + (nativeFrameWords "java/lang/System" "arraycopy" 5 + 11) ≤ (cxR X).locals)
    (h : Tr X enc cu su (pc + 3) lv st k) : Tr X enc cu su pc lv (.int m :: .int dp :: .ref (cxAd X b) :: .int sp :: .ref (cxAd X a) :: st) (cp a sp.toNatClampNeg b dp.toNatClampNeg m.toNatClampNeg k) := by
  intro H locs ls w r w' hl hR hS hk'
  have hat0 := hR.2.1 a (hx0.lt hR)
  have hat1 := hR.2.1 b (hx1.lt hR)
  rw [cellOf_int hs0] at hat0
  rw [cellOf_int hs1] at hat1
  rw [hX.ad hx0.small, hX.ad hx1.small]
  refine W_copyi hX.1 hX.2.1 (by rw [hX.2.2.1, hl.1]) hX.ow (hX.ts _ hw) (hX.ts _ h2) (hX.ts _ h3) (hX.ts _ h4) hX.K hat0 hat1 rfl h5 h6 h7 h8 h9 hR1 hR2 hd (fun H1 locs1 e z oq hlo => ?_)
  refine h H1 _ ls (cpi w a sp.toNatClampNeg b dp.toNatClampNeg m.toNatClampNeg) r w' hl (hR.put z oq rfl ?_ (fun j hj => cellOf_congr (gi_cpi_ne hj) rfl rfl) (fun o _ h => h)) ⟨by rw [z]; exact hS.1, fun q g1 g2 => ?_, fun z hz => ?_⟩ hk'
  · rw [cellOf_int hs1]
    show H1[_]? = some (vp_cell _ _)
    rw [show gi (cpi w a sp.toNatClampNeg b dp.toNatClampNeg m.toNatClampNeg) b = va_cpy (gi w a) (gi w b) sp.toNatClampNeg dp.toNatClampNeg m.toNatClampNeg from ?_]
    · exact e
    · funext j
      simp [gi, cpi, va_cpy]
  · rw [oq q (fun e => g2 (by rw [e]; exact Nat.le_add_right _ _))]
    exact hS.2.1 q g1 g2
  · rcases hlo z hz with h | h
    · exact hS.2.2 z h
    · rw [h]
      exact Nat.le_add_right _ _
end RLM
end
