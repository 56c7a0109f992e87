section
-- ===== PART A: goes FIRST, ahead of the names: the tables' words, and 'selects' of the private methods out of them =====
/-- a private method of a class that the tables say can be made, by its rows of tables_1 -/
def lw_okq (q : MethodName × Nat) : Prop := (q.1.cls ≠ "java/lang/invoke/MethodHandle" ∧ q.1.cls ≠ "java/lang/invoke/VarHandle") ∧ Cond.instantiable q.1.cls q.2 ∈ tables_1 ∧ Cond.privateMethod q.1 ∈ tables_1 ∧ Cond.instanceMethod q.1 ∈ tables_1
theorem lw_p0 : lw_okq (⟨"OnChin$Text", "readToken", "()V"⟩, 11) := ⟨⟨by decide +kernel, by decide +kernel⟩, List.mem_of_getElem? (i := 88) (by decide +kernel), List.mem_of_getElem? (i := 328) (by decide +kernel), List.mem_of_getElem? (i := 329) (by decide +kernel)⟩
theorem lw_p1 : lw_okq (⟨"OnChin$Text", "readLine", "()Z"⟩, 11) := ⟨⟨by decide +kernel, by decide +kernel⟩, List.mem_of_getElem? (i := 88) (by decide +kernel), List.mem_of_getElem? (i := 338) (by decide +kernel), List.mem_of_getElem? (i := 339) (by decide +kernel)⟩
theorem lw_p2 : lw_okq (⟨"OnChin$Text", "says", "(Ljava/lang/String;)Z"⟩, 11) := ⟨⟨by decide +kernel, by decide +kernel⟩, List.mem_of_getElem? (i := 88) (by decide +kernel), List.mem_of_getElem? (i := 343) (by decide +kernel), List.mem_of_getElem? (i := 344) (by decide +kernel)⟩
theorem lw_p3 : lw_okq (⟨"OnChin$Text", "readThing", "()Z"⟩, 11) := ⟨⟨by decide +kernel, by decide +kernel⟩, List.mem_of_getElem? (i := 88) (by decide +kernel), List.mem_of_getElem? (i := 395) (by decide +kernel), List.mem_of_getElem? (i := 396) (by decide +kernel)⟩
theorem lw_p4 : lw_okq (⟨"OnChin$Text", "readNumber", "(II)Z"⟩, 11) := ⟨⟨by decide +kernel, by decide +kernel⟩, List.mem_of_getElem? (i := 88) (by decide +kernel), List.mem_of_getElem? (i := 399) (by decide +kernel), List.mem_of_getElem? (i := 400) (by decide +kernel)⟩
theorem lw_p5 : lw_okq (⟨"OnChin$Text", "number", "()I"⟩, 11) := ⟨⟨by decide +kernel, by decide +kernel⟩, List.mem_of_getElem? (i := 88) (by decide +kernel), List.mem_of_getElem? (i := 403) (by decide +kernel), List.mem_of_getElem? (i := 404) (by decide +kernel)⟩
theorem lw_p6 : lw_okq (⟨"OnChin$Text", "store", "(I)V"⟩, 11) := ⟨⟨by decide +kernel, by decide +kernel⟩, List.mem_of_getElem? (i := 88) (by decide +kernel), List.mem_of_getElem? (i := 408) (by decide +kernel), List.mem_of_getElem? (i := 409) (by decide +kernel)⟩
theorem lw_p7 : lw_okq (⟨"OnChin$Text", "kindNamed", "()I"⟩, 11) := ⟨⟨by decide +kernel, by decide +kernel⟩, List.mem_of_getElem? (i := 88) (by decide +kernel), List.mem_of_getElem? (i := 412) (by decide +kernel), List.mem_of_getElem? (i := 413) (by decide +kernel)⟩
theorem lw_p8 : lw_okq (⟨"OnChin$Text", "readLump", "()Z"⟩, 11) := ⟨⟨by decide +kernel, by decide +kernel⟩, List.mem_of_getElem? (i := 88) (by decide +kernel), List.mem_of_getElem? (i := 421) (by decide +kernel), List.mem_of_getElem? (i := 422) (by decide +kernel)⟩
theorem lw_p9 : lw_okq (⟨"OnChin$Text", "readBare", "()Z"⟩, 11) := ⟨⟨by decide +kernel, by decide +kernel⟩, List.mem_of_getElem? (i := 88) (by decide +kernel), List.mem_of_getElem? (i := 429) (by decide +kernel), List.mem_of_getElem? (i := 430) (by decide +kernel)⟩
theorem lw_p10 : lw_okq (⟨"OnChin$Text", "readNumbers", "(II)Z"⟩, 11) := ⟨⟨by decide +kernel, by decide +kernel⟩, List.mem_of_getElem? (i := 88) (by decide +kernel), List.mem_of_getElem? (i := 434) (by decide +kernel), List.mem_of_getElem? (i := 435) (by decide +kernel)⟩
theorem lw_p11 : lw_okq (⟨"OnChin$Text", "placeNamed", "()I"⟩, 11) := ⟨⟨by decide +kernel, by decide +kernel⟩, List.mem_of_getElem? (i := 88) (by decide +kernel), List.mem_of_getElem? (i := 442) (by decide +kernel), List.mem_of_getElem? (i := 443) (by decide +kernel)⟩
theorem lw_p12 : lw_okq (⟨"OnChin$Text", "tellThing", "(LOnChin$Thing;II)V"⟩, 11) := ⟨⟨by decide +kernel, by decide +kernel⟩, List.mem_of_getElem? (i := 88) (by decide +kernel), List.mem_of_getElem? (i := 461) (by decide +kernel), List.mem_of_getElem? (i := 462) (by decide +kernel)⟩
theorem lw_p13 : lw_okq (⟨"OnChin$Thing", "measure", "()V"⟩, 7) := ⟨⟨by decide +kernel, by decide +kernel⟩, List.mem_of_getElem? (i := 33) (by decide +kernel), List.mem_of_getElem? (i := 473) (by decide +kernel), List.mem_of_getElem? (i := 474) (by decide +kernel)⟩
theorem lw_p14 : lw_okq (⟨"OnChin", "refusal", "(IZ)I"⟩, 8) := ⟨⟨by decide +kernel, by decide +kernel⟩, List.mem_of_getElem? (i := 18) (by decide +kernel), List.mem_of_getElem? (i := 497) (by decide +kernel), List.mem_of_getElem? (i := 498) (by decide +kernel)⟩
theorem lw_p15 : lw_okq (⟨"OnChin", "hasLumps", "(I)Z"⟩, 8) := ⟨⟨by decide +kernel, by decide +kernel⟩, List.mem_of_getElem? (i := 18) (by decide +kernel), List.mem_of_getElem? (i := 501) (by decide +kernel), List.mem_of_getElem? (i := 502) (by decide +kernel)⟩
def lw_privs_1 : List (MethodName × Nat) := [(⟨"OnChin$Text", "readToken", "()V"⟩, 11), (⟨"OnChin$Text", "readLine", "()Z"⟩, 11), (⟨"OnChin$Text", "says", "(Ljava/lang/String;)Z"⟩, 11), (⟨"OnChin$Text", "readThing", "()Z"⟩, 11), (⟨"OnChin$Text", "readNumber", "(II)Z"⟩, 11), (⟨"OnChin$Text", "number", "()I"⟩, 11), (⟨"OnChin$Text", "store", "(I)V"⟩, 11), (⟨"OnChin$Text", "kindNamed", "()I"⟩, 11), (⟨"OnChin$Text", "readLump", "()Z"⟩, 11), (⟨"OnChin$Text", "readBare", "()Z"⟩, 11), (⟨"OnChin$Text", "readNumbers", "(II)Z"⟩, 11), (⟨"OnChin$Text", "placeNamed", "()I"⟩, 11), (⟨"OnChin$Text", "tellThing", "(LOnChin$Thing;II)V"⟩, 11), (⟨"OnChin$Thing", "measure", "()V"⟩, 7), (⟨"OnChin", "refusal", "(IZ)I"⟩, 8), (⟨"OnChin", "hasLumps", "(I)Z"⟩, 8)]
theorem lw_r1 : ∀ q ∈ lw_privs_1, lw_okq q := List.forall_mem_cons.mpr ⟨lw_p0, List.forall_mem_cons.mpr ⟨lw_p1, List.forall_mem_cons.mpr ⟨lw_p2, List.forall_mem_cons.mpr ⟨lw_p3, List.forall_mem_cons.mpr ⟨lw_p4, List.forall_mem_cons.mpr ⟨lw_p5, List.forall_mem_cons.mpr ⟨lw_p6, List.forall_mem_cons.mpr ⟨lw_p7, List.forall_mem_cons.mpr ⟨lw_p8, List.forall_mem_cons.mpr ⟨lw_p9, List.forall_mem_cons.mpr ⟨lw_p10, List.forall_mem_cons.mpr ⟨lw_p11, List.forall_mem_cons.mpr ⟨lw_p12, List.forall_mem_cons.mpr ⟨lw_p13, List.forall_mem_cons.mpr ⟨lw_p14, List.forall_mem_cons.mpr ⟨lw_p15, fun _ h => absurd h List.not_mem_nil⟩⟩⟩⟩⟩⟩⟩⟩⟩⟩⟩⟩⟩⟩⟩⟩
theorem lw_p16 : lw_okq (⟨"OnChin$Balance", "move", "(LOnChin$Thing;[I)I"⟩, 7) := ⟨⟨by decide +kernel, by decide +kernel⟩, List.mem_of_getElem? (i := 130) (by decide +kernel), List.mem_of_getElem? (i := 521) (by decide +kernel), List.mem_of_getElem? (i := 522) (by decide +kernel)⟩
theorem lw_p17 : lw_okq (⟨"OnChin$Balance", "was", "(I)I"⟩, 7) := ⟨⟨by decide +kernel, by decide +kernel⟩, List.mem_of_getElem? (i := 130) (by decide +kernel), List.mem_of_getElem? (i := 529) (by decide +kernel), List.mem_of_getElem? (i := 530) (by decide +kernel)⟩
theorem lw_p18 : lw_okq (⟨"OnChin$Keeper", "leftmost", "(I)I"⟩, 4) := ⟨⟨by decide +kernel, by decide +kernel⟩, List.mem_of_getElem? (i := 166) (by decide +kernel), List.mem_of_getElem? (i := 595) (by decide +kernel), List.mem_of_getElem? (i := 596) (by decide +kernel)⟩
theorem lw_p19 : lw_okq (⟨"OnChin$Keeper", "isSteady", "(LOnChin$Thing;I)Z"⟩, 4) := ⟨⟨by decide +kernel, by decide +kernel⟩, List.mem_of_getElem? (i := 166) (by decide +kernel), List.mem_of_getElem? (i := 611) (by decide +kernel), List.mem_of_getElem? (i := 612) (by decide +kernel)⟩
theorem lw_p20 : lw_okq (⟨"OnChin$Keeper", "together", "(LOnChin$Thing;II)I"⟩, 4) := ⟨⟨by decide +kernel, by decide +kernel⟩, List.mem_of_getElem? (i := 166) (by decide +kernel), List.mem_of_getElem? (i := 623) (by decide +kernel), List.mem_of_getElem? (i := 624) (by decide +kernel)⟩
theorem lw_p21 : lw_okq (⟨"OnChin$Keeper", "standsAlone", "(LOnChin$Thing;I)Z"⟩, 4) := ⟨⟨by decide +kernel, by decide +kernel⟩, List.mem_of_getElem? (i := 166) (by decide +kernel), List.mem_of_getElem? (i := 651) (by decide +kernel), List.mem_of_getElem? (i := 652) (by decide +kernel)⟩
theorem lw_p22 : lw_okq (⟨"OnChin$Film", "isFit", "()Z"⟩, 10) := ⟨⟨by decide +kernel, by decide +kernel⟩, List.mem_of_getElem? (i := 206) (by decide +kernel), List.mem_of_getElem? (i := 685) (by decide +kernel), List.mem_of_getElem? (i := 686) (by decide +kernel)⟩
theorem lw_p23 : lw_okq (⟨"OnChin$Film", "moveIn", "(I)I"⟩, 10) := ⟨⟨by decide +kernel, by decide +kernel⟩, List.mem_of_getElem? (i := 206) (by decide +kernel), List.mem_of_getElem? (i := 689) (by decide +kernel), List.mem_of_getElem? (i := 690) (by decide +kernel)⟩
theorem lw_p24 : lw_okq (⟨"OnChin$Film", "noteFit", "()V"⟩, 10) := ⟨⟨by decide +kernel, by decide +kernel⟩, List.mem_of_getElem? (i := 206) (by decide +kernel), List.mem_of_getElem? (i := 695) (by decide +kernel), List.mem_of_getElem? (i := 696) (by decide +kernel)⟩
theorem lw_p25 : lw_okq (⟨"OnChin$Evenings", "tenthsBehind", "(III)I"⟩, 2) := ⟨⟨by decide +kernel, by decide +kernel⟩, List.mem_of_getElem? (i := 192) (by decide +kernel), List.mem_of_getElem? (i := 722) (by decide +kernel), List.mem_of_getElem? (i := 723) (by decide +kernel)⟩
theorem lw_p26 : lw_okq (⟨"OnChin$House", "isOpen", "(III)Z"⟩, 6) := ⟨⟨by decide +kernel, by decide +kernel⟩, List.mem_of_getElem? (i := 250) (by decide +kernel), List.mem_of_getElem? (i := 743) (by decide +kernel), List.mem_of_getElem? (i := 744) (by decide +kernel)⟩
theorem lw_p27 : lw_okq (⟨"OnChin$House", "enter", "(III)V"⟩, 6) := ⟨⟨by decide +kernel, by decide +kernel⟩, List.mem_of_getElem? (i := 250) (by decide +kernel), List.mem_of_getElem? (i := 747) (by decide +kernel), List.mem_of_getElem? (i := 748) (by decide +kernel)⟩
theorem lw_p28 : lw_okq (⟨"OnChinModel", "token", "()V"⟩, 42) := ⟨⟨by decide +kernel, by decide +kernel⟩, List.mem_of_getElem? (i := 759) (by decide +kernel), List.mem_of_getElem? (i := 910) (by decide +kernel), List.mem_of_getElem? (i := 911) (by decide +kernel)⟩
theorem lw_p29 : lw_okq (⟨"OnChinModel", "readsLine", "()Z"⟩, 42) := ⟨⟨by decide +kernel, by decide +kernel⟩, List.mem_of_getElem? (i := 759) (by decide +kernel), List.mem_of_getElem? (i := 917) (by decide +kernel), List.mem_of_getElem? (i := 918) (by decide +kernel)⟩
theorem lw_p30 : lw_okq (⟨"OnChinModel", "wordOf", "()I"⟩, 42) := ⟨⟨by decide +kernel, by decide +kernel⟩, List.mem_of_getElem? (i := 759) (by decide +kernel), List.mem_of_getElem? (i := 921) (by decide +kernel), List.mem_of_getElem? (i := 922) (by decide +kernel)⟩
theorem lw_p31 : lw_okq (⟨"OnChinModel", "isWord", "(JI)Z"⟩, 42) := ⟨⟨by decide +kernel, by decide +kernel⟩, List.mem_of_getElem? (i := 759) (by decide +kernel), List.mem_of_getElem? (i := 926) (by decide +kernel), List.mem_of_getElem? (i := 927) (by decide +kernel)⟩
def lw_privs_2 : List (MethodName × Nat) := [(⟨"OnChin$Balance", "move", "(LOnChin$Thing;[I)I"⟩, 7), (⟨"OnChin$Balance", "was", "(I)I"⟩, 7), (⟨"OnChin$Keeper", "leftmost", "(I)I"⟩, 4), (⟨"OnChin$Keeper", "isSteady", "(LOnChin$Thing;I)Z"⟩, 4), (⟨"OnChin$Keeper", "together", "(LOnChin$Thing;II)I"⟩, 4), (⟨"OnChin$Keeper", "standsAlone", "(LOnChin$Thing;I)Z"⟩, 4), (⟨"OnChin$Film", "isFit", "()Z"⟩, 10), (⟨"OnChin$Film", "moveIn", "(I)I"⟩, 10), (⟨"OnChin$Film", "noteFit", "()V"⟩, 10), (⟨"OnChin$Evenings", "tenthsBehind", "(III)I"⟩, 2), (⟨"OnChin$House", "isOpen", "(III)Z"⟩, 6), (⟨"OnChin$House", "enter", "(III)V"⟩, 6), (⟨"OnChinModel", "token", "()V"⟩, 42), (⟨"OnChinModel", "readsLine", "()Z"⟩, 42), (⟨"OnChinModel", "wordOf", "()I"⟩, 42), (⟨"OnChinModel", "isWord", "(JI)Z"⟩, 42)]
theorem lw_r2 : ∀ q ∈ lw_privs_2, lw_okq q := List.forall_mem_cons.mpr ⟨lw_p16, List.forall_mem_cons.mpr ⟨lw_p17, List.forall_mem_cons.mpr ⟨lw_p18, List.forall_mem_cons.mpr ⟨lw_p19, List.forall_mem_cons.mpr ⟨lw_p20, List.forall_mem_cons.mpr ⟨lw_p21, List.forall_mem_cons.mpr ⟨lw_p22, List.forall_mem_cons.mpr ⟨lw_p23, List.forall_mem_cons.mpr ⟨lw_p24, List.forall_mem_cons.mpr ⟨lw_p25, List.forall_mem_cons.mpr ⟨lw_p26, List.forall_mem_cons.mpr ⟨lw_p27, List.forall_mem_cons.mpr ⟨lw_p28, List.forall_mem_cons.mpr ⟨lw_p29, List.forall_mem_cons.mpr ⟨lw_p30, List.forall_mem_cons.mpr ⟨lw_p31, fun _ h => absurd h List.not_mem_nil⟩⟩⟩⟩⟩⟩⟩⟩⟩⟩⟩⟩⟩⟩⟩⟩
theorem lw_p32 : lw_okq (⟨"OnChinModel", "readsRest", "(I)Z"⟩, 42) := ⟨⟨by decide +kernel, by decide +kernel⟩, List.mem_of_getElem? (i := 759) (by decide +kernel), List.mem_of_getElem? (i := 939) (by decide +kernel), List.mem_of_getElem? (i := 940) (by decide +kernel)⟩
theorem lw_p33 : lw_okq (⟨"OnChinModel", "reads", "(III)Z"⟩, 42) := ⟨⟨by decide +kernel, by decide +kernel⟩, List.mem_of_getElem? (i := 759) (by decide +kernel), List.mem_of_getElem? (i := 943) (by decide +kernel), List.mem_of_getElem? (i := 944) (by decide +kernel)⟩
theorem lw_p34 : lw_okq (⟨"OnChinModel", "readsKind", "()Z"⟩, 42) := ⟨⟨by decide +kernel, by decide +kernel⟩, List.mem_of_getElem? (i := 759) (by decide +kernel), List.mem_of_getElem? (i := 947) (by decide +kernel), List.mem_of_getElem? (i := 948) (by decide +kernel)⟩
theorem lw_p35 : lw_okq (⟨"OnChinModel", "readsLump", "()Z"⟩, 42) := ⟨⟨by decide +kernel, by decide +kernel⟩, List.mem_of_getElem? (i := 759) (by decide +kernel), List.mem_of_getElem? (i := 955) (by decide +kernel), List.mem_of_getElem? (i := 956) (by decide +kernel)⟩
theorem lw_p36 : lw_okq (⟨"OnChinModel", "tell", "(I)V"⟩, 42) := ⟨⟨by decide +kernel, by decide +kernel⟩, List.mem_of_getElem? (i := 759) (by decide +kernel), List.mem_of_getElem? (i := 964) (by decide +kernel), List.mem_of_getElem? (i := 965) (by decide +kernel)⟩
theorem lw_p37 : lw_okq (⟨"OnChinModel", "longOf", "(I)I"⟩, 42) := ⟨⟨by decide +kernel, by decide +kernel⟩, List.mem_of_getElem? (i := 759) (by decide +kernel), List.mem_of_getElem? (i := 976) (by decide +kernel), List.mem_of_getElem? (i := 977) (by decide +kernel)⟩
theorem lw_p38 : lw_okq (⟨"OnChinModel", "greatest", "(I)I"⟩, 42) := ⟨⟨by decide +kernel, by decide +kernel⟩, List.mem_of_getElem? (i := 759) (by decide +kernel), List.mem_of_getElem? (i := 980) (by decide +kernel), List.mem_of_getElem? (i := 981) (by decide +kernel)⟩
theorem lw_p39 : lw_okq (⟨"OnChinModel", "start", "(III)V"⟩, 42) := ⟨⟨by decide +kernel, by decide +kernel⟩, List.mem_of_getElem? (i := 759) (by decide +kernel), List.mem_of_getElem? (i := 1002) (by decide +kernel), List.mem_of_getElem? (i := 1003) (by decide +kernel)⟩
theorem lw_p40 : lw_okq (⟨"OnChinModel", "fell", "(I)Z"⟩, 42) := ⟨⟨by decide +kernel, by decide +kernel⟩, List.mem_of_getElem? (i := 759) (by decide +kernel), List.mem_of_getElem? (i := 1011) (by decide +kernel), List.mem_of_getElem? (i := 1012) (by decide +kernel)⟩
theorem lw_p41 : lw_okq (⟨"OnChinModel", "leansAt", "(I)I"⟩, 42) := ⟨⟨by decide +kernel, by decide +kernel⟩, List.mem_of_getElem? (i := 759) (by decide +kernel), List.mem_of_getElem? (i := 1015) (by decide +kernel), List.mem_of_getElem? (i := 1016) (by decide +kernel)⟩
theorem lw_p42 : lw_okq (⟨"OnChinModel", "asTold", "(I)V"⟩, 42) := ⟨⟨by decide +kernel, by decide +kernel⟩, List.mem_of_getElem? (i := 759) (by decide +kernel), List.mem_of_getElem? (i := 1019) (by decide +kernel), List.mem_of_getElem? (i := 1020) (by decide +kernel)⟩
theorem lw_p43 : lw_okq (⟨"OnChinModel", "look", "(I)V"⟩, 42) := ⟨⟨by decide +kernel, by decide +kernel⟩, List.mem_of_getElem? (i := 759) (by decide +kernel), List.mem_of_getElem? (i := 1023) (by decide +kernel), List.mem_of_getElem? (i := 1024) (by decide +kernel)⟩
theorem lw_p44 : lw_okq (⟨"OnChinModel", "tick", "(IZI)V"⟩, 42) := ⟨⟨by decide +kernel, by decide +kernel⟩, List.mem_of_getElem? (i := 759) (by decide +kernel), List.mem_of_getElem? (i := 1027) (by decide +kernel), List.mem_of_getElem? (i := 1028) (by decide +kernel)⟩
theorem lw_p45 : lw_okq (⟨"OnChinModel", "moves", "(I)I"⟩, 42) := ⟨⟨by decide +kernel, by decide +kernel⟩, List.mem_of_getElem? (i := 759) (by decide +kernel), List.mem_of_getElem? (i := 1031) (by decide +kernel), List.mem_of_getElem? (i := 1032) (by decide +kernel)⟩
theorem lw_p46 : lw_okq (⟨"OnChinModel", "minds", "(II)I"⟩, 42) := ⟨⟨by decide +kernel, by decide +kernel⟩, List.mem_of_getElem? (i := 759) (by decide +kernel), List.mem_of_getElem? (i := 1035) (by decide +kernel), List.mem_of_getElem? (i := 1036) (by decide +kernel)⟩
theorem lw_p47 : lw_okq (⟨"OnChinModel", "copy", "(II)V"⟩, 42) := ⟨⟨by decide +kernel, by decide +kernel⟩, List.mem_of_getElem? (i := 759) (by decide +kernel), List.mem_of_getElem? (i := 1049) (by decide +kernel), List.mem_of_getElem? (i := 1050) (by decide +kernel)⟩
def lw_privs_3 : List (MethodName × Nat) := [(⟨"OnChinModel", "readsRest", "(I)Z"⟩, 42), (⟨"OnChinModel", "reads", "(III)Z"⟩, 42), (⟨"OnChinModel", "readsKind", "()Z"⟩, 42), (⟨"OnChinModel", "readsLump", "()Z"⟩, 42), (⟨"OnChinModel", "tell", "(I)V"⟩, 42), (⟨"OnChinModel", "longOf", "(I)I"⟩, 42), (⟨"OnChinModel", "greatest", "(I)I"⟩, 42), (⟨"OnChinModel", "start", "(III)V"⟩, 42), (⟨"OnChinModel", "fell", "(I)Z"⟩, 42), (⟨"OnChinModel", "leansAt", "(I)I"⟩, 42), (⟨"OnChinModel", "asTold", "(I)V"⟩, 42), (⟨"OnChinModel", "look", "(I)V"⟩, 42), (⟨"OnChinModel", "tick", "(IZI)V"⟩, 42), (⟨"OnChinModel", "moves", "(I)I"⟩, 42), (⟨"OnChinModel", "minds", "(II)I"⟩, 42), (⟨"OnChinModel", "copy", "(II)V"⟩, 42)]
theorem lw_r3 : ∀ q ∈ lw_privs_3, lw_okq q := List.forall_mem_cons.mpr ⟨lw_p32, List.forall_mem_cons.mpr ⟨lw_p33, List.forall_mem_cons.mpr ⟨lw_p34, List.forall_mem_cons.mpr ⟨lw_p35, List.forall_mem_cons.mpr ⟨lw_p36, List.forall_mem_cons.mpr ⟨lw_p37, List.forall_mem_cons.mpr ⟨lw_p38, List.forall_mem_cons.mpr ⟨lw_p39, List.forall_mem_cons.mpr ⟨lw_p40, List.forall_mem_cons.mpr ⟨lw_p41, List.forall_mem_cons.mpr ⟨lw_p42, List.forall_mem_cons.mpr ⟨lw_p43, List.forall_mem_cons.mpr ⟨lw_p44, List.forall_mem_cons.mpr ⟨lw_p45, List.forall_mem_cons.mpr ⟨lw_p46, List.forall_mem_cons.mpr ⟨lw_p47, fun _ h => absurd h List.not_mem_nil⟩⟩⟩⟩⟩⟩⟩⟩⟩⟩⟩⟩⟩⟩⟩⟩
theorem lw_p48 : lw_okq (⟨"OnChinModel", "lasts", "(IIZ)I"⟩, 42) := ⟨⟨by decide +kernel, by decide +kernel⟩, List.mem_of_getElem? (i := 759) (by decide +kernel), List.mem_of_getElem? (i := 1061) (by decide +kernel), List.mem_of_getElem? (i := 1062) (by decide +kernel)⟩
theorem lw_p49 : lw_okq (⟨"OnChinModel", "least", "(I)I"⟩, 42) := ⟨⟨by decide +kernel, by decide +kernel⟩, List.mem_of_getElem? (i := 759) (by decide +kernel), List.mem_of_getElem? (i := 1073) (by decide +kernel), List.mem_of_getElem? (i := 1074) (by decide +kernel)⟩
theorem lw_p50 : lw_okq (⟨"OnChinModel", "stays", "(I)Z"⟩, 42) := ⟨⟨by decide +kernel, by decide +kernel⟩, List.mem_of_getElem? (i := 759) (by decide +kernel), List.mem_of_getElem? (i := 1081) (by decide +kernel), List.mem_of_getElem? (i := 1082) (by decide +kernel)⟩
theorem lw_p51 : lw_okq (⟨"OnChinModel", "weightOf", "(IIIII)I"⟩, 42) := ⟨⟨by decide +kernel, by decide +kernel⟩, List.mem_of_getElem? (i := 759) (by decide +kernel), List.mem_of_getElem? (i := 1096) (by decide +kernel), List.mem_of_getElem? (i := 1097) (by decide +kernel)⟩
theorem lw_p52 : lw_okq (⟨"OnChinModel", "fitsBy", "(I)Z"⟩, 42) := ⟨⟨by decide +kernel, by decide +kernel⟩, List.mem_of_getElem? (i := 759) (by decide +kernel), List.mem_of_getElem? (i := 1124) (by decide +kernel), List.mem_of_getElem? (i := 1125) (by decide +kernel)⟩
theorem lw_p53 : lw_okq (⟨"OnChinModel", "mindsAt", "(I)I"⟩, 42) := ⟨⟨by decide +kernel, by decide +kernel⟩, List.mem_of_getElem? (i := 759) (by decide +kernel), List.mem_of_getElem? (i := 1128) (by decide +kernel), List.mem_of_getElem? (i := 1129) (by decide +kernel)⟩
theorem lw_p54 : lw_okq (⟨"OnChinModel", "layHolds", "()V"⟩, 42) := ⟨⟨by decide +kernel, by decide +kernel⟩, List.mem_of_getElem? (i := 759) (by decide +kernel), List.mem_of_getElem? (i := 1143) (by decide +kernel), List.mem_of_getElem? (i := 1144) (by decide +kernel)⟩
theorem lw_p55 : lw_okq (⟨"OnChinModel", "tenthsBy", "(II)I"⟩, 42) := ⟨⟨by decide +kernel, by decide +kernel⟩, List.mem_of_getElem? (i := 759) (by decide +kernel), List.mem_of_getElem? (i := 1147) (by decide +kernel), List.mem_of_getElem? (i := 1148) (by decide +kernel)⟩
def lw_privs_4 : List (MethodName × Nat) := [(⟨"OnChinModel", "lasts", "(IIZ)I"⟩, 42), (⟨"OnChinModel", "least", "(I)I"⟩, 42), (⟨"OnChinModel", "stays", "(I)Z"⟩, 42), (⟨"OnChinModel", "weightOf", "(IIIII)I"⟩, 42), (⟨"OnChinModel", "fitsBy", "(I)Z"⟩, 42), (⟨"OnChinModel", "mindsAt", "(I)I"⟩, 42), (⟨"OnChinModel", "layHolds", "()V"⟩, 42), (⟨"OnChinModel", "tenthsBy", "(II)I"⟩, 42)]
theorem lw_r4 : ∀ q ∈ lw_privs_4, lw_okq q := List.forall_mem_cons.mpr ⟨lw_p48, List.forall_mem_cons.mpr ⟨lw_p49, List.forall_mem_cons.mpr ⟨lw_p50, List.forall_mem_cons.mpr ⟨lw_p51, List.forall_mem_cons.mpr ⟨lw_p52, List.forall_mem_cons.mpr ⟨lw_p53, List.forall_mem_cons.mpr ⟨lw_p54, List.forall_mem_cons.mpr ⟨lw_p55, fun _ h => absurd h List.not_mem_nil⟩⟩⟩⟩⟩⟩⟩⟩
def lw_privs : List (MethodName × Nat) := lw_privs_1 ++ (lw_privs_2 ++ (lw_privs_3 ++ (lw_privs_4)))
def lw_tbl : List Cond := k2_sels lw_privs ++ tables_1
theorem lw_privs_ok : ∀ q ∈ lw_privs, lw_okq q := by
  show ∀ q ∈ lw_privs_1 ++ (lw_privs_2 ++ (lw_privs_3 ++ (lw_privs_4))), lw_okq q
  exact List.forall_mem_append.mpr ⟨lw_r1, List.forall_mem_append.mpr ⟨lw_r2, List.forall_mem_append.mpr ⟨lw_r3, lw_r4⟩⟩⟩
end
section

/-! ===== BEGIN printed: names, fields, word lists, decode rows ===== -/
def RX0 : String := "OnChin$Balance"
def TX0 : u_T := fun k => match k with
  | 0 => ("OnChin$Balance", "thing", "I", false)
  | 1 => ("OnChin$Balance", "x", "I", false)
  | 2 => ("OnChin$Balance", "v", "I", false)
  | 3 => ("OnChin$Balance", "f", "I", false)
  | 4 => ("OnChin$Balance", "t", "I", false)
  | 5 => ("OnChin$Balance", "m", "I", false)
  | _ => ("OnChin$Balance", "trail", "[I", true)
def tyX0 : Nat → FieldType := fun k => match k with
  | 0 => .int
  | 1 => .int
  | 2 => .int
  | 3 => .int
  | 4 => .int
  | 5 => .int
  | _ => .array .int
abbrev wsX00 : List Cond := u_ws RX0 TX0 7
theorem nmX0 : ∀ a, a < 7 → ∀ b, b < 7 → a ≠ b → (TX0 a).2.1 ≠ (TX0 b).2.1 := by decide +kernel
theorem tyX0_ok : ∀ k, k < 7 → parseFieldDescriptor (TX0 k).2.2.1 = some (tyX0 k) := by decide +kernel
abbrev cX0_init : ByteArray := prog_2_method_1_code
def yX0_init : MethodName := ⟨RX0, "<init>", "()V"⟩
abbrev cX0_start : ByteArray := prog_2_method_2_code
def yX0_start : MethodName := ⟨RX0, "start", "(III)V"⟩
abbrev cX0_copy : ByteArray := prog_2_method_3_code
def yX0_copy : MethodName := ⟨RX0, "copy", "(LOnChin$Balance;)V"⟩
abbrev cX0_fell : ByteArray := prog_2_method_4_code
def yX0_fell : MethodName := ⟨RX0, "fell", "([I)Z"⟩
abbrev cX0_tick : ByteArray := prog_2_method_5_code
def yX0_tick : MethodName := ⟨RX0, "tick", "(LOnChin$Thing;[IZI)V"⟩
abbrev cX0_move : ByteArray := prog_2_method_6_code
def yX0_move : MethodName := ⟨RX0, "move", "(LOnChin$Thing;[I)I"⟩
abbrev cX0_was : ByteArray := prog_2_method_7_code
def yX0_was : MethodName := ⟨RX0, "was", "(I)I"⟩
abbrev cX0_isAgain : ByteArray := prog_2_method_8_code
def yX0_isAgain : MethodName := ⟨RX0, "isAgain", "(LOnChin$Balance;I)Z"⟩
def RX1 : String := "OnChin$Evenings"
def TX1 : u_T := fun k => match k with
  | 0 => ("OnChin$Evenings", "leastTenths", "I", false)
  | _ => ("OnChin$Evenings", "learned", "[I", true)
def tyX1 : Nat → FieldType := fun k => match k with
  | 0 => .int
  | _ => .array .int
abbrev wsX10 : List Cond := u_ws RX1 TX1 2
theorem nmX1 : ∀ a, a < 2 → ∀ b, b < 2 → a ≠ b → (TX1 a).2.1 ≠ (TX1 b).2.1 := by decide +kernel
theorem tyX1_ok : ∀ k, k < 2 → parseFieldDescriptor (TX1 k).2.2.1 = some (tyX1 k) := by decide +kernel
abbrev cX1_init : ByteArray := prog_3_method_1_code
def yX1_init : MethodName := ⟨RX1, "<init>", "()V"⟩
abbrev cX1_tryAll : ByteArray := prog_3_method_2_code
def yX1_tryAll : MethodName := ⟨RX1, "tryAll", "(LOnChin$Told;LOnChin$Keeper;)V"⟩
abbrev cX1_lesson : ByteArray := prog_3_method_3_code
def yX1_lesson : MethodName := ⟨RX1, "lesson", "(LOnChin$Thing;LOnChin$Keeper;)I"⟩
abbrev cX1_firstBest : ByteArray := prog_3_method_4_code
def yX1_firstBest : MethodName := ⟨RX1, "firstBest", "(II)I"⟩
abbrev cX1_tenthsBehind : ByteArray := prog_3_method_5_code
def yX1_tenthsBehind : MethodName := ⟨RX1, "tenthsBehind", "(III)I"⟩
abbrev cX1_thingOf : ByteArray := prog_3_method_6_code
def yX1_thingOf : MethodName := ⟨RX1, "thingOf", "(III)I"⟩
def RX2 : String := "OnChin$Film"
def TX2 : u_T := fun k => match k with
  | 0 => ("OnChin$Film", "count", "I", false)
  | 1 => ("OnChin$Film", "fitting", "I", false)
  | 2 => ("OnChin$Film", "firstLate", "I", false)
  | 3 => ("OnChin$Film", "firstA", "I", false)
  | 4 => ("OnChin$Film", "firstB", "I", false)
  | 5 => ("OnChin$Film", "leastNext", "I", false)
  | 6 => ("OnChin$Film", "mostNext", "I", false)
  | 7 => ("OnChin$Film", "xs", "[I", true)
  | 8 => ("OnChin$Film", "ms", "[I", true)
  | _ => ("OnChin$Film", "rule", "[I", true)
def tyX2 : Nat → FieldType := fun k => match k with
  | 0 => .int
  | 1 => .int
  | 2 => .int
  | 3 => .int
  | 4 => .int
  | 5 => .int
  | 6 => .int
  | 7 => .array .int
  | 8 => .array .int
  | _ => .array .int
abbrev wsX20 : List Cond := u_ws RX2 TX2 10
theorem nmX2 : ∀ a, a < 10 → ∀ b, b < 10 → a ≠ b → (TX2 a).2.1 ≠ (TX2 b).2.1 := by decide +kernel
theorem tyX2_ok : ∀ k, k < 10 → parseFieldDescriptor (TX2 k).2.2.1 = some (tyX2 k) := by decide +kernel
abbrev cX2_init : ByteArray := prog_4_method_1_code
def yX2_init : MethodName := ⟨RX2, "<init>", "()V"⟩
abbrev cX2_append : ByteArray := prog_4_method_2_code
def yX2_append : MethodName := ⟨RX2, "append", "(II)V"⟩
abbrev cX2_seek : ByteArray := prog_4_method_3_code
def yX2_seek : MethodName := ⟨RX2, "seek", "([II)V"⟩
abbrev cX2_isFit : ByteArray := prog_4_method_4_code
def yX2_isFit : MethodName := ⟨RX2, "isFit", "()Z"⟩
abbrev cX2_moveIn : ByteArray := prog_4_method_5_code
def yX2_moveIn : MethodName := ⟨RX2, "moveIn", "(I)I"⟩
abbrev cX2_noteFit : ByteArray := prog_4_method_6_code
def yX2_noteFit : MethodName := ⟨RX2, "noteFit", "()V"⟩
def RX3 : String := "OnChin$House"
def TX3 : u_T := fun k => match k with
  | 0 => ("OnChin$House", "draughts", "[I", true)
  | 1 => ("OnChin$House", "lamps", "[I", true)
  | 2 => ("OnChin$House", "steps", "[I", true)
  | 3 => ("OnChin$House", "together", "[I", true)
  | 4 => ("OnChin$House", "reached", "[I", true)
  | _ => ("OnChin$House", "known", "I", false)
def tyX3 : Nat → FieldType := fun k => match k with
  | 0 => .array .int
  | 1 => .array .int
  | 2 => .array .int
  | 3 => .array .int
  | 4 => .array .int
  | _ => .int
abbrev wsX30 : List Cond := u_ws RX3 TX3 6
theorem nmX3 : ∀ a, a < 6 → ∀ b, b < 6 → a ≠ b → (TX3 a).2.1 ≠ (TX3 b).2.1 := by decide +kernel
theorem tyX3_ok : ∀ k, k < 6 → parseFieldDescriptor (TX3 k).2.2.1 = some (tyX3 k) := by decide +kernel
abbrev cX3_init : ByteArray := prog_5_method_1_code
def yX3_init : MethodName := ⟨RX3, "<init>", "()V"⟩
abbrev cX3_walk : ByteArray := prog_5_method_2_code
def yX3_walk : MethodName := ⟨RX3, "walk", "(III)V"⟩
abbrev cX3_isOpen : ByteArray := prog_5_method_3_code
def yX3_isOpen : MethodName := ⟨RX3, "isOpen", "(III)Z"⟩
abbrev cX3_enter : ByteArray := prog_5_method_4_code
def yX3_enter : MethodName := ⟨RX3, "enter", "(III)V"⟩
abbrev cX3_beside : ByteArray := prog_5_method_5_code
def yX3_beside : MethodName := ⟨RX3, "beside", "(II)I"⟩
def RX4 : String := "OnChin$Keeper"
def TX4 : u_T := fun k => match k with
  | 0 => ("OnChin$Keeper", "rule", "[I", true)
  | 1 => ("OnChin$Keeper", "first", "LOnChin$Balance;", true)
  | 2 => ("OnChin$Keeper", "second", "LOnChin$Balance;", true)
  | _ => ("OnChin$Keeper", "pole", "LOnChin$Thing;", true)
def tyX4 : Nat → FieldType := fun k => match k with
  | 0 => .array .int
  | 1 => .object "OnChin$Balance"
  | 2 => .object "OnChin$Balance"
  | _ => .object "OnChin$Thing"
abbrev wsX40 : List Cond := u_ws RX4 TX4 4
theorem nmX4 : ∀ a, a < 4 → ∀ b, b < 4 → a ≠ b → (TX4 a).2.1 ≠ (TX4 b).2.1 := by decide +kernel
theorem tyX4_ok : ∀ k, k < 4 → parseFieldDescriptor (TX4 k).2.2.1 = some (tyX4 k) := by decide +kernel
abbrev cX4_init : ByteArray := prog_6_method_1_code
def yX4_init : MethodName := ⟨RX4, "<init>", "()V"⟩
abbrev cX4_takeRule : ByteArray := prog_6_method_2_code
def yX4_takeRule : MethodName := ⟨RX4, "takeRule", "([I)V"⟩
abbrev cX4_lasts : ByteArray := prog_6_method_3_code
def yX4_lasts : MethodName := ⟨RX4, "lasts", "(LOnChin$Thing;III)I"⟩
abbrev cX4_leastFrom : ByteArray := prog_6_method_4_code
def yX4_leastFrom : MethodName := ⟨RX4, "leastFrom", "(LOnChin$Thing;I)I"⟩
abbrev cX4_leftmost : ByteArray := prog_6_method_5_code
def yX4_leftmost : MethodName := ⟨RX4, "leftmost", "(I)I"⟩
abbrev cX4_shortestSteady : ByteArray := prog_6_method_6_code
def yX4_shortestSteady : MethodName := ⟨RX4, "shortestSteady", "(I)I"⟩
abbrev cX4_isSteady : ByteArray := prog_6_method_7_code
def yX4_isSteady : MethodName := ⟨RX4, "isSteady", "(LOnChin$Thing;I)Z"⟩
abbrev cX4_bestRule : ByteArray := prog_6_method_8_code
def yX4_bestRule : MethodName := ⟨RX4, "bestRule", "(LOnChin$Thing;II)I"⟩
abbrev cX4_together : ByteArray := prog_6_method_9_code
def yX4_together : MethodName := ⟨RX4, "together", "(LOnChin$Thing;II)I"⟩
abbrev cX4_chances : ByteArray := prog_6_method_10_code
def yX4_chances : MethodName := ⟨RX4, "chances", "(LOnChin$Thing;IIII)I"⟩
abbrev cX4_leastShake : ByteArray := prog_6_method_11_code
def yX4_leastShake : MethodName := ⟨RX4, "leastShake", "(LOnChin$Thing;I)I"⟩
abbrev cX4_standsAlone : ByteArray := prog_6_method_12_code
def yX4_standsAlone : MethodName := ⟨RX4, "standsAlone", "(LOnChin$Thing;I)Z"⟩
abbrev cX4_bothLast : ByteArray := prog_6_method_13_code
def yX4_bothLast : MethodName := ⟨RX4, "bothLast", "(LOnChin$Thing;LOnChin$Thing;II)I"⟩
def RX5 : String := "OnChin$Text"
def TX5 : u_T := fun k => match k with
  | 0 => ("OnChin$Text", "bytes", "[I", true)
  | 1 => ("OnChin$Text", "length", "I", false)
  | 2 => ("OnChin$Text", "lines", "I", false)
  | 3 => ("OnChin$Text", "kinds", "[I", true)
  | 4 => ("OnChin$Text", "numbers", "[I", true)
  | 5 => ("OnChin$Text", "filled", "I", false)
  | 6 => ("OnChin$Text", "places", "[I", true)
  | 7 => ("OnChin$Text", "lumps", "[I", true)
  | 8 => ("OnChin$Text", "token", "I", false)
  | 9 => ("OnChin$Text", "from", "I", false)
  | _ => ("OnChin$Text", "behind", "I", false)
def tyX5 : Nat → FieldType := fun k => match k with
  | 0 => .array .int
  | 1 => .int
  | 2 => .int
  | 3 => .array .int
  | 4 => .array .int
  | 5 => .int
  | 6 => .array .int
  | 7 => .array .int
  | 8 => .int
  | 9 => .int
  | _ => .int
abbrev wsX50 : List Cond := u_ws RX5 TX5 11
theorem nmX5 : ∀ a, a < 11 → ∀ b, b < 11 → a ≠ b → (TX5 a).2.1 ≠ (TX5 b).2.1 := by decide +kernel
theorem tyX5_ok : ∀ k, k < 11 → parseFieldDescriptor (TX5 k).2.2.1 = some (tyX5 k) := by decide +kernel
abbrev cX5_init : ByteArray := prog_7_method_1_code
def yX5_init : MethodName := ⟨RX5, "<init>", "()V"⟩
abbrev cX5_append : ByteArray := prog_7_method_2_code
def yX5_append : MethodName := ⟨RX5, "append", "(I)V"⟩
abbrev cX5_firstFault : ByteArray := prog_7_method_3_code
def yX5_firstFault : MethodName := ⟨RX5, "firstFault", "(LOnChin$Told;)I"⟩
abbrev cX5_readToken : ByteArray := prog_7_method_4_code
def yX5_readToken : MethodName := ⟨RX5, "readToken", "()V"⟩
abbrev cX5_sort : ByteArray := prog_7_method_5_code
def yX5_sort : MethodName := ⟨RX5, "sort", "(I)I"⟩
abbrev cX5_says : ByteArray := prog_7_method_6_code
def yX5_says : MethodName := ⟨RX5, "says", "(Ljava/lang/String;)Z"⟩
abbrev cX5_readLine : ByteArray := prog_7_method_7_code
def yX5_readLine : MethodName := ⟨RX5, "readLine", "()Z"⟩
abbrev cX5_placeNamed : ByteArray := prog_7_method_8_code
def yX5_placeNamed : MethodName := ⟨RX5, "placeNamed", "()I"⟩
abbrev cX5_readThing : ByteArray := prog_7_method_9_code
def yX5_readThing : MethodName := ⟨RX5, "readThing", "()Z"⟩
abbrev cX5_kindNamed : ByteArray := prog_7_method_10_code
def yX5_kindNamed : MethodName := ⟨RX5, "kindNamed", "()I"⟩
abbrev cX5_readLump : ByteArray := prog_7_method_11_code
def yX5_readLump : MethodName := ⟨RX5, "readLump", "()Z"⟩
abbrev cX5_readBare : ByteArray := prog_7_method_12_code
def yX5_readBare : MethodName := ⟨RX5, "readBare", "()Z"⟩
abbrev cX5_readNumbers : ByteArray := prog_7_method_13_code
def yX5_readNumbers : MethodName := ⟨RX5, "readNumbers", "(II)Z"⟩
abbrev cX5_readNumber : ByteArray := prog_7_method_14_code
def yX5_readNumber : MethodName := ⟨RX5, "readNumber", "(II)Z"⟩
abbrev cX5_number : ByteArray := prog_7_method_15_code
def yX5_number : MethodName := ⟨RX5, "number", "()I"⟩
abbrev cX5_store : ByteArray := prog_7_method_16_code
def yX5_store : MethodName := ⟨RX5, "store", "(I)V"⟩
abbrev cX5_tell : ByteArray := prog_7_method_17_code
def yX5_tell : MethodName := ⟨RX5, "tell", "(LOnChin$Told;)V"⟩
abbrev cX5_tellThing : ByteArray := prog_7_method_18_code
def yX5_tellThing : MethodName := ⟨RX5, "tellThing", "(LOnChin$Thing;II)V"⟩
def RX6 : String := "OnChin$Thing"
def TX6 : u_T := fun k => match k with
  | 0 => ("OnChin$Thing", "kind", "I", false)
  | 1 => ("OnChin$Thing", "by", "I", false)
  | 2 => ("OnChin$Thing", "lumps", "I", false)
  | 3 => ("OnChin$Thing", "longness", "I", false)
  | 4 => ("OnChin$Thing", "tallest", "I", false)
  | 5 => ("OnChin$Thing", "heights", "[I", true)
  | _ => ("OnChin$Thing", "weights", "[I", true)
def tyX6 : Nat → FieldType := fun k => match k with
  | 0 => .int
  | 1 => .int
  | 2 => .int
  | 3 => .int
  | 4 => .int
  | 5 => .array .int
  | _ => .array .int
abbrev wsX60 : List Cond := u_ws RX6 TX6 7
theorem nmX6 : ∀ a, a < 7 → ∀ b, b < 7 → a ≠ b → (TX6 a).2.1 ≠ (TX6 b).2.1 := by decide +kernel
theorem tyX6_ok : ∀ k, k < 7 → parseFieldDescriptor (TX6 k).2.2.1 = some (tyX6 k) := by decide +kernel
abbrev cX6_init : ByteArray := prog_8_method_1_code
def yX6_init : MethodName := ⟨RX6, "<init>", "()V"⟩
abbrev cX6_become : ByteArray := prog_8_method_2_code
def yX6_become : MethodName := ⟨RX6, "become", "(II)V"⟩
abbrev cX6_addLump : ByteArray := prog_8_method_3_code
def yX6_addLump : MethodName := ⟨RX6, "addLump", "(II)V"⟩
abbrev cX6_strip : ByteArray := prog_8_method_4_code
def yX6_strip : MethodName := ⟨RX6, "strip", "()V"⟩
abbrev cX6_measure : ByteArray := prog_8_method_5_code
def yX6_measure : MethodName := ⟨RX6, "measure", "()V"⟩
abbrev cX6_leaning : ByteArray := prog_8_method_6_code
def yX6_leaning : MethodName := ⟨RX6, "leaning", "(III)I"⟩
abbrev cX6_seenLater : ByteArray := prog_8_method_7_code
def yX6_seenLater : MethodName := ⟨RX6, "seenLater", "()I"⟩
def RX7 : String := "OnChin$Told"
def TX7 : u_T := fun k => match k with
  | 0 => ("OnChin$Told", "things", "[LOnChin$Thing;", true)
  | _ => ("OnChin$Told", "numbers", "[I", true)
def tyX7 : Nat → FieldType := fun k => match k with
  | 0 => .array (.object "OnChin$Thing")
  | _ => .array .int
abbrev wsX70 : List Cond := u_ws RX7 TX7 2
theorem nmX7 : ∀ a, a < 2 → ∀ b, b < 2 → a ≠ b → (TX7 a).2.1 ≠ (TX7 b).2.1 := by decide +kernel
theorem tyX7_ok : ∀ k, k < 2 → parseFieldDescriptor (TX7 k).2.2.1 = some (tyX7 k) := by decide +kernel
abbrev cX7_init : ByteArray := prog_9_method_1_code
def yX7_init : MethodName := ⟨RX7, "<init>", "()V"⟩
def RX8 : String := "OnChin"
def TX8 : u_T := fun k => match k with
  | 0 => ("OnChin", "told", "LOnChin$Told;", true)
  | 1 => ("OnChin", "text", "LOnChin$Text;", true)
  | 2 => ("OnChin", "up", "LOnChin$Balance;", true)
  | 3 => ("OnChin", "images", "[LOnChin$Balance;", true)
  | 4 => ("OnChin", "keeper", "LOnChin$Keeper;", true)
  | 5 => ("OnChin", "evenings", "LOnChin$Evenings;", true)
  | 6 => ("OnChin", "rows", "LOnChin$Film;", true)
  | _ => ("OnChin", "house", "LOnChin$House;", true)
def tyX8 : Nat → FieldType := fun k => match k with
  | 0 => .object "OnChin$Told"
  | 1 => .object "OnChin$Text"
  | 2 => .object "OnChin$Balance"
  | 3 => .array (.object "OnChin$Balance")
  | 4 => .object "OnChin$Keeper"
  | 5 => .object "OnChin$Evenings"
  | 6 => .object "OnChin$Film"
  | _ => .object "OnChin$House"
abbrev wsX80 : List Cond := u_ws RX8 TX8 8
theorem nmX8 : ∀ a, a < 8 → ∀ b, b < 8 → a ≠ b → (TX8 a).2.1 ≠ (TX8 b).2.1 := by decide +kernel
theorem tyX8_ok : ∀ k, k < 8 → parseFieldDescriptor (TX8 k).2.2.1 = some (tyX8 k) := by decide +kernel
abbrev cX8_init : ByteArray := prog_1_method_1_code
def yX8_init : MethodName := ⟨RX8, "<init>", "()V"⟩
abbrev cX8_write : ByteArray := prog_1_method_2_code
def yX8_write : MethodName := ⟨RX8, "write", "(JI)I"⟩
abbrev cX8_erase : ByteArray := prog_1_method_3_code
def yX8_erase : MethodName := ⟨RX8, "erase", "()I"⟩
abbrev cX8_fault : ByteArray := prog_1_method_4_code
def yX8_fault : MethodName := ⟨RX8, "fault", "()I"⟩
abbrev cX8_chin : ByteArray := prog_1_method_5_code
def yX8_chin : MethodName := ⟨RX8, "chin", "()I"⟩
abbrev cX8_thing : ByteArray := prog_1_method_6_code
def yX8_thing : MethodName := ⟨RX8, "thing", "(II)I"⟩
abbrev cX8_lump : ByteArray := prog_1_method_7_code
def yX8_lump : MethodName := ⟨RX8, "lump", "(III)I"⟩
abbrev cX8_begin : ByteArray := prog_1_method_8_code
def yX8_begin : MethodName := ⟨RX8, "begin", "(III)I"⟩
abbrev cX8_ticks : ByteArray := prog_1_method_9_code
def yX8_ticks : MethodName := ⟨RX8, "ticks", "(I)I"⟩
abbrev cX8_now : ByteArray := prog_1_method_10_code
def yX8_now : MethodName := ⟨RX8, "now", "(I)I"⟩
abbrev cX8_keep : ByteArray := prog_1_method_11_code
def yX8_keep : MethodName := ⟨RX8, "keep", "(I)I"⟩
abbrev cX8_back : ByteArray := prog_1_method_12_code
def yX8_back : MethodName := ⟨RX8, "back", "(I)I"⟩
abbrev cX8_kept : ByteArray := prog_1_method_13_code
def yX8_kept : MethodName := ⟨RX8, "kept", "(III)I"⟩
abbrev cX8_steady : ByteArray := prog_1_method_14_code
def yX8_steady : MethodName := ⟨RX8, "steady", "(II)I"⟩
abbrev cX8_line : ByteArray := prog_1_method_15_code
def yX8_line : MethodName := ⟨RX8, "line", "(I)I"⟩
abbrev cX8_best : ByteArray := prog_1_method_16_code
def yX8_best : MethodName := ⟨RX8, "best", "(III)I"⟩
abbrev cX8_odds : ByteArray := prog_1_method_17_code
def yX8_odds : MethodName := ⟨RX8, "odds", "(IIIIII)I"⟩
abbrev cX8_stands : ByteArray := prog_1_method_18_code
def yX8_stands : MethodName := ⟨RX8, "stands", "(II)I"⟩
abbrev cX8_two : ByteArray := prog_1_method_19_code
def yX8_two : MethodName := ⟨RX8, "two", "(IIIIII)I"⟩
abbrev cX8_film : ByteArray := prog_1_method_20_code
def yX8_film : MethodName := ⟨RX8, "film", "(II)I"⟩
abbrev cX8_wind : ByteArray := prog_1_method_21_code
def yX8_wind : MethodName := ⟨RX8, "wind", "()I"⟩
abbrev cX8_fits : ByteArray := prog_1_method_22_code
def yX8_fits : MethodName := ⟨RX8, "fits", "(I)I"⟩
abbrev cX8_next : ByteArray := prog_1_method_23_code
def yX8_next : MethodName := ⟨RX8, "next", "(II)I"⟩
abbrev cX8_plan : ByteArray := prog_1_method_24_code
def yX8_plan : MethodName := ⟨RX8, "plan", "(II)I"⟩
abbrev cX8_room : ByteArray := prog_1_method_25_code
def yX8_room : MethodName := ⟨RX8, "room", "(III)I"⟩
abbrev cX8_way : ByteArray := prog_1_method_26_code
def yX8_way : MethodName := ⟨RX8, "way", "(IIIII)I"⟩
abbrev cX8_count : ByteArray := prog_1_method_27_code
def yX8_count : MethodName := ⟨RX8, "count", "(I)I"⟩
abbrev cX8_within : ByteArray := prog_1_method_28_code
def yX8_within : MethodName := ⟨RX8, "within", "(III)Z"⟩
abbrev cX8_isThing : ByteArray := prog_1_method_29_code
def yX8_isThing : MethodName := ⟨RX8, "isThing", "(I)Z"⟩
abbrev cX8_hasLumps : ByteArray := prog_1_method_30_code
def yX8_hasLumps : MethodName := ⟨RX8, "hasLumps", "(I)Z"⟩
abbrev cX8_refusal : ByteArray := prog_1_method_31_code
def yX8_refusal : MethodName := ⟨RX8, "refusal", "(IZ)I"⟩
abbrev cX8_limited : ByteArray := prog_1_method_32_code
def yX8_limited : MethodName := ⟨RX8, "limited", "(II)I"⟩
abbrev cX8_wish : ByteArray := prog_1_method_33_code
def yX8_wish : MethodName := ⟨RX8, "wish", "([III)I"⟩
abbrev cX8_lowestTerms : ByteArray := prog_1_method_34_code
def yX8_lowestTerms : MethodName := ⟨RX8, "lowestTerms", "(III)I"⟩
abbrev cX8_power : ByteArray := prog_1_method_35_code
def yX8_power : MethodName := ⟨RX8, "power", "(II)I"⟩
def RX9 : String := "OnChinModel"
def TX9 : u_T := fun k => match k with
  | 0 => ("OnChinModel", "text", "[I", true)
  | 1 => ("OnChinModel", "length", "I", false)
  | 2 => ("OnChinModel", "read", "[I", true)
  | 3 => ("OnChinModel", "readMany", "I", false)
  | 4 => ("OnChinModel", "kinds", "[I", true)
  | 5 => ("OnChinModel", "much", "[I", true)
  | 6 => ("OnChinModel", "lumpMany", "[I", true)
  | 7 => ("OnChinModel", "lumps", "[I", true)
  | 8 => ("OnChinModel", "a", "I", false)
  | 9 => ("OnChinModel", "b", "I", false)
  | 10 => ("OnChinModel", "late", "I", false)
  | 11 => ("OnChinModel", "reach", "I", false)
  | 12 => ("OnChinModel", "dead", "I", false)
  | 13 => ("OnChinModel", "floor", "I", false)
  | 14 => ("OnChinModel", "pull", "I", false)
  | 15 => ("OnChinModel", "bound", "I", false)
  | 16 => ("OnChinModel", "wind", "I", false)
  | 17 => ("OnChinModel", "shake", "I", false)
  | 18 => ("OnChinModel", "at", "I", false)
  | 19 => ("OnChinModel", "place", "I", false)
  | 20 => ("OnChinModel", "end", "I", false)
  | 21 => ("OnChinModel", "readLumps", "[I", true)
  | 22 => ("OnChinModel", "leant", "[I", true)
  | 23 => ("OnChinModel", "going", "[I", true)
  | 24 => ("OnChinModel", "foot", "[I", true)
  | 25 => ("OnChinModel", "gone", "[I", true)
  | 26 => ("OnChinModel", "moved", "[I", true)
  | 27 => ("OnChinModel", "thingOf", "[I", true)
  | 28 => ("OnChinModel", "ruleA", "I", false)
  | 29 => ("OnChinModel", "ruleB", "I", false)
  | 30 => ("OnChinModel", "ruleLate", "I", false)
  | 31 => ("OnChinModel", "ruleShake", "I", false)
  | 32 => ("OnChinModel", "kind", "I", false)
  | 33 => ("OnChinModel", "own", "I", false)
  | 34 => ("OnChinModel", "lengthNow", "I", false)
  | 35 => ("OnChinModel", "filmX", "[I", true)
  | 36 => ("OnChinModel", "filmM", "[I", true)
  | 37 => ("OnChinModel", "filmMany", "I", false)
  | 38 => ("OnChinModel", "holds", "[Z", true)
  | 39 => ("OnChinModel", "draughts", "[I", true)
  | 40 => ("OnChinModel", "lamps", "[I", true)
  | _ => ("OnChinModel", "costs", "[I", true)
def tyX9 : Nat → FieldType := fun k => match k with
  | 0 => .array .int
  | 1 => .int
  | 2 => .array .int
  | 3 => .int
  | 4 => .array .int
  | 5 => .array .int
  | 6 => .array .int
  | 7 => .array .int
  | 8 => .int
  | 9 => .int
  | 10 => .int
  | 11 => .int
  | 12 => .int
  | 13 => .int
  | 14 => .int
  | 15 => .int
  | 16 => .int
  | 17 => .int
  | 18 => .int
  | 19 => .int
  | 20 => .int
  | 21 => .array .int
  | 22 => .array .int
  | 23 => .array .int
  | 24 => .array .int
  | 25 => .array .int
  | 26 => .array .int
  | 27 => .array .int
  | 28 => .int
  | 29 => .int
  | 30 => .int
  | 31 => .int
  | 32 => .int
  | 33 => .int
  | 34 => .int
  | 35 => .array .int
  | 36 => .array .int
  | 37 => .int
  | 38 => .array .boolean
  | 39 => .array .int
  | 40 => .array .int
  | _ => .array .int
abbrev wsX90 : List Cond := u_ws RX9 TX9 42
theorem nmX9 : ∀ a, a < 42 → ∀ b, b < 42 → a ≠ b → (TX9 a).2.1 ≠ (TX9 b).2.1 := by decide +kernel
theorem tyX9_ok : ∀ k, k < 42 → parseFieldDescriptor (TX9 k).2.2.1 = some (tyX9 k) := by decide +kernel
abbrev cX9_init : ByteArray := prog_11_method_1_code
def yX9_init : MethodName := ⟨RX9, "<init>", "()V"⟩
abbrev cX9_in : ByteArray := prog_11_method_2_code
def yX9_in : MethodName := ⟨RX9, "in", "(JJJ)Z"⟩
abbrev cX9_write : ByteArray := prog_11_method_3_code
def yX9_write : MethodName := ⟨RX9, "write", "(JI)I"⟩
abbrev cX9_erase : ByteArray := prog_11_method_4_code
def yX9_erase : MethodName := ⟨RX9, "erase", "()I"⟩
abbrev cX9_sort : ByteArray := prog_11_method_5_code
def yX9_sort : MethodName := ⟨RX9, "sort", "(I)I"⟩
abbrev cX9_token : ByteArray := prog_11_method_6_code
def yX9_token : MethodName := ⟨RX9, "token", "()V"⟩
abbrev cX9_isWord : ByteArray := prog_11_method_7_code
def yX9_isWord : MethodName := ⟨RX9, "isWord", "(JI)Z"⟩
abbrev cX9_wordOf : ByteArray := prog_11_method_8_code
def yX9_wordOf : MethodName := ⟨RX9, "wordOf", "()I"⟩
abbrev cX9_reads : ByteArray := prog_11_method_9_code
def yX9_reads : MethodName := ⟨RX9, "reads", "(III)Z"⟩
abbrev cX9_readsKind : ByteArray := prog_11_method_10_code
def yX9_readsKind : MethodName := ⟨RX9, "readsKind", "()Z"⟩
abbrev cX9_readsLump : ByteArray := prog_11_method_11_code
def yX9_readsLump : MethodName := ⟨RX9, "readsLump", "()Z"⟩
abbrev cX9_readsRest : ByteArray := prog_11_method_12_code
def yX9_readsRest : MethodName := ⟨RX9, "readsRest", "(I)Z"⟩
abbrev cX9_readsLine : ByteArray := prog_11_method_13_code
def yX9_readsLine : MethodName := ⟨RX9, "readsLine", "()Z"⟩
abbrev cX9_fault : ByteArray := prog_11_method_14_code
def yX9_fault : MethodName := ⟨RX9, "fault", "()I"⟩
abbrev cX9_tell : ByteArray := prog_11_method_15_code
def yX9_tell : MethodName := ⟨RX9, "tell", "(I)V"⟩
abbrev cX9_chin : ByteArray := prog_11_method_16_code
def yX9_chin : MethodName := ⟨RX9, "chin", "()I"⟩
abbrev cX9_isThing : ByteArray := prog_11_method_17_code
def yX9_isThing : MethodName := ⟨RX9, "isThing", "(I)Z"⟩
abbrev cX9_longOf : ByteArray := prog_11_method_18_code
def yX9_longOf : MethodName := ⟨RX9, "longOf", "(I)I"⟩
abbrev cX9_greatest : ByteArray := prog_11_method_19_code
def yX9_greatest : MethodName := ⟨RX9, "greatest", "(I)I"⟩
abbrev cX9_thing : ByteArray := prog_11_method_20_code
def yX9_thing : MethodName := ⟨RX9, "thing", "(II)I"⟩
abbrev cX9_lump : ByteArray := prog_11_method_21_code
def yX9_lump : MethodName := ⟨RX9, "lump", "(III)I"⟩
abbrev cX9_asTold : ByteArray := prog_11_method_22_code
def yX9_asTold : MethodName := ⟨RX9, "asTold", "(I)V"⟩
abbrev cX9_look : ByteArray := prog_11_method_23_code
def yX9_look : MethodName := ⟨RX9, "look", "(I)V"⟩
abbrev cX9_start : ByteArray := prog_11_method_24_code
def yX9_start : MethodName := ⟨RX9, "start", "(III)V"⟩
abbrev cX9_leansAt : ByteArray := prog_11_method_25_code
def yX9_leansAt : MethodName := ⟨RX9, "leansAt", "(I)I"⟩
abbrev cX9_fell : ByteArray := prog_11_method_26_code
def yX9_fell : MethodName := ⟨RX9, "fell", "(I)Z"⟩
abbrev cX9_minds : ByteArray := prog_11_method_27_code
def yX9_minds : MethodName := ⟨RX9, "minds", "(II)I"⟩
abbrev cX9_moves : ByteArray := prog_11_method_28_code
def yX9_moves : MethodName := ⟨RX9, "moves", "(I)I"⟩
abbrev cX9_tick : ByteArray := prog_11_method_29_code
def yX9_tick : MethodName := ⟨RX9, "tick", "(IZI)V"⟩
abbrev cX9_isX : ByteArray := prog_11_method_30_code
def yX9_isX : MethodName := ⟨RX9, "isX", "(I)Z"⟩
abbrev cX9_isV : ByteArray := prog_11_method_31_code
def yX9_isV : MethodName := ⟨RX9, "isV", "(I)Z"⟩
abbrev cX9_begin : ByteArray := prog_11_method_32_code
def yX9_begin : MethodName := ⟨RX9, "begin", "(III)I"⟩
abbrev cX9_ticks : ByteArray := prog_11_method_33_code
def yX9_ticks : MethodName := ⟨RX9, "ticks", "(I)I"⟩
abbrev cX9_now : ByteArray := prog_11_method_34_code
def yX9_now : MethodName := ⟨RX9, "now", "(I)I"⟩
abbrev cX9_copy : ByteArray := prog_11_method_35_code
def yX9_copy : MethodName := ⟨RX9, "copy", "(II)V"⟩
abbrev cX9_keep : ByteArray := prog_11_method_36_code
def yX9_keep : MethodName := ⟨RX9, "keep", "(I)I"⟩
abbrev cX9_back : ByteArray := prog_11_method_37_code
def yX9_back : MethodName := ⟨RX9, "back", "(I)I"⟩
abbrev cX9_lasts : ByteArray := prog_11_method_38_code
def yX9_lasts : MethodName := ⟨RX9, "lasts", "(IIZ)I"⟩
abbrev cX9_kept : ByteArray := prog_11_method_39_code
def yX9_kept : MethodName := ⟨RX9, "kept", "(III)I"⟩
abbrev cX9_least : ByteArray := prog_11_method_40_code
def yX9_least : MethodName := ⟨RX9, "least", "(I)I"⟩
abbrev cX9_isK : ByteArray := prog_11_method_41_code
def yX9_isK : MethodName := ⟨RX9, "isK", "(I)Z"⟩
abbrev cX9_steady : ByteArray := prog_11_method_42_code
def yX9_steady : MethodName := ⟨RX9, "steady", "(II)I"⟩
abbrev cX9_stays : ByteArray := prog_11_method_43_code
def yX9_stays : MethodName := ⟨RX9, "stays", "(I)Z"⟩
abbrev cX9_line : ByteArray := prog_11_method_44_code
def yX9_line : MethodName := ⟨RX9, "line", "(I)I"⟩
abbrev cX9_best : ByteArray := prog_11_method_45_code
def yX9_best : MethodName := ⟨RX9, "best", "(III)I"⟩
abbrev cX9_divisor : ByteArray := prog_11_method_46_code
def yX9_divisor : MethodName := ⟨RX9, "divisor", "(II)I"⟩
abbrev cX9_weightOf : ByteArray := prog_11_method_47_code
def yX9_weightOf : MethodName := ⟨RX9, "weightOf", "(IIIII)I"⟩
abbrev cX9_odds : ByteArray := prog_11_method_48_code
def yX9_odds : MethodName := ⟨RX9, "odds", "(IIIIII)I"⟩
abbrev cX9_stands : ByteArray := prog_11_method_49_code
def yX9_stands : MethodName := ⟨RX9, "stands", "(II)I"⟩
abbrev cX9_two : ByteArray := prog_11_method_50_code
def yX9_two : MethodName := ⟨RX9, "two", "(IIIIII)I"⟩
abbrev cX9_film : ByteArray := prog_11_method_51_code
def yX9_film : MethodName := ⟨RX9, "film", "(II)I"⟩
abbrev cX9_wind : ByteArray := prog_11_method_52_code
def yX9_wind : MethodName := ⟨RX9, "wind", "()I"⟩
abbrev cX9_mindsAt : ByteArray := prog_11_method_53_code
def yX9_mindsAt : MethodName := ⟨RX9, "mindsAt", "(I)I"⟩
abbrev cX9_fitsBy : ByteArray := prog_11_method_54_code
def yX9_fitsBy : MethodName := ⟨RX9, "fitsBy", "(I)Z"⟩
abbrev cX9_fits : ByteArray := prog_11_method_55_code
def yX9_fits : MethodName := ⟨RX9, "fits", "(I)I"⟩
abbrev cX9_next : ByteArray := prog_11_method_56_code
def yX9_next : MethodName := ⟨RX9, "next", "(II)I"⟩
abbrev cX9_layHolds : ByteArray := prog_11_method_57_code
def yX9_layHolds : MethodName := ⟨RX9, "layHolds", "()V"⟩
abbrev cX9_tenthsBy : ByteArray := prog_11_method_58_code
def yX9_tenthsBy : MethodName := ⟨RX9, "tenthsBy", "(II)I"⟩
abbrev cX9_plan : ByteArray := prog_11_method_59_code
def yX9_plan : MethodName := ⟨RX9, "plan", "(II)I"⟩
abbrev cX9_isCell : ByteArray := prog_11_method_60_code
def yX9_isCell : MethodName := ⟨RX9, "isCell", "(I)Z"⟩
abbrev cX9_room : ByteArray := prog_11_method_61_code
def yX9_room : MethodName := ⟨RX9, "room", "(III)I"⟩
abbrev cX9_areBeside : ByteArray := prog_11_method_62_code
def yX9_areBeside : MethodName := ⟨RX9, "areBeside", "(II)Z"⟩
abbrev cX9_way : ByteArray := prog_11_method_63_code
def yX9_way : MethodName := ⟨RX9, "way", "(IIIII)I"⟩
abbrev cX9_count : ByteArray := prog_11_method_64_code
def yX9_count : MethodName := ⟨RX9, "count", "(I)I"⟩
def RJ9 : String := "java/lang/Math"
def TJ9 : u_T := fun k => match k with
  | _ => ("", "", "", false)
def tyJ9 : Nat → FieldType := fun k => match k with
  | _ => .int
abbrev wsJ90 : List Cond := u_ws RJ9 TJ9 0
theorem nmJ9 : ∀ a, a < 0 → ∀ b, b < 0 → a ≠ b → (TJ9 a).2.1 ≠ (TJ9 b).2.1 := by decide +kernel
theorem tyJ9_ok : ∀ k, k < 0 → parseFieldDescriptor (TJ9 k).2.2.1 = some (tyJ9 k) := by decide +kernel
abbrev cJ9_abs_0f7a4 : ByteArray := prog_12_method_59_code
def yJ9_abs_0f7a4 : MethodName := ⟨RJ9, "abs", "(I)I"⟩
abbrev cJ9_max_7cf53 : ByteArray := prog_12_method_65_code
def yJ9_max_7cf53 : MethodName := ⟨RJ9, "max", "(II)I"⟩
abbrev cJ9_min_7cf53 : ByteArray := prog_12_method_69_code
def yJ9_min_7cf53 : MethodName := ⟨RJ9, "min", "(II)I"⟩
def RJ0 : String := "java/lang/String"
def TJ0 : u_T := fun k => match k with
  | _ => ("", "", "", false)
def tyJ0 : Nat → FieldType := fun k => match k with
  | _ => .int
abbrev wsJ00 : List Cond := u_ws RJ0 TJ0 0
theorem nmJ0 : ∀ a, a < 0 → ∀ b, b < 0 → a ≠ b → (TJ0 a).2.1 ≠ (TJ0 b).2.1 := by decide +kernel
theorem tyJ0_ok : ∀ k, k < 0 → parseFieldDescriptor (TJ0 k).2.2.1 = some (tyJ0 k) := by decide +kernel
abbrev cJ0_length_8abf5 : ByteArray := prog_13_method_54_code
def yJ0_length_8abf5 : MethodName := ⟨RJ0, "length", "()I"⟩
abbrev cJ0_charAt_5068e : ByteArray := prog_13_method_56_code
def yJ0_charAt_5068e : MethodName := ⟨RJ0, "charAt", "(I)C"⟩
abbrev cJ0_coder_7d493 : ByteArray := prog_13_method_152_code
def yJ0_coder_7d493 : MethodName := ⟨RJ0, "coder", "()B"⟩
abbrev cJ0_isLatin1_aae02 : ByteArray := prog_13_method_154_code
def yJ0_isLatin1_aae02 : MethodName := ⟨RJ0, "isLatin1", "()Z"⟩
abbrev cJ0_checkIndex_df160 : ByteArray := prog_13_method_155_code
def yJ0_checkIndex_df160 : MethodName := ⟨RJ0, "checkIndex", "(II)V"⟩
def RJ1 : String := "java/lang/StringLatin1"
def TJ1 : u_T := fun k => match k with
  | _ => ("", "", "", false)
def tyJ1 : Nat → FieldType := fun k => match k with
  | _ => .int
abbrev wsJ10 : List Cond := u_ws RJ1 TJ1 0
theorem nmJ1 : ∀ a, a < 0 → ∀ b, b < 0 → a ≠ b → (TJ1 a).2.1 ≠ (TJ1 b).2.1 := by decide +kernel
theorem tyJ1_ok : ∀ k, k < 0 → parseFieldDescriptor (TJ1 k).2.2.1 = some (tyJ1 k) := by decide +kernel
abbrev cJ1_charAt_3b067 : ByteArray := prog_14_method_2_code
def yJ1_charAt_3b067 : MethodName := ⟨RJ1, "charAt", "([BI)C"⟩
def RJ2 : String := "java/lang/StringUTF16"
def TJ2 : u_T := fun k => match k with
  | _ => ("", "", "", false)
def tyJ2 : Nat → FieldType := fun k => match k with
  | _ => .int
abbrev wsJ20 : List Cond := u_ws RJ2 TJ2 0
theorem nmJ2 : ∀ a, a < 0 → ∀ b, b < 0 → a ≠ b → (TJ2 a).2.1 ≠ (TJ2 b).2.1 := by decide +kernel
theorem tyJ2_ok : ∀ k, k < 0 → parseFieldDescriptor (TJ2 k).2.2.1 = some (tyJ2 k) := by decide +kernel
abbrev cJ2_getChar_3b067 : ByteArray := prog_15_method_5_code
def yJ2_getChar_3b067 : MethodName := ⟨RJ2, "getChar", "([BI)C"⟩
abbrev cJ2_length_9d52b : ByteArray := prog_15_method_6_code
def yJ2_length_9d52b : MethodName := ⟨RJ2, "length", "([B)I"⟩
abbrev cJ2_charAt_3b067 : ByteArray := prog_15_method_83_code
def yJ2_charAt_3b067 : MethodName := ⟨RJ2, "charAt", "([BI)C"⟩
abbrev cJ2_checkIndex_2214a : ByteArray := prog_15_method_91_code
def yJ2_checkIndex_2214a : MethodName := ⟨RJ2, "checkIndex", "(I[B)V"⟩
def RJ10 : String := "java/lang/System"
def TJ10 : u_T := fun k => match k with
  | _ => ("", "", "", false)
def tyJ10 : Nat → FieldType := fun k => match k with
  | _ => .int
abbrev wsJ100 : List Cond := u_ws RJ10 TJ10 0
theorem nmJ10 : ∀ a, a < 0 → ∀ b, b < 0 → a ≠ b → (TJ10 a).2.1 ≠ (TJ10 b).2.1 := by decide +kernel
theorem tyJ10_ok : ∀ k, k < 0 → parseFieldDescriptor (TJ10 k).2.2.1 = some (tyJ10 k) := by decide +kernel
def RJ3 : String := "jdk/internal/util/Preconditions"
def TJ3 : u_T := fun k => match k with
  | _ => ("", "", "", false)
def tyJ3 : Nat → FieldType := fun k => match k with
  | _ => .int
abbrev wsJ30 : List Cond := u_ws RJ3 TJ3 0
theorem nmJ3 : ∀ a, a < 0 → ∀ b, b < 0 → a ≠ b → (TJ3 a).2.1 ≠ (TJ3 b).2.1 := by decide +kernel
theorem tyJ3_ok : ∀ k, k < 0 → parseFieldDescriptor (TJ3 k).2.2.1 = some (tyJ3 k) := by decide +kernel
abbrev cJ3_checkIndex_8e157 : ByteArray := prog_17_method_11_code
def yJ3_checkIndex_8e157 : MethodName := ⟨RJ3, "checkIndex", "(IILjava/util/function/BiFunction;)I"⟩
def RL : String := "OnChinLaw"
abbrev cL_law : ByteArray := code
def yL_law : MethodName := ⟨RL, "law", "([I)Z"⟩
end
section
theorem dX0_init_0 : decode cX0_init 0 = .ok (.aload_n 0, 1) := by decide +kernel
theorem dX0_init_1 : decode cX0_init 1 = .ok (.invokespecial 3, 3) := by decide +kernel
theorem dX0_init_4 : decode cX0_init 4 = .ok (.aload_n 0, 1) := by decide +kernel
theorem dX0_init_5 : decode cX0_init 5 = .ok (.iconst (-1), 1) := by decide +kernel
theorem dX0_init_6 : decode cX0_init 6 = .ok (.putfield 9, 3) := by decide +kernel
theorem dX0_init_9 : decode cX0_init 9 = .ok (.aload_n 0, 1) := by decide +kernel
theorem dX0_init_10 : decode cX0_init 10 = .ok (.iconst 0, 1) := by decide +kernel
theorem dX0_init_11 : decode cX0_init 11 = .ok (.putfield 15, 3) := by decide +kernel
theorem dX0_init_14 : decode cX0_init 14 = .ok (.aload_n 0, 1) := by decide +kernel
theorem dX0_init_15 : decode cX0_init 15 = .ok (.iconst 0, 1) := by decide +kernel
theorem dX0_init_16 : decode cX0_init 16 = .ok (.putfield 18, 3) := by decide +kernel
theorem dX0_init_19 : decode cX0_init 19 = .ok (.aload_n 0, 1) := by decide +kernel
theorem dX0_init_20 : decode cX0_init 20 = .ok (.iconst 0, 1) := by decide +kernel
theorem dX0_init_21 : decode cX0_init 21 = .ok (.putfield 21, 3) := by decide +kernel
theorem dX0_init_24 : decode cX0_init 24 = .ok (.aload_n 0, 1) := by decide +kernel
theorem dX0_init_25 : decode cX0_init 25 = .ok (.iconst 0, 1) := by decide +kernel
theorem dX0_init_26 : decode cX0_init 26 = .ok (.putfield 24, 3) := by decide +kernel
theorem dX0_init_29 : decode cX0_init 29 = .ok (.aload_n 0, 1) := by decide +kernel
theorem dX0_init_30 : decode cX0_init 30 = .ok (.iconst 0, 1) := by decide +kernel
theorem dX0_init_31 : decode cX0_init 31 = .ok (.putfield 27, 3) := by decide +kernel
theorem dX0_init_34 : decode cX0_init 34 = .ok (.aload_n 0, 1) := by decide +kernel
theorem dX0_init_35 : decode cX0_init 35 = .ok (.bipush 32, 2) := by decide +kernel
theorem dX0_init_37 : decode cX0_init 37 = .ok (.newarray .int, 2) := by decide +kernel
theorem dX0_init_39 : decode cX0_init 39 = .ok (.putfield 30, 3) := by decide +kernel
theorem dX0_init_42 : decode cX0_init 42 = .ok (.return_, 1) := by decide +kernel
theorem dX0_start_0 : decode cX0_start 0 = .ok (.aload_n 0, 1) := by decide +kernel
theorem dX0_start_1 : decode cX0_start 1 = .ok (.iload_n 1, 1) := by decide +kernel
theorem dX0_start_2 : decode cX0_start 2 = .ok (.putfield 9, 3) := by decide +kernel
theorem dX0_start_5 : decode cX0_start 5 = .ok (.aload_n 0, 1) := by decide +kernel
theorem dX0_start_6 : decode cX0_start 6 = .ok (.iload_n 2, 1) := by decide +kernel
theorem dX0_start_7 : decode cX0_start 7 = .ok (.putfield 15, 3) := by decide +kernel
theorem dX0_start_10 : decode cX0_start 10 = .ok (.aload_n 0, 1) := by decide +kernel
theorem dX0_start_11 : decode cX0_start 11 = .ok (.iload_n 3, 1) := by decide +kernel
theorem dX0_start_12 : decode cX0_start 12 = .ok (.putfield 18, 3) := by decide +kernel
theorem dX0_start_15 : decode cX0_start 15 = .ok (.aload_n 0, 1) := by decide +kernel
theorem dX0_start_16 : decode cX0_start 16 = .ok (.iconst 0, 1) := by decide +kernel
theorem dX0_start_17 : decode cX0_start 17 = .ok (.putfield 21, 3) := by decide +kernel
theorem dX0_start_20 : decode cX0_start 20 = .ok (.aload_n 0, 1) := by decide +kernel
theorem dX0_start_21 : decode cX0_start 21 = .ok (.iconst 0, 1) := by decide +kernel
theorem dX0_start_22 : decode cX0_start 22 = .ok (.putfield 24, 3) := by decide +kernel
theorem dX0_start_25 : decode cX0_start 25 = .ok (.aload_n 0, 1) := by decide +kernel
theorem dX0_start_26 : decode cX0_start 26 = .ok (.iconst 0, 1) := by decide +kernel
theorem dX0_start_27 : decode cX0_start 27 = .ok (.putfield 27, 3) := by decide +kernel
theorem dX0_start_30 : decode cX0_start 30 = .ok (.aload_n 0, 1) := by decide +kernel
theorem dX0_start_31 : decode cX0_start 31 = .ok (.getfield 30, 3) := by decide +kernel
theorem dX0_start_34 : decode cX0_start 34 = .ok (.iconst 0, 1) := by decide +kernel
theorem dX0_start_35 : decode cX0_start 35 = .ok (.iload_n 2, 1) := by decide +kernel
theorem dX0_start_36 : decode cX0_start 36 = .ok (.iastore, 1) := by decide +kernel
theorem dX0_start_37 : decode cX0_start 37 = .ok (.return_, 1) := by decide +kernel
theorem dX0_copy_0 : decode cX0_copy 0 = .ok (.aload_n 0, 1) := by decide +kernel
theorem dX0_copy_1 : decode cX0_copy 1 = .ok (.aload_n 1, 1) := by decide +kernel
theorem dX0_copy_2 : decode cX0_copy 2 = .ok (.getfield 9, 3) := by decide +kernel
theorem dX0_copy_5 : decode cX0_copy 5 = .ok (.putfield 9, 3) := by decide +kernel
theorem dX0_copy_8 : decode cX0_copy 8 = .ok (.aload_n 0, 1) := by decide +kernel
theorem dX0_copy_9 : decode cX0_copy 9 = .ok (.aload_n 1, 1) := by decide +kernel
theorem dX0_copy_10 : decode cX0_copy 10 = .ok (.getfield 15, 3) := by decide +kernel
theorem dX0_copy_13 : decode cX0_copy 13 = .ok (.putfield 15, 3) := by decide +kernel
theorem dX0_copy_16 : decode cX0_copy 16 = .ok (.aload_n 0, 1) := by decide +kernel
theorem dX0_copy_17 : decode cX0_copy 17 = .ok (.aload_n 1, 1) := by decide +kernel
theorem dX0_copy_18 : decode cX0_copy 18 = .ok (.getfield 18, 3) := by decide +kernel
theorem dX0_copy_21 : decode cX0_copy 21 = .ok (.putfield 18, 3) := by decide +kernel
theorem dX0_copy_24 : decode cX0_copy 24 = .ok (.aload_n 0, 1) := by decide +kernel
theorem dX0_copy_25 : decode cX0_copy 25 = .ok (.aload_n 1, 1) := by decide +kernel
theorem dX0_copy_26 : decode cX0_copy 26 = .ok (.getfield 21, 3) := by decide +kernel
theorem dX0_copy_29 : decode cX0_copy 29 = .ok (.putfield 21, 3) := by decide +kernel
theorem dX0_copy_32 : decode cX0_copy 32 = .ok (.aload_n 0, 1) := by decide +kernel
theorem dX0_copy_33 : decode cX0_copy 33 = .ok (.aload_n 1, 1) := by decide +kernel
theorem dX0_copy_34 : decode cX0_copy 34 = .ok (.getfield 24, 3) := by decide +kernel
theorem dX0_copy_37 : decode cX0_copy 37 = .ok (.putfield 24, 3) := by decide +kernel
theorem dX0_copy_40 : decode cX0_copy 40 = .ok (.aload_n 0, 1) := by decide +kernel
theorem dX0_copy_41 : decode cX0_copy 41 = .ok (.aload_n 1, 1) := by decide +kernel
theorem dX0_copy_42 : decode cX0_copy 42 = .ok (.getfield 27, 3) := by decide +kernel
theorem dX0_copy_45 : decode cX0_copy 45 = .ok (.putfield 27, 3) := by decide +kernel
theorem dX0_copy_48 : decode cX0_copy 48 = .ok (.aload_n 1, 1) := by decide +kernel
theorem dX0_copy_49 : decode cX0_copy 49 = .ok (.getfield 30, 3) := by decide +kernel
theorem dX0_copy_52 : decode cX0_copy 52 = .ok (.iconst 0, 1) := by decide +kernel
theorem dX0_copy_53 : decode cX0_copy 53 = .ok (.aload_n 0, 1) := by decide +kernel
theorem dX0_copy_54 : decode cX0_copy 54 = .ok (.getfield 30, 3) := by decide +kernel
theorem dX0_copy_57 : decode cX0_copy 57 = .ok (.iconst 0, 1) := by decide +kernel
theorem dX0_copy_58 : decode cX0_copy 58 = .ok (.bipush 32, 2) := by decide +kernel
theorem dX0_copy_60 : decode cX0_copy 60 = .ok (.invokestatic 34, 3) := by decide +kernel
theorem dX0_copy_63 : decode cX0_copy 63 = .ok (.return_, 1) := by decide +kernel
theorem dX0_fell_0 : decode cX0_fell 0 = .ok (.aload_n 0, 1) := by decide +kernel
theorem dX0_fell_1 : decode cX0_fell 1 = .ok (.getfield 15, 3) := by decide +kernel
theorem dX0_fell_4 : decode cX0_fell 4 = .ok (.aload_n 1, 1) := by decide +kernel
theorem dX0_fell_5 : decode cX0_fell 5 = .ok (.bipush 7, 2) := by decide +kernel
theorem dX0_fell_7 : decode cX0_fell 7 = .ok (.iaload, 1) := by decide +kernel
theorem dX0_fell_8 : decode cX0_fell 8 = .ok (.if_icmp .gt 15, 3) := by decide +kernel
theorem dX0_fell_11 : decode cX0_fell 11 = .ok (.aload_n 0, 1) := by decide +kernel
theorem dX0_fell_12 : decode cX0_fell 12 = .ok (.getfield 15, 3) := by decide +kernel
theorem dX0_fell_15 : decode cX0_fell 15 = .ok (.aload_n 1, 1) := by decide +kernel
theorem dX0_fell_16 : decode cX0_fell 16 = .ok (.bipush 7, 2) := by decide +kernel
theorem dX0_fell_18 : decode cX0_fell 18 = .ok (.iaload, 1) := by decide +kernel
theorem dX0_fell_19 : decode cX0_fell 19 = .ok (.ineg, 1) := by decide +kernel
theorem dX0_fell_20 : decode cX0_fell 20 = .ok (.if_icmp .ge 7, 3) := by decide +kernel
theorem dX0_fell_23 : decode cX0_fell 23 = .ok (.iconst 1, 1) := by decide +kernel
theorem dX0_fell_24 : decode cX0_fell 24 = .ok (.goto 4, 3) := by decide +kernel
theorem dX0_fell_27 : decode cX0_fell 27 = .ok (.iconst 0, 1) := by decide +kernel
theorem dX0_fell_28 : decode cX0_fell 28 = .ok (.ireturn, 1) := by decide +kernel
theorem dX0_tick_0 : decode cX0_tick 0 = .ok (.aload_n 0, 1) := by decide +kernel
theorem dX0_tick_1 : decode cX0_tick 1 = .ok (.getfield 24, 3) := by decide +kernel
theorem dX0_tick_4 : decode cX0_tick 4 = .ok (.iconst 2, 1) := by decide +kernel
theorem dX0_tick_5 : decode cX0_tick 5 = .ok (.irem, 1) := by decide +kernel
theorem dX0_tick_6 : decode cX0_tick 6 = .ok (.ifCond .ne 15, 3) := by decide +kernel
theorem dX0_tick_9 : decode cX0_tick 9 = .ok (.aload_n 2, 1) := by decide +kernel
theorem dX0_tick_10 : decode cX0_tick 10 = .ok (.bipush 6, 2) := by decide +kernel
theorem dX0_tick_12 : decode cX0_tick 12 = .ok (.iaload, 1) := by decide +kernel
theorem dX0_tick_13 : decode cX0_tick 13 = .ok (.aload_n 2, 1) := by decide +kernel
theorem dX0_tick_14 : decode cX0_tick 14 = .ok (.bipush 9, 2) := by decide +kernel
theorem dX0_tick_16 : decode cX0_tick 16 = .ok (.iaload, 1) := by decide +kernel
theorem dX0_tick_17 : decode cX0_tick 17 = .ok (.iadd, 1) := by decide +kernel
theorem dX0_tick_18 : decode cX0_tick 18 = .ok (.goto 12, 3) := by decide +kernel
theorem dX0_tick_21 : decode cX0_tick 21 = .ok (.aload_n 2, 1) := by decide +kernel
theorem dX0_tick_22 : decode cX0_tick 22 = .ok (.bipush 6, 2) := by decide +kernel
theorem dX0_tick_24 : decode cX0_tick 24 = .ok (.iaload, 1) := by decide +kernel
theorem dX0_tick_25 : decode cX0_tick 25 = .ok (.aload_n 2, 1) := by decide +kernel
theorem dX0_tick_26 : decode cX0_tick 26 = .ok (.bipush 9, 2) := by decide +kernel
theorem dX0_tick_28 : decode cX0_tick 28 = .ok (.iaload, 1) := by decide +kernel
theorem dX0_tick_29 : decode cX0_tick 29 = .ok (.isub, 1) := by decide +kernel
theorem dX0_tick_30 : decode cX0_tick 30 = .ok (.istore 5, 2) := by decide +kernel
theorem dX0_tick_32 : decode cX0_tick 32 = .ok (.aload_n 0, 1) := by decide +kernel
theorem dX0_tick_33 : decode cX0_tick 33 = .ok (.iload_n 3, 1) := by decide +kernel
theorem dX0_tick_34 : decode cX0_tick 34 = .ok (.ifCond .eq 12, 3) := by decide +kernel
theorem dX0_tick_37 : decode cX0_tick 37 = .ok (.aload_n 0, 1) := by decide +kernel
theorem dX0_tick_38 : decode cX0_tick 38 = .ok (.aload_n 1, 1) := by decide +kernel
theorem dX0_tick_39 : decode cX0_tick 39 = .ok (.aload_n 2, 1) := by decide +kernel
theorem dX0_tick_40 : decode cX0_tick 40 = .ok (.invokevirtual 40, 3) := by decide +kernel
theorem dX0_tick_43 : decode cX0_tick 43 = .ok (.goto 4, 3) := by decide +kernel
theorem dX0_tick_46 : decode cX0_tick 46 = .ok (.iconst 0, 1) := by decide +kernel
theorem dX0_tick_47 : decode cX0_tick 47 = .ok (.putfield 27, 3) := by decide +kernel
theorem dX0_tick_50 : decode cX0_tick 50 = .ok (.aload_n 0, 1) := by decide +kernel
theorem dX0_tick_51 : decode cX0_tick 51 = .ok (.dup, 1) := by decide +kernel
theorem dX0_tick_52 : decode cX0_tick 52 = .ok (.getfield 18, 3) := by decide +kernel
theorem dX0_tick_55 : decode cX0_tick 55 = .ok (.aload_n 1, 1) := by decide +kernel
theorem dX0_tick_56 : decode cX0_tick 56 = .ok (.aload_n 0, 1) := by decide +kernel
theorem dX0_tick_57 : decode cX0_tick 57 = .ok (.getfield 15, 3) := by decide +kernel
theorem dX0_tick_60 : decode cX0_tick 60 = .ok (.aload_n 0, 1) := by decide +kernel
theorem dX0_tick_61 : decode cX0_tick 61 = .ok (.getfield 18, 3) := by decide +kernel
theorem dX0_tick_64 : decode cX0_tick 64 = .ok (.iload 5, 2) := by decide +kernel
theorem dX0_tick_66 : decode cX0_tick 66 = .ok (.invokevirtual 44, 3) := by decide +kernel
theorem dX0_tick_69 : decode cX0_tick 69 = .ok (.aload_n 2, 1) := by decide +kernel
theorem dX0_tick_70 : decode cX0_tick 70 = .ok (.bipush 8, 2) := by decide +kernel
theorem dX0_tick_72 : decode cX0_tick 72 = .ok (.iaload, 1) := by decide +kernel
theorem dX0_tick_73 : decode cX0_tick 73 = .ok (.iadd, 1) := by decide +kernel
theorem dX0_tick_74 : decode cX0_tick 74 = .ok (.iload 4, 2) := by decide +kernel
theorem dX0_tick_76 : decode cX0_tick 76 = .ok (.iadd, 1) := by decide +kernel
theorem dX0_tick_77 : decode cX0_tick 77 = .ok (.iadd, 1) := by decide +kernel
theorem dX0_tick_78 : decode cX0_tick 78 = .ok (.putfield 18, 3) := by decide +kernel
theorem dX0_tick_81 : decode cX0_tick 81 = .ok (.aload_n 0, 1) := by decide +kernel
theorem dX0_tick_82 : decode cX0_tick 82 = .ok (.dup, 1) := by decide +kernel
theorem dX0_tick_83 : decode cX0_tick 83 = .ok (.getfield 15, 3) := by decide +kernel
theorem dX0_tick_86 : decode cX0_tick 86 = .ok (.aload_n 0, 1) := by decide +kernel
theorem dX0_tick_87 : decode cX0_tick 87 = .ok (.getfield 18, 3) := by decide +kernel
theorem dX0_tick_90 : decode cX0_tick 90 = .ok (.aload_n 0, 1) := by decide +kernel
theorem dX0_tick_91 : decode cX0_tick 91 = .ok (.getfield 27, 3) := by decide +kernel
theorem dX0_tick_94 : decode cX0_tick 94 = .ok (.isub, 1) := by decide +kernel
theorem dX0_tick_95 : decode cX0_tick 95 = .ok (.iadd, 1) := by decide +kernel
theorem dX0_tick_96 : decode cX0_tick 96 = .ok (.putfield 15, 3) := by decide +kernel
theorem dX0_tick_99 : decode cX0_tick 99 = .ok (.aload_n 0, 1) := by decide +kernel
theorem dX0_tick_100 : decode cX0_tick 100 = .ok (.dup, 1) := by decide +kernel
theorem dX0_tick_101 : decode cX0_tick 101 = .ok (.getfield 21, 3) := by decide +kernel
theorem dX0_tick_104 : decode cX0_tick 104 = .ok (.aload_n 0, 1) := by decide +kernel
theorem dX0_tick_105 : decode cX0_tick 105 = .ok (.getfield 27, 3) := by decide +kernel
theorem dX0_tick_108 : decode cX0_tick 108 = .ok (.iadd, 1) := by decide +kernel
theorem dX0_tick_109 : decode cX0_tick 109 = .ok (.putfield 21, 3) := by decide +kernel
theorem dX0_tick_112 : decode cX0_tick 112 = .ok (.aload_n 0, 1) := by decide +kernel
theorem dX0_tick_113 : decode cX0_tick 113 = .ok (.dup, 1) := by decide +kernel
theorem dX0_tick_114 : decode cX0_tick 114 = .ok (.getfield 24, 3) := by decide +kernel
theorem dX0_tick_117 : decode cX0_tick 117 = .ok (.iconst 1, 1) := by decide +kernel
theorem dX0_tick_118 : decode cX0_tick 118 = .ok (.iadd, 1) := by decide +kernel
theorem dX0_tick_119 : decode cX0_tick 119 = .ok (.putfield 24, 3) := by decide +kernel
theorem dX0_tick_122 : decode cX0_tick 122 = .ok (.aload_n 0, 1) := by decide +kernel
theorem dX0_tick_123 : decode cX0_tick 123 = .ok (.getfield 30, 3) := by decide +kernel
theorem dX0_tick_126 : decode cX0_tick 126 = .ok (.aload_n 0, 1) := by decide +kernel
theorem dX0_tick_127 : decode cX0_tick 127 = .ok (.getfield 24, 3) := by decide +kernel
theorem dX0_tick_130 : decode cX0_tick 130 = .ok (.bipush 31, 2) := by decide +kernel
theorem dX0_tick_132 : decode cX0_tick 132 = .ok (.iand, 1) := by decide +kernel
theorem dX0_tick_133 : decode cX0_tick 133 = .ok (.aload_n 0, 1) := by decide +kernel
theorem dX0_tick_134 : decode cX0_tick 134 = .ok (.getfield 15, 3) := by decide +kernel
theorem dX0_tick_137 : decode cX0_tick 137 = .ok (.iastore, 1) := by decide +kernel
theorem dX0_tick_138 : decode cX0_tick 138 = .ok (.return_, 1) := by decide +kernel
theorem dX0_move_0 : decode cX0_move 0 = .ok (.aload_n 0, 1) := by decide +kernel
theorem dX0_move_1 : decode cX0_move 1 = .ok (.getfield 24, 3) := by decide +kernel
theorem dX0_move_4 : decode cX0_move 4 = .ok (.aload_n 2, 1) := by decide +kernel
theorem dX0_move_5 : decode cX0_move 5 = .ok (.iconst 2, 1) := by decide +kernel
theorem dX0_move_6 : decode cX0_move 6 = .ok (.iaload, 1) := by decide +kernel
theorem dX0_move_7 : decode cX0_move 7 = .ok (.isub, 1) := by decide +kernel
theorem dX0_move_8 : decode cX0_move 8 = .ok (.aload_n 1, 1) := by decide +kernel
theorem dX0_move_9 : decode cX0_move 9 = .ok (.invokevirtual 50, 3) := by decide +kernel
theorem dX0_move_12 : decode cX0_move 12 = .ok (.isub, 1) := by decide +kernel
theorem dX0_move_13 : decode cX0_move 13 = .ok (.istore_n 3, 1) := by decide +kernel
theorem dX0_move_14 : decode cX0_move 14 = .ok (.aload_n 2, 1) := by decide +kernel
theorem dX0_move_15 : decode cX0_move 15 = .ok (.aload_n 0, 1) := by decide +kernel
theorem dX0_move_16 : decode cX0_move 16 = .ok (.iload_n 3, 1) := by decide +kernel
theorem dX0_move_17 : decode cX0_move 17 = .ok (.invokevirtual 54, 3) := by decide +kernel
theorem dX0_move_20 : decode cX0_move 20 = .ok (.aload_n 0, 1) := by decide +kernel
theorem dX0_move_21 : decode cX0_move 21 = .ok (.iload_n 3, 1) := by decide +kernel
theorem dX0_move_22 : decode cX0_move 22 = .ok (.iconst 1, 1) := by decide +kernel
theorem dX0_move_23 : decode cX0_move 23 = .ok (.isub, 1) := by decide +kernel
theorem dX0_move_24 : decode cX0_move 24 = .ok (.invokevirtual 54, 3) := by decide +kernel
theorem dX0_move_27 : decode cX0_move 27 = .ok (.invokestatic 58, 3) := by decide +kernel
theorem dX0_move_30 : decode cX0_move 30 = .ok (.istore 4, 2) := by decide +kernel
theorem dX0_move_32 : decode cX0_move 32 = .ok (.aload_n 0, 1) := by decide +kernel
theorem dX0_move_33 : decode cX0_move 33 = .ok (.getfield 21, 3) := by decide +kernel
theorem dX0_move_36 : decode cX0_move 36 = .ok (.iload 4, 2) := by decide +kernel
theorem dX0_move_38 : decode cX0_move 38 = .ok (.iadd, 1) := by decide +kernel
theorem dX0_move_39 : decode cX0_move 39 = .ok (.aload_n 2, 1) := by decide +kernel
theorem dX0_move_40 : decode cX0_move 40 = .ok (.iconst 5, 1) := by decide +kernel
theorem dX0_move_41 : decode cX0_move 41 = .ok (.iaload, 1) := by decide +kernel
theorem dX0_move_42 : decode cX0_move 42 = .ok (.invokestatic 62, 3) := by decide +kernel
theorem dX0_move_45 : decode cX0_move 45 = .ok (.aload_n 0, 1) := by decide +kernel
theorem dX0_move_46 : decode cX0_move 46 = .ok (.getfield 21, 3) := by decide +kernel
theorem dX0_move_49 : decode cX0_move 49 = .ok (.isub, 1) := by decide +kernel
theorem dX0_move_50 : decode cX0_move 50 = .ok (.ireturn, 1) := by decide +kernel
theorem dX0_was_0 : decode cX0_was 0 = .ok (.iload_n 1, 1) := by decide +kernel
theorem dX0_was_1 : decode cX0_was 1 = .ok (.ifCond .le 15, 3) := by decide +kernel
theorem dX0_was_4 : decode cX0_was 4 = .ok (.aload_n 0, 1) := by decide +kernel
theorem dX0_was_5 : decode cX0_was 5 = .ok (.getfield 30, 3) := by decide +kernel
theorem dX0_was_8 : decode cX0_was 8 = .ok (.iload_n 1, 1) := by decide +kernel
theorem dX0_was_9 : decode cX0_was 9 = .ok (.bipush 31, 2) := by decide +kernel
theorem dX0_was_11 : decode cX0_was 11 = .ok (.iand, 1) := by decide +kernel
theorem dX0_was_12 : decode cX0_was 12 = .ok (.iaload, 1) := by decide +kernel
theorem dX0_was_13 : decode cX0_was 13 = .ok (.goto 9, 3) := by decide +kernel
theorem dX0_was_16 : decode cX0_was 16 = .ok (.aload_n 0, 1) := by decide +kernel
theorem dX0_was_17 : decode cX0_was 17 = .ok (.getfield 30, 3) := by decide +kernel
theorem dX0_was_20 : decode cX0_was 20 = .ok (.iconst 0, 1) := by decide +kernel
theorem dX0_was_21 : decode cX0_was 21 = .ok (.iaload, 1) := by decide +kernel
theorem dX0_was_22 : decode cX0_was 22 = .ok (.ireturn, 1) := by decide +kernel
theorem dX0_isAgain_0 : decode cX0_isAgain 0 = .ok (.aload_n 0, 1) := by decide +kernel
theorem dX0_isAgain_1 : decode cX0_isAgain 1 = .ok (.getfield 15, 3) := by decide +kernel
theorem dX0_isAgain_4 : decode cX0_isAgain 4 = .ok (.aload_n 1, 1) := by decide +kernel
theorem dX0_isAgain_5 : decode cX0_isAgain 5 = .ok (.getfield 15, 3) := by decide +kernel
theorem dX0_isAgain_8 : decode cX0_isAgain 8 = .ok (.if_icmp .ne 39, 3) := by decide +kernel
theorem dX0_isAgain_11 : decode cX0_isAgain 11 = .ok (.aload_n 0, 1) := by decide +kernel
theorem dX0_isAgain_12 : decode cX0_isAgain 12 = .ok (.getfield 18, 3) := by decide +kernel
theorem dX0_isAgain_15 : decode cX0_isAgain 15 = .ok (.aload_n 1, 1) := by decide +kernel
theorem dX0_isAgain_16 : decode cX0_isAgain 16 = .ok (.getfield 18, 3) := by decide +kernel
theorem dX0_isAgain_19 : decode cX0_isAgain 19 = .ok (.if_icmp .ne 28, 3) := by decide +kernel
theorem dX0_isAgain_22 : decode cX0_isAgain 22 = .ok (.aload_n 0, 1) := by decide +kernel
theorem dX0_isAgain_23 : decode cX0_isAgain 23 = .ok (.getfield 21, 3) := by decide +kernel
theorem dX0_isAgain_26 : decode cX0_isAgain 26 = .ok (.aload_n 1, 1) := by decide +kernel
theorem dX0_isAgain_27 : decode cX0_isAgain 27 = .ok (.getfield 21, 3) := by decide +kernel
theorem dX0_isAgain_30 : decode cX0_isAgain 30 = .ok (.if_icmp .ne 17, 3) := by decide +kernel
theorem dX0_isAgain_33 : decode cX0_isAgain 33 = .ok (.aload_n 0, 1) := by decide +kernel
theorem dX0_isAgain_34 : decode cX0_isAgain 34 = .ok (.getfield 24, 3) := by decide +kernel
theorem dX0_isAgain_37 : decode cX0_isAgain 37 = .ok (.aload_n 1, 1) := by decide +kernel
theorem dX0_isAgain_38 : decode cX0_isAgain 38 = .ok (.getfield 24, 3) := by decide +kernel
theorem dX0_isAgain_41 : decode cX0_isAgain 41 = .ok (.isub, 1) := by decide +kernel
theorem dX0_isAgain_42 : decode cX0_isAgain 42 = .ok (.iconst 2, 1) := by decide +kernel
theorem dX0_isAgain_43 : decode cX0_isAgain 43 = .ok (.irem, 1) := by decide +kernel
theorem dX0_isAgain_44 : decode cX0_isAgain 44 = .ok (.ifCond .eq 5, 3) := by decide +kernel
theorem dX0_isAgain_47 : decode cX0_isAgain 47 = .ok (.iconst 0, 1) := by decide +kernel
theorem dX0_isAgain_48 : decode cX0_isAgain 48 = .ok (.ireturn, 1) := by decide +kernel
theorem dX0_isAgain_49 : decode cX0_isAgain 49 = .ok (.iconst 1, 1) := by decide +kernel
theorem dX0_isAgain_50 : decode cX0_isAgain 50 = .ok (.istore_n 3, 1) := by decide +kernel
theorem dX0_isAgain_51 : decode cX0_isAgain 51 = .ok (.iload_n 3, 1) := by decide +kernel
theorem dX0_isAgain_52 : decode cX0_isAgain 52 = .ok (.iload_n 2, 1) := by decide +kernel
theorem dX0_isAgain_53 : decode cX0_isAgain 53 = .ok (.if_icmp .gt 34, 3) := by decide +kernel
theorem dX0_isAgain_56 : decode cX0_isAgain 56 = .ok (.aload_n 0, 1) := by decide +kernel
theorem dX0_isAgain_57 : decode cX0_isAgain 57 = .ok (.aload_n 0, 1) := by decide +kernel
theorem dX0_isAgain_58 : decode cX0_isAgain 58 = .ok (.getfield 24, 3) := by decide +kernel
theorem dX0_isAgain_61 : decode cX0_isAgain 61 = .ok (.iload_n 3, 1) := by decide +kernel
theorem dX0_isAgain_62 : decode cX0_isAgain 62 = .ok (.isub, 1) := by decide +kernel
theorem dX0_isAgain_63 : decode cX0_isAgain 63 = .ok (.invokevirtual 54, 3) := by decide +kernel
theorem dX0_isAgain_66 : decode cX0_isAgain 66 = .ok (.aload_n 1, 1) := by decide +kernel
theorem dX0_isAgain_67 : decode cX0_isAgain 67 = .ok (.aload_n 1, 1) := by decide +kernel
theorem dX0_isAgain_68 : decode cX0_isAgain 68 = .ok (.getfield 24, 3) := by decide +kernel
theorem dX0_isAgain_71 : decode cX0_isAgain 71 = .ok (.iload_n 3, 1) := by decide +kernel
theorem dX0_isAgain_72 : decode cX0_isAgain 72 = .ok (.isub, 1) := by decide +kernel
theorem dX0_isAgain_73 : decode cX0_isAgain 73 = .ok (.invokevirtual 54, 3) := by decide +kernel
theorem dX0_isAgain_76 : decode cX0_isAgain 76 = .ok (.if_icmp .eq 5, 3) := by decide +kernel
theorem dX0_isAgain_79 : decode cX0_isAgain 79 = .ok (.iconst 0, 1) := by decide +kernel
theorem dX0_isAgain_80 : decode cX0_isAgain 80 = .ok (.ireturn, 1) := by decide +kernel
theorem dX0_isAgain_81 : decode cX0_isAgain 81 = .ok (.iinc 3 1, 3) := by decide +kernel
theorem dX0_isAgain_84 : decode cX0_isAgain 84 = .ok (.goto (-33), 3) := by decide +kernel
theorem dX0_isAgain_87 : decode cX0_isAgain 87 = .ok (.iconst 1, 1) := by decide +kernel
theorem dX0_isAgain_88 : decode cX0_isAgain 88 = .ok (.ireturn, 1) := by decide +kernel
theorem dX1_init_0 : decode cX1_init 0 = .ok (.aload_n 0, 1) := by decide +kernel
theorem dX1_init_1 : decode cX1_init 1 = .ok (.invokespecial 3, 3) := by decide +kernel
theorem dX1_init_4 : decode cX1_init 4 = .ok (.aload_n 0, 1) := by decide +kernel
theorem dX1_init_5 : decode cX1_init 5 = .ok (.iconst (-1), 1) := by decide +kernel
theorem dX1_init_6 : decode cX1_init 6 = .ok (.putfield 9, 3) := by decide +kernel
theorem dX1_init_9 : decode cX1_init 9 = .ok (.aload_n 0, 1) := by decide +kernel
theorem dX1_init_10 : decode cX1_init 10 = .ok (.bipush 28, 2) := by decide +kernel
theorem dX1_init_12 : decode cX1_init 12 = .ok (.newarray .int, 2) := by decide +kernel
theorem dX1_init_14 : decode cX1_init 14 = .ok (.putfield 15, 3) := by decide +kernel
theorem dX1_init_17 : decode cX1_init 17 = .ok (.return_, 1) := by decide +kernel
theorem dX1_tryAll_0 : decode cX1_tryAll 0 = .ok (.iconst 0, 1) := by decide +kernel
theorem dX1_tryAll_1 : decode cX1_tryAll 1 = .ok (.istore_n 3, 1) := by decide +kernel
theorem dX1_tryAll_2 : decode cX1_tryAll 2 = .ok (.iload_n 3, 1) := by decide +kernel
theorem dX1_tryAll_3 : decode cX1_tryAll 3 = .ok (.iconst 4, 1) := by decide +kernel
theorem dX1_tryAll_4 : decode cX1_tryAll 4 = .ok (.if_icmp .ge 55, 3) := by decide +kernel
theorem dX1_tryAll_7 : decode cX1_tryAll 7 = .ok (.iconst 0, 1) := by decide +kernel
theorem dX1_tryAll_8 : decode cX1_tryAll 8 = .ok (.istore 4, 2) := by decide +kernel
theorem dX1_tryAll_10 : decode cX1_tryAll 10 = .ok (.iload 4, 2) := by decide +kernel
theorem dX1_tryAll_12 : decode cX1_tryAll 12 = .ok (.bipush 7, 2) := by decide +kernel
theorem dX1_tryAll_14 : decode cX1_tryAll 14 = .ok (.if_icmp .ge 39, 3) := by decide +kernel
theorem dX1_tryAll_17 : decode cX1_tryAll 17 = .ok (.aload_n 2, 1) := by decide +kernel
theorem dX1_tryAll_18 : decode cX1_tryAll 18 = .ok (.getfield 19, 3) := by decide +kernel
theorem dX1_tryAll_21 : decode cX1_tryAll 21 = .ok (.iconst 2, 1) := by decide +kernel
theorem dX1_tryAll_22 : decode cX1_tryAll 22 = .ok (.iload 4, 2) := by decide +kernel
theorem dX1_tryAll_24 : decode cX1_tryAll 24 = .ok (.iastore, 1) := by decide +kernel
theorem dX1_tryAll_25 : decode cX1_tryAll 25 = .ok (.aload_n 0, 1) := by decide +kernel
theorem dX1_tryAll_26 : decode cX1_tryAll 26 = .ok (.getfield 15, 3) := by decide +kernel
theorem dX1_tryAll_29 : decode cX1_tryAll 29 = .ok (.iload_n 3, 1) := by decide +kernel
theorem dX1_tryAll_30 : decode cX1_tryAll 30 = .ok (.bipush 7, 2) := by decide +kernel
theorem dX1_tryAll_32 : decode cX1_tryAll 32 = .ok (.imul, 1) := by decide +kernel
theorem dX1_tryAll_33 : decode cX1_tryAll 33 = .ok (.iload 4, 2) := by decide +kernel
theorem dX1_tryAll_35 : decode cX1_tryAll 35 = .ok (.iadd, 1) := by decide +kernel
theorem dX1_tryAll_36 : decode cX1_tryAll 36 = .ok (.aload_n 1, 1) := by decide +kernel
theorem dX1_tryAll_37 : decode cX1_tryAll 37 = .ok (.getfield 24, 3) := by decide +kernel
theorem dX1_tryAll_40 : decode cX1_tryAll 40 = .ok (.iload_n 3, 1) := by decide +kernel
theorem dX1_tryAll_41 : decode cX1_tryAll 41 = .ok (.aaload, 1) := by decide +kernel
theorem dX1_tryAll_42 : decode cX1_tryAll 42 = .ok (.aload_n 2, 1) := by decide +kernel
theorem dX1_tryAll_43 : decode cX1_tryAll 43 = .ok (.invokestatic 30, 3) := by decide +kernel
theorem dX1_tryAll_46 : decode cX1_tryAll 46 = .ok (.iastore, 1) := by decide +kernel
theorem dX1_tryAll_47 : decode cX1_tryAll 47 = .ok (.iinc 4 1, 3) := by decide +kernel
theorem dX1_tryAll_50 : decode cX1_tryAll 50 = .ok (.goto (-40), 3) := by decide +kernel
theorem dX1_tryAll_53 : decode cX1_tryAll 53 = .ok (.iinc 3 1, 3) := by decide +kernel
theorem dX1_tryAll_56 : decode cX1_tryAll 56 = .ok (.goto (-54), 3) := by decide +kernel
theorem dX1_tryAll_59 : decode cX1_tryAll 59 = .ok (.return_, 1) := by decide +kernel
theorem dX1_lesson_0 : decode cX1_lesson 0 = .ok (.aload_n 0, 1) := by decide +kernel
theorem dX1_lesson_1 : decode cX1_lesson 1 = .ok (.getfield 34, 3) := by decide +kernel
theorem dX1_lesson_4 : decode cX1_lesson 4 = .ok (.ifCond .gt 5, 3) := by decide +kernel
theorem dX1_lesson_7 : decode cX1_lesson 7 = .ok (.iconst (-1), 1) := by decide +kernel
theorem dX1_lesson_8 : decode cX1_lesson 8 = .ok (.ireturn, 1) := by decide +kernel
theorem dX1_lesson_9 : decode cX1_lesson 9 = .ok (.aload_n 1, 1) := by decide +kernel
theorem dX1_lesson_10 : decode cX1_lesson 10 = .ok (.aload_n 0, 1) := by decide +kernel
theorem dX1_lesson_11 : decode cX1_lesson 11 = .ok (.bipush 10, 2) := by decide +kernel
theorem dX1_lesson_13 : decode cX1_lesson 13 = .ok (.iconst 0, 1) := by decide +kernel
theorem dX1_lesson_14 : decode cX1_lesson 14 = .ok (.bipush 40, 2) := by decide +kernel
theorem dX1_lesson_16 : decode cX1_lesson 16 = .ok (.invokevirtual 39, 3) := by decide +kernel
theorem dX1_lesson_19 : decode cX1_lesson 19 = .ok (.bipush 40, 2) := by decide +kernel
theorem dX1_lesson_21 : decode cX1_lesson 21 = .ok (.if_icmp .ge 5, 3) := by decide +kernel
theorem dX1_lesson_24 : decode cX1_lesson 24 = .ok (.iconst 0, 1) := by decide +kernel
theorem dX1_lesson_25 : decode cX1_lesson 25 = .ok (.ireturn, 1) := by decide +kernel
theorem dX1_lesson_26 : decode cX1_lesson 26 = .ok (.iconst 1, 1) := by decide +kernel
theorem dX1_lesson_27 : decode cX1_lesson 27 = .ok (.sipush 200, 3) := by decide +kernel
theorem dX1_lesson_30 : decode cX1_lesson 30 = .ok (.aload_n 0, 1) := by decide +kernel
theorem dX1_lesson_31 : decode cX1_lesson 31 = .ok (.getfield 34, 3) := by decide +kernel
theorem dX1_lesson_34 : decode cX1_lesson 34 = .ok (.bipush 20, 2) := by decide +kernel
theorem dX1_lesson_36 : decode cX1_lesson 36 = .ok (.iadd, 1) := by decide +kernel
theorem dX1_lesson_37 : decode cX1_lesson 37 = .ok (.idiv, 1) := by decide +kernel
theorem dX1_lesson_38 : decode cX1_lesson 38 = .ok (.invokestatic 43, 3) := by decide +kernel
theorem dX1_lesson_41 : decode cX1_lesson 41 = .ok (.ireturn, 1) := by decide +kernel
theorem dX1_firstBest_0 : decode cX1_firstBest 0 = .ok (.iconst (-1), 1) := by decide +kernel
theorem dX1_firstBest_1 : decode cX1_firstBest 1 = .ok (.istore_n 3, 1) := by decide +kernel
theorem dX1_firstBest_2 : decode cX1_firstBest 2 = .ok (.iconst 4, 1) := by decide +kernel
theorem dX1_firstBest_3 : decode cX1_firstBest 3 = .ok (.iload_n 2, 1) := by decide +kernel
theorem dX1_firstBest_4 : decode cX1_firstBest 4 = .ok (.invokestatic 49, 3) := by decide +kernel
theorem dX1_firstBest_7 : decode cX1_firstBest 7 = .ok (.istore 4, 2) := by decide +kernel
theorem dX1_firstBest_9 : decode cX1_firstBest 9 = .ok (.iconst 0, 1) := by decide +kernel
theorem dX1_firstBest_10 : decode cX1_firstBest 10 = .ok (.istore 5, 2) := by decide +kernel
theorem dX1_firstBest_12 : decode cX1_firstBest 12 = .ok (.iload 5, 2) := by decide +kernel
theorem dX1_firstBest_14 : decode cX1_firstBest 14 = .ok (.iload 4, 2) := by decide +kernel
theorem dX1_firstBest_16 : decode cX1_firstBest 16 = .ok (.if_icmp .ge 48, 3) := by decide +kernel
theorem dX1_firstBest_19 : decode cX1_firstBest 19 = .ok (.aload_n 0, 1) := by decide +kernel
theorem dX1_firstBest_20 : decode cX1_firstBest 20 = .ok (.iload_n 1, 1) := by decide +kernel
theorem dX1_firstBest_21 : decode cX1_firstBest 21 = .ok (.iload 5, 2) := by decide +kernel
theorem dX1_firstBest_23 : decode cX1_firstBest 23 = .ok (.iload_n 2, 1) := by decide +kernel
theorem dX1_firstBest_24 : decode cX1_firstBest 24 = .ok (.invokevirtual 52, 3) := by decide +kernel
theorem dX1_firstBest_27 : decode cX1_firstBest 27 = .ok (.istore 6, 2) := by decide +kernel
theorem dX1_firstBest_29 : decode cX1_firstBest 29 = .ok (.iload 6, 2) := by decide +kernel
theorem dX1_firstBest_31 : decode cX1_firstBest 31 = .ok (.iconst (-1), 1) := by decide +kernel
theorem dX1_firstBest_32 : decode cX1_firstBest 32 = .ok (.if_icmp .eq 26, 3) := by decide +kernel
theorem dX1_firstBest_35 : decode cX1_firstBest 35 = .ok (.iload_n 3, 1) := by decide +kernel
theorem dX1_firstBest_36 : decode cX1_firstBest 36 = .ok (.iconst (-1), 1) := by decide +kernel
theorem dX1_firstBest_37 : decode cX1_firstBest 37 = .ok (.if_icmp .eq 12, 3) := by decide +kernel
theorem dX1_firstBest_40 : decode cX1_firstBest 40 = .ok (.iload 6, 2) := by decide +kernel
theorem dX1_firstBest_42 : decode cX1_firstBest 42 = .ok (.aload_n 0, 1) := by decide +kernel
theorem dX1_firstBest_43 : decode cX1_firstBest 43 = .ok (.getfield 9, 3) := by decide +kernel
theorem dX1_firstBest_46 : decode cX1_firstBest 46 = .ok (.if_icmp .ge 12, 3) := by decide +kernel
theorem dX1_firstBest_49 : decode cX1_firstBest 49 = .ok (.iload 5, 2) := by decide +kernel
theorem dX1_firstBest_51 : decode cX1_firstBest 51 = .ok (.istore_n 3, 1) := by decide +kernel
theorem dX1_firstBest_52 : decode cX1_firstBest 52 = .ok (.aload_n 0, 1) := by decide +kernel
theorem dX1_firstBest_53 : decode cX1_firstBest 53 = .ok (.iload 6, 2) := by decide +kernel
theorem dX1_firstBest_55 : decode cX1_firstBest 55 = .ok (.putfield 9, 3) := by decide +kernel
theorem dX1_firstBest_58 : decode cX1_firstBest 58 = .ok (.iinc 5 1, 3) := by decide +kernel
theorem dX1_firstBest_61 : decode cX1_firstBest 61 = .ok (.goto (-49), 3) := by decide +kernel
theorem dX1_firstBest_64 : decode cX1_firstBest 64 = .ok (.iload_n 3, 1) := by decide +kernel
theorem dX1_firstBest_65 : decode cX1_firstBest 65 = .ok (.ireturn, 1) := by decide +kernel
theorem dX1_tenthsBehind_0 : decode cX1_tenthsBehind 0 = .ok (.iload_n 1, 1) := by decide +kernel
theorem dX1_tenthsBehind_1 : decode cX1_tenthsBehind 1 = .ok (.istore 4, 2) := by decide +kernel
theorem dX1_tenthsBehind_3 : decode cX1_tenthsBehind 3 = .ok (.iconst 0, 1) := by decide +kernel
theorem dX1_tenthsBehind_4 : decode cX1_tenthsBehind 4 = .ok (.istore 5, 2) := by decide +kernel
theorem dX1_tenthsBehind_6 : decode cX1_tenthsBehind 6 = .ok (.iload 5, 2) := by decide +kernel
theorem dX1_tenthsBehind_8 : decode cX1_tenthsBehind 8 = .ok (.iload_n 3, 1) := by decide +kernel
theorem dX1_tenthsBehind_9 : decode cX1_tenthsBehind 9 = .ok (.if_icmp .ge 56, 3) := by decide +kernel
theorem dX1_tenthsBehind_12 : decode cX1_tenthsBehind 12 = .ok (.aload_n 0, 1) := by decide +kernel
theorem dX1_tenthsBehind_13 : decode cX1_tenthsBehind 13 = .ok (.getfield 15, 3) := by decide +kernel
theorem dX1_tenthsBehind_16 : decode cX1_tenthsBehind 16 = .ok (.iload_n 2, 1) := by decide +kernel
theorem dX1_tenthsBehind_17 : decode cX1_tenthsBehind 17 = .ok (.iload_n 3, 1) := by decide +kernel
theorem dX1_tenthsBehind_18 : decode cX1_tenthsBehind 18 = .ok (.iload 5, 2) := by decide +kernel
theorem dX1_tenthsBehind_20 : decode cX1_tenthsBehind 20 = .ok (.invokestatic 56, 3) := by decide +kernel
theorem dX1_tenthsBehind_23 : decode cX1_tenthsBehind 23 = .ok (.bipush 7, 2) := by decide +kernel
theorem dX1_tenthsBehind_25 : decode cX1_tenthsBehind 25 = .ok (.imul, 1) := by decide +kernel
theorem dX1_tenthsBehind_26 : decode cX1_tenthsBehind 26 = .ok (.bipush 6, 2) := by decide +kernel
theorem dX1_tenthsBehind_28 : decode cX1_tenthsBehind 28 = .ok (.iload 4, 2) := by decide +kernel
theorem dX1_tenthsBehind_30 : decode cX1_tenthsBehind 30 = .ok (.bipush 10, 2) := by decide +kernel
theorem dX1_tenthsBehind_32 : decode cX1_tenthsBehind 32 = .ok (.idiv, 1) := by decide +kernel
theorem dX1_tenthsBehind_33 : decode cX1_tenthsBehind 33 = .ok (.invokestatic 59, 3) := by decide +kernel
theorem dX1_tenthsBehind_36 : decode cX1_tenthsBehind 36 = .ok (.iadd, 1) := by decide +kernel
theorem dX1_tenthsBehind_37 : decode cX1_tenthsBehind 37 = .ok (.iaload, 1) := by decide +kernel
theorem dX1_tenthsBehind_38 : decode cX1_tenthsBehind 38 = .ok (.istore 6, 2) := by decide +kernel
theorem dX1_tenthsBehind_40 : decode cX1_tenthsBehind 40 = .ok (.iload 6, 2) := by decide +kernel
theorem dX1_tenthsBehind_42 : decode cX1_tenthsBehind 42 = .ok (.iconst (-1), 1) := by decide +kernel
theorem dX1_tenthsBehind_43 : decode cX1_tenthsBehind 43 = .ok (.if_icmp .ne 5, 3) := by decide +kernel
theorem dX1_tenthsBehind_46 : decode cX1_tenthsBehind 46 = .ok (.iconst (-1), 1) := by decide +kernel
theorem dX1_tenthsBehind_47 : decode cX1_tenthsBehind 47 = .ok (.ireturn, 1) := by decide +kernel
theorem dX1_tenthsBehind_48 : decode cX1_tenthsBehind 48 = .ok (.iconst 0, 1) := by decide +kernel
theorem dX1_tenthsBehind_49 : decode cX1_tenthsBehind 49 = .ok (.iload 4, 2) := by decide +kernel
theorem dX1_tenthsBehind_51 : decode cX1_tenthsBehind 51 = .ok (.iload 6, 2) := by decide +kernel
theorem dX1_tenthsBehind_53 : decode cX1_tenthsBehind 53 = .ok (.isub, 1) := by decide +kernel
theorem dX1_tenthsBehind_54 : decode cX1_tenthsBehind 54 = .ok (.invokestatic 43, 3) := by decide +kernel
theorem dX1_tenthsBehind_57 : decode cX1_tenthsBehind 57 = .ok (.istore 4, 2) := by decide +kernel
theorem dX1_tenthsBehind_59 : decode cX1_tenthsBehind 59 = .ok (.iinc 5 1, 3) := by decide +kernel
theorem dX1_tenthsBehind_62 : decode cX1_tenthsBehind 62 = .ok (.goto (-56), 3) := by decide +kernel
theorem dX1_tenthsBehind_65 : decode cX1_tenthsBehind 65 = .ok (.iload 4, 2) := by decide +kernel
theorem dX1_tenthsBehind_67 : decode cX1_tenthsBehind 67 = .ok (.ireturn, 1) := by decide +kernel
theorem dX1_thingOf_0 : decode cX1_thingOf 0 = .ok (.iload_n 0, 1) := by decide +kernel
theorem dX1_thingOf_1 : decode cX1_thingOf 1 = .ok (.istore_n 3, 1) := by decide +kernel
theorem dX1_thingOf_2 : decode cX1_thingOf 2 = .ok (.iload_n 2, 1) := by decide +kernel
theorem dX1_thingOf_3 : decode cX1_thingOf 3 = .ok (.iconst 1, 1) := by decide +kernel
theorem dX1_thingOf_4 : decode cX1_thingOf 4 = .ok (.iadd, 1) := by decide +kernel
theorem dX1_thingOf_5 : decode cX1_thingOf 5 = .ok (.istore 4, 2) := by decide +kernel
theorem dX1_thingOf_7 : decode cX1_thingOf 7 = .ok (.iload 4, 2) := by decide +kernel
theorem dX1_thingOf_9 : decode cX1_thingOf 9 = .ok (.iload_n 1, 1) := by decide +kernel
theorem dX1_thingOf_10 : decode cX1_thingOf 10 = .ok (.if_icmp .ge 13, 3) := by decide +kernel
theorem dX1_thingOf_13 : decode cX1_thingOf 13 = .ok (.iload_n 3, 1) := by decide +kernel
theorem dX1_thingOf_14 : decode cX1_thingOf 14 = .ok (.iconst 4, 1) := by decide +kernel
theorem dX1_thingOf_15 : decode cX1_thingOf 15 = .ok (.idiv, 1) := by decide +kernel
theorem dX1_thingOf_16 : decode cX1_thingOf 16 = .ok (.istore_n 3, 1) := by decide +kernel
theorem dX1_thingOf_17 : decode cX1_thingOf 17 = .ok (.iinc 4 1, 3) := by decide +kernel
theorem dX1_thingOf_20 : decode cX1_thingOf 20 = .ok (.goto (-13), 3) := by decide +kernel
theorem dX1_thingOf_23 : decode cX1_thingOf 23 = .ok (.iload_n 3, 1) := by decide +kernel
theorem dX1_thingOf_24 : decode cX1_thingOf 24 = .ok (.iconst 4, 1) := by decide +kernel
theorem dX1_thingOf_25 : decode cX1_thingOf 25 = .ok (.irem, 1) := by decide +kernel
theorem dX1_thingOf_26 : decode cX1_thingOf 26 = .ok (.ireturn, 1) := by decide +kernel
theorem dX2_init_0 : decode cX2_init 0 = .ok (.aload_n 0, 1) := by decide +kernel
theorem dX2_init_1 : decode cX2_init 1 = .ok (.invokespecial 3, 3) := by decide +kernel
theorem dX2_init_4 : decode cX2_init 4 = .ok (.aload_n 0, 1) := by decide +kernel
theorem dX2_init_5 : decode cX2_init 5 = .ok (.iconst 0, 1) := by decide +kernel
theorem dX2_init_6 : decode cX2_init 6 = .ok (.putfield 9, 3) := by decide +kernel
theorem dX2_init_9 : decode cX2_init 9 = .ok (.aload_n 0, 1) := by decide +kernel
theorem dX2_init_10 : decode cX2_init 10 = .ok (.iconst 0, 1) := by decide +kernel
theorem dX2_init_11 : decode cX2_init 11 = .ok (.putfield 15, 3) := by decide +kernel
theorem dX2_init_14 : decode cX2_init 14 = .ok (.aload_n 0, 1) := by decide +kernel
theorem dX2_init_15 : decode cX2_init 15 = .ok (.iconst (-1), 1) := by decide +kernel
theorem dX2_init_16 : decode cX2_init 16 = .ok (.putfield 18, 3) := by decide +kernel
theorem dX2_init_19 : decode cX2_init 19 = .ok (.aload_n 0, 1) := by decide +kernel
theorem dX2_init_20 : decode cX2_init 20 = .ok (.iconst (-1), 1) := by decide +kernel
theorem dX2_init_21 : decode cX2_init 21 = .ok (.putfield 21, 3) := by decide +kernel
theorem dX2_init_24 : decode cX2_init 24 = .ok (.aload_n 0, 1) := by decide +kernel
theorem dX2_init_25 : decode cX2_init 25 = .ok (.iconst (-1), 1) := by decide +kernel
theorem dX2_init_26 : decode cX2_init 26 = .ok (.putfield 24, 3) := by decide +kernel
theorem dX2_init_29 : decode cX2_init 29 = .ok (.aload_n 0, 1) := by decide +kernel
theorem dX2_init_30 : decode cX2_init 30 = .ok (.iconst 0, 1) := by decide +kernel
theorem dX2_init_31 : decode cX2_init 31 = .ok (.putfield 27, 3) := by decide +kernel
theorem dX2_init_34 : decode cX2_init 34 = .ok (.aload_n 0, 1) := by decide +kernel
theorem dX2_init_35 : decode cX2_init 35 = .ok (.iconst 0, 1) := by decide +kernel
theorem dX2_init_36 : decode cX2_init 36 = .ok (.putfield 30, 3) := by decide +kernel
theorem dX2_init_39 : decode cX2_init 39 = .ok (.aload_n 0, 1) := by decide +kernel
theorem dX2_init_40 : decode cX2_init 40 = .ok (.bipush 25, 2) := by decide +kernel
theorem dX2_init_42 : decode cX2_init 42 = .ok (.newarray .int, 2) := by decide +kernel
theorem dX2_init_44 : decode cX2_init 44 = .ok (.putfield 33, 3) := by decide +kernel
theorem dX2_init_47 : decode cX2_init 47 = .ok (.aload_n 0, 1) := by decide +kernel
theorem dX2_init_48 : decode cX2_init 48 = .ok (.bipush 24, 2) := by decide +kernel
theorem dX2_init_50 : decode cX2_init 50 = .ok (.newarray .int, 2) := by decide +kernel
theorem dX2_init_52 : decode cX2_init 52 = .ok (.putfield 37, 3) := by decide +kernel
theorem dX2_init_55 : decode cX2_init 55 = .ok (.aload_n 0, 1) := by decide +kernel
theorem dX2_init_56 : decode cX2_init 56 = .ok (.bipush 10, 2) := by decide +kernel
theorem dX2_init_58 : decode cX2_init 58 = .ok (.newarray .int, 2) := by decide +kernel
theorem dX2_init_60 : decode cX2_init 60 = .ok (.putfield 40, 3) := by decide +kernel
theorem dX2_init_63 : decode cX2_init 63 = .ok (.return_, 1) := by decide +kernel
theorem dX2_append_0 : decode cX2_append 0 = .ok (.aload_n 0, 1) := by decide +kernel
theorem dX2_append_1 : decode cX2_append 1 = .ok (.getfield 9, 3) := by decide +kernel
theorem dX2_append_4 : decode cX2_append 4 = .ok (.bipush 24, 2) := by decide +kernel
theorem dX2_append_6 : decode cX2_append 6 = .ok (.if_icmp .ge 33, 3) := by decide +kernel
theorem dX2_append_9 : decode cX2_append 9 = .ok (.aload_n 0, 1) := by decide +kernel
theorem dX2_append_10 : decode cX2_append 10 = .ok (.getfield 33, 3) := by decide +kernel
theorem dX2_append_13 : decode cX2_append 13 = .ok (.aload_n 0, 1) := by decide +kernel
theorem dX2_append_14 : decode cX2_append 14 = .ok (.getfield 9, 3) := by decide +kernel
theorem dX2_append_17 : decode cX2_append 17 = .ok (.iload_n 1, 1) := by decide +kernel
theorem dX2_append_18 : decode cX2_append 18 = .ok (.iastore, 1) := by decide +kernel
theorem dX2_append_19 : decode cX2_append 19 = .ok (.aload_n 0, 1) := by decide +kernel
theorem dX2_append_20 : decode cX2_append 20 = .ok (.getfield 37, 3) := by decide +kernel
theorem dX2_append_23 : decode cX2_append 23 = .ok (.aload_n 0, 1) := by decide +kernel
theorem dX2_append_24 : decode cX2_append 24 = .ok (.getfield 9, 3) := by decide +kernel
theorem dX2_append_27 : decode cX2_append 27 = .ok (.iload_n 2, 1) := by decide +kernel
theorem dX2_append_28 : decode cX2_append 28 = .ok (.iastore, 1) := by decide +kernel
theorem dX2_append_29 : decode cX2_append 29 = .ok (.aload_n 0, 1) := by decide +kernel
theorem dX2_append_30 : decode cX2_append 30 = .ok (.dup, 1) := by decide +kernel
theorem dX2_append_31 : decode cX2_append 31 = .ok (.getfield 9, 3) := by decide +kernel
theorem dX2_append_34 : decode cX2_append 34 = .ok (.iconst 1, 1) := by decide +kernel
theorem dX2_append_35 : decode cX2_append 35 = .ok (.iadd, 1) := by decide +kernel
theorem dX2_append_36 : decode cX2_append 36 = .ok (.putfield 9, 3) := by decide +kernel
theorem dX2_append_39 : decode cX2_append 39 = .ok (.return_, 1) := by decide +kernel
theorem dX2_seek_0 : decode cX2_seek 0 = .ok (.aload_n 1, 1) := by decide +kernel
theorem dX2_seek_1 : decode cX2_seek 1 = .ok (.iconst 0, 1) := by decide +kernel
theorem dX2_seek_2 : decode cX2_seek 2 = .ok (.aload_n 0, 1) := by decide +kernel
theorem dX2_seek_3 : decode cX2_seek 3 = .ok (.getfield 40, 3) := by decide +kernel
theorem dX2_seek_6 : decode cX2_seek 6 = .ok (.iconst 0, 1) := by decide +kernel
theorem dX2_seek_7 : decode cX2_seek 7 = .ok (.bipush 10, 2) := by decide +kernel
theorem dX2_seek_9 : decode cX2_seek 9 = .ok (.invokestatic 43, 3) := by decide +kernel
theorem dX2_seek_12 : decode cX2_seek 12 = .ok (.aload_n 0, 1) := by decide +kernel
theorem dX2_seek_13 : decode cX2_seek 13 = .ok (.getfield 33, 3) := by decide +kernel
theorem dX2_seek_16 : decode cX2_seek 16 = .ok (.aload_n 0, 1) := by decide +kernel
theorem dX2_seek_17 : decode cX2_seek 17 = .ok (.getfield 9, 3) := by decide +kernel
theorem dX2_seek_20 : decode cX2_seek 20 = .ok (.iload_n 2, 1) := by decide +kernel
theorem dX2_seek_21 : decode cX2_seek 21 = .ok (.iastore, 1) := by decide +kernel
theorem dX2_seek_22 : decode cX2_seek 22 = .ok (.aload_n 0, 1) := by decide +kernel
theorem dX2_seek_23 : decode cX2_seek 23 = .ok (.iconst 0, 1) := by decide +kernel
theorem dX2_seek_24 : decode cX2_seek 24 = .ok (.putfield 15, 3) := by decide +kernel
theorem dX2_seek_27 : decode cX2_seek 27 = .ok (.aload_n 0, 1) := by decide +kernel
theorem dX2_seek_28 : decode cX2_seek 28 = .ok (.iconst (-1), 1) := by decide +kernel
theorem dX2_seek_29 : decode cX2_seek 29 = .ok (.putfield 18, 3) := by decide +kernel
theorem dX2_seek_32 : decode cX2_seek 32 = .ok (.aload_n 0, 1) := by decide +kernel
theorem dX2_seek_33 : decode cX2_seek 33 = .ok (.iconst (-1), 1) := by decide +kernel
theorem dX2_seek_34 : decode cX2_seek 34 = .ok (.putfield 21, 3) := by decide +kernel
theorem dX2_seek_37 : decode cX2_seek 37 = .ok (.aload_n 0, 1) := by decide +kernel
theorem dX2_seek_38 : decode cX2_seek 38 = .ok (.iconst (-1), 1) := by decide +kernel
theorem dX2_seek_39 : decode cX2_seek 39 = .ok (.putfield 24, 3) := by decide +kernel
theorem dX2_seek_42 : decode cX2_seek 42 = .ok (.iconst 0, 1) := by decide +kernel
theorem dX2_seek_43 : decode cX2_seek 43 = .ok (.istore_n 3, 1) := by decide +kernel
theorem dX2_seek_44 : decode cX2_seek 44 = .ok (.iload_n 3, 1) := by decide +kernel
theorem dX2_seek_45 : decode cX2_seek 45 = .ok (.bipush 6, 2) := by decide +kernel
theorem dX2_seek_47 : decode cX2_seek 47 = .ok (.if_icmp .gt 75, 3) := by decide +kernel
theorem dX2_seek_50 : decode cX2_seek 50 = .ok (.iconst 0, 1) := by decide +kernel
theorem dX2_seek_51 : decode cX2_seek 51 = .ok (.istore 4, 2) := by decide +kernel
theorem dX2_seek_53 : decode cX2_seek 53 = .ok (.iload 4, 2) := by decide +kernel
theorem dX2_seek_55 : decode cX2_seek 55 = .ok (.bipush 20, 2) := by decide +kernel
theorem dX2_seek_57 : decode cX2_seek 57 = .ok (.if_icmp .gt 59, 3) := by decide +kernel
theorem dX2_seek_60 : decode cX2_seek 60 = .ok (.iconst 0, 1) := by decide +kernel
theorem dX2_seek_61 : decode cX2_seek 61 = .ok (.istore 5, 2) := by decide +kernel
theorem dX2_seek_63 : decode cX2_seek 63 = .ok (.iload 5, 2) := by decide +kernel
theorem dX2_seek_65 : decode cX2_seek 65 = .ok (.bipush 20, 2) := by decide +kernel
theorem dX2_seek_67 : decode cX2_seek 67 = .ok (.if_icmp .gt 43, 3) := by decide +kernel
theorem dX2_seek_70 : decode cX2_seek 70 = .ok (.aload_n 0, 1) := by decide +kernel
theorem dX2_seek_71 : decode cX2_seek 71 = .ok (.getfield 40, 3) := by decide +kernel
theorem dX2_seek_74 : decode cX2_seek 74 = .ok (.iconst 2, 1) := by decide +kernel
theorem dX2_seek_75 : decode cX2_seek 75 = .ok (.iload_n 3, 1) := by decide +kernel
theorem dX2_seek_76 : decode cX2_seek 76 = .ok (.iastore, 1) := by decide +kernel
theorem dX2_seek_77 : decode cX2_seek 77 = .ok (.aload_n 0, 1) := by decide +kernel
theorem dX2_seek_78 : decode cX2_seek 78 = .ok (.getfield 40, 3) := by decide +kernel
theorem dX2_seek_81 : decode cX2_seek 81 = .ok (.iconst 0, 1) := by decide +kernel
theorem dX2_seek_82 : decode cX2_seek 82 = .ok (.iload 4, 2) := by decide +kernel
theorem dX2_seek_84 : decode cX2_seek 84 = .ok (.iastore, 1) := by decide +kernel
theorem dX2_seek_85 : decode cX2_seek 85 = .ok (.aload_n 0, 1) := by decide +kernel
theorem dX2_seek_86 : decode cX2_seek 86 = .ok (.getfield 40, 3) := by decide +kernel
theorem dX2_seek_89 : decode cX2_seek 89 = .ok (.iconst 1, 1) := by decide +kernel
theorem dX2_seek_90 : decode cX2_seek 90 = .ok (.iload 5, 2) := by decide +kernel
theorem dX2_seek_92 : decode cX2_seek 92 = .ok (.iastore, 1) := by decide +kernel
theorem dX2_seek_93 : decode cX2_seek 93 = .ok (.aload_n 0, 1) := by decide +kernel
theorem dX2_seek_94 : decode cX2_seek 94 = .ok (.invokevirtual 49, 3) := by decide +kernel
theorem dX2_seek_97 : decode cX2_seek 97 = .ok (.ifCond .eq 7, 3) := by decide +kernel
theorem dX2_seek_100 : decode cX2_seek 100 = .ok (.aload_n 0, 1) := by decide +kernel
theorem dX2_seek_101 : decode cX2_seek 101 = .ok (.invokevirtual 53, 3) := by decide +kernel
theorem dX2_seek_104 : decode cX2_seek 104 = .ok (.iinc 5 1, 3) := by decide +kernel
theorem dX2_seek_107 : decode cX2_seek 107 = .ok (.goto (-44), 3) := by decide +kernel
theorem dX2_seek_110 : decode cX2_seek 110 = .ok (.iinc 4 1, 3) := by decide +kernel
theorem dX2_seek_113 : decode cX2_seek 113 = .ok (.goto (-60), 3) := by decide +kernel
theorem dX2_seek_116 : decode cX2_seek 116 = .ok (.iinc 3 1, 3) := by decide +kernel
theorem dX2_seek_119 : decode cX2_seek 119 = .ok (.goto (-75), 3) := by decide +kernel
theorem dX2_seek_122 : decode cX2_seek 122 = .ok (.return_, 1) := by decide +kernel
theorem dX2_isFit_0 : decode cX2_isFit 0 = .ok (.iconst 0, 1) := by decide +kernel
theorem dX2_isFit_1 : decode cX2_isFit 1 = .ok (.istore_n 1, 1) := by decide +kernel
theorem dX2_isFit_2 : decode cX2_isFit 2 = .ok (.iload_n 1, 1) := by decide +kernel
theorem dX2_isFit_3 : decode cX2_isFit 3 = .ok (.aload_n 0, 1) := by decide +kernel
theorem dX2_isFit_4 : decode cX2_isFit 4 = .ok (.getfield 9, 3) := by decide +kernel
theorem dX2_isFit_7 : decode cX2_isFit 7 = .ok (.if_icmp .ge 25, 3) := by decide +kernel
theorem dX2_isFit_10 : decode cX2_isFit 10 = .ok (.aload_n 0, 1) := by decide +kernel
theorem dX2_isFit_11 : decode cX2_isFit 11 = .ok (.iload_n 1, 1) := by decide +kernel
theorem dX2_isFit_12 : decode cX2_isFit 12 = .ok (.invokevirtual 56, 3) := by decide +kernel
theorem dX2_isFit_15 : decode cX2_isFit 15 = .ok (.aload_n 0, 1) := by decide +kernel
theorem dX2_isFit_16 : decode cX2_isFit 16 = .ok (.getfield 37, 3) := by decide +kernel
theorem dX2_isFit_19 : decode cX2_isFit 19 = .ok (.iload_n 1, 1) := by decide +kernel
theorem dX2_isFit_20 : decode cX2_isFit 20 = .ok (.iaload, 1) := by decide +kernel
theorem dX2_isFit_21 : decode cX2_isFit 21 = .ok (.if_icmp .eq 5, 3) := by decide +kernel
theorem dX2_isFit_24 : decode cX2_isFit 24 = .ok (.iconst 0, 1) := by decide +kernel
theorem dX2_isFit_25 : decode cX2_isFit 25 = .ok (.ireturn, 1) := by decide +kernel
theorem dX2_isFit_26 : decode cX2_isFit 26 = .ok (.iinc 1 1, 3) := by decide +kernel
theorem dX2_isFit_29 : decode cX2_isFit 29 = .ok (.goto (-27), 3) := by decide +kernel
theorem dX2_isFit_32 : decode cX2_isFit 32 = .ok (.iconst 1, 1) := by decide +kernel
theorem dX2_isFit_33 : decode cX2_isFit 33 = .ok (.ireturn, 1) := by decide +kernel
theorem dX2_moveIn_0 : decode cX2_moveIn 0 = .ok (.iload_n 1, 1) := by decide +kernel
theorem dX2_moveIn_1 : decode cX2_moveIn 1 = .ok (.aload_n 0, 1) := by decide +kernel
theorem dX2_moveIn_2 : decode cX2_moveIn 2 = .ok (.getfield 40, 3) := by decide +kernel
theorem dX2_moveIn_5 : decode cX2_moveIn 5 = .ok (.iconst 2, 1) := by decide +kernel
theorem dX2_moveIn_6 : decode cX2_moveIn 6 = .ok (.iaload, 1) := by decide +kernel
theorem dX2_moveIn_7 : decode cX2_moveIn 7 = .ok (.isub, 1) := by decide +kernel
theorem dX2_moveIn_8 : decode cX2_moveIn 8 = .ok (.istore_n 2, 1) := by decide +kernel
theorem dX2_moveIn_9 : decode cX2_moveIn 9 = .ok (.aload_n 0, 1) := by decide +kernel
theorem dX2_moveIn_10 : decode cX2_moveIn 10 = .ok (.getfield 40, 3) := by decide +kernel
theorem dX2_moveIn_13 : decode cX2_moveIn 13 = .ok (.aload_n 0, 1) := by decide +kernel
theorem dX2_moveIn_14 : decode cX2_moveIn 14 = .ok (.getfield 33, 3) := by decide +kernel
theorem dX2_moveIn_17 : decode cX2_moveIn 17 = .ok (.iconst 0, 1) := by decide +kernel
theorem dX2_moveIn_18 : decode cX2_moveIn 18 = .ok (.iload_n 2, 1) := by decide +kernel
theorem dX2_moveIn_19 : decode cX2_moveIn 19 = .ok (.invokestatic 60, 3) := by decide +kernel
theorem dX2_moveIn_22 : decode cX2_moveIn 22 = .ok (.iaload, 1) := by decide +kernel
theorem dX2_moveIn_23 : decode cX2_moveIn 23 = .ok (.aload_n 0, 1) := by decide +kernel
theorem dX2_moveIn_24 : decode cX2_moveIn 24 = .ok (.getfield 33, 3) := by decide +kernel
theorem dX2_moveIn_27 : decode cX2_moveIn 27 = .ok (.iconst 0, 1) := by decide +kernel
theorem dX2_moveIn_28 : decode cX2_moveIn 28 = .ok (.iload_n 2, 1) := by decide +kernel
theorem dX2_moveIn_29 : decode cX2_moveIn 29 = .ok (.iconst 1, 1) := by decide +kernel
theorem dX2_moveIn_30 : decode cX2_moveIn 30 = .ok (.isub, 1) := by decide +kernel
theorem dX2_moveIn_31 : decode cX2_moveIn 31 = .ok (.invokestatic 60, 3) := by decide +kernel
theorem dX2_moveIn_34 : decode cX2_moveIn 34 = .ok (.iaload, 1) := by decide +kernel
theorem dX2_moveIn_35 : decode cX2_moveIn 35 = .ok (.invokestatic 66, 3) := by decide +kernel
theorem dX2_moveIn_38 : decode cX2_moveIn 38 = .ok (.ireturn, 1) := by decide +kernel
theorem dX2_noteFit_0 : decode cX2_noteFit 0 = .ok (.aload_n 0, 1) := by decide +kernel
theorem dX2_noteFit_1 : decode cX2_noteFit 1 = .ok (.aload_n 0, 1) := by decide +kernel
theorem dX2_noteFit_2 : decode cX2_noteFit 2 = .ok (.getfield 9, 3) := by decide +kernel
theorem dX2_noteFit_5 : decode cX2_noteFit 5 = .ok (.invokevirtual 56, 3) := by decide +kernel
theorem dX2_noteFit_8 : decode cX2_noteFit 8 = .ok (.istore_n 1, 1) := by decide +kernel
theorem dX2_noteFit_9 : decode cX2_noteFit 9 = .ok (.aload_n 0, 1) := by decide +kernel
theorem dX2_noteFit_10 : decode cX2_noteFit 10 = .ok (.getfield 15, 3) := by decide +kernel
theorem dX2_noteFit_13 : decode cX2_noteFit 13 = .ok (.ifCond .ne 43, 3) := by decide +kernel
theorem dX2_noteFit_16 : decode cX2_noteFit 16 = .ok (.aload_n 0, 1) := by decide +kernel
theorem dX2_noteFit_17 : decode cX2_noteFit 17 = .ok (.aload_n 0, 1) := by decide +kernel
theorem dX2_noteFit_18 : decode cX2_noteFit 18 = .ok (.getfield 40, 3) := by decide +kernel
theorem dX2_noteFit_21 : decode cX2_noteFit 21 = .ok (.iconst 2, 1) := by decide +kernel
theorem dX2_noteFit_22 : decode cX2_noteFit 22 = .ok (.iaload, 1) := by decide +kernel
theorem dX2_noteFit_23 : decode cX2_noteFit 23 = .ok (.putfield 18, 3) := by decide +kernel
theorem dX2_noteFit_26 : decode cX2_noteFit 26 = .ok (.aload_n 0, 1) := by decide +kernel
theorem dX2_noteFit_27 : decode cX2_noteFit 27 = .ok (.aload_n 0, 1) := by decide +kernel
theorem dX2_noteFit_28 : decode cX2_noteFit 28 = .ok (.getfield 40, 3) := by decide +kernel
theorem dX2_noteFit_31 : decode cX2_noteFit 31 = .ok (.iconst 0, 1) := by decide +kernel
theorem dX2_noteFit_32 : decode cX2_noteFit 32 = .ok (.iaload, 1) := by decide +kernel
theorem dX2_noteFit_33 : decode cX2_noteFit 33 = .ok (.putfield 21, 3) := by decide +kernel
theorem dX2_noteFit_36 : decode cX2_noteFit 36 = .ok (.aload_n 0, 1) := by decide +kernel
theorem dX2_noteFit_37 : decode cX2_noteFit 37 = .ok (.aload_n 0, 1) := by decide +kernel
theorem dX2_noteFit_38 : decode cX2_noteFit 38 = .ok (.getfield 40, 3) := by decide +kernel
theorem dX2_noteFit_41 : decode cX2_noteFit 41 = .ok (.iconst 1, 1) := by decide +kernel
theorem dX2_noteFit_42 : decode cX2_noteFit 42 = .ok (.iaload, 1) := by decide +kernel
theorem dX2_noteFit_43 : decode cX2_noteFit 43 = .ok (.putfield 24, 3) := by decide +kernel
theorem dX2_noteFit_46 : decode cX2_noteFit 46 = .ok (.aload_n 0, 1) := by decide +kernel
theorem dX2_noteFit_47 : decode cX2_noteFit 47 = .ok (.iload_n 1, 1) := by decide +kernel
theorem dX2_noteFit_48 : decode cX2_noteFit 48 = .ok (.putfield 27, 3) := by decide +kernel
theorem dX2_noteFit_51 : decode cX2_noteFit 51 = .ok (.aload_n 0, 1) := by decide +kernel
theorem dX2_noteFit_52 : decode cX2_noteFit 52 = .ok (.iload_n 1, 1) := by decide +kernel
theorem dX2_noteFit_53 : decode cX2_noteFit 53 = .ok (.putfield 30, 3) := by decide +kernel
theorem dX2_noteFit_56 : decode cX2_noteFit 56 = .ok (.aload_n 0, 1) := by decide +kernel
theorem dX2_noteFit_57 : decode cX2_noteFit 57 = .ok (.aload_n 0, 1) := by decide +kernel
theorem dX2_noteFit_58 : decode cX2_noteFit 58 = .ok (.getfield 27, 3) := by decide +kernel
theorem dX2_noteFit_61 : decode cX2_noteFit 61 = .ok (.iload_n 1, 1) := by decide +kernel
theorem dX2_noteFit_62 : decode cX2_noteFit 62 = .ok (.invokestatic 70, 3) := by decide +kernel
theorem dX2_noteFit_65 : decode cX2_noteFit 65 = .ok (.putfield 27, 3) := by decide +kernel
theorem dX2_noteFit_68 : decode cX2_noteFit 68 = .ok (.aload_n 0, 1) := by decide +kernel
theorem dX2_noteFit_69 : decode cX2_noteFit 69 = .ok (.aload_n 0, 1) := by decide +kernel
theorem dX2_noteFit_70 : decode cX2_noteFit 70 = .ok (.getfield 30, 3) := by decide +kernel
theorem dX2_noteFit_73 : decode cX2_noteFit 73 = .ok (.iload_n 1, 1) := by decide +kernel
theorem dX2_noteFit_74 : decode cX2_noteFit 74 = .ok (.invokestatic 60, 3) := by decide +kernel
theorem dX2_noteFit_77 : decode cX2_noteFit 77 = .ok (.putfield 30, 3) := by decide +kernel
theorem dX2_noteFit_80 : decode cX2_noteFit 80 = .ok (.aload_n 0, 1) := by decide +kernel
theorem dX2_noteFit_81 : decode cX2_noteFit 81 = .ok (.dup, 1) := by decide +kernel
theorem dX2_noteFit_82 : decode cX2_noteFit 82 = .ok (.getfield 15, 3) := by decide +kernel
theorem dX2_noteFit_85 : decode cX2_noteFit 85 = .ok (.iconst 1, 1) := by decide +kernel
theorem dX2_noteFit_86 : decode cX2_noteFit 86 = .ok (.iadd, 1) := by decide +kernel
theorem dX2_noteFit_87 : decode cX2_noteFit 87 = .ok (.putfield 15, 3) := by decide +kernel
theorem dX2_noteFit_90 : decode cX2_noteFit 90 = .ok (.return_, 1) := by decide +kernel
theorem dX3_init_0 : decode cX3_init 0 = .ok (.aload_n 0, 1) := by decide +kernel
theorem dX3_init_1 : decode cX3_init 1 = .ok (.invokespecial 3, 3) := by decide +kernel
theorem dX3_init_4 : decode cX3_init 4 = .ok (.aload_n 0, 1) := by decide +kernel
theorem dX3_init_5 : decode cX3_init 5 = .ok (.bipush 36, 2) := by decide +kernel
theorem dX3_init_7 : decode cX3_init 7 = .ok (.newarray .int, 2) := by decide +kernel
theorem dX3_init_9 : decode cX3_init 9 = .ok (.putfield 9, 3) := by decide +kernel
theorem dX3_init_12 : decode cX3_init 12 = .ok (.aload_n 0, 1) := by decide +kernel
theorem dX3_init_13 : decode cX3_init 13 = .ok (.bipush 36, 2) := by decide +kernel
theorem dX3_init_15 : decode cX3_init 15 = .ok (.newarray .int, 2) := by decide +kernel
theorem dX3_init_17 : decode cX3_init 17 = .ok (.putfield 15, 3) := by decide +kernel
theorem dX3_init_20 : decode cX3_init 20 = .ok (.aload_n 0, 1) := by decide +kernel
theorem dX3_init_21 : decode cX3_init 21 = .ok (.bipush 36, 2) := by decide +kernel
theorem dX3_init_23 : decode cX3_init 23 = .ok (.newarray .int, 2) := by decide +kernel
theorem dX3_init_25 : decode cX3_init 25 = .ok (.putfield 18, 3) := by decide +kernel
theorem dX3_init_28 : decode cX3_init 28 = .ok (.aload_n 0, 1) := by decide +kernel
theorem dX3_init_29 : decode cX3_init 29 = .ok (.bipush 36, 2) := by decide +kernel
theorem dX3_init_31 : decode cX3_init 31 = .ok (.newarray .int, 2) := by decide +kernel
theorem dX3_init_33 : decode cX3_init 33 = .ok (.putfield 21, 3) := by decide +kernel
theorem dX3_init_36 : decode cX3_init 36 = .ok (.aload_n 0, 1) := by decide +kernel
theorem dX3_init_37 : decode cX3_init 37 = .ok (.bipush 36, 2) := by decide +kernel
theorem dX3_init_39 : decode cX3_init 39 = .ok (.newarray .int, 2) := by decide +kernel
theorem dX3_init_41 : decode cX3_init 41 = .ok (.putfield 24, 3) := by decide +kernel
theorem dX3_init_44 : decode cX3_init 44 = .ok (.aload_n 0, 1) := by decide +kernel
theorem dX3_init_45 : decode cX3_init 45 = .ok (.iconst 0, 1) := by decide +kernel
theorem dX3_init_46 : decode cX3_init 46 = .ok (.putfield 27, 3) := by decide +kernel
theorem dX3_init_49 : decode cX3_init 49 = .ok (.return_, 1) := by decide +kernel
theorem dX3_walk_0 : decode cX3_walk 0 = .ok (.iconst 0, 1) := by decide +kernel
theorem dX3_walk_1 : decode cX3_walk 1 = .ok (.istore 4, 2) := by decide +kernel
theorem dX3_walk_3 : decode cX3_walk 3 = .ok (.iload 4, 2) := by decide +kernel
theorem dX3_walk_5 : decode cX3_walk 5 = .ok (.bipush 36, 2) := by decide +kernel
theorem dX3_walk_7 : decode cX3_walk 7 = .ok (.if_icmp .ge 25, 3) := by decide +kernel
theorem dX3_walk_10 : decode cX3_walk 10 = .ok (.aload_n 0, 1) := by decide +kernel
theorem dX3_walk_11 : decode cX3_walk 11 = .ok (.getfield 18, 3) := by decide +kernel
theorem dX3_walk_14 : decode cX3_walk 14 = .ok (.iload 4, 2) := by decide +kernel
theorem dX3_walk_16 : decode cX3_walk 16 = .ok (.iconst (-1), 1) := by decide +kernel
theorem dX3_walk_17 : decode cX3_walk 17 = .ok (.iastore, 1) := by decide +kernel
theorem dX3_walk_18 : decode cX3_walk 18 = .ok (.aload_n 0, 1) := by decide +kernel
theorem dX3_walk_19 : decode cX3_walk 19 = .ok (.getfield 21, 3) := by decide +kernel
theorem dX3_walk_22 : decode cX3_walk 22 = .ok (.iload 4, 2) := by decide +kernel
theorem dX3_walk_24 : decode cX3_walk 24 = .ok (.iconst (-1), 1) := by decide +kernel
theorem dX3_walk_25 : decode cX3_walk 25 = .ok (.iastore, 1) := by decide +kernel
theorem dX3_walk_26 : decode cX3_walk 26 = .ok (.iinc 4 1, 3) := by decide +kernel
theorem dX3_walk_29 : decode cX3_walk 29 = .ok (.goto (-26), 3) := by decide +kernel
theorem dX3_walk_32 : decode cX3_walk 32 = .ok (.aload_n 0, 1) := by decide +kernel
theorem dX3_walk_33 : decode cX3_walk 33 = .ok (.iconst 0, 1) := by decide +kernel
theorem dX3_walk_34 : decode cX3_walk 34 = .ok (.putfield 27, 3) := by decide +kernel
theorem dX3_walk_37 : decode cX3_walk 37 = .ok (.aload_n 0, 1) := by decide +kernel
theorem dX3_walk_38 : decode cX3_walk 38 = .ok (.iload_n 1, 1) := by decide +kernel
theorem dX3_walk_39 : decode cX3_walk 39 = .ok (.iload_n 2, 1) := by decide +kernel
theorem dX3_walk_40 : decode cX3_walk 40 = .ok (.iload_n 3, 1) := by decide +kernel
theorem dX3_walk_41 : decode cX3_walk 41 = .ok (.invokevirtual 31, 3) := by decide +kernel
theorem dX3_walk_44 : decode cX3_walk 44 = .ok (.ifCond .eq 10, 3) := by decide +kernel
theorem dX3_walk_47 : decode cX3_walk 47 = .ok (.aload_n 0, 1) := by decide +kernel
theorem dX3_walk_48 : decode cX3_walk 48 = .ok (.iload_n 1, 1) := by decide +kernel
theorem dX3_walk_49 : decode cX3_walk 49 = .ok (.iconst 0, 1) := by decide +kernel
theorem dX3_walk_50 : decode cX3_walk 50 = .ok (.iconst 0, 1) := by decide +kernel
theorem dX3_walk_51 : decode cX3_walk 51 = .ok (.invokevirtual 35, 3) := by decide +kernel
theorem dX3_walk_54 : decode cX3_walk 54 = .ok (.iconst 0, 1) := by decide +kernel
theorem dX3_walk_55 : decode cX3_walk 55 = .ok (.istore 4, 2) := by decide +kernel
theorem dX3_walk_57 : decode cX3_walk 57 = .ok (.iload 4, 2) := by decide +kernel
theorem dX3_walk_59 : decode cX3_walk 59 = .ok (.bipush 36, 2) := by decide +kernel
theorem dX3_walk_61 : decode cX3_walk 61 = .ok (.if_icmp .ge 96, 3) := by decide +kernel
theorem dX3_walk_64 : decode cX3_walk 64 = .ok (.iload 4, 2) := by decide +kernel
theorem dX3_walk_66 : decode cX3_walk 66 = .ok (.aload_n 0, 1) := by decide +kernel
theorem dX3_walk_67 : decode cX3_walk 67 = .ok (.getfield 27, 3) := by decide +kernel
theorem dX3_walk_70 : decode cX3_walk 70 = .ok (.if_icmp .ge 87, 3) := by decide +kernel
theorem dX3_walk_73 : decode cX3_walk 73 = .ok (.iconst 0, 1) := by decide +kernel
theorem dX3_walk_74 : decode cX3_walk 74 = .ok (.istore 5, 2) := by decide +kernel
theorem dX3_walk_76 : decode cX3_walk 76 = .ok (.iload 5, 2) := by decide +kernel
theorem dX3_walk_78 : decode cX3_walk 78 = .ok (.iconst 4, 1) := by decide +kernel
theorem dX3_walk_79 : decode cX3_walk 79 = .ok (.if_icmp .ge 72, 3) := by decide +kernel
theorem dX3_walk_82 : decode cX3_walk 82 = .ok (.aload_n 0, 1) := by decide +kernel
theorem dX3_walk_83 : decode cX3_walk 83 = .ok (.getfield 24, 3) := by decide +kernel
theorem dX3_walk_86 : decode cX3_walk 86 = .ok (.iload 4, 2) := by decide +kernel
theorem dX3_walk_88 : decode cX3_walk 88 = .ok (.iaload, 1) := by decide +kernel
theorem dX3_walk_89 : decode cX3_walk 89 = .ok (.iload 5, 2) := by decide +kernel
theorem dX3_walk_91 : decode cX3_walk 91 = .ok (.invokestatic 39, 3) := by decide +kernel
theorem dX3_walk_94 : decode cX3_walk 94 = .ok (.istore 6, 2) := by decide +kernel
theorem dX3_walk_96 : decode cX3_walk 96 = .ok (.iload 6, 2) := by decide +kernel
theorem dX3_walk_98 : decode cX3_walk 98 = .ok (.iconst (-1), 1) := by decide +kernel
theorem dX3_walk_99 : decode cX3_walk 99 = .ok (.if_icmp .eq 46, 3) := by decide +kernel
theorem dX3_walk_102 : decode cX3_walk 102 = .ok (.aload_n 0, 1) := by decide +kernel
theorem dX3_walk_103 : decode cX3_walk 103 = .ok (.iload 6, 2) := by decide +kernel
theorem dX3_walk_105 : decode cX3_walk 105 = .ok (.iload_n 2, 1) := by decide +kernel
theorem dX3_walk_106 : decode cX3_walk 106 = .ok (.iload_n 3, 1) := by decide +kernel
theorem dX3_walk_107 : decode cX3_walk 107 = .ok (.invokevirtual 31, 3) := by decide +kernel
theorem dX3_walk_110 : decode cX3_walk 110 = .ok (.ifCond .eq 35, 3) := by decide +kernel
theorem dX3_walk_113 : decode cX3_walk 113 = .ok (.aload_n 0, 1) := by decide +kernel
theorem dX3_walk_114 : decode cX3_walk 114 = .ok (.iload 6, 2) := by decide +kernel
theorem dX3_walk_116 : decode cX3_walk 116 = .ok (.aload_n 0, 1) := by decide +kernel
theorem dX3_walk_117 : decode cX3_walk 117 = .ok (.getfield 18, 3) := by decide +kernel
theorem dX3_walk_120 : decode cX3_walk 120 = .ok (.aload_n 0, 1) := by decide +kernel
theorem dX3_walk_121 : decode cX3_walk 121 = .ok (.getfield 24, 3) := by decide +kernel
theorem dX3_walk_124 : decode cX3_walk 124 = .ok (.iload 4, 2) := by decide +kernel
theorem dX3_walk_126 : decode cX3_walk 126 = .ok (.iaload, 1) := by decide +kernel
theorem dX3_walk_127 : decode cX3_walk 127 = .ok (.iaload, 1) := by decide +kernel
theorem dX3_walk_128 : decode cX3_walk 128 = .ok (.iconst 1, 1) := by decide +kernel
theorem dX3_walk_129 : decode cX3_walk 129 = .ok (.iadd, 1) := by decide +kernel
theorem dX3_walk_130 : decode cX3_walk 130 = .ok (.aload_n 0, 1) := by decide +kernel
theorem dX3_walk_131 : decode cX3_walk 131 = .ok (.getfield 21, 3) := by decide +kernel
theorem dX3_walk_134 : decode cX3_walk 134 = .ok (.aload_n 0, 1) := by decide +kernel
theorem dX3_walk_135 : decode cX3_walk 135 = .ok (.getfield 24, 3) := by decide +kernel
theorem dX3_walk_138 : decode cX3_walk 138 = .ok (.iload 4, 2) := by decide +kernel
theorem dX3_walk_140 : decode cX3_walk 140 = .ok (.iaload, 1) := by decide +kernel
theorem dX3_walk_141 : decode cX3_walk 141 = .ok (.iaload, 1) := by decide +kernel
theorem dX3_walk_142 : decode cX3_walk 142 = .ok (.invokevirtual 35, 3) := by decide +kernel
theorem dX3_walk_145 : decode cX3_walk 145 = .ok (.iinc 5 1, 3) := by decide +kernel
theorem dX3_walk_148 : decode cX3_walk 148 = .ok (.goto (-72), 3) := by decide +kernel
theorem dX3_walk_151 : decode cX3_walk 151 = .ok (.iinc 4 1, 3) := by decide +kernel
theorem dX3_walk_154 : decode cX3_walk 154 = .ok (.goto (-97), 3) := by decide +kernel
theorem dX3_walk_157 : decode cX3_walk 157 = .ok (.return_, 1) := by decide +kernel
theorem dX3_isOpen_0 : decode cX3_isOpen 0 = .ok (.aload_n 0, 1) := by decide +kernel
theorem dX3_isOpen_1 : decode cX3_isOpen 1 = .ok (.getfield 15, 3) := by decide +kernel
theorem dX3_isOpen_4 : decode cX3_isOpen 4 = .ok (.iload_n 1, 1) := by decide +kernel
theorem dX3_isOpen_5 : decode cX3_isOpen 5 = .ok (.iaload, 1) := by decide +kernel
theorem dX3_isOpen_6 : decode cX3_isOpen 6 = .ok (.ifCond .eq 17, 3) := by decide +kernel
theorem dX3_isOpen_9 : decode cX3_isOpen 9 = .ok (.aload_n 0, 1) := by decide +kernel
theorem dX3_isOpen_10 : decode cX3_isOpen 10 = .ok (.getfield 15, 3) := by decide +kernel
theorem dX3_isOpen_13 : decode cX3_isOpen 13 = .ok (.iload_n 1, 1) := by decide +kernel
theorem dX3_isOpen_14 : decode cX3_isOpen 14 = .ok (.iaload, 1) := by decide +kernel
theorem dX3_isOpen_15 : decode cX3_isOpen 15 = .ok (.iload_n 3, 1) := by decide +kernel
theorem dX3_isOpen_16 : decode cX3_isOpen 16 = .ok (.if_icmp .gt 7, 3) := by decide +kernel
theorem dX3_isOpen_19 : decode cX3_isOpen 19 = .ok (.iconst 1, 1) := by decide +kernel
theorem dX3_isOpen_20 : decode cX3_isOpen 20 = .ok (.goto 4, 3) := by decide +kernel
theorem dX3_isOpen_23 : decode cX3_isOpen 23 = .ok (.iconst 0, 1) := by decide +kernel
theorem dX3_isOpen_24 : decode cX3_isOpen 24 = .ok (.istore 4, 2) := by decide +kernel
theorem dX3_isOpen_26 : decode cX3_isOpen 26 = .ok (.aload_n 0, 1) := by decide +kernel
theorem dX3_isOpen_27 : decode cX3_isOpen 27 = .ok (.getfield 9, 3) := by decide +kernel
theorem dX3_isOpen_30 : decode cX3_isOpen 30 = .ok (.iload_n 1, 1) := by decide +kernel
theorem dX3_isOpen_31 : decode cX3_isOpen 31 = .ok (.iaload, 1) := by decide +kernel
theorem dX3_isOpen_32 : decode cX3_isOpen 32 = .ok (.iload_n 2, 1) := by decide +kernel
theorem dX3_isOpen_33 : decode cX3_isOpen 33 = .ok (.if_icmp .gt 12, 3) := by decide +kernel
theorem dX3_isOpen_36 : decode cX3_isOpen 36 = .ok (.iload 4, 2) := by decide +kernel
theorem dX3_isOpen_38 : decode cX3_isOpen 38 = .ok (.ifCond .ne 7, 3) := by decide +kernel
theorem dX3_isOpen_41 : decode cX3_isOpen 41 = .ok (.iconst 1, 1) := by decide +kernel
theorem dX3_isOpen_42 : decode cX3_isOpen 42 = .ok (.goto 4, 3) := by decide +kernel
theorem dX3_isOpen_45 : decode cX3_isOpen 45 = .ok (.iconst 0, 1) := by decide +kernel
theorem dX3_isOpen_46 : decode cX3_isOpen 46 = .ok (.ireturn, 1) := by decide +kernel
theorem dX3_enter_0 : decode cX3_enter 0 = .ok (.iload_n 3, 1) := by decide +kernel
theorem dX3_enter_1 : decode cX3_enter 1 = .ok (.aload_n 0, 1) := by decide +kernel
theorem dX3_enter_2 : decode cX3_enter 2 = .ok (.getfield 9, 3) := by decide +kernel
theorem dX3_enter_5 : decode cX3_enter 5 = .ok (.iload_n 1, 1) := by decide +kernel
theorem dX3_enter_6 : decode cX3_enter 6 = .ok (.iaload, 1) := by decide +kernel
theorem dX3_enter_7 : decode cX3_enter 7 = .ok (.iadd, 1) := by decide +kernel
theorem dX3_enter_8 : decode cX3_enter 8 = .ok (.istore 4, 2) := by decide +kernel
theorem dX3_enter_10 : decode cX3_enter 10 = .ok (.aload_n 0, 1) := by decide +kernel
theorem dX3_enter_11 : decode cX3_enter 11 = .ok (.getfield 18, 3) := by decide +kernel
theorem dX3_enter_14 : decode cX3_enter 14 = .ok (.iload_n 1, 1) := by decide +kernel
theorem dX3_enter_15 : decode cX3_enter 15 = .ok (.iaload, 1) := by decide +kernel
theorem dX3_enter_16 : decode cX3_enter 16 = .ok (.iconst (-1), 1) := by decide +kernel
theorem dX3_enter_17 : decode cX3_enter 17 = .ok (.if_icmp .ne 50, 3) := by decide +kernel
theorem dX3_enter_20 : decode cX3_enter 20 = .ok (.aload_n 0, 1) := by decide +kernel
theorem dX3_enter_21 : decode cX3_enter 21 = .ok (.getfield 27, 3) := by decide +kernel
theorem dX3_enter_24 : decode cX3_enter 24 = .ok (.bipush 36, 2) := by decide +kernel
theorem dX3_enter_26 : decode cX3_enter 26 = .ok (.if_icmp .ge 41, 3) := by decide +kernel
theorem dX3_enter_29 : decode cX3_enter 29 = .ok (.aload_n 0, 1) := by decide +kernel
theorem dX3_enter_30 : decode cX3_enter 30 = .ok (.getfield 18, 3) := by decide +kernel
theorem dX3_enter_33 : decode cX3_enter 33 = .ok (.iload_n 1, 1) := by decide +kernel
theorem dX3_enter_34 : decode cX3_enter 34 = .ok (.iload_n 2, 1) := by decide +kernel
theorem dX3_enter_35 : decode cX3_enter 35 = .ok (.iastore, 1) := by decide +kernel
theorem dX3_enter_36 : decode cX3_enter 36 = .ok (.aload_n 0, 1) := by decide +kernel
theorem dX3_enter_37 : decode cX3_enter 37 = .ok (.getfield 21, 3) := by decide +kernel
theorem dX3_enter_40 : decode cX3_enter 40 = .ok (.iload_n 1, 1) := by decide +kernel
theorem dX3_enter_41 : decode cX3_enter 41 = .ok (.iload 4, 2) := by decide +kernel
theorem dX3_enter_43 : decode cX3_enter 43 = .ok (.iastore, 1) := by decide +kernel
theorem dX3_enter_44 : decode cX3_enter 44 = .ok (.aload_n 0, 1) := by decide +kernel
theorem dX3_enter_45 : decode cX3_enter 45 = .ok (.getfield 24, 3) := by decide +kernel
theorem dX3_enter_48 : decode cX3_enter 48 = .ok (.aload_n 0, 1) := by decide +kernel
theorem dX3_enter_49 : decode cX3_enter 49 = .ok (.getfield 27, 3) := by decide +kernel
theorem dX3_enter_52 : decode cX3_enter 52 = .ok (.iload_n 1, 1) := by decide +kernel
theorem dX3_enter_53 : decode cX3_enter 53 = .ok (.iastore, 1) := by decide +kernel
theorem dX3_enter_54 : decode cX3_enter 54 = .ok (.aload_n 0, 1) := by decide +kernel
theorem dX3_enter_55 : decode cX3_enter 55 = .ok (.dup, 1) := by decide +kernel
theorem dX3_enter_56 : decode cX3_enter 56 = .ok (.getfield 27, 3) := by decide +kernel
theorem dX3_enter_59 : decode cX3_enter 59 = .ok (.iconst 1, 1) := by decide +kernel
theorem dX3_enter_60 : decode cX3_enter 60 = .ok (.iadd, 1) := by decide +kernel
theorem dX3_enter_61 : decode cX3_enter 61 = .ok (.putfield 27, 3) := by decide +kernel
theorem dX3_enter_64 : decode cX3_enter 64 = .ok (.goto 30, 3) := by decide +kernel
theorem dX3_enter_67 : decode cX3_enter 67 = .ok (.aload_n 0, 1) := by decide +kernel
theorem dX3_enter_68 : decode cX3_enter 68 = .ok (.getfield 18, 3) := by decide +kernel
theorem dX3_enter_71 : decode cX3_enter 71 = .ok (.iload_n 1, 1) := by decide +kernel
theorem dX3_enter_72 : decode cX3_enter 72 = .ok (.iaload, 1) := by decide +kernel
theorem dX3_enter_73 : decode cX3_enter 73 = .ok (.iload_n 2, 1) := by decide +kernel
theorem dX3_enter_74 : decode cX3_enter 74 = .ok (.if_icmp .ne 20, 3) := by decide +kernel
theorem dX3_enter_77 : decode cX3_enter 77 = .ok (.aload_n 0, 1) := by decide +kernel
theorem dX3_enter_78 : decode cX3_enter 78 = .ok (.getfield 21, 3) := by decide +kernel
theorem dX3_enter_81 : decode cX3_enter 81 = .ok (.iload_n 1, 1) := by decide +kernel
theorem dX3_enter_82 : decode cX3_enter 82 = .ok (.aload_n 0, 1) := by decide +kernel
theorem dX3_enter_83 : decode cX3_enter 83 = .ok (.getfield 21, 3) := by decide +kernel
theorem dX3_enter_86 : decode cX3_enter 86 = .ok (.iload_n 1, 1) := by decide +kernel
theorem dX3_enter_87 : decode cX3_enter 87 = .ok (.iaload, 1) := by decide +kernel
theorem dX3_enter_88 : decode cX3_enter 88 = .ok (.iload 4, 2) := by decide +kernel
theorem dX3_enter_90 : decode cX3_enter 90 = .ok (.invokestatic 43, 3) := by decide +kernel
theorem dX3_enter_93 : decode cX3_enter 93 = .ok (.iastore, 1) := by decide +kernel
theorem dX3_enter_94 : decode cX3_enter 94 = .ok (.return_, 1) := by decide +kernel
theorem dX3_beside_0 : decode cX3_beside 0 = .ok (.iload_n 0, 1) := by decide +kernel
theorem dX3_beside_1 : decode cX3_beside 1 = .ok (.bipush 6, 2) := by decide +kernel
theorem dX3_beside_3 : decode cX3_beside 3 = .ok (.irem, 1) := by decide +kernel
theorem dX3_beside_4 : decode cX3_beside 4 = .ok (.istore_n 2, 1) := by decide +kernel
theorem dX3_beside_5 : decode cX3_beside 5 = .ok (.iload_n 1, 1) := by decide +kernel
theorem dX3_beside_6 : decode cX3_beside 6 = .ok (.tableswitch 66 0 2 #[26, 41, 53], 26) := by decide +kernel
theorem dX3_beside_32 : decode cX3_beside 32 = .ok (.iload_n 0, 1) := by decide +kernel
theorem dX3_beside_33 : decode cX3_beside 33 = .ok (.bipush 6, 2) := by decide +kernel
theorem dX3_beside_35 : decode cX3_beside 35 = .ok (.if_icmp .lt 10, 3) := by decide +kernel
theorem dX3_beside_38 : decode cX3_beside 38 = .ok (.iload_n 0, 1) := by decide +kernel
theorem dX3_beside_39 : decode cX3_beside 39 = .ok (.bipush 6, 2) := by decide +kernel
theorem dX3_beside_41 : decode cX3_beside 41 = .ok (.isub, 1) := by decide +kernel
theorem dX3_beside_42 : decode cX3_beside 42 = .ok (.goto 4, 3) := by decide +kernel
theorem dX3_beside_45 : decode cX3_beside 45 = .ok (.iconst (-1), 1) := by decide +kernel
theorem dX3_beside_46 : decode cX3_beside 46 = .ok (.ireturn, 1) := by decide +kernel
theorem dX3_beside_47 : decode cX3_beside 47 = .ok (.iload_n 2, 1) := by decide +kernel
theorem dX3_beside_48 : decode cX3_beside 48 = .ok (.ifCond .le 9, 3) := by decide +kernel
theorem dX3_beside_51 : decode cX3_beside 51 = .ok (.iload_n 0, 1) := by decide +kernel
theorem dX3_beside_52 : decode cX3_beside 52 = .ok (.iconst 1, 1) := by decide +kernel
theorem dX3_beside_53 : decode cX3_beside 53 = .ok (.isub, 1) := by decide +kernel
theorem dX3_beside_54 : decode cX3_beside 54 = .ok (.goto 4, 3) := by decide +kernel
theorem dX3_beside_57 : decode cX3_beside 57 = .ok (.iconst (-1), 1) := by decide +kernel
theorem dX3_beside_58 : decode cX3_beside 58 = .ok (.ireturn, 1) := by decide +kernel
theorem dX3_beside_59 : decode cX3_beside 59 = .ok (.iload_n 2, 1) := by decide +kernel
theorem dX3_beside_60 : decode cX3_beside 60 = .ok (.iconst 5, 1) := by decide +kernel
theorem dX3_beside_61 : decode cX3_beside 61 = .ok (.if_icmp .ge 9, 3) := by decide +kernel
theorem dX3_beside_64 : decode cX3_beside 64 = .ok (.iload_n 0, 1) := by decide +kernel
theorem dX3_beside_65 : decode cX3_beside 65 = .ok (.iconst 1, 1) := by decide +kernel
theorem dX3_beside_66 : decode cX3_beside 66 = .ok (.iadd, 1) := by decide +kernel
theorem dX3_beside_67 : decode cX3_beside 67 = .ok (.goto 4, 3) := by decide +kernel
theorem dX3_beside_70 : decode cX3_beside 70 = .ok (.iconst (-1), 1) := by decide +kernel
theorem dX3_beside_71 : decode cX3_beside 71 = .ok (.ireturn, 1) := by decide +kernel
theorem dX3_beside_72 : decode cX3_beside 72 = .ok (.iload_n 0, 1) := by decide +kernel
theorem dX3_beside_73 : decode cX3_beside 73 = .ok (.bipush 30, 2) := by decide +kernel
theorem dX3_beside_75 : decode cX3_beside 75 = .ok (.if_icmp .ge 10, 3) := by decide +kernel
theorem dX3_beside_78 : decode cX3_beside 78 = .ok (.iload_n 0, 1) := by decide +kernel
theorem dX3_beside_79 : decode cX3_beside 79 = .ok (.bipush 6, 2) := by decide +kernel
theorem dX3_beside_81 : decode cX3_beside 81 = .ok (.iadd, 1) := by decide +kernel
theorem dX3_beside_82 : decode cX3_beside 82 = .ok (.goto 4, 3) := by decide +kernel
theorem dX3_beside_85 : decode cX3_beside 85 = .ok (.iconst (-1), 1) := by decide +kernel
theorem dX3_beside_86 : decode cX3_beside 86 = .ok (.ireturn, 1) := by decide +kernel
theorem dX4_init_0 : decode cX4_init 0 = .ok (.aload_n 0, 1) := by decide +kernel
theorem dX4_init_1 : decode cX4_init 1 = .ok (.invokespecial 3, 3) := by decide +kernel
theorem dX4_init_4 : decode cX4_init 4 = .ok (.aload_n 0, 1) := by decide +kernel
theorem dX4_init_5 : decode cX4_init 5 = .ok (.bipush 10, 2) := by decide +kernel
theorem dX4_init_7 : decode cX4_init 7 = .ok (.newarray .int, 2) := by decide +kernel
theorem dX4_init_9 : decode cX4_init 9 = .ok (.putfield 9, 3) := by decide +kernel
theorem dX4_init_12 : decode cX4_init 12 = .ok (.aload_n 0, 1) := by decide +kernel
theorem dX4_init_13 : decode cX4_init 13 = .ok (.new 15, 3) := by decide +kernel
theorem dX4_init_16 : decode cX4_init 16 = .ok (.dup, 1) := by decide +kernel
theorem dX4_init_17 : decode cX4_init 17 = .ok (.invokespecial 17, 3) := by decide +kernel
theorem dX4_init_20 : decode cX4_init 20 = .ok (.putfield 18, 3) := by decide +kernel
theorem dX4_init_23 : decode cX4_init 23 = .ok (.aload_n 0, 1) := by decide +kernel
theorem dX4_init_24 : decode cX4_init 24 = .ok (.new 15, 3) := by decide +kernel
theorem dX4_init_27 : decode cX4_init 27 = .ok (.dup, 1) := by decide +kernel
theorem dX4_init_28 : decode cX4_init 28 = .ok (.invokespecial 17, 3) := by decide +kernel
theorem dX4_init_31 : decode cX4_init 31 = .ok (.putfield 22, 3) := by decide +kernel
theorem dX4_init_34 : decode cX4_init 34 = .ok (.aload_n 0, 1) := by decide +kernel
theorem dX4_init_35 : decode cX4_init 35 = .ok (.new 25, 3) := by decide +kernel
theorem dX4_init_38 : decode cX4_init 38 = .ok (.dup, 1) := by decide +kernel
theorem dX4_init_39 : decode cX4_init 39 = .ok (.invokespecial 27, 3) := by decide +kernel
theorem dX4_init_42 : decode cX4_init 42 = .ok (.putfield 28, 3) := by decide +kernel
theorem dX4_init_45 : decode cX4_init 45 = .ok (.return_, 1) := by decide +kernel
theorem dX4_takeRule_0 : decode cX4_takeRule 0 = .ok (.aload_n 1, 1) := by decide +kernel
theorem dX4_takeRule_1 : decode cX4_takeRule 1 = .ok (.iconst 0, 1) := by decide +kernel
theorem dX4_takeRule_2 : decode cX4_takeRule 2 = .ok (.aload_n 0, 1) := by decide +kernel
theorem dX4_takeRule_3 : decode cX4_takeRule 3 = .ok (.getfield 9, 3) := by decide +kernel
theorem dX4_takeRule_6 : decode cX4_takeRule 6 = .ok (.iconst 0, 1) := by decide +kernel
theorem dX4_takeRule_7 : decode cX4_takeRule 7 = .ok (.bipush 10, 2) := by decide +kernel
theorem dX4_takeRule_9 : decode cX4_takeRule 9 = .ok (.invokestatic 32, 3) := by decide +kernel
theorem dX4_takeRule_12 : decode cX4_takeRule 12 = .ok (.return_, 1) := by decide +kernel
theorem dX4_lasts_0 : decode cX4_lasts 0 = .ok (.aload_n 0, 1) := by decide +kernel
theorem dX4_lasts_1 : decode cX4_lasts 1 = .ok (.getfield 9, 3) := by decide +kernel
theorem dX4_lasts_4 : decode cX4_lasts 4 = .ok (.iconst 2, 1) := by decide +kernel
theorem dX4_lasts_5 : decode cX4_lasts 5 = .ok (.iaload, 1) := by decide +kernel
theorem dX4_lasts_6 : decode cX4_lasts 6 = .ok (.aload_n 1, 1) := by decide +kernel
theorem dX4_lasts_7 : decode cX4_lasts 7 = .ok (.invokevirtual 38, 3) := by decide +kernel
theorem dX4_lasts_10 : decode cX4_lasts 10 = .ok (.iadd, 1) := by decide +kernel
theorem dX4_lasts_11 : decode cX4_lasts 11 = .ok (.iconst 1, 1) := by decide +kernel
theorem dX4_lasts_12 : decode cX4_lasts 12 = .ok (.iadd, 1) := by decide +kernel
theorem dX4_lasts_13 : decode cX4_lasts 13 = .ok (.istore 5, 2) := by decide +kernel
theorem dX4_lasts_15 : decode cX4_lasts 15 = .ok (.iconst 4, 1) := by decide +kernel
theorem dX4_lasts_16 : decode cX4_lasts 16 = .ok (.istore 6, 2) := by decide +kernel
theorem dX4_lasts_18 : decode cX4_lasts 18 = .ok (.aload_n 0, 1) := by decide +kernel
theorem dX4_lasts_19 : decode cX4_lasts 19 = .ok (.getfield 18, 3) := by decide +kernel
theorem dX4_lasts_22 : decode cX4_lasts 22 = .ok (.iconst 0, 1) := by decide +kernel
theorem dX4_lasts_23 : decode cX4_lasts 23 = .ok (.iload_n 2, 1) := by decide +kernel
theorem dX4_lasts_24 : decode cX4_lasts 24 = .ok (.iload_n 3, 1) := by decide +kernel
theorem dX4_lasts_25 : decode cX4_lasts 25 = .ok (.invokevirtual 42, 3) := by decide +kernel
theorem dX4_lasts_28 : decode cX4_lasts 28 = .ok (.iconst 0, 1) := by decide +kernel
theorem dX4_lasts_29 : decode cX4_lasts 29 = .ok (.istore 7, 2) := by decide +kernel
theorem dX4_lasts_31 : decode cX4_lasts 31 = .ok (.iload 7, 2) := by decide +kernel
theorem dX4_lasts_33 : decode cX4_lasts 33 = .ok (.iload 4, 2) := by decide +kernel
theorem dX4_lasts_35 : decode cX4_lasts 35 = .ok (.if_icmp .ge 86, 3) := by decide +kernel
theorem dX4_lasts_38 : decode cX4_lasts 38 = .ok (.aload_n 0, 1) := by decide +kernel
theorem dX4_lasts_39 : decode cX4_lasts 39 = .ok (.getfield 18, 3) := by decide +kernel
theorem dX4_lasts_42 : decode cX4_lasts 42 = .ok (.aload_n 0, 1) := by decide +kernel
theorem dX4_lasts_43 : decode cX4_lasts 43 = .ok (.getfield 9, 3) := by decide +kernel
theorem dX4_lasts_46 : decode cX4_lasts 46 = .ok (.invokevirtual 46, 3) := by decide +kernel
theorem dX4_lasts_49 : decode cX4_lasts 49 = .ok (.ifCond .ne 72, 3) := by decide +kernel
theorem dX4_lasts_52 : decode cX4_lasts 52 = .ok (.iload 7, 2) := by decide +kernel
theorem dX4_lasts_54 : decode cX4_lasts 54 = .ok (.iconst 4, 1) := by decide +kernel
theorem dX4_lasts_55 : decode cX4_lasts 55 = .ok (.if_icmp .le 22, 3) := by decide +kernel
theorem dX4_lasts_58 : decode cX4_lasts 58 = .ok (.aload_n 0, 1) := by decide +kernel
theorem dX4_lasts_59 : decode cX4_lasts 59 = .ok (.getfield 18, 3) := by decide +kernel
theorem dX4_lasts_62 : decode cX4_lasts 62 = .ok (.aload_n 0, 1) := by decide +kernel
theorem dX4_lasts_63 : decode cX4_lasts 63 = .ok (.getfield 22, 3) := by decide +kernel
theorem dX4_lasts_66 : decode cX4_lasts 66 = .ok (.iload 5, 2) := by decide +kernel
theorem dX4_lasts_68 : decode cX4_lasts 68 = .ok (.invokevirtual 50, 3) := by decide +kernel
theorem dX4_lasts_71 : decode cX4_lasts 71 = .ok (.ifCond .eq 6, 3) := by decide +kernel
theorem dX4_lasts_74 : decode cX4_lasts 74 = .ok (.iload 4, 2) := by decide +kernel
theorem dX4_lasts_76 : decode cX4_lasts 76 = .ok (.ireturn, 1) := by decide +kernel
theorem dX4_lasts_77 : decode cX4_lasts 77 = .ok (.iload 7, 2) := by decide +kernel
theorem dX4_lasts_79 : decode cX4_lasts 79 = .ok (.iload 6, 2) := by decide +kernel
theorem dX4_lasts_81 : decode cX4_lasts 81 = .ok (.if_icmp .ne 20, 3) := by decide +kernel
theorem dX4_lasts_84 : decode cX4_lasts 84 = .ok (.aload_n 0, 1) := by decide +kernel
theorem dX4_lasts_85 : decode cX4_lasts 85 = .ok (.getfield 22, 3) := by decide +kernel
theorem dX4_lasts_88 : decode cX4_lasts 88 = .ok (.aload_n 0, 1) := by decide +kernel
theorem dX4_lasts_89 : decode cX4_lasts 89 = .ok (.getfield 18, 3) := by decide +kernel
theorem dX4_lasts_92 : decode cX4_lasts 92 = .ok (.invokevirtual 54, 3) := by decide +kernel
theorem dX4_lasts_95 : decode cX4_lasts 95 = .ok (.iload 6, 2) := by decide +kernel
theorem dX4_lasts_97 : decode cX4_lasts 97 = .ok (.iconst 2, 1) := by decide +kernel
theorem dX4_lasts_98 : decode cX4_lasts 98 = .ok (.imul, 1) := by decide +kernel
theorem dX4_lasts_99 : decode cX4_lasts 99 = .ok (.istore 6, 2) := by decide +kernel
theorem dX4_lasts_101 : decode cX4_lasts 101 = .ok (.aload_n 0, 1) := by decide +kernel
theorem dX4_lasts_102 : decode cX4_lasts 102 = .ok (.getfield 18, 3) := by decide +kernel
theorem dX4_lasts_105 : decode cX4_lasts 105 = .ok (.aload_n 1, 1) := by decide +kernel
theorem dX4_lasts_106 : decode cX4_lasts 106 = .ok (.aload_n 0, 1) := by decide +kernel
theorem dX4_lasts_107 : decode cX4_lasts 107 = .ok (.getfield 9, 3) := by decide +kernel
theorem dX4_lasts_110 : decode cX4_lasts 110 = .ok (.iconst 1, 1) := by decide +kernel
theorem dX4_lasts_111 : decode cX4_lasts 111 = .ok (.iconst 0, 1) := by decide +kernel
theorem dX4_lasts_112 : decode cX4_lasts 112 = .ok (.invokevirtual 58, 3) := by decide +kernel
theorem dX4_lasts_115 : decode cX4_lasts 115 = .ok (.iinc 7 1, 3) := by decide +kernel
theorem dX4_lasts_118 : decode cX4_lasts 118 = .ok (.goto (-87), 3) := by decide +kernel
theorem dX4_lasts_121 : decode cX4_lasts 121 = .ok (.aload_n 0, 1) := by decide +kernel
theorem dX4_lasts_122 : decode cX4_lasts 122 = .ok (.getfield 18, 3) := by decide +kernel
theorem dX4_lasts_125 : decode cX4_lasts 125 = .ok (.getfield 62, 3) := by decide +kernel
theorem dX4_lasts_128 : decode cX4_lasts 128 = .ok (.ireturn, 1) := by decide +kernel
theorem dX4_leastFrom_0 : decode cX4_leastFrom 0 = .ok (.sipush 400, 3) := by decide +kernel
theorem dX4_leastFrom_3 : decode cX4_leastFrom 3 = .ok (.istore_n 3, 1) := by decide +kernel
theorem dX4_leastFrom_4 : decode cX4_leastFrom 4 = .ok (.aload_n 0, 1) := by decide +kernel
theorem dX4_leastFrom_5 : decode cX4_leastFrom 5 = .ok (.iload_n 2, 1) := by decide +kernel
theorem dX4_leastFrom_6 : decode cX4_leastFrom 6 = .ok (.invokevirtual 66, 3) := by decide +kernel
theorem dX4_leastFrom_9 : decode cX4_leastFrom 9 = .ok (.istore 4, 2) := by decide +kernel
theorem dX4_leastFrom_11 : decode cX4_leastFrom 11 = .ok (.iload 4, 2) := by decide +kernel
theorem dX4_leastFrom_13 : decode cX4_leastFrom 13 = .ok (.iload_n 2, 1) := by decide +kernel
theorem dX4_leastFrom_14 : decode cX4_leastFrom 14 = .ok (.if_icmp .gt 25, 3) := by decide +kernel
theorem dX4_leastFrom_17 : decode cX4_leastFrom 17 = .ok (.iload_n 3, 1) := by decide +kernel
theorem dX4_leastFrom_18 : decode cX4_leastFrom 18 = .ok (.aload_n 0, 1) := by decide +kernel
theorem dX4_leastFrom_19 : decode cX4_leastFrom 19 = .ok (.aload_n 1, 1) := by decide +kernel
theorem dX4_leastFrom_20 : decode cX4_leastFrom 20 = .ok (.iload 4, 2) := by decide +kernel
theorem dX4_leastFrom_22 : decode cX4_leastFrom 22 = .ok (.iconst 0, 1) := by decide +kernel
theorem dX4_leastFrom_23 : decode cX4_leastFrom 23 = .ok (.sipush 400, 3) := by decide +kernel
theorem dX4_leastFrom_26 : decode cX4_leastFrom 26 = .ok (.invokevirtual 70, 3) := by decide +kernel
theorem dX4_leastFrom_29 : decode cX4_leastFrom 29 = .ok (.invokestatic 74, 3) := by decide +kernel
theorem dX4_leastFrom_32 : decode cX4_leastFrom 32 = .ok (.istore_n 3, 1) := by decide +kernel
theorem dX4_leastFrom_33 : decode cX4_leastFrom 33 = .ok (.iinc 4 1, 3) := by decide +kernel
theorem dX4_leastFrom_36 : decode cX4_leastFrom 36 = .ok (.goto (-25), 3) := by decide +kernel
theorem dX4_leastFrom_39 : decode cX4_leastFrom 39 = .ok (.iload_n 3, 1) := by decide +kernel
theorem dX4_leastFrom_40 : decode cX4_leastFrom 40 = .ok (.ireturn, 1) := by decide +kernel
theorem dX4_leftmost_0 : decode cX4_leftmost 0 = .ok (.aload_n 0, 1) := by decide +kernel
theorem dX4_leftmost_1 : decode cX4_leftmost 1 = .ok (.getfield 9, 3) := by decide +kernel
theorem dX4_leftmost_4 : decode cX4_leftmost 4 = .ok (.bipush 8, 2) := by decide +kernel
theorem dX4_leftmost_6 : decode cX4_leftmost 6 = .ok (.iaload, 1) := by decide +kernel
theorem dX4_leftmost_7 : decode cX4_leftmost 7 = .ok (.ifCond .ne 7, 3) := by decide +kernel
theorem dX4_leftmost_10 : decode cX4_leftmost 10 = .ok (.iconst 0, 1) := by decide +kernel
theorem dX4_leftmost_11 : decode cX4_leftmost 11 = .ok (.goto 5, 3) := by decide +kernel
theorem dX4_leftmost_14 : decode cX4_leftmost 14 = .ok (.iload_n 1, 1) := by decide +kernel
theorem dX4_leftmost_15 : decode cX4_leftmost 15 = .ok (.ineg, 1) := by decide +kernel
theorem dX4_leftmost_16 : decode cX4_leftmost 16 = .ok (.ireturn, 1) := by decide +kernel
theorem dX4_shortestSteady_0 : decode cX4_shortestSteady 0 = .ok (.iconst (-1), 1) := by decide +kernel
theorem dX4_shortestSteady_1 : decode cX4_shortestSteady 1 = .ok (.istore_n 2, 1) := by decide +kernel
theorem dX4_shortestSteady_2 : decode cX4_shortestSteady 2 = .ok (.sipush 300, 3) := by decide +kernel
theorem dX4_shortestSteady_5 : decode cX4_shortestSteady 5 = .ok (.istore_n 3, 1) := by decide +kernel
theorem dX4_shortestSteady_6 : decode cX4_shortestSteady 6 = .ok (.iload_n 3, 1) := by decide +kernel
theorem dX4_shortestSteady_7 : decode cX4_shortestSteady 7 = .ok (.iconst 1, 1) := by decide +kernel
theorem dX4_shortestSteady_8 : decode cX4_shortestSteady 8 = .ok (.if_icmp .lt 41, 3) := by decide +kernel
theorem dX4_shortestSteady_11 : decode cX4_shortestSteady 11 = .ok (.aload_n 0, 1) := by decide +kernel
theorem dX4_shortestSteady_12 : decode cX4_shortestSteady 12 = .ok (.getfield 28, 3) := by decide +kernel
theorem dX4_shortestSteady_15 : decode cX4_shortestSteady 15 = .ok (.invokevirtual 80, 3) := by decide +kernel
theorem dX4_shortestSteady_18 : decode cX4_shortestSteady 18 = .ok (.aload_n 0, 1) := by decide +kernel
theorem dX4_shortestSteady_19 : decode cX4_shortestSteady 19 = .ok (.getfield 28, 3) := by decide +kernel
theorem dX4_shortestSteady_22 : decode cX4_shortestSteady 22 = .ok (.iload_n 3, 1) := by decide +kernel
theorem dX4_shortestSteady_23 : decode cX4_shortestSteady 23 = .ok (.iconst 1, 1) := by decide +kernel
theorem dX4_shortestSteady_24 : decode cX4_shortestSteady 24 = .ok (.invokevirtual 83, 3) := by decide +kernel
theorem dX4_shortestSteady_27 : decode cX4_shortestSteady 27 = .ok (.aload_n 0, 1) := by decide +kernel
theorem dX4_shortestSteady_28 : decode cX4_shortestSteady 28 = .ok (.aload_n 0, 1) := by decide +kernel
theorem dX4_shortestSteady_29 : decode cX4_shortestSteady 29 = .ok (.getfield 28, 3) := by decide +kernel
theorem dX4_shortestSteady_32 : decode cX4_shortestSteady 32 = .ok (.iload_n 1, 1) := by decide +kernel
theorem dX4_shortestSteady_33 : decode cX4_shortestSteady 33 = .ok (.invokevirtual 87, 3) := by decide +kernel
theorem dX4_shortestSteady_36 : decode cX4_shortestSteady 36 = .ok (.ifCond .ne 5, 3) := by decide +kernel
theorem dX4_shortestSteady_39 : decode cX4_shortestSteady 39 = .ok (.iload_n 2, 1) := by decide +kernel
theorem dX4_shortestSteady_40 : decode cX4_shortestSteady 40 = .ok (.ireturn, 1) := by decide +kernel
theorem dX4_shortestSteady_41 : decode cX4_shortestSteady 41 = .ok (.iload_n 3, 1) := by decide +kernel
theorem dX4_shortestSteady_42 : decode cX4_shortestSteady 42 = .ok (.istore_n 2, 1) := by decide +kernel
theorem dX4_shortestSteady_43 : decode cX4_shortestSteady 43 = .ok (.iinc 3 (-1), 3) := by decide +kernel
theorem dX4_shortestSteady_46 : decode cX4_shortestSteady 46 = .ok (.goto (-40), 3) := by decide +kernel
theorem dX4_shortestSteady_49 : decode cX4_shortestSteady 49 = .ok (.iload_n 2, 1) := by decide +kernel
theorem dX4_shortestSteady_50 : decode cX4_shortestSteady 50 = .ok (.ireturn, 1) := by decide +kernel
theorem dX4_isSteady_0 : decode cX4_isSteady 0 = .ok (.aload_n 0, 1) := by decide +kernel
theorem dX4_isSteady_1 : decode cX4_isSteady 1 = .ok (.iload_n 2, 1) := by decide +kernel
theorem dX4_isSteady_2 : decode cX4_isSteady 2 = .ok (.invokevirtual 66, 3) := by decide +kernel
theorem dX4_isSteady_5 : decode cX4_isSteady 5 = .ok (.istore_n 3, 1) := by decide +kernel
theorem dX4_isSteady_6 : decode cX4_isSteady 6 = .ok (.iload_n 2, 1) := by decide +kernel
theorem dX4_isSteady_7 : decode cX4_isSteady 7 = .ok (.istore 4, 2) := by decide +kernel
theorem dX4_isSteady_9 : decode cX4_isSteady 9 = .ok (.iload 4, 2) := by decide +kernel
theorem dX4_isSteady_11 : decode cX4_isSteady 11 = .ok (.iload_n 3, 1) := by decide +kernel
theorem dX4_isSteady_12 : decode cX4_isSteady 12 = .ok (.if_icmp .lt 28, 3) := by decide +kernel
theorem dX4_isSteady_15 : decode cX4_isSteady 15 = .ok (.aload_n 0, 1) := by decide +kernel
theorem dX4_isSteady_16 : decode cX4_isSteady 16 = .ok (.aload_n 1, 1) := by decide +kernel
theorem dX4_isSteady_17 : decode cX4_isSteady 17 = .ok (.iload 4, 2) := by decide +kernel
theorem dX4_isSteady_19 : decode cX4_isSteady 19 = .ok (.iconst 0, 1) := by decide +kernel
theorem dX4_isSteady_20 : decode cX4_isSteady 20 = .ok (.sipush 400, 3) := by decide +kernel
theorem dX4_isSteady_23 : decode cX4_isSteady 23 = .ok (.invokevirtual 70, 3) := by decide +kernel
theorem dX4_isSteady_26 : decode cX4_isSteady 26 = .ok (.sipush 400, 3) := by decide +kernel
theorem dX4_isSteady_29 : decode cX4_isSteady 29 = .ok (.if_icmp .ge 5, 3) := by decide +kernel
theorem dX4_isSteady_32 : decode cX4_isSteady 32 = .ok (.iconst 0, 1) := by decide +kernel
theorem dX4_isSteady_33 : decode cX4_isSteady 33 = .ok (.ireturn, 1) := by decide +kernel
theorem dX4_isSteady_34 : decode cX4_isSteady 34 = .ok (.iinc 4 (-1), 3) := by decide +kernel
theorem dX4_isSteady_37 : decode cX4_isSteady 37 = .ok (.goto (-28), 3) := by decide +kernel
theorem dX4_isSteady_40 : decode cX4_isSteady 40 = .ok (.iconst 1, 1) := by decide +kernel
theorem dX4_isSteady_41 : decode cX4_isSteady 41 = .ok (.ireturn, 1) := by decide +kernel
theorem dX4_bestRule_0 : decode cX4_bestRule 0 = .ok (.iconst (-1), 1) := by decide +kernel
theorem dX4_bestRule_1 : decode cX4_bestRule 1 = .ok (.istore 4, 2) := by decide +kernel
theorem dX4_bestRule_3 : decode cX4_bestRule 3 = .ok (.iconst 0, 1) := by decide +kernel
theorem dX4_bestRule_4 : decode cX4_bestRule 4 = .ok (.istore 5, 2) := by decide +kernel
theorem dX4_bestRule_6 : decode cX4_bestRule 6 = .ok (.iconst 0, 1) := by decide +kernel
theorem dX4_bestRule_7 : decode cX4_bestRule 7 = .ok (.istore 6, 2) := by decide +kernel
theorem dX4_bestRule_9 : decode cX4_bestRule 9 = .ok (.sipush 400, 3) := by decide +kernel
theorem dX4_bestRule_12 : decode cX4_bestRule 12 = .ok (.iconst 2, 1) := by decide +kernel
theorem dX4_bestRule_13 : decode cX4_bestRule 13 = .ok (.iload_n 2, 1) := by decide +kernel
theorem dX4_bestRule_14 : decode cX4_bestRule 14 = .ok (.imul, 1) := by decide +kernel
theorem dX4_bestRule_15 : decode cX4_bestRule 15 = .ok (.iconst 1, 1) := by decide +kernel
theorem dX4_bestRule_16 : decode cX4_bestRule 16 = .ok (.iadd, 1) := by decide +kernel
theorem dX4_bestRule_17 : decode cX4_bestRule 17 = .ok (.imul, 1) := by decide +kernel
theorem dX4_bestRule_18 : decode cX4_bestRule 18 = .ok (.istore 7, 2) := by decide +kernel
theorem dX4_bestRule_20 : decode cX4_bestRule 20 = .ok (.iconst 0, 1) := by decide +kernel
theorem dX4_bestRule_21 : decode cX4_bestRule 21 = .ok (.istore 8, 2) := by decide +kernel
theorem dX4_bestRule_23 : decode cX4_bestRule 23 = .ok (.iload 8, 2) := by decide +kernel
theorem dX4_bestRule_25 : decode cX4_bestRule 25 = .ok (.bipush 20, 2) := by decide +kernel
theorem dX4_bestRule_27 : decode cX4_bestRule 27 = .ok (.if_icmp .gt 84, 3) := by decide +kernel
theorem dX4_bestRule_30 : decode cX4_bestRule 30 = .ok (.iload 4, 2) := by decide +kernel
theorem dX4_bestRule_32 : decode cX4_bestRule 32 = .ok (.iload 7, 2) := by decide +kernel
theorem dX4_bestRule_34 : decode cX4_bestRule 34 = .ok (.if_icmp .ge 77, 3) := by decide +kernel
theorem dX4_bestRule_37 : decode cX4_bestRule 37 = .ok (.iconst 0, 1) := by decide +kernel
theorem dX4_bestRule_38 : decode cX4_bestRule 38 = .ok (.istore 9, 2) := by decide +kernel
theorem dX4_bestRule_40 : decode cX4_bestRule 40 = .ok (.iload 9, 2) := by decide +kernel
theorem dX4_bestRule_42 : decode cX4_bestRule 42 = .ok (.bipush 20, 2) := by decide +kernel
theorem dX4_bestRule_44 : decode cX4_bestRule 44 = .ok (.if_icmp .gt 61, 3) := by decide +kernel
theorem dX4_bestRule_47 : decode cX4_bestRule 47 = .ok (.iload 4, 2) := by decide +kernel
theorem dX4_bestRule_49 : decode cX4_bestRule 49 = .ok (.iload 7, 2) := by decide +kernel
theorem dX4_bestRule_51 : decode cX4_bestRule 51 = .ok (.if_icmp .ge 54, 3) := by decide +kernel
theorem dX4_bestRule_54 : decode cX4_bestRule 54 = .ok (.aload_n 0, 1) := by decide +kernel
theorem dX4_bestRule_55 : decode cX4_bestRule 55 = .ok (.getfield 9, 3) := by decide +kernel
theorem dX4_bestRule_58 : decode cX4_bestRule 58 = .ok (.iconst 0, 1) := by decide +kernel
theorem dX4_bestRule_59 : decode cX4_bestRule 59 = .ok (.iload 8, 2) := by decide +kernel
theorem dX4_bestRule_61 : decode cX4_bestRule 61 = .ok (.iastore, 1) := by decide +kernel
theorem dX4_bestRule_62 : decode cX4_bestRule 62 = .ok (.aload_n 0, 1) := by decide +kernel
theorem dX4_bestRule_63 : decode cX4_bestRule 63 = .ok (.getfield 9, 3) := by decide +kernel
theorem dX4_bestRule_66 : decode cX4_bestRule 66 = .ok (.iconst 1, 1) := by decide +kernel
theorem dX4_bestRule_67 : decode cX4_bestRule 67 = .ok (.iload 9, 2) := by decide +kernel
theorem dX4_bestRule_69 : decode cX4_bestRule 69 = .ok (.iastore, 1) := by decide +kernel
theorem dX4_bestRule_70 : decode cX4_bestRule 70 = .ok (.aload_n 0, 1) := by decide +kernel
theorem dX4_bestRule_71 : decode cX4_bestRule 71 = .ok (.aload_n 1, 1) := by decide +kernel
theorem dX4_bestRule_72 : decode cX4_bestRule 72 = .ok (.iload_n 2, 1) := by decide +kernel
theorem dX4_bestRule_73 : decode cX4_bestRule 73 = .ok (.iload 4, 2) := by decide +kernel
theorem dX4_bestRule_75 : decode cX4_bestRule 75 = .ok (.invokevirtual 91, 3) := by decide +kernel
theorem dX4_bestRule_78 : decode cX4_bestRule 78 = .ok (.istore 10, 2) := by decide +kernel
theorem dX4_bestRule_80 : decode cX4_bestRule 80 = .ok (.iload 10, 2) := by decide +kernel
theorem dX4_bestRule_82 : decode cX4_bestRule 82 = .ok (.iload 4, 2) := by decide +kernel
theorem dX4_bestRule_84 : decode cX4_bestRule 84 = .ok (.if_icmp .le 15, 3) := by decide +kernel
theorem dX4_bestRule_87 : decode cX4_bestRule 87 = .ok (.iload 10, 2) := by decide +kernel
theorem dX4_bestRule_89 : decode cX4_bestRule 89 = .ok (.istore 4, 2) := by decide +kernel
theorem dX4_bestRule_91 : decode cX4_bestRule 91 = .ok (.iload 8, 2) := by decide +kernel
theorem dX4_bestRule_93 : decode cX4_bestRule 93 = .ok (.istore 5, 2) := by decide +kernel
theorem dX4_bestRule_95 : decode cX4_bestRule 95 = .ok (.iload 9, 2) := by decide +kernel
theorem dX4_bestRule_97 : decode cX4_bestRule 97 = .ok (.istore 6, 2) := by decide +kernel
theorem dX4_bestRule_99 : decode cX4_bestRule 99 = .ok (.iinc 9 1, 3) := by decide +kernel
theorem dX4_bestRule_102 : decode cX4_bestRule 102 = .ok (.goto (-62), 3) := by decide +kernel
theorem dX4_bestRule_105 : decode cX4_bestRule 105 = .ok (.iinc 8 1, 3) := by decide +kernel
theorem dX4_bestRule_108 : decode cX4_bestRule 108 = .ok (.goto (-85), 3) := by decide +kernel
theorem dX4_bestRule_111 : decode cX4_bestRule 111 = .ok (.iload_n 3, 1) := by decide +kernel
theorem dX4_bestRule_112 : decode cX4_bestRule 112 = .ok (.ifCond .ne 6, 3) := by decide +kernel
theorem dX4_bestRule_115 : decode cX4_bestRule 115 = .ok (.iload 4, 2) := by decide +kernel
theorem dX4_bestRule_117 : decode cX4_bestRule 117 = .ok (.ireturn, 1) := by decide +kernel
theorem dX4_bestRule_118 : decode cX4_bestRule 118 = .ok (.iload_n 3, 1) := by decide +kernel
theorem dX4_bestRule_119 : decode cX4_bestRule 119 = .ok (.iconst 1, 1) := by decide +kernel
theorem dX4_bestRule_120 : decode cX4_bestRule 120 = .ok (.if_icmp .ne 8, 3) := by decide +kernel
theorem dX4_bestRule_123 : decode cX4_bestRule 123 = .ok (.iload 5, 2) := by decide +kernel
theorem dX4_bestRule_125 : decode cX4_bestRule 125 = .ok (.goto 5, 3) := by decide +kernel
theorem dX4_bestRule_128 : decode cX4_bestRule 128 = .ok (.iload 6, 2) := by decide +kernel
theorem dX4_bestRule_130 : decode cX4_bestRule 130 = .ok (.ireturn, 1) := by decide +kernel
theorem dX4_together_0 : decode cX4_together 0 = .ok (.sipush 400, 3) := by decide +kernel
theorem dX4_together_3 : decode cX4_together 3 = .ok (.iconst 2, 1) := by decide +kernel
theorem dX4_together_4 : decode cX4_together 4 = .ok (.iload_n 2, 1) := by decide +kernel
theorem dX4_together_5 : decode cX4_together 5 = .ok (.imul, 1) := by decide +kernel
theorem dX4_together_6 : decode cX4_together 6 = .ok (.iconst 1, 1) := by decide +kernel
theorem dX4_together_7 : decode cX4_together 7 = .ok (.iadd, 1) := by decide +kernel
theorem dX4_together_8 : decode cX4_together 8 = .ok (.imul, 1) := by decide +kernel
theorem dX4_together_9 : decode cX4_together 9 = .ok (.istore 4, 2) := by decide +kernel
theorem dX4_together_11 : decode cX4_together 11 = .ok (.iload_n 2, 1) := by decide +kernel
theorem dX4_together_12 : decode cX4_together 12 = .ok (.istore 5, 2) := by decide +kernel
theorem dX4_together_14 : decode cX4_together 14 = .ok (.iload 5, 2) := by decide +kernel
theorem dX4_together_16 : decode cX4_together 16 = .ok (.iload_n 2, 1) := by decide +kernel
theorem dX4_together_17 : decode cX4_together 17 = .ok (.ineg, 1) := by decide +kernel
theorem dX4_together_18 : decode cX4_together 18 = .ok (.if_icmp .lt 35, 3) := by decide +kernel
theorem dX4_together_21 : decode cX4_together 21 = .ok (.iload 4, 2) := by decide +kernel
theorem dX4_together_23 : decode cX4_together 23 = .ok (.iload_n 3, 1) := by decide +kernel
theorem dX4_together_24 : decode cX4_together 24 = .ok (.if_icmp .le 29, 3) := by decide +kernel
theorem dX4_together_27 : decode cX4_together 27 = .ok (.iload 4, 2) := by decide +kernel
theorem dX4_together_29 : decode cX4_together 29 = .ok (.sipush 400, 3) := by decide +kernel
theorem dX4_together_32 : decode cX4_together 32 = .ok (.aload_n 0, 1) := by decide +kernel
theorem dX4_together_33 : decode cX4_together 33 = .ok (.aload_n 1, 1) := by decide +kernel
theorem dX4_together_34 : decode cX4_together 34 = .ok (.iload 5, 2) := by decide +kernel
theorem dX4_together_36 : decode cX4_together 36 = .ok (.iconst 0, 1) := by decide +kernel
theorem dX4_together_37 : decode cX4_together 37 = .ok (.sipush 400, 3) := by decide +kernel
theorem dX4_together_40 : decode cX4_together 40 = .ok (.invokevirtual 70, 3) := by decide +kernel
theorem dX4_together_43 : decode cX4_together 43 = .ok (.isub, 1) := by decide +kernel
theorem dX4_together_44 : decode cX4_together 44 = .ok (.isub, 1) := by decide +kernel
theorem dX4_together_45 : decode cX4_together 45 = .ok (.istore 4, 2) := by decide +kernel
theorem dX4_together_47 : decode cX4_together 47 = .ok (.iinc 5 (-1), 3) := by decide +kernel
theorem dX4_together_50 : decode cX4_together 50 = .ok (.goto (-36), 3) := by decide +kernel
theorem dX4_together_53 : decode cX4_together 53 = .ok (.iload 4, 2) := by decide +kernel
theorem dX4_together_55 : decode cX4_together 55 = .ok (.ireturn, 1) := by decide +kernel
theorem dX4_chances_0 : decode cX4_chances 0 = .ok (.iconst 0, 1) := by decide +kernel
theorem dX4_chances_1 : decode cX4_chances 1 = .ok (.istore 6, 2) := by decide +kernel
theorem dX4_chances_3 : decode cX4_chances 3 = .ok (.iconst 3, 1) := by decide +kernel
theorem dX4_chances_4 : decode cX4_chances 4 = .ok (.iload_n 3, 1) := by decide +kernel
theorem dX4_chances_5 : decode cX4_chances 5 = .ok (.invokestatic 95, 3) := by decide +kernel
theorem dX4_chances_8 : decode cX4_chances 8 = .ok (.istore 7, 2) := by decide +kernel
theorem dX4_chances_10 : decode cX4_chances 10 = .ok (.iconst 0, 1) := by decide +kernel
theorem dX4_chances_11 : decode cX4_chances 11 = .ok (.istore 8, 2) := by decide +kernel
theorem dX4_chances_13 : decode cX4_chances 13 = .ok (.iload 8, 2) := by decide +kernel
theorem dX4_chances_15 : decode cX4_chances 15 = .ok (.iload 7, 2) := by decide +kernel
theorem dX4_chances_17 : decode cX4_chances 17 = .ok (.if_icmp .ge 130, 3) := by decide +kernel
theorem dX4_chances_20 : decode cX4_chances 20 = .ok (.aload_n 0, 1) := by decide +kernel
theorem dX4_chances_21 : decode cX4_chances 21 = .ok (.getfield 18, 3) := by decide +kernel
theorem dX4_chances_24 : decode cX4_chances 24 = .ok (.iconst 0, 1) := by decide +kernel
theorem dX4_chances_25 : decode cX4_chances 25 = .ok (.iload_n 2, 1) := by decide +kernel
theorem dX4_chances_26 : decode cX4_chances 26 = .ok (.iconst 0, 1) := by decide +kernel
theorem dX4_chances_27 : decode cX4_chances 27 = .ok (.invokevirtual 42, 3) := by decide +kernel
theorem dX4_chances_30 : decode cX4_chances 30 = .ok (.iconst 1, 1) := by decide +kernel
theorem dX4_chances_31 : decode cX4_chances 31 = .ok (.istore 9, 2) := by decide +kernel
theorem dX4_chances_33 : decode cX4_chances 33 = .ok (.iload 8, 2) := by decide +kernel
theorem dX4_chances_35 : decode cX4_chances 35 = .ok (.istore 10, 2) := by decide +kernel
theorem dX4_chances_37 : decode cX4_chances 37 = .ok (.iconst 0, 1) := by decide +kernel
theorem dX4_chances_38 : decode cX4_chances 38 = .ok (.istore 11, 2) := by decide +kernel
theorem dX4_chances_40 : decode cX4_chances 40 = .ok (.iload 11, 2) := by decide +kernel
theorem dX4_chances_42 : decode cX4_chances 42 = .ok (.iload_n 3, 1) := by decide +kernel
theorem dX4_chances_43 : decode cX4_chances 43 = .ok (.if_icmp .ge 77, 3) := by decide +kernel
theorem dX4_chances_46 : decode cX4_chances 46 = .ok (.aload_n 0, 1) := by decide +kernel
theorem dX4_chances_47 : decode cX4_chances 47 = .ok (.getfield 18, 3) := by decide +kernel
theorem dX4_chances_50 : decode cX4_chances 50 = .ok (.aload_n 0, 1) := by decide +kernel
theorem dX4_chances_51 : decode cX4_chances 51 = .ok (.getfield 9, 3) := by decide +kernel
theorem dX4_chances_54 : decode cX4_chances 54 = .ok (.invokevirtual 46, 3) := by decide +kernel
theorem dX4_chances_57 : decode cX4_chances 57 = .ok (.ifCond .ne 63, 3) := by decide +kernel
theorem dX4_chances_60 : decode cX4_chances 60 = .ok (.iload 10, 2) := by decide +kernel
theorem dX4_chances_62 : decode cX4_chances 62 = .ok (.iconst 3, 1) := by decide +kernel
theorem dX4_chances_63 : decode cX4_chances 63 = .ok (.irem, 1) := by decide +kernel
theorem dX4_chances_64 : decode cX4_chances 64 = .ok (.iconst 1, 1) := by decide +kernel
theorem dX4_chances_65 : decode cX4_chances 65 = .ok (.isub, 1) := by decide +kernel
theorem dX4_chances_66 : decode cX4_chances 66 = .ok (.istore 12, 2) := by decide +kernel
theorem dX4_chances_68 : decode cX4_chances 68 = .ok (.iload 9, 2) := by decide +kernel
theorem dX4_chances_70 : decode cX4_chances 70 = .ok (.iload 12, 2) := by decide +kernel
theorem dX4_chances_72 : decode cX4_chances 72 = .ok (.ifCond .ne 13, 3) := by decide +kernel
theorem dX4_chances_75 : decode cX4_chances 75 = .ok (.bipush 10, 2) := by decide +kernel
theorem dX4_chances_77 : decode cX4_chances 77 = .ok (.iconst 2, 1) := by decide +kernel
theorem dX4_chances_78 : decode cX4_chances 78 = .ok (.iload 5, 2) := by decide +kernel
theorem dX4_chances_80 : decode cX4_chances 80 = .ok (.imul, 1) := by decide +kernel
theorem dX4_chances_81 : decode cX4_chances 81 = .ok (.isub, 1) := by decide +kernel
theorem dX4_chances_82 : decode cX4_chances 82 = .ok (.goto 5, 3) := by decide +kernel
theorem dX4_chances_85 : decode cX4_chances 85 = .ok (.iload 5, 2) := by decide +kernel
theorem dX4_chances_87 : decode cX4_chances 87 = .ok (.imul, 1) := by decide +kernel
theorem dX4_chances_88 : decode cX4_chances 88 = .ok (.istore 9, 2) := by decide +kernel
theorem dX4_chances_90 : decode cX4_chances 90 = .ok (.iload 10, 2) := by decide +kernel
theorem dX4_chances_92 : decode cX4_chances 92 = .ok (.iconst 3, 1) := by decide +kernel
theorem dX4_chances_93 : decode cX4_chances 93 = .ok (.idiv, 1) := by decide +kernel
theorem dX4_chances_94 : decode cX4_chances 94 = .ok (.istore 10, 2) := by decide +kernel
theorem dX4_chances_96 : decode cX4_chances 96 = .ok (.aload_n 0, 1) := by decide +kernel
theorem dX4_chances_97 : decode cX4_chances 97 = .ok (.getfield 18, 3) := by decide +kernel
theorem dX4_chances_100 : decode cX4_chances 100 = .ok (.aload_n 1, 1) := by decide +kernel
theorem dX4_chances_101 : decode cX4_chances 101 = .ok (.aload_n 0, 1) := by decide +kernel
theorem dX4_chances_102 : decode cX4_chances 102 = .ok (.getfield 9, 3) := by decide +kernel
theorem dX4_chances_105 : decode cX4_chances 105 = .ok (.iconst 1, 1) := by decide +kernel
theorem dX4_chances_106 : decode cX4_chances 106 = .ok (.iload 4, 2) := by decide +kernel
theorem dX4_chances_108 : decode cX4_chances 108 = .ok (.iload 12, 2) := by decide +kernel
theorem dX4_chances_110 : decode cX4_chances 110 = .ok (.imul, 1) := by decide +kernel
theorem dX4_chances_111 : decode cX4_chances 111 = .ok (.invokevirtual 58, 3) := by decide +kernel
theorem dX4_chances_114 : decode cX4_chances 114 = .ok (.iinc 11 1, 3) := by decide +kernel
theorem dX4_chances_117 : decode cX4_chances 117 = .ok (.goto (-77), 3) := by decide +kernel
theorem dX4_chances_120 : decode cX4_chances 120 = .ok (.aload_n 0, 1) := by decide +kernel
theorem dX4_chances_121 : decode cX4_chances 121 = .ok (.getfield 18, 3) := by decide +kernel
theorem dX4_chances_124 : decode cX4_chances 124 = .ok (.aload_n 0, 1) := by decide +kernel
theorem dX4_chances_125 : decode cX4_chances 125 = .ok (.getfield 9, 3) := by decide +kernel
theorem dX4_chances_128 : decode cX4_chances 128 = .ok (.invokevirtual 46, 3) := by decide +kernel
theorem dX4_chances_131 : decode cX4_chances 131 = .ok (.ifCond .ne 10, 3) := by decide +kernel
theorem dX4_chances_134 : decode cX4_chances 134 = .ok (.iload 6, 2) := by decide +kernel
theorem dX4_chances_136 : decode cX4_chances 136 = .ok (.iload 9, 2) := by decide +kernel
theorem dX4_chances_138 : decode cX4_chances 138 = .ok (.iadd, 1) := by decide +kernel
theorem dX4_chances_139 : decode cX4_chances 139 = .ok (.istore 6, 2) := by decide +kernel
theorem dX4_chances_141 : decode cX4_chances 141 = .ok (.iinc 8 1, 3) := by decide +kernel
theorem dX4_chances_144 : decode cX4_chances 144 = .ok (.goto (-131), 3) := by decide +kernel
theorem dX4_chances_147 : decode cX4_chances 147 = .ok (.iload 6, 2) := by decide +kernel
theorem dX4_chances_149 : decode cX4_chances 149 = .ok (.ireturn, 1) := by decide +kernel
theorem dX4_leastShake_0 : decode cX4_leastShake 0 = .ok (.iconst 0, 1) := by decide +kernel
theorem dX4_leastShake_1 : decode cX4_leastShake 1 = .ok (.istore_n 3, 1) := by decide +kernel
theorem dX4_leastShake_2 : decode cX4_leastShake 2 = .ok (.iload_n 3, 1) := by decide +kernel
theorem dX4_leastShake_3 : decode cX4_leastShake 3 = .ok (.getstatic 98, 3) := by decide +kernel
theorem dX4_leastShake_6 : decode cX4_leastShake 6 = .ok (.bipush 9, 2) := by decide +kernel
theorem dX4_leastShake_8 : decode cX4_leastShake 8 = .ok (.iaload, 1) := by decide +kernel
theorem dX4_leastShake_9 : decode cX4_leastShake 9 = .ok (.if_icmp .gt 28, 3) := by decide +kernel
theorem dX4_leastShake_12 : decode cX4_leastShake 12 = .ok (.aload_n 0, 1) := by decide +kernel
theorem dX4_leastShake_13 : decode cX4_leastShake 13 = .ok (.getfield 9, 3) := by decide +kernel
theorem dX4_leastShake_16 : decode cX4_leastShake 16 = .ok (.bipush 9, 2) := by decide +kernel
theorem dX4_leastShake_18 : decode cX4_leastShake 18 = .ok (.iload_n 3, 1) := by decide +kernel
theorem dX4_leastShake_19 : decode cX4_leastShake 19 = .ok (.iastore, 1) := by decide +kernel
theorem dX4_leastShake_20 : decode cX4_leastShake 20 = .ok (.aload_n 0, 1) := by decide +kernel
theorem dX4_leastShake_21 : decode cX4_leastShake 21 = .ok (.aload_n 1, 1) := by decide +kernel
theorem dX4_leastShake_22 : decode cX4_leastShake 22 = .ok (.iload_n 2, 1) := by decide +kernel
theorem dX4_leastShake_23 : decode cX4_leastShake 23 = .ok (.invokevirtual 101, 3) := by decide +kernel
theorem dX4_leastShake_26 : decode cX4_leastShake 26 = .ok (.ifCond .eq 5, 3) := by decide +kernel
theorem dX4_leastShake_29 : decode cX4_leastShake 29 = .ok (.iload_n 3, 1) := by decide +kernel
theorem dX4_leastShake_30 : decode cX4_leastShake 30 = .ok (.ireturn, 1) := by decide +kernel
theorem dX4_leastShake_31 : decode cX4_leastShake 31 = .ok (.iinc 3 1, 3) := by decide +kernel
theorem dX4_leastShake_34 : decode cX4_leastShake 34 = .ok (.goto (-32), 3) := by decide +kernel
theorem dX4_leastShake_37 : decode cX4_leastShake 37 = .ok (.iconst (-1), 1) := by decide +kernel
theorem dX4_leastShake_38 : decode cX4_leastShake 38 = .ok (.ireturn, 1) := by decide +kernel
theorem dX4_standsAlone_0 : decode cX4_standsAlone 0 = .ok (.aload_n 0, 1) := by decide +kernel
theorem dX4_standsAlone_1 : decode cX4_standsAlone 1 = .ok (.getfield 18, 3) := by decide +kernel
theorem dX4_standsAlone_4 : decode cX4_standsAlone 4 = .ok (.iconst 0, 1) := by decide +kernel
theorem dX4_standsAlone_5 : decode cX4_standsAlone 5 = .ok (.iload_n 2, 1) := by decide +kernel
theorem dX4_standsAlone_6 : decode cX4_standsAlone 6 = .ok (.iconst 0, 1) := by decide +kernel
theorem dX4_standsAlone_7 : decode cX4_standsAlone 7 = .ok (.invokevirtual 42, 3) := by decide +kernel
theorem dX4_standsAlone_10 : decode cX4_standsAlone 10 = .ok (.iconst 0, 1) := by decide +kernel
theorem dX4_standsAlone_11 : decode cX4_standsAlone 11 = .ok (.istore_n 3, 1) := by decide +kernel
theorem dX4_standsAlone_12 : decode cX4_standsAlone 12 = .ok (.iload_n 3, 1) := by decide +kernel
theorem dX4_standsAlone_13 : decode cX4_standsAlone 13 = .ok (.sipush 400, 3) := by decide +kernel
theorem dX4_standsAlone_16 : decode cX4_standsAlone 16 = .ok (.if_icmp .ge 37, 3) := by decide +kernel
theorem dX4_standsAlone_19 : decode cX4_standsAlone 19 = .ok (.aload_n 0, 1) := by decide +kernel
theorem dX4_standsAlone_20 : decode cX4_standsAlone 20 = .ok (.getfield 18, 3) := by decide +kernel
theorem dX4_standsAlone_23 : decode cX4_standsAlone 23 = .ok (.aload_n 0, 1) := by decide +kernel
theorem dX4_standsAlone_24 : decode cX4_standsAlone 24 = .ok (.getfield 9, 3) := by decide +kernel
theorem dX4_standsAlone_27 : decode cX4_standsAlone 27 = .ok (.invokevirtual 46, 3) := by decide +kernel
theorem dX4_standsAlone_30 : decode cX4_standsAlone 30 = .ok (.ifCond .ne 23, 3) := by decide +kernel
theorem dX4_standsAlone_33 : decode cX4_standsAlone 33 = .ok (.aload_n 0, 1) := by decide +kernel
theorem dX4_standsAlone_34 : decode cX4_standsAlone 34 = .ok (.getfield 18, 3) := by decide +kernel
theorem dX4_standsAlone_37 : decode cX4_standsAlone 37 = .ok (.aload_n 1, 1) := by decide +kernel
theorem dX4_standsAlone_38 : decode cX4_standsAlone 38 = .ok (.aload_n 0, 1) := by decide +kernel
theorem dX4_standsAlone_39 : decode cX4_standsAlone 39 = .ok (.getfield 9, 3) := by decide +kernel
theorem dX4_standsAlone_42 : decode cX4_standsAlone 42 = .ok (.iconst 0, 1) := by decide +kernel
theorem dX4_standsAlone_43 : decode cX4_standsAlone 43 = .ok (.iconst 0, 1) := by decide +kernel
theorem dX4_standsAlone_44 : decode cX4_standsAlone 44 = .ok (.invokevirtual 58, 3) := by decide +kernel
theorem dX4_standsAlone_47 : decode cX4_standsAlone 47 = .ok (.iinc 3 1, 3) := by decide +kernel
theorem dX4_standsAlone_50 : decode cX4_standsAlone 50 = .ok (.goto (-38), 3) := by decide +kernel
theorem dX4_standsAlone_53 : decode cX4_standsAlone 53 = .ok (.aload_n 0, 1) := by decide +kernel
theorem dX4_standsAlone_54 : decode cX4_standsAlone 54 = .ok (.getfield 18, 3) := by decide +kernel
theorem dX4_standsAlone_57 : decode cX4_standsAlone 57 = .ok (.getfield 62, 3) := by decide +kernel
theorem dX4_standsAlone_60 : decode cX4_standsAlone 60 = .ok (.sipush 400, 3) := by decide +kernel
theorem dX4_standsAlone_63 : decode cX4_standsAlone 63 = .ok (.if_icmp .ne 7, 3) := by decide +kernel
theorem dX4_standsAlone_66 : decode cX4_standsAlone 66 = .ok (.iconst 1, 1) := by decide +kernel
theorem dX4_standsAlone_67 : decode cX4_standsAlone 67 = .ok (.goto 4, 3) := by decide +kernel
theorem dX4_standsAlone_70 : decode cX4_standsAlone 70 = .ok (.iconst 0, 1) := by decide +kernel
theorem dX4_standsAlone_71 : decode cX4_standsAlone 71 = .ok (.ireturn, 1) := by decide +kernel
theorem dX4_bothLast_0 : decode cX4_bothLast 0 = .ok (.iconst 1, 1) := by decide +kernel
theorem dX4_bothLast_1 : decode cX4_bothLast 1 = .ok (.iload_n 3, 1) := by decide +kernel
theorem dX4_bothLast_2 : decode cX4_bothLast 2 = .ok (.iload 4, 2) := by decide +kernel
theorem dX4_bothLast_4 : decode cX4_bothLast 4 = .ok (.iadd, 1) := by decide +kernel
theorem dX4_bothLast_5 : decode cX4_bothLast 5 = .ok (.invokestatic 104, 3) := by decide +kernel
theorem dX4_bothLast_8 : decode cX4_bothLast 8 = .ok (.istore 5, 2) := by decide +kernel
theorem dX4_bothLast_10 : decode cX4_bothLast 10 = .ok (.iconst 0, 1) := by decide +kernel
theorem dX4_bothLast_11 : decode cX4_bothLast 11 = .ok (.istore 6, 2) := by decide +kernel
theorem dX4_bothLast_13 : decode cX4_bothLast 13 = .ok (.iload 6, 2) := by decide +kernel
theorem dX4_bothLast_15 : decode cX4_bothLast 15 = .ok (.sipush 400, 3) := by decide +kernel
theorem dX4_bothLast_18 : decode cX4_bothLast 18 = .ok (.if_icmp .ge 91, 3) := by decide +kernel
theorem dX4_bothLast_21 : decode cX4_bothLast 21 = .ok (.aload_n 0, 1) := by decide +kernel
theorem dX4_bothLast_22 : decode cX4_bothLast 22 = .ok (.getfield 18, 3) := by decide +kernel
theorem dX4_bothLast_25 : decode cX4_bothLast 25 = .ok (.aload_n 0, 1) := by decide +kernel
theorem dX4_bothLast_26 : decode cX4_bothLast 26 = .ok (.getfield 9, 3) := by decide +kernel
theorem dX4_bothLast_29 : decode cX4_bothLast 29 = .ok (.invokevirtual 46, 3) := by decide +kernel
theorem dX4_bothLast_32 : decode cX4_bothLast 32 = .ok (.ifCond .ne 77, 3) := by decide +kernel
theorem dX4_bothLast_35 : decode cX4_bothLast 35 = .ok (.aload_n 0, 1) := by decide +kernel
theorem dX4_bothLast_36 : decode cX4_bothLast 36 = .ok (.getfield 22, 3) := by decide +kernel
theorem dX4_bothLast_39 : decode cX4_bothLast 39 = .ok (.aload_n 0, 1) := by decide +kernel
theorem dX4_bothLast_40 : decode cX4_bothLast 40 = .ok (.getfield 9, 3) := by decide +kernel
theorem dX4_bothLast_43 : decode cX4_bothLast 43 = .ok (.invokevirtual 46, 3) := by decide +kernel
theorem dX4_bothLast_46 : decode cX4_bothLast 46 = .ok (.ifCond .ne 63, 3) := by decide +kernel
theorem dX4_bothLast_49 : decode cX4_bothLast 49 = .ok (.iload 6, 2) := by decide +kernel
theorem dX4_bothLast_51 : decode cX4_bothLast 51 = .ok (.iload 5, 2) := by decide +kernel
theorem dX4_bothLast_53 : decode cX4_bothLast 53 = .ok (.irem, 1) := by decide +kernel
theorem dX4_bothLast_54 : decode cX4_bothLast 54 = .ok (.iload_n 3, 1) := by decide +kernel
theorem dX4_bothLast_55 : decode cX4_bothLast 55 = .ok (.if_icmp .ge 7, 3) := by decide +kernel
theorem dX4_bothLast_58 : decode cX4_bothLast 58 = .ok (.iconst 1, 1) := by decide +kernel
theorem dX4_bothLast_59 : decode cX4_bothLast 59 = .ok (.goto 4, 3) := by decide +kernel
theorem dX4_bothLast_62 : decode cX4_bothLast 62 = .ok (.iconst 0, 1) := by decide +kernel
theorem dX4_bothLast_63 : decode cX4_bothLast 63 = .ok (.istore 7, 2) := by decide +kernel
theorem dX4_bothLast_65 : decode cX4_bothLast 65 = .ok (.aload_n 0, 1) := by decide +kernel
theorem dX4_bothLast_66 : decode cX4_bothLast 66 = .ok (.getfield 18, 3) := by decide +kernel
theorem dX4_bothLast_69 : decode cX4_bothLast 69 = .ok (.aload_n 1, 1) := by decide +kernel
theorem dX4_bothLast_70 : decode cX4_bothLast 70 = .ok (.aload_n 0, 1) := by decide +kernel
theorem dX4_bothLast_71 : decode cX4_bothLast 71 = .ok (.getfield 9, 3) := by decide +kernel
theorem dX4_bothLast_74 : decode cX4_bothLast 74 = .ok (.iload 7, 2) := by decide +kernel
theorem dX4_bothLast_76 : decode cX4_bothLast 76 = .ok (.iconst 0, 1) := by decide +kernel
theorem dX4_bothLast_77 : decode cX4_bothLast 77 = .ok (.invokevirtual 58, 3) := by decide +kernel
theorem dX4_bothLast_80 : decode cX4_bothLast 80 = .ok (.aload_n 0, 1) := by decide +kernel
theorem dX4_bothLast_81 : decode cX4_bothLast 81 = .ok (.getfield 22, 3) := by decide +kernel
theorem dX4_bothLast_84 : decode cX4_bothLast 84 = .ok (.aload_n 2, 1) := by decide +kernel
theorem dX4_bothLast_85 : decode cX4_bothLast 85 = .ok (.aload_n 0, 1) := by decide +kernel
theorem dX4_bothLast_86 : decode cX4_bothLast 86 = .ok (.getfield 9, 3) := by decide +kernel
theorem dX4_bothLast_89 : decode cX4_bothLast 89 = .ok (.iload 7, 2) := by decide +kernel
theorem dX4_bothLast_91 : decode cX4_bothLast 91 = .ok (.ifCond .ne 7, 3) := by decide +kernel
theorem dX4_bothLast_94 : decode cX4_bothLast 94 = .ok (.iconst 1, 1) := by decide +kernel
theorem dX4_bothLast_95 : decode cX4_bothLast 95 = .ok (.goto 4, 3) := by decide +kernel
theorem dX4_bothLast_98 : decode cX4_bothLast 98 = .ok (.iconst 0, 1) := by decide +kernel
theorem dX4_bothLast_99 : decode cX4_bothLast 99 = .ok (.iconst 0, 1) := by decide +kernel
theorem dX4_bothLast_100 : decode cX4_bothLast 100 = .ok (.invokevirtual 58, 3) := by decide +kernel
theorem dX4_bothLast_103 : decode cX4_bothLast 103 = .ok (.iinc 6 1, 3) := by decide +kernel
theorem dX4_bothLast_106 : decode cX4_bothLast 106 = .ok (.goto (-93), 3) := by decide +kernel
theorem dX4_bothLast_109 : decode cX4_bothLast 109 = .ok (.aload_n 0, 1) := by decide +kernel
theorem dX4_bothLast_110 : decode cX4_bothLast 110 = .ok (.getfield 18, 3) := by decide +kernel
theorem dX4_bothLast_113 : decode cX4_bothLast 113 = .ok (.getfield 62, 3) := by decide +kernel
theorem dX4_bothLast_116 : decode cX4_bothLast 116 = .ok (.ireturn, 1) := by decide +kernel
theorem dX5_init_0 : decode cX5_init 0 = .ok (.aload_n 0, 1) := by decide +kernel
theorem dX5_init_1 : decode cX5_init 1 = .ok (.invokespecial 3, 3) := by decide +kernel
theorem dX5_init_4 : decode cX5_init 4 = .ok (.aload_n 0, 1) := by decide +kernel
theorem dX5_init_5 : decode cX5_init 5 = .ok (.sipush 200, 3) := by decide +kernel
theorem dX5_init_8 : decode cX5_init 8 = .ok (.newarray .int, 2) := by decide +kernel
theorem dX5_init_10 : decode cX5_init 10 = .ok (.putfield 9, 3) := by decide +kernel
theorem dX5_init_13 : decode cX5_init 13 = .ok (.aload_n 0, 1) := by decide +kernel
theorem dX5_init_14 : decode cX5_init 14 = .ok (.iconst 0, 1) := by decide +kernel
theorem dX5_init_15 : decode cX5_init 15 = .ok (.putfield 15, 3) := by decide +kernel
theorem dX5_init_18 : decode cX5_init 18 = .ok (.aload_n 0, 1) := by decide +kernel
theorem dX5_init_19 : decode cX5_init 19 = .ok (.iconst 0, 1) := by decide +kernel
theorem dX5_init_20 : decode cX5_init 20 = .ok (.putfield 19, 3) := by decide +kernel
theorem dX5_init_23 : decode cX5_init 23 = .ok (.aload_n 0, 1) := by decide +kernel
theorem dX5_init_24 : decode cX5_init 24 = .ok (.bipush 8, 2) := by decide +kernel
theorem dX5_init_26 : decode cX5_init 26 = .ok (.newarray .int, 2) := by decide +kernel
theorem dX5_init_28 : decode cX5_init 28 = .ok (.putfield 22, 3) := by decide +kernel
theorem dX5_init_31 : decode cX5_init 31 = .ok (.aload_n 0, 1) := by decide +kernel
theorem dX5_init_32 : decode cX5_init 32 = .ok (.bipush 40, 2) := by decide +kernel
theorem dX5_init_34 : decode cX5_init 34 = .ok (.newarray .int, 2) := by decide +kernel
theorem dX5_init_36 : decode cX5_init 36 = .ok (.putfield 25, 3) := by decide +kernel
theorem dX5_init_39 : decode cX5_init 39 = .ok (.aload_n 0, 1) := by decide +kernel
theorem dX5_init_40 : decode cX5_init 40 = .ok (.iconst 0, 1) := by decide +kernel
theorem dX5_init_41 : decode cX5_init 41 = .ok (.putfield 28, 3) := by decide +kernel
theorem dX5_init_44 : decode cX5_init 44 = .ok (.aload_n 0, 1) := by decide +kernel
theorem dX5_init_45 : decode cX5_init 45 = .ok (.bipush 8, 2) := by decide +kernel
theorem dX5_init_47 : decode cX5_init 47 = .ok (.newarray .int, 2) := by decide +kernel
theorem dX5_init_49 : decode cX5_init 49 = .ok (.putfield 31, 3) := by decide +kernel
theorem dX5_init_52 : decode cX5_init 52 = .ok (.aload_n 0, 1) := by decide +kernel
theorem dX5_init_53 : decode cX5_init 53 = .ok (.iconst 4, 1) := by decide +kernel
theorem dX5_init_54 : decode cX5_init 54 = .ok (.newarray .int, 2) := by decide +kernel
theorem dX5_init_56 : decode cX5_init 56 = .ok (.putfield 34, 3) := by decide +kernel
theorem dX5_init_59 : decode cX5_init 59 = .ok (.aload_n 0, 1) := by decide +kernel
theorem dX5_init_60 : decode cX5_init 60 = .ok (.iconst 0, 1) := by decide +kernel
theorem dX5_init_61 : decode cX5_init 61 = .ok (.putfield 37, 3) := by decide +kernel
theorem dX5_init_64 : decode cX5_init 64 = .ok (.aload_n 0, 1) := by decide +kernel
theorem dX5_init_65 : decode cX5_init 65 = .ok (.iconst 0, 1) := by decide +kernel
theorem dX5_init_66 : decode cX5_init 66 = .ok (.putfield 40, 3) := by decide +kernel
theorem dX5_init_69 : decode cX5_init 69 = .ok (.aload_n 0, 1) := by decide +kernel
theorem dX5_init_70 : decode cX5_init 70 = .ok (.iconst 0, 1) := by decide +kernel
theorem dX5_init_71 : decode cX5_init 71 = .ok (.putfield 43, 3) := by decide +kernel
theorem dX5_init_74 : decode cX5_init 74 = .ok (.return_, 1) := by decide +kernel
theorem dX5_append_0 : decode cX5_append 0 = .ok (.aload_n 0, 1) := by decide +kernel
theorem dX5_append_1 : decode cX5_append 1 = .ok (.getfield 15, 3) := by decide +kernel
theorem dX5_append_4 : decode cX5_append 4 = .ok (.sipush 200, 3) := by decide +kernel
theorem dX5_append_7 : decode cX5_append 7 = .ok (.if_icmp .ge 23, 3) := by decide +kernel
theorem dX5_append_10 : decode cX5_append 10 = .ok (.aload_n 0, 1) := by decide +kernel
theorem dX5_append_11 : decode cX5_append 11 = .ok (.getfield 9, 3) := by decide +kernel
theorem dX5_append_14 : decode cX5_append 14 = .ok (.aload_n 0, 1) := by decide +kernel
theorem dX5_append_15 : decode cX5_append 15 = .ok (.getfield 15, 3) := by decide +kernel
theorem dX5_append_18 : decode cX5_append 18 = .ok (.iload_n 1, 1) := by decide +kernel
theorem dX5_append_19 : decode cX5_append 19 = .ok (.iastore, 1) := by decide +kernel
theorem dX5_append_20 : decode cX5_append 20 = .ok (.aload_n 0, 1) := by decide +kernel
theorem dX5_append_21 : decode cX5_append 21 = .ok (.dup, 1) := by decide +kernel
theorem dX5_append_22 : decode cX5_append 22 = .ok (.getfield 15, 3) := by decide +kernel
theorem dX5_append_25 : decode cX5_append 25 = .ok (.iconst 1, 1) := by decide +kernel
theorem dX5_append_26 : decode cX5_append 26 = .ok (.iadd, 1) := by decide +kernel
theorem dX5_append_27 : decode cX5_append 27 = .ok (.putfield 15, 3) := by decide +kernel
theorem dX5_append_30 : decode cX5_append 30 = .ok (.return_, 1) := by decide +kernel
theorem dX5_firstFault_0 : decode cX5_firstFault 0 = .ok (.iconst 0, 1) := by decide +kernel
theorem dX5_firstFault_1 : decode cX5_firstFault 1 = .ok (.istore_n 2, 1) := by decide +kernel
theorem dX5_firstFault_2 : decode cX5_firstFault 2 = .ok (.iload_n 2, 1) := by decide +kernel
theorem dX5_firstFault_3 : decode cX5_firstFault 3 = .ok (.iconst 4, 1) := by decide +kernel
theorem dX5_firstFault_4 : decode cX5_firstFault 4 = .ok (.if_icmp .ge 24, 3) := by decide +kernel
theorem dX5_firstFault_7 : decode cX5_firstFault 7 = .ok (.aload_n 0, 1) := by decide +kernel
theorem dX5_firstFault_8 : decode cX5_firstFault 8 = .ok (.getfield 34, 3) := by decide +kernel
theorem dX5_firstFault_11 : decode cX5_firstFault 11 = .ok (.iload_n 2, 1) := by decide +kernel
theorem dX5_firstFault_12 : decode cX5_firstFault 12 = .ok (.aload_n 1, 1) := by decide +kernel
theorem dX5_firstFault_13 : decode cX5_firstFault 13 = .ok (.getfield 46, 3) := by decide +kernel
theorem dX5_firstFault_16 : decode cX5_firstFault 16 = .ok (.iload_n 2, 1) := by decide +kernel
theorem dX5_firstFault_17 : decode cX5_firstFault 17 = .ok (.aaload, 1) := by decide +kernel
theorem dX5_firstFault_18 : decode cX5_firstFault 18 = .ok (.getfield 52, 3) := by decide +kernel
theorem dX5_firstFault_21 : decode cX5_firstFault 21 = .ok (.iastore, 1) := by decide +kernel
theorem dX5_firstFault_22 : decode cX5_firstFault 22 = .ok (.iinc 2 1, 3) := by decide +kernel
theorem dX5_firstFault_25 : decode cX5_firstFault 25 = .ok (.goto (-23), 3) := by decide +kernel
theorem dX5_firstFault_28 : decode cX5_firstFault 28 = .ok (.aload_n 0, 1) := by decide +kernel
theorem dX5_firstFault_29 : decode cX5_firstFault 29 = .ok (.iconst 0, 1) := by decide +kernel
theorem dX5_firstFault_30 : decode cX5_firstFault 30 = .ok (.putfield 43, 3) := by decide +kernel
theorem dX5_firstFault_33 : decode cX5_firstFault 33 = .ok (.iconst 0, 1) := by decide +kernel
theorem dX5_firstFault_34 : decode cX5_firstFault 34 = .ok (.istore_n 2, 1) := by decide +kernel
theorem dX5_firstFault_35 : decode cX5_firstFault 35 = .ok (.iload_n 2, 1) := by decide +kernel
theorem dX5_firstFault_36 : decode cX5_firstFault 36 = .ok (.bipush 8, 2) := by decide +kernel
theorem dX5_firstFault_38 : decode cX5_firstFault 38 = .ok (.if_icmp .ge 80, 3) := by decide +kernel
theorem dX5_firstFault_41 : decode cX5_firstFault 41 = .ok (.aload_n 0, 1) := by decide +kernel
theorem dX5_firstFault_42 : decode cX5_firstFault 42 = .ok (.iload_n 2, 1) := by decide +kernel
theorem dX5_firstFault_43 : decode cX5_firstFault 43 = .ok (.putfield 19, 3) := by decide +kernel
theorem dX5_firstFault_46 : decode cX5_firstFault 46 = .ok (.aload_n 0, 1) := by decide +kernel
theorem dX5_firstFault_47 : decode cX5_firstFault 47 = .ok (.iload_n 2, 1) := by decide +kernel
theorem dX5_firstFault_48 : decode cX5_firstFault 48 = .ok (.iconst 5, 1) := by decide +kernel
theorem dX5_firstFault_49 : decode cX5_firstFault 49 = .ok (.imul, 1) := by decide +kernel
theorem dX5_firstFault_50 : decode cX5_firstFault 50 = .ok (.putfield 28, 3) := by decide +kernel
theorem dX5_firstFault_53 : decode cX5_firstFault 53 = .ok (.aload_n 0, 1) := by decide +kernel
theorem dX5_firstFault_54 : decode cX5_firstFault 54 = .ok (.invokevirtual 56, 3) := by decide +kernel
theorem dX5_firstFault_57 : decode cX5_firstFault 57 = .ok (.aload_n 0, 1) := by decide +kernel
theorem dX5_firstFault_58 : decode cX5_firstFault 58 = .ok (.invokevirtual 59, 3) := by decide +kernel
theorem dX5_firstFault_61 : decode cX5_firstFault 61 = .ok (.ifCond .ne 8, 3) := by decide +kernel
theorem dX5_firstFault_64 : decode cX5_firstFault 64 = .ok (.aload_n 0, 1) := by decide +kernel
theorem dX5_firstFault_65 : decode cX5_firstFault 65 = .ok (.getfield 40, 3) := by decide +kernel
theorem dX5_firstFault_68 : decode cX5_firstFault 68 = .ok (.ireturn, 1) := by decide +kernel
theorem dX5_firstFault_69 : decode cX5_firstFault 69 = .ok (.aload_n 0, 1) := by decide +kernel
theorem dX5_firstFault_70 : decode cX5_firstFault 70 = .ok (.getfield 37, 3) := by decide +kernel
theorem dX5_firstFault_73 : decode cX5_firstFault 73 = .ok (.ifCond .ne 12, 3) := by decide +kernel
theorem dX5_firstFault_76 : decode cX5_firstFault 76 = .ok (.aload_n 0, 1) := by decide +kernel
theorem dX5_firstFault_77 : decode cX5_firstFault 77 = .ok (.iload_n 2, 1) := by decide +kernel
theorem dX5_firstFault_78 : decode cX5_firstFault 78 = .ok (.iconst 1, 1) := by decide +kernel
theorem dX5_firstFault_79 : decode cX5_firstFault 79 = .ok (.iadd, 1) := by decide +kernel
theorem dX5_firstFault_80 : decode cX5_firstFault 80 = .ok (.putfield 19, 3) := by decide +kernel
theorem dX5_firstFault_83 : decode cX5_firstFault 83 = .ok (.iconst (-1), 1) := by decide +kernel
theorem dX5_firstFault_84 : decode cX5_firstFault 84 = .ok (.ireturn, 1) := by decide +kernel
theorem dX5_firstFault_85 : decode cX5_firstFault 85 = .ok (.aload_n 0, 1) := by decide +kernel
theorem dX5_firstFault_86 : decode cX5_firstFault 86 = .ok (.getfield 37, 3) := by decide +kernel
theorem dX5_firstFault_89 : decode cX5_firstFault 89 = .ok (.iconst 3, 1) := by decide +kernel
theorem dX5_firstFault_90 : decode cX5_firstFault 90 = .ok (.if_icmp .ne 17, 3) := by decide +kernel
theorem dX5_firstFault_93 : decode cX5_firstFault 93 = .ok (.aload_n 0, 1) := by decide +kernel
theorem dX5_firstFault_94 : decode cX5_firstFault 94 = .ok (.getfield 9, 3) := by decide +kernel
theorem dX5_firstFault_97 : decode cX5_firstFault 97 = .ok (.aload_n 0, 1) := by decide +kernel
theorem dX5_firstFault_98 : decode cX5_firstFault 98 = .ok (.getfield 40, 3) := by decide +kernel
theorem dX5_firstFault_101 : decode cX5_firstFault 101 = .ok (.iaload, 1) := by decide +kernel
theorem dX5_firstFault_102 : decode cX5_firstFault 102 = .ok (.bipush 59, 2) := by decide +kernel
theorem dX5_firstFault_104 : decode cX5_firstFault 104 = .ok (.if_icmp .eq 8, 3) := by decide +kernel
theorem dX5_firstFault_107 : decode cX5_firstFault 107 = .ok (.aload_n 0, 1) := by decide +kernel
theorem dX5_firstFault_108 : decode cX5_firstFault 108 = .ok (.getfield 40, 3) := by decide +kernel
theorem dX5_firstFault_111 : decode cX5_firstFault 111 = .ok (.ireturn, 1) := by decide +kernel
theorem dX5_firstFault_112 : decode cX5_firstFault 112 = .ok (.iinc 2 1, 3) := by decide +kernel
theorem dX5_firstFault_115 : decode cX5_firstFault 115 = .ok (.goto (-80), 3) := by decide +kernel
theorem dX5_firstFault_118 : decode cX5_firstFault 118 = .ok (.aload_n 0, 1) := by decide +kernel
theorem dX5_firstFault_119 : decode cX5_firstFault 119 = .ok (.getfield 40, 3) := by decide +kernel
theorem dX5_firstFault_122 : decode cX5_firstFault 122 = .ok (.ireturn, 1) := by decide +kernel
theorem dX5_readToken_0 : decode cX5_readToken 0 = .ok (.aload_n 0, 1) := by decide +kernel
theorem dX5_readToken_1 : decode cX5_readToken 1 = .ok (.aload_n 0, 1) := by decide +kernel
theorem dX5_readToken_2 : decode cX5_readToken 2 = .ok (.getfield 43, 3) := by decide +kernel
theorem dX5_readToken_5 : decode cX5_readToken 5 = .ok (.putfield 40, 3) := by decide +kernel
theorem dX5_readToken_8 : decode cX5_readToken 8 = .ok (.aload_n 0, 1) := by decide +kernel
theorem dX5_readToken_9 : decode cX5_readToken 9 = .ok (.getfield 40, 3) := by decide +kernel
theorem dX5_readToken_12 : decode cX5_readToken 12 = .ok (.aload_n 0, 1) := by decide +kernel
theorem dX5_readToken_13 : decode cX5_readToken 13 = .ok (.getfield 15, 3) := by decide +kernel
theorem dX5_readToken_16 : decode cX5_readToken 16 = .ok (.if_icmp .ge 30, 3) := by decide +kernel
theorem dX5_readToken_19 : decode cX5_readToken 19 = .ok (.aload_n 0, 1) := by decide +kernel
theorem dX5_readToken_20 : decode cX5_readToken 20 = .ok (.getfield 9, 3) := by decide +kernel
theorem dX5_readToken_23 : decode cX5_readToken 23 = .ok (.aload_n 0, 1) := by decide +kernel
theorem dX5_readToken_24 : decode cX5_readToken 24 = .ok (.getfield 40, 3) := by decide +kernel
theorem dX5_readToken_27 : decode cX5_readToken 27 = .ok (.iaload, 1) := by decide +kernel
theorem dX5_readToken_28 : decode cX5_readToken 28 = .ok (.bipush 32, 2) := by decide +kernel
theorem dX5_readToken_30 : decode cX5_readToken 30 = .ok (.if_icmp .ne 16, 3) := by decide +kernel
theorem dX5_readToken_33 : decode cX5_readToken 33 = .ok (.aload_n 0, 1) := by decide +kernel
theorem dX5_readToken_34 : decode cX5_readToken 34 = .ok (.dup, 1) := by decide +kernel
theorem dX5_readToken_35 : decode cX5_readToken 35 = .ok (.getfield 40, 3) := by decide +kernel
theorem dX5_readToken_38 : decode cX5_readToken 38 = .ok (.iconst 1, 1) := by decide +kernel
theorem dX5_readToken_39 : decode cX5_readToken 39 = .ok (.iadd, 1) := by decide +kernel
theorem dX5_readToken_40 : decode cX5_readToken 40 = .ok (.putfield 40, 3) := by decide +kernel
theorem dX5_readToken_43 : decode cX5_readToken 43 = .ok (.goto (-35), 3) := by decide +kernel
theorem dX5_readToken_46 : decode cX5_readToken 46 = .ok (.aload_n 0, 1) := by decide +kernel
theorem dX5_readToken_47 : decode cX5_readToken 47 = .ok (.aload_n 0, 1) := by decide +kernel
theorem dX5_readToken_48 : decode cX5_readToken 48 = .ok (.getfield 40, 3) := by decide +kernel
theorem dX5_readToken_51 : decode cX5_readToken 51 = .ok (.aload_n 0, 1) := by decide +kernel
theorem dX5_readToken_52 : decode cX5_readToken 52 = .ok (.getfield 15, 3) := by decide +kernel
theorem dX5_readToken_55 : decode cX5_readToken 55 = .ok (.if_icmp .ge 18, 3) := by decide +kernel
theorem dX5_readToken_58 : decode cX5_readToken 58 = .ok (.aload_n 0, 1) := by decide +kernel
theorem dX5_readToken_59 : decode cX5_readToken 59 = .ok (.getfield 9, 3) := by decide +kernel
theorem dX5_readToken_62 : decode cX5_readToken 62 = .ok (.aload_n 0, 1) := by decide +kernel
theorem dX5_readToken_63 : decode cX5_readToken 63 = .ok (.getfield 40, 3) := by decide +kernel
theorem dX5_readToken_66 : decode cX5_readToken 66 = .ok (.iaload, 1) := by decide +kernel
theorem dX5_readToken_67 : decode cX5_readToken 67 = .ok (.invokestatic 63, 3) := by decide +kernel
theorem dX5_readToken_70 : decode cX5_readToken 70 = .ok (.goto 4, 3) := by decide +kernel
theorem dX5_readToken_73 : decode cX5_readToken 73 = .ok (.iconst 0, 1) := by decide +kernel
theorem dX5_readToken_74 : decode cX5_readToken 74 = .ok (.putfield 37, 3) := by decide +kernel
theorem dX5_readToken_77 : decode cX5_readToken 77 = .ok (.aload_n 0, 1) := by decide +kernel
theorem dX5_readToken_78 : decode cX5_readToken 78 = .ok (.aload_n 0, 1) := by decide +kernel
theorem dX5_readToken_79 : decode cX5_readToken 79 = .ok (.getfield 40, 3) := by decide +kernel
theorem dX5_readToken_82 : decode cX5_readToken 82 = .ok (.iconst 1, 1) := by decide +kernel
theorem dX5_readToken_83 : decode cX5_readToken 83 = .ok (.iadd, 1) := by decide +kernel
theorem dX5_readToken_84 : decode cX5_readToken 84 = .ok (.aload_n 0, 1) := by decide +kernel
theorem dX5_readToken_85 : decode cX5_readToken 85 = .ok (.getfield 15, 3) := by decide +kernel
theorem dX5_readToken_88 : decode cX5_readToken 88 = .ok (.invokestatic 67, 3) := by decide +kernel
theorem dX5_readToken_91 : decode cX5_readToken 91 = .ok (.putfield 43, 3) := by decide +kernel
theorem dX5_readToken_94 : decode cX5_readToken 94 = .ok (.aload_n 0, 1) := by decide +kernel
theorem dX5_readToken_95 : decode cX5_readToken 95 = .ok (.getfield 37, 3) := by decide +kernel
theorem dX5_readToken_98 : decode cX5_readToken 98 = .ok (.iconst 1, 1) := by decide +kernel
theorem dX5_readToken_99 : decode cX5_readToken 99 = .ok (.if_icmp .eq 11, 3) := by decide +kernel
theorem dX5_readToken_102 : decode cX5_readToken 102 = .ok (.aload_n 0, 1) := by decide +kernel
theorem dX5_readToken_103 : decode cX5_readToken 103 = .ok (.getfield 37, 3) := by decide +kernel
theorem dX5_readToken_106 : decode cX5_readToken 106 = .ok (.iconst 2, 1) := by decide +kernel
theorem dX5_readToken_107 : decode cX5_readToken 107 = .ok (.if_icmp .ne 46, 3) := by decide +kernel
theorem dX5_readToken_110 : decode cX5_readToken 110 = .ok (.aload_n 0, 1) := by decide +kernel
theorem dX5_readToken_111 : decode cX5_readToken 111 = .ok (.getfield 43, 3) := by decide +kernel
theorem dX5_readToken_114 : decode cX5_readToken 114 = .ok (.aload_n 0, 1) := by decide +kernel
theorem dX5_readToken_115 : decode cX5_readToken 115 = .ok (.getfield 15, 3) := by decide +kernel
theorem dX5_readToken_118 : decode cX5_readToken 118 = .ok (.if_icmp .ge 35, 3) := by decide +kernel
theorem dX5_readToken_121 : decode cX5_readToken 121 = .ok (.aload_n 0, 1) := by decide +kernel
theorem dX5_readToken_122 : decode cX5_readToken 122 = .ok (.getfield 9, 3) := by decide +kernel
theorem dX5_readToken_125 : decode cX5_readToken 125 = .ok (.aload_n 0, 1) := by decide +kernel
theorem dX5_readToken_126 : decode cX5_readToken 126 = .ok (.getfield 43, 3) := by decide +kernel
theorem dX5_readToken_129 : decode cX5_readToken 129 = .ok (.iaload, 1) := by decide +kernel
theorem dX5_readToken_130 : decode cX5_readToken 130 = .ok (.invokestatic 63, 3) := by decide +kernel
theorem dX5_readToken_133 : decode cX5_readToken 133 = .ok (.aload_n 0, 1) := by decide +kernel
theorem dX5_readToken_134 : decode cX5_readToken 134 = .ok (.getfield 37, 3) := by decide +kernel
theorem dX5_readToken_137 : decode cX5_readToken 137 = .ok (.if_icmp .ne 16, 3) := by decide +kernel
theorem dX5_readToken_140 : decode cX5_readToken 140 = .ok (.aload_n 0, 1) := by decide +kernel
theorem dX5_readToken_141 : decode cX5_readToken 141 = .ok (.dup, 1) := by decide +kernel
theorem dX5_readToken_142 : decode cX5_readToken 142 = .ok (.getfield 43, 3) := by decide +kernel
theorem dX5_readToken_145 : decode cX5_readToken 145 = .ok (.iconst 1, 1) := by decide +kernel
theorem dX5_readToken_146 : decode cX5_readToken 146 = .ok (.iadd, 1) := by decide +kernel
theorem dX5_readToken_147 : decode cX5_readToken 147 = .ok (.putfield 43, 3) := by decide +kernel
theorem dX5_readToken_150 : decode cX5_readToken 150 = .ok (.goto (-40), 3) := by decide +kernel
theorem dX5_readToken_153 : decode cX5_readToken 153 = .ok (.return_, 1) := by decide +kernel
theorem dX5_sort_0 : decode cX5_sort 0 = .ok (.iload_n 0, 1) := by decide +kernel
theorem dX5_sort_1 : decode cX5_sort 1 = .ok (.bipush 97, 2) := by decide +kernel
theorem dX5_sort_3 : decode cX5_sort 3 = .ok (.if_icmp .lt 11, 3) := by decide +kernel
theorem dX5_sort_6 : decode cX5_sort 6 = .ok (.iload_n 0, 1) := by decide +kernel
theorem dX5_sort_7 : decode cX5_sort 7 = .ok (.bipush 122, 2) := by decide +kernel
theorem dX5_sort_9 : decode cX5_sort 9 = .ok (.if_icmp .gt 5, 3) := by decide +kernel
theorem dX5_sort_12 : decode cX5_sort 12 = .ok (.iconst 1, 1) := by decide +kernel
theorem dX5_sort_13 : decode cX5_sort 13 = .ok (.ireturn, 1) := by decide +kernel
theorem dX5_sort_14 : decode cX5_sort 14 = .ok (.iload_n 0, 1) := by decide +kernel
theorem dX5_sort_15 : decode cX5_sort 15 = .ok (.bipush 48, 2) := by decide +kernel
theorem dX5_sort_17 : decode cX5_sort 17 = .ok (.if_icmp .lt 13, 3) := by decide +kernel
theorem dX5_sort_20 : decode cX5_sort 20 = .ok (.iload_n 0, 1) := by decide +kernel
theorem dX5_sort_21 : decode cX5_sort 21 = .ok (.bipush 57, 2) := by decide +kernel
theorem dX5_sort_23 : decode cX5_sort 23 = .ok (.if_icmp .gt 7, 3) := by decide +kernel
theorem dX5_sort_26 : decode cX5_sort 26 = .ok (.iconst 2, 1) := by decide +kernel
theorem dX5_sort_27 : decode cX5_sort 27 = .ok (.goto 4, 3) := by decide +kernel
theorem dX5_sort_30 : decode cX5_sort 30 = .ok (.iconst 3, 1) := by decide +kernel
theorem dX5_sort_31 : decode cX5_sort 31 = .ok (.ireturn, 1) := by decide +kernel
theorem dX5_says_0 : decode cX5_says 0 = .ok (.aload_n 0, 1) := by decide +kernel
theorem dX5_says_1 : decode cX5_says 1 = .ok (.getfield 37, 3) := by decide +kernel
theorem dX5_says_4 : decode cX5_says 4 = .ok (.iconst 1, 1) := by decide +kernel
theorem dX5_says_5 : decode cX5_says 5 = .ok (.if_icmp .ne 19, 3) := by decide +kernel
theorem dX5_says_8 : decode cX5_says 8 = .ok (.aload_n 0, 1) := by decide +kernel
theorem dX5_says_9 : decode cX5_says 9 = .ok (.getfield 43, 3) := by decide +kernel
theorem dX5_says_12 : decode cX5_says 12 = .ok (.aload_n 0, 1) := by decide +kernel
theorem dX5_says_13 : decode cX5_says 13 = .ok (.getfield 40, 3) := by decide +kernel
theorem dX5_says_16 : decode cX5_says 16 = .ok (.isub, 1) := by decide +kernel
theorem dX5_says_17 : decode cX5_says 17 = .ok (.aload_n 1, 1) := by decide +kernel
theorem dX5_says_18 : decode cX5_says 18 = .ok (.invokevirtual 73, 3) := by decide +kernel
theorem dX5_says_21 : decode cX5_says 21 = .ok (.if_icmp .eq 5, 3) := by decide +kernel
theorem dX5_says_24 : decode cX5_says 24 = .ok (.iconst 0, 1) := by decide +kernel
theorem dX5_says_25 : decode cX5_says 25 = .ok (.ireturn, 1) := by decide +kernel
theorem dX5_says_26 : decode cX5_says 26 = .ok (.iconst 0, 1) := by decide +kernel
theorem dX5_says_27 : decode cX5_says 27 = .ok (.istore_n 2, 1) := by decide +kernel
theorem dX5_says_28 : decode cX5_says 28 = .ok (.iload_n 2, 1) := by decide +kernel
theorem dX5_says_29 : decode cX5_says 29 = .ok (.aload_n 1, 1) := by decide +kernel
theorem dX5_says_30 : decode cX5_says 30 = .ok (.invokevirtual 73, 3) := by decide +kernel
theorem dX5_says_33 : decode cX5_says 33 = .ok (.if_icmp .ge 30, 3) := by decide +kernel
theorem dX5_says_36 : decode cX5_says 36 = .ok (.aload_n 0, 1) := by decide +kernel
theorem dX5_says_37 : decode cX5_says 37 = .ok (.getfield 9, 3) := by decide +kernel
theorem dX5_says_40 : decode cX5_says 40 = .ok (.aload_n 0, 1) := by decide +kernel
theorem dX5_says_41 : decode cX5_says 41 = .ok (.getfield 40, 3) := by decide +kernel
theorem dX5_says_44 : decode cX5_says 44 = .ok (.iload_n 2, 1) := by decide +kernel
theorem dX5_says_45 : decode cX5_says 45 = .ok (.iadd, 1) := by decide +kernel
theorem dX5_says_46 : decode cX5_says 46 = .ok (.iaload, 1) := by decide +kernel
theorem dX5_says_47 : decode cX5_says 47 = .ok (.aload_n 1, 1) := by decide +kernel
theorem dX5_says_48 : decode cX5_says 48 = .ok (.iload_n 2, 1) := by decide +kernel
theorem dX5_says_49 : decode cX5_says 49 = .ok (.invokevirtual 78, 3) := by decide +kernel
theorem dX5_says_52 : decode cX5_says 52 = .ok (.if_icmp .eq 5, 3) := by decide +kernel
theorem dX5_says_55 : decode cX5_says 55 = .ok (.iconst 0, 1) := by decide +kernel
theorem dX5_says_56 : decode cX5_says 56 = .ok (.ireturn, 1) := by decide +kernel
theorem dX5_says_57 : decode cX5_says 57 = .ok (.iinc 2 1, 3) := by decide +kernel
theorem dX5_says_60 : decode cX5_says 60 = .ok (.goto (-32), 3) := by decide +kernel
theorem dX5_says_63 : decode cX5_says 63 = .ok (.iconst 1, 1) := by decide +kernel
theorem dX5_says_64 : decode cX5_says 64 = .ok (.ireturn, 1) := by decide +kernel
theorem dX5_readLine_0 : decode cX5_readLine 0 = .ok (.aload_n 0, 1) := by decide +kernel
theorem dX5_readLine_1 : decode cX5_readLine 1 = .ok (.ldc 82, 2) := by decide +kernel
theorem dX5_readLine_3 : decode cX5_readLine 3 = .ok (.invokevirtual 84, 3) := by decide +kernel
theorem dX5_readLine_6 : decode cX5_readLine 6 = .ok (.ifCond .eq 8, 3) := by decide +kernel
theorem dX5_readLine_9 : decode cX5_readLine 9 = .ok (.aload_n 0, 1) := by decide +kernel
theorem dX5_readLine_10 : decode cX5_readLine 10 = .ok (.invokevirtual 88, 3) := by decide +kernel
theorem dX5_readLine_13 : decode cX5_readLine 13 = .ok (.ireturn, 1) := by decide +kernel
theorem dX5_readLine_14 : decode cX5_readLine 14 = .ok (.aload_n 0, 1) := by decide +kernel
theorem dX5_readLine_15 : decode cX5_readLine 15 = .ok (.ldc 91, 2) := by decide +kernel
theorem dX5_readLine_17 : decode cX5_readLine 17 = .ok (.invokevirtual 84, 3) := by decide +kernel
theorem dX5_readLine_20 : decode cX5_readLine 20 = .ok (.ifCond .eq 8, 3) := by decide +kernel
theorem dX5_readLine_23 : decode cX5_readLine 23 = .ok (.aload_n 0, 1) := by decide +kernel
theorem dX5_readLine_24 : decode cX5_readLine 24 = .ok (.invokevirtual 93, 3) := by decide +kernel
theorem dX5_readLine_27 : decode cX5_readLine 27 = .ok (.ireturn, 1) := by decide +kernel
theorem dX5_readLine_28 : decode cX5_readLine 28 = .ok (.aload_n 0, 1) := by decide +kernel
theorem dX5_readLine_29 : decode cX5_readLine 29 = .ok (.ldc 96, 2) := by decide +kernel
theorem dX5_readLine_31 : decode cX5_readLine 31 = .ok (.invokevirtual 84, 3) := by decide +kernel
theorem dX5_readLine_34 : decode cX5_readLine 34 = .ok (.ifCond .eq 8, 3) := by decide +kernel
theorem dX5_readLine_37 : decode cX5_readLine 37 = .ok (.aload_n 0, 1) := by decide +kernel
theorem dX5_readLine_38 : decode cX5_readLine 38 = .ok (.invokevirtual 98, 3) := by decide +kernel
theorem dX5_readLine_41 : decode cX5_readLine 41 = .ok (.ireturn, 1) := by decide +kernel
theorem dX5_readLine_42 : decode cX5_readLine 42 = .ok (.aload_n 0, 1) := by decide +kernel
theorem dX5_readLine_43 : decode cX5_readLine 43 = .ok (.ldc 101, 2) := by decide +kernel
theorem dX5_readLine_45 : decode cX5_readLine 45 = .ok (.invokevirtual 84, 3) := by decide +kernel
theorem dX5_readLine_48 : decode cX5_readLine 48 = .ok (.ifCond .eq 10, 3) := by decide +kernel
theorem dX5_readLine_51 : decode cX5_readLine 51 = .ok (.aload_n 0, 1) := by decide +kernel
theorem dX5_readLine_52 : decode cX5_readLine 52 = .ok (.iconst 0, 1) := by decide +kernel
theorem dX5_readLine_53 : decode cX5_readLine 53 = .ok (.iconst 4, 1) := by decide +kernel
theorem dX5_readLine_54 : decode cX5_readLine 54 = .ok (.invokevirtual 103, 3) := by decide +kernel
theorem dX5_readLine_57 : decode cX5_readLine 57 = .ok (.ireturn, 1) := by decide +kernel
theorem dX5_readLine_58 : decode cX5_readLine 58 = .ok (.aload_n 0, 1) := by decide +kernel
theorem dX5_readLine_59 : decode cX5_readLine 59 = .ok (.invokevirtual 107, 3) := by decide +kernel
theorem dX5_readLine_62 : decode cX5_readLine 62 = .ok (.istore_n 1, 1) := by decide +kernel
theorem dX5_readLine_63 : decode cX5_readLine 63 = .ok (.iload_n 1, 1) := by decide +kernel
theorem dX5_readLine_64 : decode cX5_readLine 64 = .ok (.iconst (-1), 1) := by decide +kernel
theorem dX5_readLine_65 : decode cX5_readLine 65 = .ok (.if_icmp .eq 16, 3) := by decide +kernel
theorem dX5_readLine_68 : decode cX5_readLine 68 = .ok (.aload_n 0, 1) := by decide +kernel
theorem dX5_readLine_69 : decode cX5_readLine 69 = .ok (.iload_n 1, 1) := by decide +kernel
theorem dX5_readLine_70 : decode cX5_readLine 70 = .ok (.iload_n 1, 1) := by decide +kernel
theorem dX5_readLine_71 : decode cX5_readLine 71 = .ok (.invokevirtual 103, 3) := by decide +kernel
theorem dX5_readLine_74 : decode cX5_readLine 74 = .ok (.ifCond .eq 7, 3) := by decide +kernel
theorem dX5_readLine_77 : decode cX5_readLine 77 = .ok (.iconst 1, 1) := by decide +kernel
theorem dX5_readLine_78 : decode cX5_readLine 78 = .ok (.goto 4, 3) := by decide +kernel
theorem dX5_readLine_81 : decode cX5_readLine 81 = .ok (.iconst 0, 1) := by decide +kernel
theorem dX5_readLine_82 : decode cX5_readLine 82 = .ok (.ireturn, 1) := by decide +kernel
theorem dX5_placeNamed_0 : decode cX5_placeNamed 0 = .ok (.aload_n 0, 1) := by decide +kernel
theorem dX5_placeNamed_1 : decode cX5_placeNamed 1 = .ok (.ldc 110, 2) := by decide +kernel
theorem dX5_placeNamed_3 : decode cX5_placeNamed 3 = .ok (.invokevirtual 84, 3) := by decide +kernel
theorem dX5_placeNamed_6 : decode cX5_placeNamed 6 = .ok (.ifCond .eq 5, 3) := by decide +kernel
theorem dX5_placeNamed_9 : decode cX5_placeNamed 9 = .ok (.iconst 5, 1) := by decide +kernel
theorem dX5_placeNamed_10 : decode cX5_placeNamed 10 = .ok (.ireturn, 1) := by decide +kernel
theorem dX5_placeNamed_11 : decode cX5_placeNamed 11 = .ok (.aload_n 0, 1) := by decide +kernel
theorem dX5_placeNamed_12 : decode cX5_placeNamed 12 = .ok (.ldc 112, 2) := by decide +kernel
theorem dX5_placeNamed_14 : decode cX5_placeNamed 14 = .ok (.invokevirtual 84, 3) := by decide +kernel
theorem dX5_placeNamed_17 : decode cX5_placeNamed 17 = .ok (.ifCond .eq 6, 3) := by decide +kernel
theorem dX5_placeNamed_20 : decode cX5_placeNamed 20 = .ok (.bipush 6, 2) := by decide +kernel
theorem dX5_placeNamed_22 : decode cX5_placeNamed 22 = .ok (.ireturn, 1) := by decide +kernel
end
section
theorem dX5_placeNamed_23 : decode cX5_placeNamed 23 = .ok (.aload_n 0, 1) := by decide +kernel
theorem dX5_placeNamed_24 : decode cX5_placeNamed 24 = .ok (.ldc 114, 2) := by decide +kernel
theorem dX5_placeNamed_26 : decode cX5_placeNamed 26 = .ok (.invokevirtual 84, 3) := by decide +kernel
theorem dX5_placeNamed_29 : decode cX5_placeNamed 29 = .ok (.ifCond .eq 6, 3) := by decide +kernel
theorem dX5_placeNamed_32 : decode cX5_placeNamed 32 = .ok (.bipush 7, 2) := by decide +kernel
theorem dX5_placeNamed_34 : decode cX5_placeNamed 34 = .ok (.ireturn, 1) := by decide +kernel
theorem dX5_placeNamed_35 : decode cX5_placeNamed 35 = .ok (.aload_n 0, 1) := by decide +kernel
theorem dX5_placeNamed_36 : decode cX5_placeNamed 36 = .ok (.ldc 116, 2) := by decide +kernel
theorem dX5_placeNamed_38 : decode cX5_placeNamed 38 = .ok (.invokevirtual 84, 3) := by decide +kernel
theorem dX5_placeNamed_41 : decode cX5_placeNamed 41 = .ok (.ifCond .eq 6, 3) := by decide +kernel
theorem dX5_placeNamed_44 : decode cX5_placeNamed 44 = .ok (.bipush 8, 2) := by decide +kernel
theorem dX5_placeNamed_46 : decode cX5_placeNamed 46 = .ok (.ireturn, 1) := by decide +kernel
theorem dX5_placeNamed_47 : decode cX5_placeNamed 47 = .ok (.aload_n 0, 1) := by decide +kernel
theorem dX5_placeNamed_48 : decode cX5_placeNamed 48 = .ok (.ldc 118, 2) := by decide +kernel
theorem dX5_placeNamed_50 : decode cX5_placeNamed 50 = .ok (.invokevirtual 84, 3) := by decide +kernel
theorem dX5_placeNamed_53 : decode cX5_placeNamed 53 = .ok (.ifCond .eq 8, 3) := by decide +kernel
theorem dX5_placeNamed_56 : decode cX5_placeNamed 56 = .ok (.bipush 9, 2) := by decide +kernel
theorem dX5_placeNamed_58 : decode cX5_placeNamed 58 = .ok (.goto 4, 3) := by decide +kernel
theorem dX5_placeNamed_61 : decode cX5_placeNamed 61 = .ok (.iconst (-1), 1) := by decide +kernel
theorem dX5_placeNamed_62 : decode cX5_placeNamed 62 = .ok (.ireturn, 1) := by decide +kernel
theorem dX5_readThing_0 : decode cX5_readThing 0 = .ok (.aload_n 0, 1) := by decide +kernel
theorem dX5_readThing_1 : decode cX5_readThing 1 = .ok (.getfield 22, 3) := by decide +kernel
theorem dX5_readThing_4 : decode cX5_readThing 4 = .ok (.aload_n 0, 1) := by decide +kernel
theorem dX5_readThing_5 : decode cX5_readThing 5 = .ok (.getfield 19, 3) := by decide +kernel
theorem dX5_readThing_8 : decode cX5_readThing 8 = .ok (.iconst 0, 1) := by decide +kernel
theorem dX5_readThing_9 : decode cX5_readThing 9 = .ok (.iastore, 1) := by decide +kernel
theorem dX5_readThing_10 : decode cX5_readThing 10 = .ok (.aload_n 0, 1) := by decide +kernel
theorem dX5_readThing_11 : decode cX5_readThing 11 = .ok (.invokevirtual 56, 3) := by decide +kernel
theorem dX5_readThing_14 : decode cX5_readThing 14 = .ok (.aload_n 0, 1) := by decide +kernel
theorem dX5_readThing_15 : decode cX5_readThing 15 = .ok (.iconst 0, 1) := by decide +kernel
theorem dX5_readThing_16 : decode cX5_readThing 16 = .ok (.iconst 3, 1) := by decide +kernel
theorem dX5_readThing_17 : decode cX5_readThing 17 = .ok (.invokevirtual 120, 3) := by decide +kernel
theorem dX5_readThing_20 : decode cX5_readThing 20 = .ok (.ifCond .ne 5, 3) := by decide +kernel
theorem dX5_readThing_23 : decode cX5_readThing 23 = .ok (.iconst 0, 1) := by decide +kernel
theorem dX5_readThing_24 : decode cX5_readThing 24 = .ok (.ireturn, 1) := by decide +kernel
theorem dX5_readThing_25 : decode cX5_readThing 25 = .ok (.aload_n 0, 1) := by decide +kernel
theorem dX5_readThing_26 : decode cX5_readThing 26 = .ok (.invokevirtual 123, 3) := by decide +kernel
theorem dX5_readThing_29 : decode cX5_readThing 29 = .ok (.istore_n 1, 1) := by decide +kernel
theorem dX5_readThing_30 : decode cX5_readThing 30 = .ok (.iload_n 1, 1) := by decide +kernel
theorem dX5_readThing_31 : decode cX5_readThing 31 = .ok (.iconst (-1), 1) := by decide +kernel
theorem dX5_readThing_32 : decode cX5_readThing 32 = .ok (.if_icmp .ne 5, 3) := by decide +kernel
theorem dX5_readThing_35 : decode cX5_readThing 35 = .ok (.iconst 0, 1) := by decide +kernel
theorem dX5_readThing_36 : decode cX5_readThing 36 = .ok (.ireturn, 1) := by decide +kernel
theorem dX5_readThing_37 : decode cX5_readThing 37 = .ok (.aload_n 0, 1) := by decide +kernel
theorem dX5_readThing_38 : decode cX5_readThing 38 = .ok (.iload_n 1, 1) := by decide +kernel
theorem dX5_readThing_39 : decode cX5_readThing 39 = .ok (.invokevirtual 126, 3) := by decide +kernel
theorem dX5_readThing_42 : decode cX5_readThing 42 = .ok (.aload_n 0, 1) := by decide +kernel
theorem dX5_readThing_43 : decode cX5_readThing 43 = .ok (.invokevirtual 56, 3) := by decide +kernel
theorem dX5_readThing_46 : decode cX5_readThing 46 = .ok (.iload_n 1, 1) := by decide +kernel
theorem dX5_readThing_47 : decode cX5_readThing 47 = .ok (.ifCond .ne 10, 3) := by decide +kernel
theorem dX5_readThing_50 : decode cX5_readThing 50 = .ok (.aload_n 0, 1) := by decide +kernel
theorem dX5_readThing_51 : decode cX5_readThing 51 = .ok (.iconst 0, 1) := by decide +kernel
theorem dX5_readThing_52 : decode cX5_readThing 52 = .ok (.invokevirtual 126, 3) := by decide +kernel
theorem dX5_readThing_55 : decode cX5_readThing 55 = .ok (.iconst 1, 1) := by decide +kernel
theorem dX5_readThing_56 : decode cX5_readThing 56 = .ok (.ireturn, 1) := by decide +kernel
theorem dX5_readThing_57 : decode cX5_readThing 57 = .ok (.aload_n 0, 1) := by decide +kernel
theorem dX5_readThing_58 : decode cX5_readThing 58 = .ok (.iconst 1, 1) := by decide +kernel
theorem dX5_readThing_59 : decode cX5_readThing 59 = .ok (.bipush 9, 2) := by decide +kernel
theorem dX5_readThing_61 : decode cX5_readThing 61 = .ok (.invokevirtual 120, 3) := by decide +kernel
theorem dX5_readThing_64 : decode cX5_readThing 64 = .ok (.ireturn, 1) := by decide +kernel
theorem dX5_kindNamed_0 : decode cX5_kindNamed 0 = .ok (.aload_n 0, 1) := by decide +kernel
theorem dX5_kindNamed_1 : decode cX5_kindNamed 1 = .ok (.ldc 130, 2) := by decide +kernel
theorem dX5_kindNamed_3 : decode cX5_kindNamed 3 = .ok (.invokevirtual 84, 3) := by decide +kernel
theorem dX5_kindNamed_6 : decode cX5_kindNamed 6 = .ok (.ifCond .eq 5, 3) := by decide +kernel
theorem dX5_kindNamed_9 : decode cX5_kindNamed 9 = .ok (.iconst 0, 1) := by decide +kernel
theorem dX5_kindNamed_10 : decode cX5_kindNamed 10 = .ok (.ireturn, 1) := by decide +kernel
theorem dX5_kindNamed_11 : decode cX5_kindNamed 11 = .ok (.aload_n 0, 1) := by decide +kernel
theorem dX5_kindNamed_12 : decode cX5_kindNamed 12 = .ok (.ldc 132, 2) := by decide +kernel
theorem dX5_kindNamed_14 : decode cX5_kindNamed 14 = .ok (.invokevirtual 84, 3) := by decide +kernel
theorem dX5_kindNamed_17 : decode cX5_kindNamed 17 = .ok (.ifCond .eq 5, 3) := by decide +kernel
theorem dX5_kindNamed_20 : decode cX5_kindNamed 20 = .ok (.iconst 1, 1) := by decide +kernel
theorem dX5_kindNamed_21 : decode cX5_kindNamed 21 = .ok (.ireturn, 1) := by decide +kernel
theorem dX5_kindNamed_22 : decode cX5_kindNamed 22 = .ok (.aload_n 0, 1) := by decide +kernel
theorem dX5_kindNamed_23 : decode cX5_kindNamed 23 = .ok (.ldc 134, 2) := by decide +kernel
theorem dX5_kindNamed_25 : decode cX5_kindNamed 25 = .ok (.invokevirtual 84, 3) := by decide +kernel
theorem dX5_kindNamed_28 : decode cX5_kindNamed 28 = .ok (.ifCond .eq 5, 3) := by decide +kernel
theorem dX5_kindNamed_31 : decode cX5_kindNamed 31 = .ok (.iconst 2, 1) := by decide +kernel
theorem dX5_kindNamed_32 : decode cX5_kindNamed 32 = .ok (.ireturn, 1) := by decide +kernel
theorem dX5_kindNamed_33 : decode cX5_kindNamed 33 = .ok (.aload_n 0, 1) := by decide +kernel
theorem dX5_kindNamed_34 : decode cX5_kindNamed 34 = .ok (.ldc 136, 2) := by decide +kernel
theorem dX5_kindNamed_36 : decode cX5_kindNamed 36 = .ok (.invokevirtual 84, 3) := by decide +kernel
theorem dX5_kindNamed_39 : decode cX5_kindNamed 39 = .ok (.ifCond .eq 7, 3) := by decide +kernel
theorem dX5_kindNamed_42 : decode cX5_kindNamed 42 = .ok (.iconst 3, 1) := by decide +kernel
theorem dX5_kindNamed_43 : decode cX5_kindNamed 43 = .ok (.goto 4, 3) := by decide +kernel
theorem dX5_kindNamed_46 : decode cX5_kindNamed 46 = .ok (.iconst (-1), 1) := by decide +kernel
theorem dX5_kindNamed_47 : decode cX5_kindNamed 47 = .ok (.ireturn, 1) := by decide +kernel
theorem dX5_readLump_0 : decode cX5_readLump 0 = .ok (.aload_n 0, 1) := by decide +kernel
theorem dX5_readLump_1 : decode cX5_readLump 1 = .ok (.getfield 22, 3) := by decide +kernel
theorem dX5_readLump_4 : decode cX5_readLump 4 = .ok (.aload_n 0, 1) := by decide +kernel
theorem dX5_readLump_5 : decode cX5_readLump 5 = .ok (.getfield 19, 3) := by decide +kernel
theorem dX5_readLump_8 : decode cX5_readLump 8 = .ok (.iconst 1, 1) := by decide +kernel
theorem dX5_readLump_9 : decode cX5_readLump 9 = .ok (.iastore, 1) := by decide +kernel
theorem dX5_readLump_10 : decode cX5_readLump 10 = .ok (.aload_n 0, 1) := by decide +kernel
theorem dX5_readLump_11 : decode cX5_readLump 11 = .ok (.invokevirtual 56, 3) := by decide +kernel
theorem dX5_readLump_14 : decode cX5_readLump 14 = .ok (.aload_n 0, 1) := by decide +kernel
theorem dX5_readLump_15 : decode cX5_readLump 15 = .ok (.invokevirtual 138, 3) := by decide +kernel
theorem dX5_readLump_18 : decode cX5_readLump 18 = .ok (.istore_n 1, 1) := by decide +kernel
theorem dX5_readLump_19 : decode cX5_readLump 19 = .ok (.iload_n 1, 1) := by decide +kernel
theorem dX5_readLump_20 : decode cX5_readLump 20 = .ok (.invokestatic 141, 3) := by decide +kernel
theorem dX5_readLump_23 : decode cX5_readLump 23 = .ok (.ifCond .eq 13, 3) := by decide +kernel
theorem dX5_readLump_26 : decode cX5_readLump 26 = .ok (.aload_n 0, 1) := by decide +kernel
theorem dX5_readLump_27 : decode cX5_readLump 27 = .ok (.getfield 34, 3) := by decide +kernel
theorem dX5_readLump_30 : decode cX5_readLump 30 = .ok (.iload_n 1, 1) := by decide +kernel
theorem dX5_readLump_31 : decode cX5_readLump 31 = .ok (.iaload, 1) := by decide +kernel
theorem dX5_readLump_32 : decode cX5_readLump 32 = .ok (.iconst 4, 1) := by decide +kernel
theorem dX5_readLump_33 : decode cX5_readLump 33 = .ok (.if_icmp .lt 5, 3) := by decide +kernel
theorem dX5_readLump_36 : decode cX5_readLump 36 = .ok (.iconst 0, 1) := by decide +kernel
theorem dX5_readLump_37 : decode cX5_readLump 37 = .ok (.ireturn, 1) := by decide +kernel
theorem dX5_readLump_38 : decode cX5_readLump 38 = .ok (.aload_n 0, 1) := by decide +kernel
theorem dX5_readLump_39 : decode cX5_readLump 39 = .ok (.getfield 34, 3) := by decide +kernel
theorem dX5_readLump_42 : decode cX5_readLump 42 = .ok (.iload_n 1, 1) := by decide +kernel
theorem dX5_readLump_43 : decode cX5_readLump 43 = .ok (.dup2, 1) := by decide +kernel
theorem dX5_readLump_44 : decode cX5_readLump 44 = .ok (.iaload, 1) := by decide +kernel
theorem dX5_readLump_45 : decode cX5_readLump 45 = .ok (.iconst 1, 1) := by decide +kernel
theorem dX5_readLump_46 : decode cX5_readLump 46 = .ok (.iadd, 1) := by decide +kernel
theorem dX5_readLump_47 : decode cX5_readLump 47 = .ok (.iastore, 1) := by decide +kernel
theorem dX5_readLump_48 : decode cX5_readLump 48 = .ok (.aload_n 0, 1) := by decide +kernel
theorem dX5_readLump_49 : decode cX5_readLump 49 = .ok (.iconst 0, 1) := by decide +kernel
theorem dX5_readLump_50 : decode cX5_readLump 50 = .ok (.iconst 3, 1) := by decide +kernel
theorem dX5_readLump_51 : decode cX5_readLump 51 = .ok (.invokevirtual 120, 3) := by decide +kernel
theorem dX5_readLump_54 : decode cX5_readLump 54 = .ok (.ifCond .eq 28, 3) := by decide +kernel
theorem dX5_readLump_57 : decode cX5_readLump 57 = .ok (.aload_n 0, 1) := by decide +kernel
theorem dX5_readLump_58 : decode cX5_readLump 58 = .ok (.iconst 1, 1) := by decide +kernel
theorem dX5_readLump_59 : decode cX5_readLump 59 = .ok (.sipush 300, 3) := by decide +kernel
theorem dX5_readLump_62 : decode cX5_readLump 62 = .ok (.invokevirtual 120, 3) := by decide +kernel
theorem dX5_readLump_65 : decode cX5_readLump 65 = .ok (.ifCond .eq 17, 3) := by decide +kernel
theorem dX5_readLump_68 : decode cX5_readLump 68 = .ok (.aload_n 0, 1) := by decide +kernel
theorem dX5_readLump_69 : decode cX5_readLump 69 = .ok (.iconst 1, 1) := by decide +kernel
theorem dX5_readLump_70 : decode cX5_readLump 70 = .ok (.bipush 99, 2) := by decide +kernel
theorem dX5_readLump_72 : decode cX5_readLump 72 = .ok (.invokevirtual 120, 3) := by decide +kernel
theorem dX5_readLump_75 : decode cX5_readLump 75 = .ok (.ifCond .eq 7, 3) := by decide +kernel
theorem dX5_readLump_78 : decode cX5_readLump 78 = .ok (.iconst 1, 1) := by decide +kernel
theorem dX5_readLump_79 : decode cX5_readLump 79 = .ok (.goto 4, 3) := by decide +kernel
theorem dX5_readLump_82 : decode cX5_readLump 82 = .ok (.iconst 0, 1) := by decide +kernel
theorem dX5_readLump_83 : decode cX5_readLump 83 = .ok (.ireturn, 1) := by decide +kernel
theorem dX5_readBare_0 : decode cX5_readBare 0 = .ok (.aload_n 0, 1) := by decide +kernel
theorem dX5_readBare_1 : decode cX5_readBare 1 = .ok (.getfield 22, 3) := by decide +kernel
theorem dX5_readBare_4 : decode cX5_readBare 4 = .ok (.aload_n 0, 1) := by decide +kernel
theorem dX5_readBare_5 : decode cX5_readBare 5 = .ok (.getfield 19, 3) := by decide +kernel
theorem dX5_readBare_8 : decode cX5_readBare 8 = .ok (.iconst 2, 1) := by decide +kernel
theorem dX5_readBare_9 : decode cX5_readBare 9 = .ok (.iastore, 1) := by decide +kernel
theorem dX5_readBare_10 : decode cX5_readBare 10 = .ok (.aload_n 0, 1) := by decide +kernel
theorem dX5_readBare_11 : decode cX5_readBare 11 = .ok (.invokevirtual 56, 3) := by decide +kernel
theorem dX5_readBare_14 : decode cX5_readBare 14 = .ok (.aload_n 0, 1) := by decide +kernel
theorem dX5_readBare_15 : decode cX5_readBare 15 = .ok (.invokevirtual 138, 3) := by decide +kernel
theorem dX5_readBare_18 : decode cX5_readBare 18 = .ok (.istore_n 1, 1) := by decide +kernel
theorem dX5_readBare_19 : decode cX5_readBare 19 = .ok (.iload_n 1, 1) := by decide +kernel
theorem dX5_readBare_20 : decode cX5_readBare 20 = .ok (.invokestatic 141, 3) := by decide +kernel
theorem dX5_readBare_23 : decode cX5_readBare 23 = .ok (.ifCond .ne 5, 3) := by decide +kernel
theorem dX5_readBare_26 : decode cX5_readBare 26 = .ok (.iconst 0, 1) := by decide +kernel
theorem dX5_readBare_27 : decode cX5_readBare 27 = .ok (.ireturn, 1) := by decide +kernel
theorem dX5_readBare_28 : decode cX5_readBare 28 = .ok (.aload_n 0, 1) := by decide +kernel
theorem dX5_readBare_29 : decode cX5_readBare 29 = .ok (.getfield 34, 3) := by decide +kernel
theorem dX5_readBare_32 : decode cX5_readBare 32 = .ok (.iload_n 1, 1) := by decide +kernel
theorem dX5_readBare_33 : decode cX5_readBare 33 = .ok (.iconst 0, 1) := by decide +kernel
theorem dX5_readBare_34 : decode cX5_readBare 34 = .ok (.iastore, 1) := by decide +kernel
theorem dX5_readBare_35 : decode cX5_readBare 35 = .ok (.aload_n 0, 1) := by decide +kernel
theorem dX5_readBare_36 : decode cX5_readBare 36 = .ok (.iconst 0, 1) := by decide +kernel
theorem dX5_readBare_37 : decode cX5_readBare 37 = .ok (.iconst 3, 1) := by decide +kernel
theorem dX5_readBare_38 : decode cX5_readBare 38 = .ok (.invokevirtual 120, 3) := by decide +kernel
theorem dX5_readBare_41 : decode cX5_readBare 41 = .ok (.ireturn, 1) := by decide +kernel
theorem dX5_readNumbers_0 : decode cX5_readNumbers 0 = .ok (.aload_n 0, 1) := by decide +kernel
theorem dX5_readNumbers_1 : decode cX5_readNumbers 1 = .ok (.getfield 22, 3) := by decide +kernel
theorem dX5_readNumbers_4 : decode cX5_readNumbers 4 = .ok (.aload_n 0, 1) := by decide +kernel
theorem dX5_readNumbers_5 : decode cX5_readNumbers 5 = .ok (.getfield 19, 3) := by decide +kernel
theorem dX5_readNumbers_8 : decode cX5_readNumbers 8 = .ok (.iconst 3, 1) := by decide +kernel
theorem dX5_readNumbers_9 : decode cX5_readNumbers 9 = .ok (.iastore, 1) := by decide +kernel
theorem dX5_readNumbers_10 : decode cX5_readNumbers 10 = .ok (.aload_n 0, 1) := by decide +kernel
theorem dX5_readNumbers_11 : decode cX5_readNumbers 11 = .ok (.getfield 31, 3) := by decide +kernel
theorem dX5_readNumbers_14 : decode cX5_readNumbers 14 = .ok (.aload_n 0, 1) := by decide +kernel
theorem dX5_readNumbers_15 : decode cX5_readNumbers 15 = .ok (.getfield 19, 3) := by decide +kernel
theorem dX5_readNumbers_18 : decode cX5_readNumbers 18 = .ok (.iload_n 1, 1) := by decide +kernel
theorem dX5_readNumbers_19 : decode cX5_readNumbers 19 = .ok (.iastore, 1) := by decide +kernel
theorem dX5_readNumbers_20 : decode cX5_readNumbers 20 = .ok (.aload_n 0, 1) := by decide +kernel
theorem dX5_readNumbers_21 : decode cX5_readNumbers 21 = .ok (.invokevirtual 56, 3) := by decide +kernel
theorem dX5_readNumbers_24 : decode cX5_readNumbers 24 = .ok (.iload_n 1, 1) := by decide +kernel
theorem dX5_readNumbers_25 : decode cX5_readNumbers 25 = .ok (.istore_n 3, 1) := by decide +kernel
theorem dX5_readNumbers_26 : decode cX5_readNumbers 26 = .ok (.iload_n 3, 1) := by decide +kernel
theorem dX5_readNumbers_27 : decode cX5_readNumbers 27 = .ok (.iload_n 2, 1) := by decide +kernel
theorem dX5_readNumbers_28 : decode cX5_readNumbers 28 = .ok (.if_icmp .gt 28, 3) := by decide +kernel
theorem dX5_readNumbers_31 : decode cX5_readNumbers 31 = .ok (.aload_n 0, 1) := by decide +kernel
theorem dX5_readNumbers_32 : decode cX5_readNumbers 32 = .ok (.getstatic 145, 3) := by decide +kernel
theorem dX5_readNumbers_35 : decode cX5_readNumbers 35 = .ok (.iload_n 3, 1) := by decide +kernel
theorem dX5_readNumbers_36 : decode cX5_readNumbers 36 = .ok (.iaload, 1) := by decide +kernel
theorem dX5_readNumbers_37 : decode cX5_readNumbers 37 = .ok (.getstatic 148, 3) := by decide +kernel
theorem dX5_readNumbers_40 : decode cX5_readNumbers 40 = .ok (.iload_n 3, 1) := by decide +kernel
theorem dX5_readNumbers_41 : decode cX5_readNumbers 41 = .ok (.iaload, 1) := by decide +kernel
theorem dX5_readNumbers_42 : decode cX5_readNumbers 42 = .ok (.invokevirtual 120, 3) := by decide +kernel
theorem dX5_readNumbers_45 : decode cX5_readNumbers 45 = .ok (.ifCond .ne 5, 3) := by decide +kernel
theorem dX5_readNumbers_48 : decode cX5_readNumbers 48 = .ok (.iconst 0, 1) := by decide +kernel
theorem dX5_readNumbers_49 : decode cX5_readNumbers 49 = .ok (.ireturn, 1) := by decide +kernel
theorem dX5_readNumbers_50 : decode cX5_readNumbers 50 = .ok (.iinc 3 1, 3) := by decide +kernel
theorem dX5_readNumbers_53 : decode cX5_readNumbers 53 = .ok (.goto (-27), 3) := by decide +kernel
theorem dX5_readNumbers_56 : decode cX5_readNumbers 56 = .ok (.iconst 1, 1) := by decide +kernel
theorem dX5_readNumbers_57 : decode cX5_readNumbers 57 = .ok (.ireturn, 1) := by decide +kernel
theorem dX5_readNumber_0 : decode cX5_readNumber 0 = .ok (.aload_n 0, 1) := by decide +kernel
theorem dX5_readNumber_1 : decode cX5_readNumber 1 = .ok (.invokevirtual 138, 3) := by decide +kernel
theorem dX5_readNumber_4 : decode cX5_readNumber 4 = .ok (.istore_n 3, 1) := by decide +kernel
theorem dX5_readNumber_5 : decode cX5_readNumber 5 = .ok (.iload_n 3, 1) := by decide +kernel
theorem dX5_readNumber_6 : decode cX5_readNumber 6 = .ok (.iconst (-1), 1) := by decide +kernel
theorem dX5_readNumber_7 : decode cX5_readNumber 7 = .ok (.if_icmp .eq 12, 3) := by decide +kernel
theorem dX5_readNumber_10 : decode cX5_readNumber 10 = .ok (.iload_n 3, 1) := by decide +kernel
theorem dX5_readNumber_11 : decode cX5_readNumber 11 = .ok (.iload_n 1, 1) := by decide +kernel
theorem dX5_readNumber_12 : decode cX5_readNumber 12 = .ok (.iload_n 2, 1) := by decide +kernel
theorem dX5_readNumber_13 : decode cX5_readNumber 13 = .ok (.invokestatic 151, 3) := by decide +kernel
theorem dX5_readNumber_16 : decode cX5_readNumber 16 = .ok (.ifCond .ne 5, 3) := by decide +kernel
theorem dX5_readNumber_19 : decode cX5_readNumber 19 = .ok (.iconst 0, 1) := by decide +kernel
theorem dX5_readNumber_20 : decode cX5_readNumber 20 = .ok (.ireturn, 1) := by decide +kernel
theorem dX5_readNumber_21 : decode cX5_readNumber 21 = .ok (.aload_n 0, 1) := by decide +kernel
theorem dX5_readNumber_22 : decode cX5_readNumber 22 = .ok (.iload_n 3, 1) := by decide +kernel
theorem dX5_readNumber_23 : decode cX5_readNumber 23 = .ok (.invokevirtual 126, 3) := by decide +kernel
theorem dX5_readNumber_26 : decode cX5_readNumber 26 = .ok (.aload_n 0, 1) := by decide +kernel
theorem dX5_readNumber_27 : decode cX5_readNumber 27 = .ok (.invokevirtual 56, 3) := by decide +kernel
theorem dX5_readNumber_30 : decode cX5_readNumber 30 = .ok (.iconst 1, 1) := by decide +kernel
theorem dX5_readNumber_31 : decode cX5_readNumber 31 = .ok (.ireturn, 1) := by decide +kernel
theorem dX5_number_0 : decode cX5_number 0 = .ok (.aload_n 0, 1) := by decide +kernel
theorem dX5_number_1 : decode cX5_number 1 = .ok (.getfield 37, 3) := by decide +kernel
theorem dX5_number_4 : decode cX5_number 4 = .ok (.iconst 2, 1) := by decide +kernel
theorem dX5_number_5 : decode cX5_number 5 = .ok (.if_icmp .ne 16, 3) := by decide +kernel
theorem dX5_number_8 : decode cX5_number 8 = .ok (.aload_n 0, 1) := by decide +kernel
theorem dX5_number_9 : decode cX5_number 9 = .ok (.getfield 43, 3) := by decide +kernel
theorem dX5_number_12 : decode cX5_number 12 = .ok (.aload_n 0, 1) := by decide +kernel
theorem dX5_number_13 : decode cX5_number 13 = .ok (.getfield 40, 3) := by decide +kernel
theorem dX5_number_16 : decode cX5_number 16 = .ok (.isub, 1) := by decide +kernel
theorem dX5_number_17 : decode cX5_number 17 = .ok (.iconst 3, 1) := by decide +kernel
theorem dX5_number_18 : decode cX5_number 18 = .ok (.if_icmp .le 5, 3) := by decide +kernel
theorem dX5_number_21 : decode cX5_number 21 = .ok (.iconst (-1), 1) := by decide +kernel
theorem dX5_number_22 : decode cX5_number 22 = .ok (.ireturn, 1) := by decide +kernel
theorem dX5_number_23 : decode cX5_number 23 = .ok (.iconst 0, 1) := by decide +kernel
theorem dX5_number_24 : decode cX5_number 24 = .ok (.istore_n 1, 1) := by decide +kernel
theorem dX5_number_25 : decode cX5_number 25 = .ok (.aload_n 0, 1) := by decide +kernel
theorem dX5_number_26 : decode cX5_number 26 = .ok (.getfield 40, 3) := by decide +kernel
theorem dX5_number_29 : decode cX5_number 29 = .ok (.istore_n 2, 1) := by decide +kernel
theorem dX5_number_30 : decode cX5_number 30 = .ok (.iload_n 2, 1) := by decide +kernel
theorem dX5_number_31 : decode cX5_number 31 = .ok (.aload_n 0, 1) := by decide +kernel
theorem dX5_number_32 : decode cX5_number 32 = .ok (.getfield 43, 3) := by decide +kernel
theorem dX5_number_35 : decode cX5_number 35 = .ok (.if_icmp .ge 24, 3) := by decide +kernel
theorem dX5_number_38 : decode cX5_number 38 = .ok (.bipush 10, 2) := by decide +kernel
theorem dX5_number_40 : decode cX5_number 40 = .ok (.iload_n 1, 1) := by decide +kernel
theorem dX5_number_41 : decode cX5_number 41 = .ok (.imul, 1) := by decide +kernel
theorem dX5_number_42 : decode cX5_number 42 = .ok (.aload_n 0, 1) := by decide +kernel
theorem dX5_number_43 : decode cX5_number 43 = .ok (.getfield 9, 3) := by decide +kernel
theorem dX5_number_46 : decode cX5_number 46 = .ok (.iload_n 2, 1) := by decide +kernel
theorem dX5_number_47 : decode cX5_number 47 = .ok (.iaload, 1) := by decide +kernel
theorem dX5_number_48 : decode cX5_number 48 = .ok (.iadd, 1) := by decide +kernel
theorem dX5_number_49 : decode cX5_number 49 = .ok (.bipush 48, 2) := by decide +kernel
theorem dX5_number_51 : decode cX5_number 51 = .ok (.isub, 1) := by decide +kernel
theorem dX5_number_52 : decode cX5_number 52 = .ok (.istore_n 1, 1) := by decide +kernel
theorem dX5_number_53 : decode cX5_number 53 = .ok (.iinc 2 1, 3) := by decide +kernel
theorem dX5_number_56 : decode cX5_number 56 = .ok (.goto (-26), 3) := by decide +kernel
theorem dX5_number_59 : decode cX5_number 59 = .ok (.iload_n 1, 1) := by decide +kernel
theorem dX5_number_60 : decode cX5_number 60 = .ok (.ireturn, 1) := by decide +kernel
theorem dX5_store_0 : decode cX5_store 0 = .ok (.aload_n 0, 1) := by decide +kernel
theorem dX5_store_1 : decode cX5_store 1 = .ok (.getfield 28, 3) := by decide +kernel
theorem dX5_store_4 : decode cX5_store 4 = .ok (.aload_n 0, 1) := by decide +kernel
theorem dX5_store_5 : decode cX5_store 5 = .ok (.getfield 25, 3) := by decide +kernel
theorem dX5_store_8 : decode cX5_store 8 = .ok (.arraylength, 1) := by decide +kernel
theorem dX5_store_9 : decode cX5_store 9 = .ok (.if_icmp .ge 23, 3) := by decide +kernel
theorem dX5_store_12 : decode cX5_store 12 = .ok (.aload_n 0, 1) := by decide +kernel
theorem dX5_store_13 : decode cX5_store 13 = .ok (.getfield 25, 3) := by decide +kernel
theorem dX5_store_16 : decode cX5_store 16 = .ok (.aload_n 0, 1) := by decide +kernel
theorem dX5_store_17 : decode cX5_store 17 = .ok (.getfield 28, 3) := by decide +kernel
theorem dX5_store_20 : decode cX5_store 20 = .ok (.iload_n 1, 1) := by decide +kernel
theorem dX5_store_21 : decode cX5_store 21 = .ok (.iastore, 1) := by decide +kernel
theorem dX5_store_22 : decode cX5_store 22 = .ok (.aload_n 0, 1) := by decide +kernel
theorem dX5_store_23 : decode cX5_store 23 = .ok (.dup, 1) := by decide +kernel
theorem dX5_store_24 : decode cX5_store 24 = .ok (.getfield 28, 3) := by decide +kernel
theorem dX5_store_27 : decode cX5_store 27 = .ok (.iconst 1, 1) := by decide +kernel
theorem dX5_store_28 : decode cX5_store 28 = .ok (.iadd, 1) := by decide +kernel
theorem dX5_store_29 : decode cX5_store 29 = .ok (.putfield 28, 3) := by decide +kernel
theorem dX5_store_32 : decode cX5_store 32 = .ok (.return_, 1) := by decide +kernel
theorem dX5_tell_0 : decode cX5_tell 0 = .ok (.iconst 0, 1) := by decide +kernel
theorem dX5_tell_1 : decode cX5_tell 1 = .ok (.istore_n 2, 1) := by decide +kernel
theorem dX5_tell_2 : decode cX5_tell 2 = .ok (.iload_n 2, 1) := by decide +kernel
theorem dX5_tell_3 : decode cX5_tell 3 = .ok (.aload_n 0, 1) := by decide +kernel
theorem dX5_tell_4 : decode cX5_tell 4 = .ok (.getfield 19, 3) := by decide +kernel
theorem dX5_tell_7 : decode cX5_tell 7 = .ok (.if_icmp .ge 96, 3) := by decide +kernel
theorem dX5_tell_10 : decode cX5_tell 10 = .ok (.iload_n 2, 1) := by decide +kernel
theorem dX5_tell_11 : decode cX5_tell 11 = .ok (.iconst 5, 1) := by decide +kernel
theorem dX5_tell_12 : decode cX5_tell 12 = .ok (.imul, 1) := by decide +kernel
theorem dX5_tell_13 : decode cX5_tell 13 = .ok (.istore_n 3, 1) := by decide +kernel
theorem dX5_tell_14 : decode cX5_tell 14 = .ok (.aload_n 0, 1) := by decide +kernel
theorem dX5_tell_15 : decode cX5_tell 15 = .ok (.getfield 22, 3) := by decide +kernel
theorem dX5_tell_18 : decode cX5_tell 18 = .ok (.iload_n 2, 1) := by decide +kernel
theorem dX5_tell_19 : decode cX5_tell 19 = .ok (.iaload, 1) := by decide +kernel
theorem dX5_tell_20 : decode cX5_tell 20 = .ok (.iconst 3, 1) := by decide +kernel
theorem dX5_tell_21 : decode cX5_tell 21 = .ok (.if_icmp .ne 42, 3) := by decide +kernel
theorem dX5_tell_24 : decode cX5_tell 24 = .ok (.aload_n 0, 1) := by decide +kernel
theorem dX5_tell_25 : decode cX5_tell 25 = .ok (.getfield 31, 3) := by decide +kernel
theorem dX5_tell_28 : decode cX5_tell 28 = .ok (.iload_n 2, 1) := by decide +kernel
theorem dX5_tell_29 : decode cX5_tell 29 = .ok (.iaload, 1) := by decide +kernel
theorem dX5_tell_30 : decode cX5_tell 30 = .ok (.ifCond .ne 7, 3) := by decide +kernel
theorem dX5_tell_33 : decode cX5_tell 33 = .ok (.iconst 5, 1) := by decide +kernel
theorem dX5_tell_34 : decode cX5_tell 34 = .ok (.goto 4, 3) := by decide +kernel
theorem dX5_tell_37 : decode cX5_tell 37 = .ok (.iconst 1, 1) := by decide +kernel
theorem dX5_tell_38 : decode cX5_tell 38 = .ok (.istore 4, 2) := by decide +kernel
theorem dX5_tell_40 : decode cX5_tell 40 = .ok (.aload_n 0, 1) := by decide +kernel
theorem dX5_tell_41 : decode cX5_tell 41 = .ok (.getfield 25, 3) := by decide +kernel
theorem dX5_tell_44 : decode cX5_tell 44 = .ok (.iload_n 3, 1) := by decide +kernel
theorem dX5_tell_45 : decode cX5_tell 45 = .ok (.aload_n 1, 1) := by decide +kernel
theorem dX5_tell_46 : decode cX5_tell 46 = .ok (.getfield 155, 3) := by decide +kernel
theorem dX5_tell_49 : decode cX5_tell 49 = .ok (.aload_n 0, 1) := by decide +kernel
theorem dX5_tell_50 : decode cX5_tell 50 = .ok (.getfield 31, 3) := by decide +kernel
theorem dX5_tell_53 : decode cX5_tell 53 = .ok (.iload_n 2, 1) := by decide +kernel
theorem dX5_tell_54 : decode cX5_tell 54 = .ok (.iaload, 1) := by decide +kernel
theorem dX5_tell_55 : decode cX5_tell 55 = .ok (.iload 4, 2) := by decide +kernel
theorem dX5_tell_57 : decode cX5_tell 57 = .ok (.invokestatic 156, 3) := by decide +kernel
theorem dX5_tell_60 : decode cX5_tell 60 = .ok (.goto 37, 3) := by decide +kernel
theorem dX5_tell_63 : decode cX5_tell 63 = .ok (.aload_n 0, 1) := by decide +kernel
theorem dX5_tell_64 : decode cX5_tell 64 = .ok (.getfield 25, 3) := by decide +kernel
theorem dX5_tell_67 : decode cX5_tell 67 = .ok (.iload_n 3, 1) := by decide +kernel
theorem dX5_tell_68 : decode cX5_tell 68 = .ok (.iaload, 1) := by decide +kernel
theorem dX5_tell_69 : decode cX5_tell 69 = .ok (.invokestatic 141, 3) := by decide +kernel
theorem dX5_tell_72 : decode cX5_tell 72 = .ok (.ifCond .eq 25, 3) := by decide +kernel
theorem dX5_tell_75 : decode cX5_tell 75 = .ok (.aload_n 0, 1) := by decide +kernel
theorem dX5_tell_76 : decode cX5_tell 76 = .ok (.aload_n 1, 1) := by decide +kernel
theorem dX5_tell_77 : decode cX5_tell 77 = .ok (.getfield 46, 3) := by decide +kernel
theorem dX5_tell_80 : decode cX5_tell 80 = .ok (.aload_n 0, 1) := by decide +kernel
theorem dX5_tell_81 : decode cX5_tell 81 = .ok (.getfield 25, 3) := by decide +kernel
theorem dX5_tell_84 : decode cX5_tell 84 = .ok (.iload_n 3, 1) := by decide +kernel
theorem dX5_tell_85 : decode cX5_tell 85 = .ok (.iaload, 1) := by decide +kernel
theorem dX5_tell_86 : decode cX5_tell 86 = .ok (.aaload, 1) := by decide +kernel
theorem dX5_tell_87 : decode cX5_tell 87 = .ok (.aload_n 0, 1) := by decide +kernel
theorem dX5_tell_88 : decode cX5_tell 88 = .ok (.getfield 22, 3) := by decide +kernel
theorem dX5_tell_91 : decode cX5_tell 91 = .ok (.iload_n 2, 1) := by decide +kernel
theorem dX5_tell_92 : decode cX5_tell 92 = .ok (.iaload, 1) := by decide +kernel
theorem dX5_tell_93 : decode cX5_tell 93 = .ok (.iload_n 3, 1) := by decide +kernel
theorem dX5_tell_94 : decode cX5_tell 94 = .ok (.invokevirtual 162, 3) := by decide +kernel
theorem dX5_tell_97 : decode cX5_tell 97 = .ok (.iinc 2 1, 3) := by decide +kernel
theorem dX5_tell_100 : decode cX5_tell 100 = .ok (.goto (-98), 3) := by decide +kernel
theorem dX5_tell_103 : decode cX5_tell 103 = .ok (.return_, 1) := by decide +kernel
theorem dX5_tellThing_0 : decode cX5_tellThing 0 = .ok (.iload_n 2, 1) := by decide +kernel
theorem dX5_tellThing_1 : decode cX5_tellThing 1 = .ok (.ifCond .ne 26, 3) := by decide +kernel
theorem dX5_tellThing_4 : decode cX5_tellThing 4 = .ok (.aload_n 1, 1) := by decide +kernel
theorem dX5_tellThing_5 : decode cX5_tellThing 5 = .ok (.aload_n 0, 1) := by decide +kernel
theorem dX5_tellThing_6 : decode cX5_tellThing 6 = .ok (.getfield 25, 3) := by decide +kernel
theorem dX5_tellThing_9 : decode cX5_tellThing 9 = .ok (.iload_n 3, 1) := by decide +kernel
theorem dX5_tellThing_10 : decode cX5_tellThing 10 = .ok (.iconst 1, 1) := by decide +kernel
theorem dX5_tellThing_11 : decode cX5_tellThing 11 = .ok (.iadd, 1) := by decide +kernel
theorem dX5_tellThing_12 : decode cX5_tellThing 12 = .ok (.iaload, 1) := by decide +kernel
theorem dX5_tellThing_13 : decode cX5_tellThing 13 = .ok (.aload_n 0, 1) := by decide +kernel
theorem dX5_tellThing_14 : decode cX5_tellThing 14 = .ok (.getfield 25, 3) := by decide +kernel
theorem dX5_tellThing_17 : decode cX5_tellThing 17 = .ok (.iload_n 3, 1) := by decide +kernel
theorem dX5_tellThing_18 : decode cX5_tellThing 18 = .ok (.iconst 2, 1) := by decide +kernel
theorem dX5_tellThing_19 : decode cX5_tellThing 19 = .ok (.iadd, 1) := by decide +kernel
theorem dX5_tellThing_20 : decode cX5_tellThing 20 = .ok (.iaload, 1) := by decide +kernel
theorem dX5_tellThing_21 : decode cX5_tellThing 21 = .ok (.invokevirtual 166, 3) := by decide +kernel
theorem dX5_tellThing_24 : decode cX5_tellThing 24 = .ok (.goto 35, 3) := by decide +kernel
theorem dX5_tellThing_27 : decode cX5_tellThing 27 = .ok (.iload_n 2, 1) := by decide +kernel
theorem dX5_tellThing_28 : decode cX5_tellThing 28 = .ok (.iconst 1, 1) := by decide +kernel
theorem dX5_tellThing_29 : decode cX5_tellThing 29 = .ok (.if_icmp .ne 26, 3) := by decide +kernel
theorem dX5_tellThing_32 : decode cX5_tellThing 32 = .ok (.aload_n 1, 1) := by decide +kernel
theorem dX5_tellThing_33 : decode cX5_tellThing 33 = .ok (.aload_n 0, 1) := by decide +kernel
theorem dX5_tellThing_34 : decode cX5_tellThing 34 = .ok (.getfield 25, 3) := by decide +kernel
theorem dX5_tellThing_37 : decode cX5_tellThing 37 = .ok (.iload_n 3, 1) := by decide +kernel
theorem dX5_tellThing_38 : decode cX5_tellThing 38 = .ok (.iconst 1, 1) := by decide +kernel
theorem dX5_tellThing_39 : decode cX5_tellThing 39 = .ok (.iadd, 1) := by decide +kernel
theorem dX5_tellThing_40 : decode cX5_tellThing 40 = .ok (.iaload, 1) := by decide +kernel
theorem dX5_tellThing_41 : decode cX5_tellThing 41 = .ok (.aload_n 0, 1) := by decide +kernel
theorem dX5_tellThing_42 : decode cX5_tellThing 42 = .ok (.getfield 25, 3) := by decide +kernel
theorem dX5_tellThing_45 : decode cX5_tellThing 45 = .ok (.iload_n 3, 1) := by decide +kernel
theorem dX5_tellThing_46 : decode cX5_tellThing 46 = .ok (.iconst 2, 1) := by decide +kernel
theorem dX5_tellThing_47 : decode cX5_tellThing 47 = .ok (.iadd, 1) := by decide +kernel
theorem dX5_tellThing_48 : decode cX5_tellThing 48 = .ok (.iaload, 1) := by decide +kernel
theorem dX5_tellThing_49 : decode cX5_tellThing 49 = .ok (.invokevirtual 170, 3) := by decide +kernel
theorem dX5_tellThing_52 : decode cX5_tellThing 52 = .ok (.goto 7, 3) := by decide +kernel
theorem dX5_tellThing_55 : decode cX5_tellThing 55 = .ok (.aload_n 1, 1) := by decide +kernel
theorem dX5_tellThing_56 : decode cX5_tellThing 56 = .ok (.invokevirtual 173, 3) := by decide +kernel
theorem dX5_tellThing_59 : decode cX5_tellThing 59 = .ok (.return_, 1) := by decide +kernel
theorem dX6_init_0 : decode cX6_init 0 = .ok (.aload_n 0, 1) := by decide +kernel
theorem dX6_init_1 : decode cX6_init 1 = .ok (.invokespecial 3, 3) := by decide +kernel
theorem dX6_init_4 : decode cX6_init 4 = .ok (.aload_n 0, 1) := by decide +kernel
theorem dX6_init_5 : decode cX6_init 5 = .ok (.iconst 0, 1) := by decide +kernel
theorem dX6_init_6 : decode cX6_init 6 = .ok (.putfield 9, 3) := by decide +kernel
theorem dX6_init_9 : decode cX6_init 9 = .ok (.aload_n 0, 1) := by decide +kernel
theorem dX6_init_10 : decode cX6_init 10 = .ok (.iconst 0, 1) := by decide +kernel
theorem dX6_init_11 : decode cX6_init 11 = .ok (.putfield 15, 3) := by decide +kernel
theorem dX6_init_14 : decode cX6_init 14 = .ok (.aload_n 0, 1) := by decide +kernel
theorem dX6_init_15 : decode cX6_init 15 = .ok (.iconst 0, 1) := by decide +kernel
theorem dX6_init_16 : decode cX6_init 16 = .ok (.putfield 18, 3) := by decide +kernel
theorem dX6_init_19 : decode cX6_init 19 = .ok (.aload_n 0, 1) := by decide +kernel
theorem dX6_init_20 : decode cX6_init 20 = .ok (.iconst (-1), 1) := by decide +kernel
theorem dX6_init_21 : decode cX6_init 21 = .ok (.putfield 21, 3) := by decide +kernel
theorem dX6_init_24 : decode cX6_init 24 = .ok (.aload_n 0, 1) := by decide +kernel
theorem dX6_init_25 : decode cX6_init 25 = .ok (.iconst 0, 1) := by decide +kernel
theorem dX6_init_26 : decode cX6_init 26 = .ok (.putfield 24, 3) := by decide +kernel
theorem dX6_init_29 : decode cX6_init 29 = .ok (.aload_n 0, 1) := by decide +kernel
theorem dX6_init_30 : decode cX6_init 30 = .ok (.iconst 4, 1) := by decide +kernel
theorem dX6_init_31 : decode cX6_init 31 = .ok (.newarray .int, 2) := by decide +kernel
theorem dX6_init_33 : decode cX6_init 33 = .ok (.putfield 27, 3) := by decide +kernel
theorem dX6_init_36 : decode cX6_init 36 = .ok (.aload_n 0, 1) := by decide +kernel
theorem dX6_init_37 : decode cX6_init 37 = .ok (.iconst 4, 1) := by decide +kernel
theorem dX6_init_38 : decode cX6_init 38 = .ok (.newarray .int, 2) := by decide +kernel
theorem dX6_init_40 : decode cX6_init 40 = .ok (.putfield 31, 3) := by decide +kernel
theorem dX6_init_43 : decode cX6_init 43 = .ok (.return_, 1) := by decide +kernel
theorem dX6_become_0 : decode cX6_become 0 = .ok (.aload_n 0, 1) := by decide +kernel
theorem dX6_become_1 : decode cX6_become 1 = .ok (.iload_n 1, 1) := by decide +kernel
theorem dX6_become_2 : decode cX6_become 2 = .ok (.putfield 9, 3) := by decide +kernel
theorem dX6_become_5 : decode cX6_become 5 = .ok (.aload_n 0, 1) := by decide +kernel
theorem dX6_become_6 : decode cX6_become 6 = .ok (.iload_n 2, 1) := by decide +kernel
theorem dX6_become_7 : decode cX6_become 7 = .ok (.putfield 15, 3) := by decide +kernel
theorem dX6_become_10 : decode cX6_become 10 = .ok (.return_, 1) := by decide +kernel
theorem dX6_addLump_0 : decode cX6_addLump 0 = .ok (.aload_n 0, 1) := by decide +kernel
theorem dX6_addLump_1 : decode cX6_addLump 1 = .ok (.getfield 18, 3) := by decide +kernel
theorem dX6_addLump_4 : decode cX6_addLump 4 = .ok (.iconst 4, 1) := by decide +kernel
theorem dX6_addLump_5 : decode cX6_addLump 5 = .ok (.if_icmp .lt 4, 3) := by decide +kernel
theorem dX6_addLump_8 : decode cX6_addLump 8 = .ok (.return_, 1) := by decide +kernel
theorem dX6_addLump_9 : decode cX6_addLump 9 = .ok (.aload_n 0, 1) := by decide +kernel
theorem dX6_addLump_10 : decode cX6_addLump 10 = .ok (.getfield 27, 3) := by decide +kernel
theorem dX6_addLump_13 : decode cX6_addLump 13 = .ok (.aload_n 0, 1) := by decide +kernel
theorem dX6_addLump_14 : decode cX6_addLump 14 = .ok (.getfield 18, 3) := by decide +kernel
theorem dX6_addLump_17 : decode cX6_addLump 17 = .ok (.iload_n 1, 1) := by decide +kernel
theorem dX6_addLump_18 : decode cX6_addLump 18 = .ok (.iastore, 1) := by decide +kernel
theorem dX6_addLump_19 : decode cX6_addLump 19 = .ok (.aload_n 0, 1) := by decide +kernel
theorem dX6_addLump_20 : decode cX6_addLump 20 = .ok (.getfield 31, 3) := by decide +kernel
theorem dX6_addLump_23 : decode cX6_addLump 23 = .ok (.aload_n 0, 1) := by decide +kernel
theorem dX6_addLump_24 : decode cX6_addLump 24 = .ok (.getfield 18, 3) := by decide +kernel
theorem dX6_addLump_27 : decode cX6_addLump 27 = .ok (.iload_n 2, 1) := by decide +kernel
theorem dX6_addLump_28 : decode cX6_addLump 28 = .ok (.iastore, 1) := by decide +kernel
theorem dX6_addLump_29 : decode cX6_addLump 29 = .ok (.aload_n 0, 1) := by decide +kernel
theorem dX6_addLump_30 : decode cX6_addLump 30 = .ok (.dup, 1) := by decide +kernel
theorem dX6_addLump_31 : decode cX6_addLump 31 = .ok (.getfield 18, 3) := by decide +kernel
theorem dX6_addLump_34 : decode cX6_addLump 34 = .ok (.iconst 1, 1) := by decide +kernel
theorem dX6_addLump_35 : decode cX6_addLump 35 = .ok (.iadd, 1) := by decide +kernel
theorem dX6_addLump_36 : decode cX6_addLump 36 = .ok (.putfield 18, 3) := by decide +kernel
theorem dX6_addLump_39 : decode cX6_addLump 39 = .ok (.aload_n 0, 1) := by decide +kernel
theorem dX6_addLump_40 : decode cX6_addLump 40 = .ok (.invokevirtual 34, 3) := by decide +kernel
theorem dX6_addLump_43 : decode cX6_addLump 43 = .ok (.return_, 1) := by decide +kernel
theorem dX6_strip_0 : decode cX6_strip 0 = .ok (.aload_n 0, 1) := by decide +kernel
theorem dX6_strip_1 : decode cX6_strip 1 = .ok (.iconst 0, 1) := by decide +kernel
theorem dX6_strip_2 : decode cX6_strip 2 = .ok (.putfield 18, 3) := by decide +kernel
theorem dX6_strip_5 : decode cX6_strip 5 = .ok (.aload_n 0, 1) := by decide +kernel
theorem dX6_strip_6 : decode cX6_strip 6 = .ok (.invokevirtual 34, 3) := by decide +kernel
theorem dX6_strip_9 : decode cX6_strip 9 = .ok (.return_, 1) := by decide +kernel
theorem dX6_measure_0 : decode cX6_measure 0 = .ok (.iconst 0, 1) := by decide +kernel
theorem dX6_measure_1 : decode cX6_measure 1 = .ok (.istore_n 1, 1) := by decide +kernel
theorem dX6_measure_2 : decode cX6_measure 2 = .ok (.iconst 0, 1) := by decide +kernel
theorem dX6_measure_3 : decode cX6_measure 3 = .ok (.istore_n 2, 1) := by decide +kernel
theorem dX6_measure_4 : decode cX6_measure 4 = .ok (.aload_n 0, 1) := by decide +kernel
theorem dX6_measure_5 : decode cX6_measure 5 = .ok (.iconst 0, 1) := by decide +kernel
theorem dX6_measure_6 : decode cX6_measure 6 = .ok (.putfield 24, 3) := by decide +kernel
theorem dX6_measure_9 : decode cX6_measure 9 = .ok (.iconst 0, 1) := by decide +kernel
theorem dX6_measure_10 : decode cX6_measure 10 = .ok (.istore_n 3, 1) := by decide +kernel
theorem dX6_measure_11 : decode cX6_measure 11 = .ok (.iload_n 3, 1) := by decide +kernel
theorem dX6_measure_12 : decode cX6_measure 12 = .ok (.aload_n 0, 1) := by decide +kernel
theorem dX6_measure_13 : decode cX6_measure 13 = .ok (.getfield 18, 3) := by decide +kernel
theorem dX6_measure_16 : decode cX6_measure 16 = .ok (.if_icmp .ge 65, 3) := by decide +kernel
theorem dX6_measure_19 : decode cX6_measure 19 = .ok (.iload_n 1, 1) := by decide +kernel
theorem dX6_measure_20 : decode cX6_measure 20 = .ok (.aload_n 0, 1) := by decide +kernel
theorem dX6_measure_21 : decode cX6_measure 21 = .ok (.getfield 27, 3) := by decide +kernel
theorem dX6_measure_24 : decode cX6_measure 24 = .ok (.iload_n 3, 1) := by decide +kernel
theorem dX6_measure_25 : decode cX6_measure 25 = .ok (.iaload, 1) := by decide +kernel
theorem dX6_measure_26 : decode cX6_measure 26 = .ok (.aload_n 0, 1) := by decide +kernel
theorem dX6_measure_27 : decode cX6_measure 27 = .ok (.getfield 27, 3) := by decide +kernel
theorem dX6_measure_30 : decode cX6_measure 30 = .ok (.iload_n 3, 1) := by decide +kernel
theorem dX6_measure_31 : decode cX6_measure 31 = .ok (.iaload, 1) := by decide +kernel
theorem dX6_measure_32 : decode cX6_measure 32 = .ok (.imul, 1) := by decide +kernel
theorem dX6_measure_33 : decode cX6_measure 33 = .ok (.aload_n 0, 1) := by decide +kernel
theorem dX6_measure_34 : decode cX6_measure 34 = .ok (.getfield 31, 3) := by decide +kernel
theorem dX6_measure_37 : decode cX6_measure 37 = .ok (.iload_n 3, 1) := by decide +kernel
theorem dX6_measure_38 : decode cX6_measure 38 = .ok (.iaload, 1) := by decide +kernel
theorem dX6_measure_39 : decode cX6_measure 39 = .ok (.imul, 1) := by decide +kernel
theorem dX6_measure_40 : decode cX6_measure 40 = .ok (.iadd, 1) := by decide +kernel
theorem dX6_measure_41 : decode cX6_measure 41 = .ok (.istore_n 1, 1) := by decide +kernel
theorem dX6_measure_42 : decode cX6_measure 42 = .ok (.iload_n 2, 1) := by decide +kernel
theorem dX6_measure_43 : decode cX6_measure 43 = .ok (.aload_n 0, 1) := by decide +kernel
theorem dX6_measure_44 : decode cX6_measure 44 = .ok (.getfield 27, 3) := by decide +kernel
theorem dX6_measure_47 : decode cX6_measure 47 = .ok (.iload_n 3, 1) := by decide +kernel
theorem dX6_measure_48 : decode cX6_measure 48 = .ok (.iaload, 1) := by decide +kernel
theorem dX6_measure_49 : decode cX6_measure 49 = .ok (.aload_n 0, 1) := by decide +kernel
theorem dX6_measure_50 : decode cX6_measure 50 = .ok (.getfield 31, 3) := by decide +kernel
theorem dX6_measure_53 : decode cX6_measure 53 = .ok (.iload_n 3, 1) := by decide +kernel
theorem dX6_measure_54 : decode cX6_measure 54 = .ok (.iaload, 1) := by decide +kernel
theorem dX6_measure_55 : decode cX6_measure 55 = .ok (.imul, 1) := by decide +kernel
theorem dX6_measure_56 : decode cX6_measure 56 = .ok (.iadd, 1) := by decide +kernel
theorem dX6_measure_57 : decode cX6_measure 57 = .ok (.istore_n 2, 1) := by decide +kernel
theorem dX6_measure_58 : decode cX6_measure 58 = .ok (.aload_n 0, 1) := by decide +kernel
theorem dX6_measure_59 : decode cX6_measure 59 = .ok (.aload_n 0, 1) := by decide +kernel
theorem dX6_measure_60 : decode cX6_measure 60 = .ok (.getfield 24, 3) := by decide +kernel
theorem dX6_measure_63 : decode cX6_measure 63 = .ok (.aload_n 0, 1) := by decide +kernel
theorem dX6_measure_64 : decode cX6_measure 64 = .ok (.getfield 27, 3) := by decide +kernel
theorem dX6_measure_67 : decode cX6_measure 67 = .ok (.iload_n 3, 1) := by decide +kernel
theorem dX6_measure_68 : decode cX6_measure 68 = .ok (.iaload, 1) := by decide +kernel
theorem dX6_measure_69 : decode cX6_measure 69 = .ok (.invokestatic 37, 3) := by decide +kernel
theorem dX6_measure_72 : decode cX6_measure 72 = .ok (.putfield 24, 3) := by decide +kernel
theorem dX6_measure_75 : decode cX6_measure 75 = .ok (.iinc 3 1, 3) := by decide +kernel
theorem dX6_measure_78 : decode cX6_measure 78 = .ok (.goto (-67), 3) := by decide +kernel
theorem dX6_measure_81 : decode cX6_measure 81 = .ok (.aload_n 0, 1) := by decide +kernel
theorem dX6_measure_82 : decode cX6_measure 82 = .ok (.iload_n 2, 1) := by decide +kernel
theorem dX6_measure_83 : decode cX6_measure 83 = .ok (.ifCond .le 9, 3) := by decide +kernel
theorem dX6_measure_86 : decode cX6_measure 86 = .ok (.iload_n 1, 1) := by decide +kernel
theorem dX6_measure_87 : decode cX6_measure 87 = .ok (.iload_n 2, 1) := by decide +kernel
theorem dX6_measure_88 : decode cX6_measure 88 = .ok (.idiv, 1) := by decide +kernel
theorem dX6_measure_89 : decode cX6_measure 89 = .ok (.goto 4, 3) := by decide +kernel
theorem dX6_measure_92 : decode cX6_measure 92 = .ok (.iconst (-1), 1) := by decide +kernel
theorem dX6_measure_93 : decode cX6_measure 93 = .ok (.putfield 21, 3) := by decide +kernel
theorem dX6_measure_96 : decode cX6_measure 96 = .ok (.return_, 1) := by decide +kernel
theorem dX6_leaning_0 : decode cX6_leaning 0 = .ok (.aload_n 0, 1) := by decide +kernel
theorem dX6_leaning_1 : decode cX6_leaning 1 = .ok (.getfield 21, 3) := by decide +kernel
theorem dX6_leaning_4 : decode cX6_leaning 4 = .ok (.ifCond .le 14, 3) := by decide +kernel
theorem dX6_leaning_7 : decode cX6_leaning 7 = .ok (.iload_n 1, 1) := by decide +kernel
theorem dX6_leaning_8 : decode cX6_leaning 8 = .ok (.iload_n 3, 1) := by decide +kernel
theorem dX6_leaning_9 : decode cX6_leaning 9 = .ok (.imul, 1) := by decide +kernel
theorem dX6_leaning_10 : decode cX6_leaning 10 = .ok (.aload_n 0, 1) := by decide +kernel
theorem dX6_leaning_11 : decode cX6_leaning 11 = .ok (.getfield 21, 3) := by decide +kernel
theorem dX6_leaning_14 : decode cX6_leaning 14 = .ok (.idiv, 1) := by decide +kernel
theorem dX6_leaning_15 : decode cX6_leaning 15 = .ok (.goto 4, 3) := by decide +kernel
theorem dX6_leaning_18 : decode cX6_leaning 18 = .ok (.iconst 0, 1) := by decide +kernel
theorem dX6_leaning_19 : decode cX6_leaning 19 = .ok (.istore 4, 2) := by decide +kernel
theorem dX6_leaning_21 : decode cX6_leaning 21 = .ok (.aload_n 0, 1) := by decide +kernel
theorem dX6_leaning_22 : decode cX6_leaning 22 = .ok (.getfield 9, 3) := by decide +kernel
theorem dX6_leaning_25 : decode cX6_leaning 25 = .ok (.iconst 1, 1) := by decide +kernel
theorem dX6_leaning_26 : decode cX6_leaning 26 = .ok (.if_icmp .ne 16, 3) := by decide +kernel
theorem dX6_leaning_29 : decode cX6_leaning 29 = .ok (.iload 4, 2) := by decide +kernel
theorem dX6_leaning_31 : decode cX6_leaning 31 = .ok (.iload_n 1, 1) := by decide +kernel
theorem dX6_leaning_32 : decode cX6_leaning 32 = .ok (.aload_n 0, 1) := by decide +kernel
theorem dX6_leaning_33 : decode cX6_leaning 33 = .ok (.getfield 15, 3) := by decide +kernel
theorem dX6_leaning_36 : decode cX6_leaning 36 = .ok (.imul, 1) := by decide +kernel
theorem dX6_leaning_37 : decode cX6_leaning 37 = .ok (.bipush 10, 2) := by decide +kernel
theorem dX6_leaning_39 : decode cX6_leaning 39 = .ok (.idiv, 1) := by decide +kernel
theorem dX6_leaning_40 : decode cX6_leaning 40 = .ok (.isub, 1) := by decide +kernel
theorem dX6_leaning_41 : decode cX6_leaning 41 = .ok (.ireturn, 1) := by decide +kernel
theorem dX6_leaning_42 : decode cX6_leaning 42 = .ok (.aload_n 0, 1) := by decide +kernel
theorem dX6_leaning_43 : decode cX6_leaning 43 = .ok (.getfield 9, 3) := by decide +kernel
theorem dX6_leaning_46 : decode cX6_leaning 46 = .ok (.iconst 2, 1) := by decide +kernel
theorem dX6_leaning_47 : decode cX6_leaning 47 = .ok (.if_icmp .ne 16, 3) := by decide +kernel
theorem dX6_leaning_50 : decode cX6_leaning 50 = .ok (.iload 4, 2) := by decide +kernel
theorem dX6_leaning_52 : decode cX6_leaning 52 = .ok (.iload_n 2, 1) := by decide +kernel
theorem dX6_leaning_53 : decode cX6_leaning 53 = .ok (.aload_n 0, 1) := by decide +kernel
theorem dX6_leaning_54 : decode cX6_leaning 54 = .ok (.getfield 15, 3) := by decide +kernel
theorem dX6_leaning_57 : decode cX6_leaning 57 = .ok (.imul, 1) := by decide +kernel
theorem dX6_leaning_58 : decode cX6_leaning 58 = .ok (.bipush 20, 2) := by decide +kernel
theorem dX6_leaning_60 : decode cX6_leaning 60 = .ok (.idiv, 1) := by decide +kernel
theorem dX6_leaning_61 : decode cX6_leaning 61 = .ok (.iadd, 1) := by decide +kernel
theorem dX6_leaning_62 : decode cX6_leaning 62 = .ok (.ireturn, 1) := by decide +kernel
theorem dX6_leaning_63 : decode cX6_leaning 63 = .ok (.iload 4, 2) := by decide +kernel
theorem dX6_leaning_65 : decode cX6_leaning 65 = .ok (.ireturn, 1) := by decide +kernel
theorem dX6_seenLater_0 : decode cX6_seenLater 0 = .ok (.aload_n 0, 1) := by decide +kernel
theorem dX6_seenLater_1 : decode cX6_seenLater 1 = .ok (.getfield 9, 3) := by decide +kernel
theorem dX6_seenLater_4 : decode cX6_seenLater 4 = .ok (.iconst 3, 1) := by decide +kernel
theorem dX6_seenLater_5 : decode cX6_seenLater 5 = .ok (.if_icmp .ne 10, 3) := by decide +kernel
theorem dX6_seenLater_8 : decode cX6_seenLater 8 = .ok (.aload_n 0, 1) := by decide +kernel
theorem dX6_seenLater_9 : decode cX6_seenLater 9 = .ok (.getfield 15, 3) := by decide +kernel
theorem dX6_seenLater_12 : decode cX6_seenLater 12 = .ok (.goto 4, 3) := by decide +kernel
theorem dX6_seenLater_15 : decode cX6_seenLater 15 = .ok (.iconst 0, 1) := by decide +kernel
theorem dX6_seenLater_16 : decode cX6_seenLater 16 = .ok (.ireturn, 1) := by decide +kernel
theorem dX7_init_0 : decode cX7_init 0 = .ok (.aload_n 0, 1) := by decide +kernel
theorem dX7_init_1 : decode cX7_init 1 = .ok (.invokespecial 3, 3) := by decide +kernel
theorem dX7_init_4 : decode cX7_init 4 = .ok (.aload_n 0, 1) := by decide +kernel
theorem dX7_init_5 : decode cX7_init 5 = .ok (.iconst 4, 1) := by decide +kernel
theorem dX7_init_6 : decode cX7_init 6 = .ok (.anewarray 9, 3) := by decide +kernel
theorem dX7_init_9 : decode cX7_init 9 = .ok (.putfield 11, 3) := by decide +kernel
theorem dX7_init_12 : decode cX7_init 12 = .ok (.aload_n 0, 1) := by decide +kernel
theorem dX7_init_13 : decode cX7_init 13 = .ok (.bipush 10, 2) := by decide +kernel
theorem dX7_init_15 : decode cX7_init 15 = .ok (.newarray .int, 2) := by decide +kernel
theorem dX7_init_17 : decode cX7_init 17 = .ok (.putfield 17, 3) := by decide +kernel
theorem dX7_init_20 : decode cX7_init 20 = .ok (.iconst 0, 1) := by decide +kernel
theorem dX7_init_21 : decode cX7_init 21 = .ok (.istore_n 1, 1) := by decide +kernel
theorem dX7_init_22 : decode cX7_init 22 = .ok (.iload_n 1, 1) := by decide +kernel
theorem dX7_init_23 : decode cX7_init 23 = .ok (.iconst 4, 1) := by decide +kernel
theorem dX7_init_24 : decode cX7_init 24 = .ok (.if_icmp .ge 22, 3) := by decide +kernel
theorem dX7_init_27 : decode cX7_init 27 = .ok (.aload_n 0, 1) := by decide +kernel
theorem dX7_init_28 : decode cX7_init 28 = .ok (.getfield 11, 3) := by decide +kernel
theorem dX7_init_31 : decode cX7_init 31 = .ok (.iload_n 1, 1) := by decide +kernel
theorem dX7_init_32 : decode cX7_init 32 = .ok (.new 9, 3) := by decide +kernel
theorem dX7_init_35 : decode cX7_init 35 = .ok (.dup, 1) := by decide +kernel
theorem dX7_init_36 : decode cX7_init 36 = .ok (.invokespecial 21, 3) := by decide +kernel
theorem dX7_init_39 : decode cX7_init 39 = .ok (.aastore, 1) := by decide +kernel
theorem dX7_init_40 : decode cX7_init 40 = .ok (.iinc 1 1, 3) := by decide +kernel
theorem dX7_init_43 : decode cX7_init 43 = .ok (.goto (-21), 3) := by decide +kernel
theorem dX7_init_46 : decode cX7_init 46 = .ok (.getstatic 22, 3) := by decide +kernel
theorem dX7_init_49 : decode cX7_init 49 = .ok (.iconst 0, 1) := by decide +kernel
theorem dX7_init_50 : decode cX7_init 50 = .ok (.aload_n 0, 1) := by decide +kernel
theorem dX7_init_51 : decode cX7_init 51 = .ok (.getfield 17, 3) := by decide +kernel
theorem dX7_init_54 : decode cX7_init 54 = .ok (.iconst 0, 1) := by decide +kernel
theorem dX7_init_55 : decode cX7_init 55 = .ok (.bipush 10, 2) := by decide +kernel
theorem dX7_init_57 : decode cX7_init 57 = .ok (.invokestatic 25, 3) := by decide +kernel
theorem dX7_init_60 : decode cX7_init 60 = .ok (.return_, 1) := by decide +kernel
theorem dX8_init_0 : decode cX8_init 0 = .ok (.aload_n 0, 1) := by decide +kernel
theorem dX8_init_1 : decode cX8_init 1 = .ok (.invokespecial 3, 3) := by decide +kernel
theorem dX8_init_4 : decode cX8_init 4 = .ok (.aload_n 0, 1) := by decide +kernel
theorem dX8_init_5 : decode cX8_init 5 = .ok (.new 9, 3) := by decide +kernel
theorem dX8_init_8 : decode cX8_init 8 = .ok (.dup, 1) := by decide +kernel
theorem dX8_init_9 : decode cX8_init 9 = .ok (.invokespecial 11, 3) := by decide +kernel
theorem dX8_init_12 : decode cX8_init 12 = .ok (.putfield 12, 3) := by decide +kernel
theorem dX8_init_15 : decode cX8_init 15 = .ok (.aload_n 0, 1) := by decide +kernel
theorem dX8_init_16 : decode cX8_init 16 = .ok (.new 16, 3) := by decide +kernel
theorem dX8_init_19 : decode cX8_init 19 = .ok (.dup, 1) := by decide +kernel
theorem dX8_init_20 : decode cX8_init 20 = .ok (.invokespecial 18, 3) := by decide +kernel
theorem dX8_init_23 : decode cX8_init 23 = .ok (.putfield 19, 3) := by decide +kernel
theorem dX8_init_26 : decode cX8_init 26 = .ok (.aload_n 0, 1) := by decide +kernel
theorem dX8_init_27 : decode cX8_init 27 = .ok (.new 23, 3) := by decide +kernel
theorem dX8_init_30 : decode cX8_init 30 = .ok (.dup, 1) := by decide +kernel
theorem dX8_init_31 : decode cX8_init 31 = .ok (.invokespecial 25, 3) := by decide +kernel
theorem dX8_init_34 : decode cX8_init 34 = .ok (.putfield 26, 3) := by decide +kernel
theorem dX8_init_37 : decode cX8_init 37 = .ok (.aload_n 0, 1) := by decide +kernel
theorem dX8_init_38 : decode cX8_init 38 = .ok (.iconst 2, 1) := by decide +kernel
theorem dX8_init_39 : decode cX8_init 39 = .ok (.anewarray 23, 3) := by decide +kernel
theorem dX8_init_42 : decode cX8_init 42 = .ok (.putfield 30, 3) := by decide +kernel
theorem dX8_init_45 : decode cX8_init 45 = .ok (.iconst 0, 1) := by decide +kernel
theorem dX8_init_46 : decode cX8_init 46 = .ok (.istore_n 1, 1) := by decide +kernel
theorem dX8_init_47 : decode cX8_init 47 = .ok (.iload_n 1, 1) := by decide +kernel
theorem dX8_init_48 : decode cX8_init 48 = .ok (.iconst 2, 1) := by decide +kernel
theorem dX8_init_49 : decode cX8_init 49 = .ok (.if_icmp .ge 22, 3) := by decide +kernel
theorem dX8_init_52 : decode cX8_init 52 = .ok (.aload_n 0, 1) := by decide +kernel
theorem dX8_init_53 : decode cX8_init 53 = .ok (.getfield 30, 3) := by decide +kernel
theorem dX8_init_56 : decode cX8_init 56 = .ok (.iload_n 1, 1) := by decide +kernel
theorem dX8_init_57 : decode cX8_init 57 = .ok (.new 23, 3) := by decide +kernel
theorem dX8_init_60 : decode cX8_init 60 = .ok (.dup, 1) := by decide +kernel
theorem dX8_init_61 : decode cX8_init 61 = .ok (.invokespecial 25, 3) := by decide +kernel
theorem dX8_init_64 : decode cX8_init 64 = .ok (.aastore, 1) := by decide +kernel
theorem dX8_init_65 : decode cX8_init 65 = .ok (.iinc 1 1, 3) := by decide +kernel
theorem dX8_init_68 : decode cX8_init 68 = .ok (.goto (-21), 3) := by decide +kernel
theorem dX8_init_71 : decode cX8_init 71 = .ok (.aload_n 0, 1) := by decide +kernel
theorem dX8_init_72 : decode cX8_init 72 = .ok (.new 34, 3) := by decide +kernel
theorem dX8_init_75 : decode cX8_init 75 = .ok (.dup, 1) := by decide +kernel
theorem dX8_init_76 : decode cX8_init 76 = .ok (.invokespecial 36, 3) := by decide +kernel
theorem dX8_init_79 : decode cX8_init 79 = .ok (.putfield 37, 3) := by decide +kernel
theorem dX8_init_82 : decode cX8_init 82 = .ok (.aload_n 0, 1) := by decide +kernel
theorem dX8_init_83 : decode cX8_init 83 = .ok (.new 41, 3) := by decide +kernel
theorem dX8_init_86 : decode cX8_init 86 = .ok (.dup, 1) := by decide +kernel
theorem dX8_init_87 : decode cX8_init 87 = .ok (.invokespecial 43, 3) := by decide +kernel
theorem dX8_init_90 : decode cX8_init 90 = .ok (.putfield 44, 3) := by decide +kernel
theorem dX8_init_93 : decode cX8_init 93 = .ok (.aload_n 0, 1) := by decide +kernel
theorem dX8_init_94 : decode cX8_init 94 = .ok (.new 48, 3) := by decide +kernel
theorem dX8_init_97 : decode cX8_init 97 = .ok (.dup, 1) := by decide +kernel
theorem dX8_init_98 : decode cX8_init 98 = .ok (.invokespecial 50, 3) := by decide +kernel
theorem dX8_init_101 : decode cX8_init 101 = .ok (.putfield 51, 3) := by decide +kernel
theorem dX8_init_104 : decode cX8_init 104 = .ok (.aload_n 0, 1) := by decide +kernel
theorem dX8_init_105 : decode cX8_init 105 = .ok (.new 55, 3) := by decide +kernel
theorem dX8_init_108 : decode cX8_init 108 = .ok (.dup, 1) := by decide +kernel
theorem dX8_init_109 : decode cX8_init 109 = .ok (.invokespecial 57, 3) := by decide +kernel
theorem dX8_init_112 : decode cX8_init 112 = .ok (.putfield 58, 3) := by decide +kernel
theorem dX8_init_115 : decode cX8_init 115 = .ok (.return_, 1) := by decide +kernel
theorem dX8_write_0 : decode cX8_write 0 = .ok (.iload_n 3, 1) := by decide +kernel
theorem dX8_write_1 : decode cX8_write 1 = .ok (.iconst 1, 1) := by decide +kernel
theorem dX8_write_2 : decode cX8_write 2 = .ok (.bipush 8, 2) := by decide +kernel
theorem dX8_write_4 : decode cX8_write 4 = .ok (.invokestatic 62, 3) := by decide +kernel
theorem dX8_write_7 : decode cX8_write 7 = .ok (.ifCond .ne 6, 3) := by decide +kernel
theorem dX8_write_10 : decode cX8_write 10 = .ok (.bipush (-3), 2) := by decide +kernel
theorem dX8_write_12 : decode cX8_write 12 = .ok (.ireturn, 1) := by decide +kernel
theorem dX8_write_13 : decode cX8_write 13 = .ok (.aload_n 0, 1) := by decide +kernel
theorem dX8_write_14 : decode cX8_write 14 = .ok (.getfield 19, 3) := by decide +kernel
theorem dX8_write_17 : decode cX8_write 17 = .ok (.getfield 66, 3) := by decide +kernel
theorem dX8_write_20 : decode cX8_write 20 = .ok (.iload_n 3, 1) := by decide +kernel
theorem dX8_write_21 : decode cX8_write 21 = .ok (.iadd, 1) := by decide +kernel
theorem dX8_write_22 : decode cX8_write 22 = .ok (.sipush 200, 3) := by decide +kernel
theorem dX8_write_25 : decode cX8_write 25 = .ok (.if_icmp .le 6, 3) := by decide +kernel
theorem dX8_write_28 : decode cX8_write 28 = .ok (.bipush (-5), 2) := by decide +kernel
theorem dX8_write_30 : decode cX8_write 30 = .ok (.ireturn, 1) := by decide +kernel
theorem dX8_write_31 : decode cX8_write 31 = .ok (.iconst 0, 1) := by decide +kernel
theorem dX8_write_32 : decode cX8_write 32 = .ok (.istore 4, 2) := by decide +kernel
theorem dX8_write_34 : decode cX8_write 34 = .ok (.iload 4, 2) := by decide +kernel
theorem dX8_write_36 : decode cX8_write 36 = .ok (.iload_n 3, 1) := by decide +kernel
theorem dX8_write_37 : decode cX8_write 37 = .ok (.if_icmp .ge 28, 3) := by decide +kernel
theorem dX8_write_40 : decode cX8_write 40 = .ok (.aload_n 0, 1) := by decide +kernel
theorem dX8_write_41 : decode cX8_write 41 = .ok (.getfield 19, 3) := by decide +kernel
theorem dX8_write_44 : decode cX8_write 44 = .ok (.lload_n 1, 1) := by decide +kernel
theorem dX8_write_45 : decode cX8_write 45 = .ok (.bipush 8, 2) := by decide +kernel
theorem dX8_write_47 : decode cX8_write 47 = .ok (.iload 4, 2) := by decide +kernel
theorem dX8_write_49 : decode cX8_write 49 = .ok (.imul, 1) := by decide +kernel
theorem dX8_write_50 : decode cX8_write 50 = .ok (.lshr, 1) := by decide +kernel
theorem dX8_write_51 : decode cX8_write 51 = .ok (.ldc2_w 70, 3) := by decide +kernel
theorem dX8_write_54 : decode cX8_write 54 = .ok (.land, 1) := by decide +kernel
theorem dX8_write_55 : decode cX8_write 55 = .ok (.l2i, 1) := by decide +kernel
theorem dX8_write_56 : decode cX8_write 56 = .ok (.invokevirtual 72, 3) := by decide +kernel
theorem dX8_write_59 : decode cX8_write 59 = .ok (.iinc 4 1, 3) := by decide +kernel
theorem dX8_write_62 : decode cX8_write 62 = .ok (.goto (-28), 3) := by decide +kernel
theorem dX8_write_65 : decode cX8_write 65 = .ok (.aload_n 0, 1) := by decide +kernel
theorem dX8_write_66 : decode cX8_write 66 = .ok (.getfield 19, 3) := by decide +kernel
theorem dX8_write_69 : decode cX8_write 69 = .ok (.getfield 66, 3) := by decide +kernel
theorem dX8_write_72 : decode cX8_write 72 = .ok (.ireturn, 1) := by decide +kernel
theorem dX8_erase_0 : decode cX8_erase 0 = .ok (.aload_n 0, 1) := by decide +kernel
theorem dX8_erase_1 : decode cX8_erase 1 = .ok (.getfield 19, 3) := by decide +kernel
theorem dX8_erase_4 : decode cX8_erase 4 = .ok (.getfield 66, 3) := by decide +kernel
theorem dX8_erase_7 : decode cX8_erase 7 = .ok (.istore_n 1, 1) := by decide +kernel
theorem dX8_erase_8 : decode cX8_erase 8 = .ok (.aload_n 0, 1) := by decide +kernel
theorem dX8_erase_9 : decode cX8_erase 9 = .ok (.getfield 19, 3) := by decide +kernel
theorem dX8_erase_12 : decode cX8_erase 12 = .ok (.iconst 0, 1) := by decide +kernel
theorem dX8_erase_13 : decode cX8_erase 13 = .ok (.putfield 66, 3) := by decide +kernel
theorem dX8_erase_16 : decode cX8_erase 16 = .ok (.iload_n 1, 1) := by decide +kernel
theorem dX8_erase_17 : decode cX8_erase 17 = .ok (.ireturn, 1) := by decide +kernel
theorem dX8_fault_0 : decode cX8_fault 0 = .ok (.aload_n 0, 1) := by decide +kernel
theorem dX8_fault_1 : decode cX8_fault 1 = .ok (.getfield 19, 3) := by decide +kernel
theorem dX8_fault_4 : decode cX8_fault 4 = .ok (.aload_n 0, 1) := by decide +kernel
theorem dX8_fault_5 : decode cX8_fault 5 = .ok (.getfield 12, 3) := by decide +kernel
theorem dX8_fault_8 : decode cX8_fault 8 = .ok (.invokevirtual 76, 3) := by decide +kernel
theorem dX8_fault_11 : decode cX8_fault 11 = .ok (.ireturn, 1) := by decide +kernel
theorem dX8_chin_0 : decode cX8_chin 0 = .ok (.aload_n 0, 1) := by decide +kernel
theorem dX8_chin_1 : decode cX8_chin 1 = .ok (.getfield 19, 3) := by decide +kernel
theorem dX8_chin_4 : decode cX8_chin 4 = .ok (.aload_n 0, 1) := by decide +kernel
theorem dX8_chin_5 : decode cX8_chin 5 = .ok (.getfield 12, 3) := by decide +kernel
theorem dX8_chin_8 : decode cX8_chin 8 = .ok (.invokevirtual 76, 3) := by decide +kernel
theorem dX8_chin_11 : decode cX8_chin 11 = .ok (.iconst (-1), 1) := by decide +kernel
theorem dX8_chin_12 : decode cX8_chin 12 = .ok (.if_icmp .eq 6, 3) := by decide +kernel
theorem dX8_chin_15 : decode cX8_chin 15 = .ok (.bipush (-4), 2) := by decide +kernel
theorem dX8_chin_17 : decode cX8_chin 17 = .ok (.ireturn, 1) := by decide +kernel
theorem dX8_chin_18 : decode cX8_chin 18 = .ok (.aload_n 0, 1) := by decide +kernel
theorem dX8_chin_19 : decode cX8_chin 19 = .ok (.getfield 19, 3) := by decide +kernel
theorem dX8_chin_22 : decode cX8_chin 22 = .ok (.aload_n 0, 1) := by decide +kernel
theorem dX8_chin_23 : decode cX8_chin 23 = .ok (.getfield 12, 3) := by decide +kernel
theorem dX8_chin_26 : decode cX8_chin 26 = .ok (.invokevirtual 80, 3) := by decide +kernel
theorem dX8_chin_29 : decode cX8_chin 29 = .ok (.aload_n 0, 1) := by decide +kernel
theorem dX8_chin_30 : decode cX8_chin 30 = .ok (.getfield 19, 3) := by decide +kernel
theorem dX8_chin_33 : decode cX8_chin 33 = .ok (.iconst 0, 1) := by decide +kernel
theorem dX8_chin_34 : decode cX8_chin 34 = .ok (.putfield 66, 3) := by decide +kernel
theorem dX8_chin_37 : decode cX8_chin 37 = .ok (.aload_n 0, 1) := by decide +kernel
theorem dX8_chin_38 : decode cX8_chin 38 = .ok (.getfield 19, 3) := by decide +kernel
theorem dX8_chin_41 : decode cX8_chin 41 = .ok (.getfield 84, 3) := by decide +kernel
theorem dX8_chin_44 : decode cX8_chin 44 = .ok (.ireturn, 1) := by decide +kernel
theorem dX8_thing_0 : decode cX8_thing 0 = .ok (.iload_n 1, 1) := by decide +kernel
theorem dX8_thing_1 : decode cX8_thing 1 = .ok (.invokestatic 87, 3) := by decide +kernel
theorem dX8_thing_4 : decode cX8_thing 4 = .ok (.ifCond .ne 6, 3) := by decide +kernel
theorem dX8_thing_7 : decode cX8_thing 7 = .ok (.bipush (-2), 2) := by decide +kernel
theorem dX8_thing_9 : decode cX8_thing 9 = .ok (.ireturn, 1) := by decide +kernel
theorem dX8_thing_10 : decode cX8_thing 10 = .ok (.aload_n 0, 1) := by decide +kernel
theorem dX8_thing_11 : decode cX8_thing 11 = .ok (.getfield 12, 3) := by decide +kernel
theorem dX8_thing_14 : decode cX8_thing 14 = .ok (.getfield 91, 3) := by decide +kernel
theorem dX8_thing_17 : decode cX8_thing 17 = .ok (.iload_n 1, 1) := by decide +kernel
theorem dX8_thing_18 : decode cX8_thing 18 = .ok (.aaload, 1) := by decide +kernel
theorem dX8_thing_19 : decode cX8_thing 19 = .ok (.astore_n 3, 1) := by decide +kernel
theorem dX8_thing_20 : decode cX8_thing 20 = .ok (.iload_n 2, 1) := by decide +kernel
theorem dX8_thing_21 : decode cX8_thing 21 = .ok (.tableswitch 60 0 4 #[35, 40, 45, 50, 55], 35) := by decide +kernel
theorem dX8_thing_56 : decode cX8_thing 56 = .ok (.aload_n 3, 1) := by decide +kernel
theorem dX8_thing_57 : decode cX8_thing 57 = .ok (.getfield 95, 3) := by decide +kernel
theorem dX8_thing_60 : decode cX8_thing 60 = .ok (.ireturn, 1) := by decide +kernel
theorem dX8_thing_61 : decode cX8_thing 61 = .ok (.aload_n 3, 1) := by decide +kernel
theorem dX8_thing_62 : decode cX8_thing 62 = .ok (.getfield 100, 3) := by decide +kernel
theorem dX8_thing_65 : decode cX8_thing 65 = .ok (.ireturn, 1) := by decide +kernel
theorem dX8_thing_66 : decode cX8_thing 66 = .ok (.aload_n 3, 1) := by decide +kernel
theorem dX8_thing_67 : decode cX8_thing 67 = .ok (.getfield 103, 3) := by decide +kernel
theorem dX8_thing_70 : decode cX8_thing 70 = .ok (.ireturn, 1) := by decide +kernel
theorem dX8_thing_71 : decode cX8_thing 71 = .ok (.aload_n 3, 1) := by decide +kernel
theorem dX8_thing_72 : decode cX8_thing 72 = .ok (.getfield 106, 3) := by decide +kernel
theorem dX8_thing_75 : decode cX8_thing 75 = .ok (.ireturn, 1) := by decide +kernel
theorem dX8_thing_76 : decode cX8_thing 76 = .ok (.aload_n 3, 1) := by decide +kernel
theorem dX8_thing_77 : decode cX8_thing 77 = .ok (.getfield 109, 3) := by decide +kernel
theorem dX8_thing_80 : decode cX8_thing 80 = .ok (.ireturn, 1) := by decide +kernel
theorem dX8_thing_81 : decode cX8_thing 81 = .ok (.bipush (-3), 2) := by decide +kernel
theorem dX8_thing_83 : decode cX8_thing 83 = .ok (.ireturn, 1) := by decide +kernel
theorem dX8_lump_0 : decode cX8_lump 0 = .ok (.iload_n 1, 1) := by decide +kernel
theorem dX8_lump_1 : decode cX8_lump 1 = .ok (.invokestatic 87, 3) := by decide +kernel
theorem dX8_lump_4 : decode cX8_lump 4 = .ok (.ifCond .eq 25, 3) := by decide +kernel
theorem dX8_lump_7 : decode cX8_lump 7 = .ok (.iload_n 2, 1) := by decide +kernel
theorem dX8_lump_8 : decode cX8_lump 8 = .ok (.iconst 0, 1) := by decide +kernel
theorem dX8_lump_9 : decode cX8_lump 9 = .ok (.aload_n 0, 1) := by decide +kernel
theorem dX8_lump_10 : decode cX8_lump 10 = .ok (.getfield 12, 3) := by decide +kernel
theorem dX8_lump_13 : decode cX8_lump 13 = .ok (.getfield 91, 3) := by decide +kernel
theorem dX8_lump_16 : decode cX8_lump 16 = .ok (.iload_n 1, 1) := by decide +kernel
theorem dX8_lump_17 : decode cX8_lump 17 = .ok (.aaload, 1) := by decide +kernel
theorem dX8_lump_18 : decode cX8_lump 18 = .ok (.getfield 103, 3) := by decide +kernel
theorem dX8_lump_21 : decode cX8_lump 21 = .ok (.iconst 1, 1) := by decide +kernel
theorem dX8_lump_22 : decode cX8_lump 22 = .ok (.isub, 1) := by decide +kernel
theorem dX8_lump_23 : decode cX8_lump 23 = .ok (.invokestatic 62, 3) := by decide +kernel
theorem dX8_lump_26 : decode cX8_lump 26 = .ok (.ifCond .ne 6, 3) := by decide +kernel
theorem dX8_lump_29 : decode cX8_lump 29 = .ok (.bipush (-2), 2) := by decide +kernel
theorem dX8_lump_31 : decode cX8_lump 31 = .ok (.ireturn, 1) := by decide +kernel
theorem dX8_lump_32 : decode cX8_lump 32 = .ok (.iload_n 3, 1) := by decide +kernel
theorem dX8_lump_33 : decode cX8_lump 33 = .ok (.lookupswitch 57 #[(0, 27), (1, 42)], 27) := by decide +kernel
theorem dX8_lump_60 : decode cX8_lump 60 = .ok (.aload_n 0, 1) := by decide +kernel
theorem dX8_lump_61 : decode cX8_lump 61 = .ok (.getfield 12, 3) := by decide +kernel
theorem dX8_lump_64 : decode cX8_lump 64 = .ok (.getfield 91, 3) := by decide +kernel
theorem dX8_lump_67 : decode cX8_lump 67 = .ok (.iload_n 1, 1) := by decide +kernel
theorem dX8_lump_68 : decode cX8_lump 68 = .ok (.aaload, 1) := by decide +kernel
theorem dX8_lump_69 : decode cX8_lump 69 = .ok (.getfield 112, 3) := by decide +kernel
theorem dX8_lump_72 : decode cX8_lump 72 = .ok (.iload_n 2, 1) := by decide +kernel
theorem dX8_lump_73 : decode cX8_lump 73 = .ok (.iaload, 1) := by decide +kernel
theorem dX8_lump_74 : decode cX8_lump 74 = .ok (.ireturn, 1) := by decide +kernel
theorem dX8_lump_75 : decode cX8_lump 75 = .ok (.aload_n 0, 1) := by decide +kernel
theorem dX8_lump_76 : decode cX8_lump 76 = .ok (.getfield 12, 3) := by decide +kernel
theorem dX8_lump_79 : decode cX8_lump 79 = .ok (.getfield 91, 3) := by decide +kernel
theorem dX8_lump_82 : decode cX8_lump 82 = .ok (.iload_n 1, 1) := by decide +kernel
theorem dX8_lump_83 : decode cX8_lump 83 = .ok (.aaload, 1) := by decide +kernel
theorem dX8_lump_84 : decode cX8_lump 84 = .ok (.getfield 116, 3) := by decide +kernel
theorem dX8_lump_87 : decode cX8_lump 87 = .ok (.iload_n 2, 1) := by decide +kernel
theorem dX8_lump_88 : decode cX8_lump 88 = .ok (.iaload, 1) := by decide +kernel
theorem dX8_lump_89 : decode cX8_lump 89 = .ok (.ireturn, 1) := by decide +kernel
theorem dX8_lump_90 : decode cX8_lump 90 = .ok (.bipush (-3), 2) := by decide +kernel
theorem dX8_lump_92 : decode cX8_lump 92 = .ok (.ireturn, 1) := by decide +kernel
theorem dX8_begin_0 : decode cX8_begin 0 = .ok (.aload_n 0, 1) := by decide +kernel
theorem dX8_begin_1 : decode cX8_begin 1 = .ok (.iload_n 1, 1) := by decide +kernel
theorem dX8_begin_2 : decode cX8_begin 2 = .ok (.iload_n 2, 1) := by decide +kernel
theorem dX8_begin_3 : decode cX8_begin 3 = .ok (.sipush (-999), 3) := by decide +kernel
theorem dX8_begin_6 : decode cX8_begin 6 = .ok (.sipush 999, 3) := by decide +kernel
theorem dX8_begin_9 : decode cX8_begin 9 = .ok (.invokestatic 62, 3) := by decide +kernel
theorem dX8_begin_12 : decode cX8_begin 12 = .ok (.ifCond .eq 18, 3) := by decide +kernel
theorem dX8_begin_15 : decode cX8_begin 15 = .ok (.iload_n 3, 1) := by decide +kernel
theorem dX8_begin_16 : decode cX8_begin 16 = .ok (.bipush (-99), 2) := by decide +kernel
theorem dX8_begin_18 : decode cX8_begin 18 = .ok (.bipush 99, 2) := by decide +kernel
theorem dX8_begin_20 : decode cX8_begin 20 = .ok (.invokestatic 62, 3) := by decide +kernel
theorem dX8_begin_23 : decode cX8_begin 23 = .ok (.ifCond .eq 7, 3) := by decide +kernel
theorem dX8_begin_26 : decode cX8_begin 26 = .ok (.iconst 1, 1) := by decide +kernel
theorem dX8_begin_27 : decode cX8_begin 27 = .ok (.goto 4, 3) := by decide +kernel
theorem dX8_begin_30 : decode cX8_begin 30 = .ok (.iconst 0, 1) := by decide +kernel
theorem dX8_begin_31 : decode cX8_begin 31 = .ok (.invokevirtual 119, 3) := by decide +kernel
theorem dX8_begin_34 : decode cX8_begin 34 = .ok (.istore 4, 2) := by decide +kernel
theorem dX8_begin_36 : decode cX8_begin 36 = .ok (.iload 4, 2) := by decide +kernel
theorem dX8_begin_38 : decode cX8_begin 38 = .ok (.ifCond .eq 6, 3) := by decide +kernel
theorem dX8_begin_41 : decode cX8_begin 41 = .ok (.iload 4, 2) := by decide +kernel
theorem dX8_begin_43 : decode cX8_begin 43 = .ok (.ireturn, 1) := by decide +kernel
theorem dX8_begin_44 : decode cX8_begin 44 = .ok (.aload_n 0, 1) := by decide +kernel
theorem dX8_begin_45 : decode cX8_begin 45 = .ok (.getfield 26, 3) := by decide +kernel
theorem dX8_begin_48 : decode cX8_begin 48 = .ok (.iload_n 1, 1) := by decide +kernel
theorem dX8_begin_49 : decode cX8_begin 49 = .ok (.iload_n 2, 1) := by decide +kernel
theorem dX8_begin_50 : decode cX8_begin 50 = .ok (.iload_n 3, 1) := by decide +kernel
theorem dX8_begin_51 : decode cX8_begin 51 = .ok (.invokevirtual 123, 3) := by decide +kernel
theorem dX8_begin_54 : decode cX8_begin 54 = .ok (.iconst 1, 1) := by decide +kernel
theorem dX8_begin_55 : decode cX8_begin 55 = .ok (.ireturn, 1) := by decide +kernel
theorem dX8_ticks_0 : decode cX8_ticks 0 = .ok (.iload_n 1, 1) := by decide +kernel
theorem dX8_ticks_1 : decode cX8_ticks 1 = .ok (.iconst 1, 1) := by decide +kernel
theorem dX8_ticks_2 : decode cX8_ticks 2 = .ok (.bipush 100, 2) := by decide +kernel
theorem dX8_ticks_4 : decode cX8_ticks 4 = .ok (.invokestatic 62, 3) := by decide +kernel
theorem dX8_ticks_7 : decode cX8_ticks 7 = .ok (.ifCond .ne 6, 3) := by decide +kernel
theorem dX8_ticks_10 : decode cX8_ticks 10 = .ok (.bipush (-3), 2) := by decide +kernel
theorem dX8_ticks_12 : decode cX8_ticks 12 = .ok (.ireturn, 1) := by decide +kernel
theorem dX8_ticks_13 : decode cX8_ticks 13 = .ok (.aload_n 0, 1) := by decide +kernel
theorem dX8_ticks_14 : decode cX8_ticks 14 = .ok (.getfield 26, 3) := by decide +kernel
theorem dX8_ticks_17 : decode cX8_ticks 17 = .ok (.getfield 127, 3) := by decide +kernel
theorem dX8_ticks_20 : decode cX8_ticks 20 = .ok (.invokestatic 87, 3) := by decide +kernel
theorem dX8_ticks_23 : decode cX8_ticks 23 = .ok (.ifCond .eq 34, 3) := by decide +kernel
theorem dX8_ticks_26 : decode cX8_ticks 26 = .ok (.aload_n 0, 1) := by decide +kernel
theorem dX8_ticks_27 : decode cX8_ticks 27 = .ok (.getfield 26, 3) := by decide +kernel
theorem dX8_ticks_30 : decode cX8_ticks 30 = .ok (.aload_n 0, 1) := by decide +kernel
theorem dX8_ticks_31 : decode cX8_ticks 31 = .ok (.getfield 12, 3) := by decide +kernel
theorem dX8_ticks_34 : decode cX8_ticks 34 = .ok (.getfield 130, 3) := by decide +kernel
theorem dX8_ticks_37 : decode cX8_ticks 37 = .ok (.invokevirtual 133, 3) := by decide +kernel
theorem dX8_ticks_40 : decode cX8_ticks 40 = .ok (.ifCond .ne 17, 3) := by decide +kernel
theorem dX8_ticks_43 : decode cX8_ticks 43 = .ok (.aload_n 0, 1) := by decide +kernel
theorem dX8_ticks_44 : decode cX8_ticks 44 = .ok (.aload_n 0, 1) := by decide +kernel
theorem dX8_ticks_45 : decode cX8_ticks 45 = .ok (.getfield 26, 3) := by decide +kernel
theorem dX8_ticks_48 : decode cX8_ticks 48 = .ok (.getfield 127, 3) := by decide +kernel
theorem dX8_ticks_51 : decode cX8_ticks 51 = .ok (.invokevirtual 137, 3) := by decide +kernel
theorem dX8_ticks_54 : decode cX8_ticks 54 = .ok (.ifCond .ne 6, 3) := by decide +kernel
theorem dX8_ticks_57 : decode cX8_ticks 57 = .ok (.bipush (-4), 2) := by decide +kernel
theorem dX8_ticks_59 : decode cX8_ticks 59 = .ok (.ireturn, 1) := by decide +kernel
theorem dX8_ticks_60 : decode cX8_ticks 60 = .ok (.iconst 0, 1) := by decide +kernel
theorem dX8_ticks_61 : decode cX8_ticks 61 = .ok (.istore_n 2, 1) := by decide +kernel
theorem dX8_ticks_62 : decode cX8_ticks 62 = .ok (.iload_n 2, 1) := by decide +kernel
theorem dX8_ticks_63 : decode cX8_ticks 63 = .ok (.iload_n 1, 1) := by decide +kernel
theorem dX8_ticks_64 : decode cX8_ticks 64 = .ok (.if_icmp .ge 70, 3) := by decide +kernel
theorem dX8_ticks_67 : decode cX8_ticks 67 = .ok (.aload_n 0, 1) := by decide +kernel
theorem dX8_ticks_68 : decode cX8_ticks 68 = .ok (.getfield 26, 3) := by decide +kernel
theorem dX8_ticks_71 : decode cX8_ticks 71 = .ok (.getfield 140, 3) := by decide +kernel
theorem dX8_ticks_74 : decode cX8_ticks 74 = .ok (.sipush 400, 3) := by decide +kernel
theorem dX8_ticks_77 : decode cX8_ticks 77 = .ok (.if_icmp .ge 57, 3) := by decide +kernel
theorem dX8_ticks_80 : decode cX8_ticks 80 = .ok (.aload_n 0, 1) := by decide +kernel
theorem dX8_ticks_81 : decode cX8_ticks 81 = .ok (.getfield 26, 3) := by decide +kernel
theorem dX8_ticks_84 : decode cX8_ticks 84 = .ok (.aload_n 0, 1) := by decide +kernel
theorem dX8_ticks_85 : decode cX8_ticks 85 = .ok (.getfield 12, 3) := by decide +kernel
theorem dX8_ticks_88 : decode cX8_ticks 88 = .ok (.getfield 130, 3) := by decide +kernel
theorem dX8_ticks_91 : decode cX8_ticks 91 = .ok (.invokevirtual 133, 3) := by decide +kernel
theorem dX8_ticks_94 : decode cX8_ticks 94 = .ok (.ifCond .ne 40, 3) := by decide +kernel
theorem dX8_ticks_97 : decode cX8_ticks 97 = .ok (.aload_n 0, 1) := by decide +kernel
theorem dX8_ticks_98 : decode cX8_ticks 98 = .ok (.getfield 26, 3) := by decide +kernel
theorem dX8_ticks_101 : decode cX8_ticks 101 = .ok (.aload_n 0, 1) := by decide +kernel
theorem dX8_ticks_102 : decode cX8_ticks 102 = .ok (.getfield 12, 3) := by decide +kernel
theorem dX8_ticks_105 : decode cX8_ticks 105 = .ok (.getfield 91, 3) := by decide +kernel
theorem dX8_ticks_108 : decode cX8_ticks 108 = .ok (.aload_n 0, 1) := by decide +kernel
theorem dX8_ticks_109 : decode cX8_ticks 109 = .ok (.getfield 26, 3) := by decide +kernel
theorem dX8_ticks_112 : decode cX8_ticks 112 = .ok (.getfield 127, 3) := by decide +kernel
theorem dX8_ticks_115 : decode cX8_ticks 115 = .ok (.aaload, 1) := by decide +kernel
theorem dX8_ticks_116 : decode cX8_ticks 116 = .ok (.aload_n 0, 1) := by decide +kernel
theorem dX8_ticks_117 : decode cX8_ticks 117 = .ok (.getfield 12, 3) := by decide +kernel
theorem dX8_ticks_120 : decode cX8_ticks 120 = .ok (.getfield 130, 3) := by decide +kernel
theorem dX8_ticks_123 : decode cX8_ticks 123 = .ok (.iconst 1, 1) := by decide +kernel
theorem dX8_ticks_124 : decode cX8_ticks 124 = .ok (.iconst 0, 1) := by decide +kernel
theorem dX8_ticks_125 : decode cX8_ticks 125 = .ok (.invokevirtual 143, 3) := by decide +kernel
theorem dX8_ticks_128 : decode cX8_ticks 128 = .ok (.iinc 2 1, 3) := by decide +kernel
theorem dX8_ticks_131 : decode cX8_ticks 131 = .ok (.goto (-69), 3) := by decide +kernel
theorem dX8_ticks_134 : decode cX8_ticks 134 = .ok (.iload_n 2, 1) := by decide +kernel
theorem dX8_ticks_135 : decode cX8_ticks 135 = .ok (.ireturn, 1) := by decide +kernel
theorem dX8_now_0 : decode cX8_now 0 = .ok (.iload_n 1, 1) := by decide +kernel
theorem dX8_now_1 : decode cX8_now 1 = .ok (.iconst 0, 1) := by decide +kernel
theorem dX8_now_2 : decode cX8_now 2 = .ok (.bipush 6, 2) := by decide +kernel
theorem dX8_now_4 : decode cX8_now 4 = .ok (.invokestatic 62, 3) := by decide +kernel
theorem dX8_now_7 : decode cX8_now 7 = .ok (.ifCond .ne 6, 3) := by decide +kernel
theorem dX8_now_10 : decode cX8_now 10 = .ok (.bipush (-3), 2) := by decide +kernel
theorem dX8_now_12 : decode cX8_now 12 = .ok (.ireturn, 1) := by decide +kernel
theorem dX8_now_13 : decode cX8_now 13 = .ok (.aload_n 0, 1) := by decide +kernel
theorem dX8_now_14 : decode cX8_now 14 = .ok (.getfield 26, 3) := by decide +kernel
theorem dX8_now_17 : decode cX8_now 17 = .ok (.getfield 127, 3) := by decide +kernel
theorem dX8_now_20 : decode cX8_now 20 = .ok (.invokestatic 87, 3) := by decide +kernel
theorem dX8_now_23 : decode cX8_now 23 = .ok (.ifCond .ne 6, 3) := by decide +kernel
theorem dX8_now_26 : decode cX8_now 26 = .ok (.bipush (-4), 2) := by decide +kernel
theorem dX8_now_28 : decode cX8_now 28 = .ok (.ireturn, 1) := by decide +kernel
theorem dX8_now_29 : decode cX8_now 29 = .ok (.iload_n 1, 1) := by decide +kernel
theorem dX8_now_30 : decode cX8_now 30 = .ok (.tableswitch 115 0 5 #[38, 49, 60, 72, 80, 92], 38) := by decide +kernel
theorem dX8_now_68 : decode cX8_now 68 = .ok (.aload_n 0, 1) := by decide +kernel
theorem dX8_now_69 : decode cX8_now 69 = .ok (.getfield 26, 3) := by decide +kernel
theorem dX8_now_72 : decode cX8_now 72 = .ok (.getfield 147, 3) := by decide +kernel
theorem dX8_now_75 : decode cX8_now 75 = .ok (.ldc 150, 2) := by decide +kernel
theorem dX8_now_77 : decode cX8_now 77 = .ok (.iadd, 1) := by decide +kernel
theorem dX8_now_78 : decode cX8_now 78 = .ok (.ireturn, 1) := by decide +kernel
theorem dX8_now_79 : decode cX8_now 79 = .ok (.aload_n 0, 1) := by decide +kernel
theorem dX8_now_80 : decode cX8_now 80 = .ok (.getfield 26, 3) := by decide +kernel
theorem dX8_now_83 : decode cX8_now 83 = .ok (.getfield 151, 3) := by decide +kernel
theorem dX8_now_86 : decode cX8_now 86 = .ok (.ldc 150, 2) := by decide +kernel
theorem dX8_now_88 : decode cX8_now 88 = .ok (.iadd, 1) := by decide +kernel
theorem dX8_now_89 : decode cX8_now 89 = .ok (.ireturn, 1) := by decide +kernel
theorem dX8_now_90 : decode cX8_now 90 = .ok (.aload_n 0, 1) := by decide +kernel
theorem dX8_now_91 : decode cX8_now 91 = .ok (.getfield 26, 3) := by decide +kernel
theorem dX8_now_94 : decode cX8_now 94 = .ok (.getfield 154, 3) := by decide +kernel
theorem dX8_now_97 : decode cX8_now 97 = .ok (.sipush 1000, 3) := by decide +kernel
theorem dX8_now_100 : decode cX8_now 100 = .ok (.iadd, 1) := by decide +kernel
theorem dX8_now_101 : decode cX8_now 101 = .ok (.ireturn, 1) := by decide +kernel
theorem dX8_now_102 : decode cX8_now 102 = .ok (.aload_n 0, 1) := by decide +kernel
theorem dX8_now_103 : decode cX8_now 103 = .ok (.getfield 26, 3) := by decide +kernel
theorem dX8_now_106 : decode cX8_now 106 = .ok (.getfield 140, 3) := by decide +kernel
theorem dX8_now_109 : decode cX8_now 109 = .ok (.ireturn, 1) := by decide +kernel
theorem dX8_now_110 : decode cX8_now 110 = .ok (.aload_n 0, 1) := by decide +kernel
theorem dX8_now_111 : decode cX8_now 111 = .ok (.getfield 26, 3) := by decide +kernel
theorem dX8_now_114 : decode cX8_now 114 = .ok (.getfield 157, 3) := by decide +kernel
theorem dX8_now_117 : decode cX8_now 117 = .ok (.sipush 1000, 3) := by decide +kernel
theorem dX8_now_120 : decode cX8_now 120 = .ok (.iadd, 1) := by decide +kernel
theorem dX8_now_121 : decode cX8_now 121 = .ok (.ireturn, 1) := by decide +kernel
theorem dX8_now_122 : decode cX8_now 122 = .ok (.aload_n 0, 1) := by decide +kernel
theorem dX8_now_123 : decode cX8_now 123 = .ok (.getfield 26, 3) := by decide +kernel
theorem dX8_now_126 : decode cX8_now 126 = .ok (.aload_n 0, 1) := by decide +kernel
theorem dX8_now_127 : decode cX8_now 127 = .ok (.getfield 12, 3) := by decide +kernel
theorem dX8_now_130 : decode cX8_now 130 = .ok (.getfield 130, 3) := by decide +kernel
theorem dX8_now_133 : decode cX8_now 133 = .ok (.invokevirtual 133, 3) := by decide +kernel
theorem dX8_now_136 : decode cX8_now 136 = .ok (.ifCond .eq 7, 3) := by decide +kernel
theorem dX8_now_139 : decode cX8_now 139 = .ok (.iconst 1, 1) := by decide +kernel
theorem dX8_now_140 : decode cX8_now 140 = .ok (.goto 4, 3) := by decide +kernel
theorem dX8_now_143 : decode cX8_now 143 = .ok (.iconst 0, 1) := by decide +kernel
theorem dX8_now_144 : decode cX8_now 144 = .ok (.ireturn, 1) := by decide +kernel
theorem dX8_now_145 : decode cX8_now 145 = .ok (.aload_n 0, 1) := by decide +kernel
theorem dX8_now_146 : decode cX8_now 146 = .ok (.getfield 26, 3) := by decide +kernel
theorem dX8_now_149 : decode cX8_now 149 = .ok (.getfield 127, 3) := by decide +kernel
theorem dX8_now_152 : decode cX8_now 152 = .ok (.ireturn, 1) := by decide +kernel
theorem dX8_keep_0 : decode cX8_keep 0 = .ok (.iload_n 1, 1) := by decide +kernel
theorem dX8_keep_1 : decode cX8_keep 1 = .ok (.iconst 0, 1) := by decide +kernel
theorem dX8_keep_2 : decode cX8_keep 2 = .ok (.iconst 1, 1) := by decide +kernel
theorem dX8_keep_3 : decode cX8_keep 3 = .ok (.invokestatic 62, 3) := by decide +kernel
theorem dX8_keep_6 : decode cX8_keep 6 = .ok (.ifCond .ne 6, 3) := by decide +kernel
theorem dX8_keep_9 : decode cX8_keep 9 = .ok (.bipush (-2), 2) := by decide +kernel
theorem dX8_keep_11 : decode cX8_keep 11 = .ok (.ireturn, 1) := by decide +kernel
theorem dX8_keep_12 : decode cX8_keep 12 = .ok (.aload_n 0, 1) := by decide +kernel
theorem dX8_keep_13 : decode cX8_keep 13 = .ok (.getfield 26, 3) := by decide +kernel
theorem dX8_keep_16 : decode cX8_keep 16 = .ok (.getfield 127, 3) := by decide +kernel
theorem dX8_keep_19 : decode cX8_keep 19 = .ok (.invokestatic 87, 3) := by decide +kernel
theorem dX8_keep_22 : decode cX8_keep 22 = .ok (.ifCond .ne 6, 3) := by decide +kernel
theorem dX8_keep_25 : decode cX8_keep 25 = .ok (.bipush (-4), 2) := by decide +kernel
theorem dX8_keep_27 : decode cX8_keep 27 = .ok (.ireturn, 1) := by decide +kernel
theorem dX8_keep_28 : decode cX8_keep 28 = .ok (.aload_n 0, 1) := by decide +kernel
theorem dX8_keep_29 : decode cX8_keep 29 = .ok (.getfield 30, 3) := by decide +kernel
theorem dX8_keep_32 : decode cX8_keep 32 = .ok (.iload_n 1, 1) := by decide +kernel
theorem dX8_keep_33 : decode cX8_keep 33 = .ok (.aaload, 1) := by decide +kernel
theorem dX8_keep_34 : decode cX8_keep 34 = .ok (.aload_n 0, 1) := by decide +kernel
theorem dX8_keep_35 : decode cX8_keep 35 = .ok (.getfield 26, 3) := by decide +kernel
theorem dX8_keep_38 : decode cX8_keep 38 = .ok (.invokevirtual 160, 3) := by decide +kernel
theorem dX8_keep_41 : decode cX8_keep 41 = .ok (.iconst 1, 1) := by decide +kernel
theorem dX8_keep_42 : decode cX8_keep 42 = .ok (.ireturn, 1) := by decide +kernel
theorem dX8_back_0 : decode cX8_back 0 = .ok (.iload_n 1, 1) := by decide +kernel
theorem dX8_back_1 : decode cX8_back 1 = .ok (.iconst 0, 1) := by decide +kernel
theorem dX8_back_2 : decode cX8_back 2 = .ok (.iconst 1, 1) := by decide +kernel
theorem dX8_back_3 : decode cX8_back 3 = .ok (.invokestatic 62, 3) := by decide +kernel
theorem dX8_back_6 : decode cX8_back 6 = .ok (.ifCond .ne 6, 3) := by decide +kernel
theorem dX8_back_9 : decode cX8_back 9 = .ok (.bipush (-2), 2) := by decide +kernel
theorem dX8_back_11 : decode cX8_back 11 = .ok (.ireturn, 1) := by decide +kernel
theorem dX8_back_12 : decode cX8_back 12 = .ok (.aload_n 0, 1) := by decide +kernel
theorem dX8_back_13 : decode cX8_back 13 = .ok (.getfield 30, 3) := by decide +kernel
theorem dX8_back_16 : decode cX8_back 16 = .ok (.iload_n 1, 1) := by decide +kernel
theorem dX8_back_17 : decode cX8_back 17 = .ok (.aaload, 1) := by decide +kernel
theorem dX8_back_18 : decode cX8_back 18 = .ok (.getfield 127, 3) := by decide +kernel
theorem dX8_back_21 : decode cX8_back 21 = .ok (.invokestatic 87, 3) := by decide +kernel
theorem dX8_back_24 : decode cX8_back 24 = .ok (.ifCond .ne 6, 3) := by decide +kernel
theorem dX8_back_27 : decode cX8_back 27 = .ok (.bipush (-4), 2) := by decide +kernel
theorem dX8_back_29 : decode cX8_back 29 = .ok (.ireturn, 1) := by decide +kernel
theorem dX8_back_30 : decode cX8_back 30 = .ok (.aload_n 0, 1) := by decide +kernel
theorem dX8_back_31 : decode cX8_back 31 = .ok (.getfield 26, 3) := by decide +kernel
theorem dX8_back_34 : decode cX8_back 34 = .ok (.aload_n 0, 1) := by decide +kernel
theorem dX8_back_35 : decode cX8_back 35 = .ok (.getfield 30, 3) := by decide +kernel
theorem dX8_back_38 : decode cX8_back 38 = .ok (.iload_n 1, 1) := by decide +kernel
theorem dX8_back_39 : decode cX8_back 39 = .ok (.aaload, 1) := by decide +kernel
theorem dX8_back_40 : decode cX8_back 40 = .ok (.invokevirtual 160, 3) := by decide +kernel
theorem dX8_back_43 : decode cX8_back 43 = .ok (.aload_n 0, 1) := by decide +kernel
theorem dX8_back_44 : decode cX8_back 44 = .ok (.getfield 26, 3) := by decide +kernel
theorem dX8_back_47 : decode cX8_back 47 = .ok (.getfield 140, 3) := by decide +kernel
theorem dX8_back_50 : decode cX8_back 50 = .ok (.ireturn, 1) := by decide +kernel
theorem dX8_kept_0 : decode cX8_kept 0 = .ok (.aload_n 0, 1) := by decide +kernel
theorem dX8_kept_1 : decode cX8_kept 1 = .ok (.iload_n 1, 1) := by decide +kernel
theorem dX8_kept_2 : decode cX8_kept 2 = .ok (.iload_n 2, 1) := by decide +kernel
theorem dX8_kept_3 : decode cX8_kept 3 = .ok (.sipush (-999), 3) := by decide +kernel
theorem dX8_kept_6 : decode cX8_kept 6 = .ok (.sipush 999, 3) := by decide +kernel
theorem dX8_kept_9 : decode cX8_kept 9 = .ok (.invokestatic 62, 3) := by decide +kernel
theorem dX8_kept_12 : decode cX8_kept 12 = .ok (.ifCond .eq 18, 3) := by decide +kernel
theorem dX8_kept_15 : decode cX8_kept 15 = .ok (.iload_n 3, 1) := by decide +kernel
theorem dX8_kept_16 : decode cX8_kept 16 = .ok (.bipush (-99), 2) := by decide +kernel
theorem dX8_kept_18 : decode cX8_kept 18 = .ok (.bipush 99, 2) := by decide +kernel
theorem dX8_kept_20 : decode cX8_kept 20 = .ok (.invokestatic 62, 3) := by decide +kernel
theorem dX8_kept_23 : decode cX8_kept 23 = .ok (.ifCond .eq 7, 3) := by decide +kernel
theorem dX8_kept_26 : decode cX8_kept 26 = .ok (.iconst 1, 1) := by decide +kernel
theorem dX8_kept_27 : decode cX8_kept 27 = .ok (.goto 4, 3) := by decide +kernel
theorem dX8_kept_30 : decode cX8_kept 30 = .ok (.iconst 0, 1) := by decide +kernel
theorem dX8_kept_31 : decode cX8_kept 31 = .ok (.invokevirtual 119, 3) := by decide +kernel
theorem dX8_kept_34 : decode cX8_kept 34 = .ok (.istore 4, 2) := by decide +kernel
theorem dX8_kept_36 : decode cX8_kept 36 = .ok (.iload 4, 2) := by decide +kernel
theorem dX8_kept_38 : decode cX8_kept 38 = .ok (.ifCond .eq 6, 3) := by decide +kernel
theorem dX8_kept_41 : decode cX8_kept 41 = .ok (.iload 4, 2) := by decide +kernel
theorem dX8_kept_43 : decode cX8_kept 43 = .ok (.ireturn, 1) := by decide +kernel
theorem dX8_kept_44 : decode cX8_kept 44 = .ok (.aload_n 0, 1) := by decide +kernel
theorem dX8_kept_45 : decode cX8_kept 45 = .ok (.getfield 37, 3) := by decide +kernel
theorem dX8_kept_48 : decode cX8_kept 48 = .ok (.aload_n 0, 1) := by decide +kernel
theorem dX8_kept_49 : decode cX8_kept 49 = .ok (.getfield 12, 3) := by decide +kernel
theorem dX8_kept_52 : decode cX8_kept 52 = .ok (.getfield 130, 3) := by decide +kernel
theorem dX8_kept_55 : decode cX8_kept 55 = .ok (.invokevirtual 164, 3) := by decide +kernel
theorem dX8_kept_58 : decode cX8_kept 58 = .ok (.aload_n 0, 1) := by decide +kernel
theorem dX8_kept_59 : decode cX8_kept 59 = .ok (.getfield 37, 3) := by decide +kernel
theorem dX8_kept_62 : decode cX8_kept 62 = .ok (.aload_n 0, 1) := by decide +kernel
theorem dX8_kept_63 : decode cX8_kept 63 = .ok (.getfield 12, 3) := by decide +kernel
theorem dX8_kept_66 : decode cX8_kept 66 = .ok (.getfield 91, 3) := by decide +kernel
theorem dX8_kept_69 : decode cX8_kept 69 = .ok (.iload_n 1, 1) := by decide +kernel
theorem dX8_kept_70 : decode cX8_kept 70 = .ok (.aaload, 1) := by decide +kernel
theorem dX8_kept_71 : decode cX8_kept 71 = .ok (.iload_n 2, 1) := by decide +kernel
theorem dX8_kept_72 : decode cX8_kept 72 = .ok (.iload_n 3, 1) := by decide +kernel
theorem dX8_kept_73 : decode cX8_kept 73 = .ok (.sipush 400, 3) := by decide +kernel
theorem dX8_kept_76 : decode cX8_kept 76 = .ok (.invokevirtual 168, 3) := by decide +kernel
theorem dX8_kept_79 : decode cX8_kept 79 = .ok (.ireturn, 1) := by decide +kernel
theorem dX8_steady_0 : decode cX8_steady 0 = .ok (.aload_n 0, 1) := by decide +kernel
theorem dX8_steady_1 : decode cX8_steady 1 = .ok (.iload_n 1, 1) := by decide +kernel
theorem dX8_steady_2 : decode cX8_steady 2 = .ok (.iload_n 2, 1) := by decide +kernel
theorem dX8_steady_3 : decode cX8_steady 3 = .ok (.iconst 0, 1) := by decide +kernel
theorem dX8_steady_4 : decode cX8_steady 4 = .ok (.bipush 20, 2) := by decide +kernel
theorem dX8_steady_6 : decode cX8_steady 6 = .ok (.invokestatic 62, 3) := by decide +kernel
theorem dX8_steady_9 : decode cX8_steady 9 = .ok (.invokevirtual 119, 3) := by decide +kernel
theorem dX8_steady_12 : decode cX8_steady 12 = .ok (.istore_n 3, 1) := by decide +kernel
theorem dX8_steady_13 : decode cX8_steady 13 = .ok (.iload_n 3, 1) := by decide +kernel
theorem dX8_steady_14 : decode cX8_steady 14 = .ok (.ifCond .eq 5, 3) := by decide +kernel
theorem dX8_steady_17 : decode cX8_steady 17 = .ok (.iload_n 3, 1) := by decide +kernel
theorem dX8_steady_18 : decode cX8_steady 18 = .ok (.ireturn, 1) := by decide +kernel
theorem dX8_steady_19 : decode cX8_steady 19 = .ok (.aload_n 0, 1) := by decide +kernel
theorem dX8_steady_20 : decode cX8_steady 20 = .ok (.getfield 37, 3) := by decide +kernel
theorem dX8_steady_23 : decode cX8_steady 23 = .ok (.aload_n 0, 1) := by decide +kernel
theorem dX8_steady_24 : decode cX8_steady 24 = .ok (.getfield 12, 3) := by decide +kernel
theorem dX8_steady_27 : decode cX8_steady 27 = .ok (.getfield 130, 3) := by decide +kernel
theorem dX8_steady_30 : decode cX8_steady 30 = .ok (.invokevirtual 164, 3) := by decide +kernel
theorem dX8_steady_33 : decode cX8_steady 33 = .ok (.aload_n 0, 1) := by decide +kernel
theorem dX8_steady_34 : decode cX8_steady 34 = .ok (.getfield 37, 3) := by decide +kernel
theorem dX8_steady_37 : decode cX8_steady 37 = .ok (.aload_n 0, 1) := by decide +kernel
theorem dX8_steady_38 : decode cX8_steady 38 = .ok (.getfield 12, 3) := by decide +kernel
theorem dX8_steady_41 : decode cX8_steady 41 = .ok (.getfield 91, 3) := by decide +kernel
theorem dX8_steady_44 : decode cX8_steady 44 = .ok (.iload_n 1, 1) := by decide +kernel
theorem dX8_steady_45 : decode cX8_steady 45 = .ok (.aaload, 1) := by decide +kernel
theorem dX8_steady_46 : decode cX8_steady 46 = .ok (.iload_n 2, 1) := by decide +kernel
theorem dX8_steady_47 : decode cX8_steady 47 = .ok (.invokevirtual 172, 3) := by decide +kernel
theorem dX8_steady_50 : decode cX8_steady 50 = .ok (.ireturn, 1) := by decide +kernel
theorem dX8_line_0 : decode cX8_line 0 = .ok (.iload_n 1, 1) := by decide +kernel
theorem dX8_line_1 : decode cX8_line 1 = .ok (.iconst 0, 1) := by decide +kernel
theorem dX8_line_2 : decode cX8_line 2 = .ok (.bipush 20, 2) := by decide +kernel
theorem dX8_line_4 : decode cX8_line 4 = .ok (.invokestatic 62, 3) := by decide +kernel
theorem dX8_line_7 : decode cX8_line 7 = .ok (.ifCond .ne 6, 3) := by decide +kernel
theorem dX8_line_10 : decode cX8_line 10 = .ok (.bipush (-3), 2) := by decide +kernel
theorem dX8_line_12 : decode cX8_line 12 = .ok (.ireturn, 1) := by decide +kernel
theorem dX8_line_13 : decode cX8_line 13 = .ok (.aload_n 0, 1) := by decide +kernel
theorem dX8_line_14 : decode cX8_line 14 = .ok (.getfield 37, 3) := by decide +kernel
theorem dX8_line_17 : decode cX8_line 17 = .ok (.aload_n 0, 1) := by decide +kernel
theorem dX8_line_18 : decode cX8_line 18 = .ok (.getfield 12, 3) := by decide +kernel
theorem dX8_line_21 : decode cX8_line 21 = .ok (.getfield 130, 3) := by decide +kernel
theorem dX8_line_24 : decode cX8_line 24 = .ok (.invokevirtual 164, 3) := by decide +kernel
theorem dX8_line_27 : decode cX8_line 27 = .ok (.aload_n 0, 1) := by decide +kernel
theorem dX8_line_28 : decode cX8_line 28 = .ok (.getfield 37, 3) := by decide +kernel
theorem dX8_line_31 : decode cX8_line 31 = .ok (.iload_n 1, 1) := by decide +kernel
theorem dX8_line_32 : decode cX8_line 32 = .ok (.invokevirtual 176, 3) := by decide +kernel
theorem dX8_line_35 : decode cX8_line 35 = .ok (.ireturn, 1) := by decide +kernel
theorem dX8_best_0 : decode cX8_best 0 = .ok (.aload_n 0, 1) := by decide +kernel
theorem dX8_best_1 : decode cX8_best 1 = .ok (.iload_n 1, 1) := by decide +kernel
theorem dX8_best_2 : decode cX8_best 2 = .ok (.iload_n 2, 1) := by decide +kernel
theorem dX8_best_3 : decode cX8_best 3 = .ok (.iconst 0, 1) := by decide +kernel
theorem dX8_best_4 : decode cX8_best 4 = .ok (.iconst 4, 1) := by decide +kernel
theorem dX8_best_5 : decode cX8_best 5 = .ok (.invokestatic 62, 3) := by decide +kernel
theorem dX8_best_8 : decode cX8_best 8 = .ok (.ifCond .eq 16, 3) := by decide +kernel
theorem dX8_best_11 : decode cX8_best 11 = .ok (.iload_n 3, 1) := by decide +kernel
theorem dX8_best_12 : decode cX8_best 12 = .ok (.iconst 0, 1) := by decide +kernel
theorem dX8_best_13 : decode cX8_best 13 = .ok (.iconst 2, 1) := by decide +kernel
theorem dX8_best_14 : decode cX8_best 14 = .ok (.invokestatic 62, 3) := by decide +kernel
theorem dX8_best_17 : decode cX8_best 17 = .ok (.ifCond .eq 7, 3) := by decide +kernel
theorem dX8_best_20 : decode cX8_best 20 = .ok (.iconst 1, 1) := by decide +kernel
theorem dX8_best_21 : decode cX8_best 21 = .ok (.goto 4, 3) := by decide +kernel
theorem dX8_best_24 : decode cX8_best 24 = .ok (.iconst 0, 1) := by decide +kernel
theorem dX8_best_25 : decode cX8_best 25 = .ok (.invokevirtual 119, 3) := by decide +kernel
theorem dX8_best_28 : decode cX8_best 28 = .ok (.istore 4, 2) := by decide +kernel
theorem dX8_best_30 : decode cX8_best 30 = .ok (.iload 4, 2) := by decide +kernel
theorem dX8_best_32 : decode cX8_best 32 = .ok (.ifCond .eq 6, 3) := by decide +kernel
theorem dX8_best_35 : decode cX8_best 35 = .ok (.iload 4, 2) := by decide +kernel
theorem dX8_best_37 : decode cX8_best 37 = .ok (.ireturn, 1) := by decide +kernel
theorem dX8_best_38 : decode cX8_best 38 = .ok (.aload_n 0, 1) := by decide +kernel
theorem dX8_best_39 : decode cX8_best 39 = .ok (.getfield 37, 3) := by decide +kernel
theorem dX8_best_42 : decode cX8_best 42 = .ok (.aload_n 0, 1) := by decide +kernel
theorem dX8_best_43 : decode cX8_best 43 = .ok (.getfield 12, 3) := by decide +kernel
theorem dX8_best_46 : decode cX8_best 46 = .ok (.getfield 130, 3) := by decide +kernel
theorem dX8_best_49 : decode cX8_best 49 = .ok (.invokevirtual 164, 3) := by decide +kernel
theorem dX8_best_52 : decode cX8_best 52 = .ok (.aload_n 0, 1) := by decide +kernel
theorem dX8_best_53 : decode cX8_best 53 = .ok (.getfield 37, 3) := by decide +kernel
theorem dX8_best_56 : decode cX8_best 56 = .ok (.aload_n 0, 1) := by decide +kernel
theorem dX8_best_57 : decode cX8_best 57 = .ok (.getfield 12, 3) := by decide +kernel
theorem dX8_best_60 : decode cX8_best 60 = .ok (.getfield 91, 3) := by decide +kernel
theorem dX8_best_63 : decode cX8_best 63 = .ok (.iload_n 1, 1) := by decide +kernel
theorem dX8_best_64 : decode cX8_best 64 = .ok (.aaload, 1) := by decide +kernel
theorem dX8_best_65 : decode cX8_best 65 = .ok (.iload_n 2, 1) := by decide +kernel
theorem dX8_best_66 : decode cX8_best 66 = .ok (.iload_n 3, 1) := by decide +kernel
theorem dX8_best_67 : decode cX8_best 67 = .ok (.invokevirtual 180, 3) := by decide +kernel
theorem dX8_best_70 : decode cX8_best 70 = .ok (.ireturn, 1) := by decide +kernel
theorem dX8_odds_0 : decode cX8_odds 0 = .ok (.iload_n 2, 1) := by decide +kernel
theorem dX8_odds_1 : decode cX8_odds 1 = .ok (.sipush (-999), 3) := by decide +kernel
theorem dX8_odds_4 : decode cX8_odds 4 = .ok (.sipush 999, 3) := by decide +kernel
theorem dX8_odds_7 : decode cX8_odds 7 = .ok (.invokestatic 62, 3) := by decide +kernel
theorem dX8_odds_10 : decode cX8_odds 10 = .ok (.ifCond .eq 48, 3) := by decide +kernel
theorem dX8_odds_13 : decode cX8_odds 13 = .ok (.iload_n 3, 1) := by decide +kernel
theorem dX8_odds_14 : decode cX8_odds 14 = .ok (.iconst 0, 1) := by decide +kernel
theorem dX8_odds_15 : decode cX8_odds 15 = .ok (.bipush 6, 2) := by decide +kernel
theorem dX8_odds_17 : decode cX8_odds 17 = .ok (.invokestatic 62, 3) := by decide +kernel
theorem dX8_odds_20 : decode cX8_odds 20 = .ok (.ifCond .eq 38, 3) := by decide +kernel
theorem dX8_odds_23 : decode cX8_odds 23 = .ok (.iload 4, 2) := by decide +kernel
theorem dX8_odds_25 : decode cX8_odds 25 = .ok (.iconst 0, 1) := by decide +kernel
theorem dX8_odds_26 : decode cX8_odds 26 = .ok (.bipush 99, 2) := by decide +kernel
theorem dX8_odds_28 : decode cX8_odds 28 = .ok (.invokestatic 62, 3) := by decide +kernel
theorem dX8_odds_31 : decode cX8_odds 31 = .ok (.ifCond .eq 27, 3) := by decide +kernel
theorem dX8_odds_34 : decode cX8_odds 34 = .ok (.iload 5, 2) := by decide +kernel
theorem dX8_odds_36 : decode cX8_odds 36 = .ok (.iconst 0, 1) := by decide +kernel
theorem dX8_odds_37 : decode cX8_odds 37 = .ok (.iconst 5, 1) := by decide +kernel
theorem dX8_odds_38 : decode cX8_odds 38 = .ok (.invokestatic 62, 3) := by decide +kernel
theorem dX8_odds_41 : decode cX8_odds 41 = .ok (.ifCond .eq 17, 3) := by decide +kernel
theorem dX8_odds_44 : decode cX8_odds 44 = .ok (.iload 6, 2) := by decide +kernel
theorem dX8_odds_46 : decode cX8_odds 46 = .ok (.iconst 0, 1) := by decide +kernel
theorem dX8_odds_47 : decode cX8_odds 47 = .ok (.iconst 1, 1) := by decide +kernel
theorem dX8_odds_48 : decode cX8_odds 48 = .ok (.invokestatic 62, 3) := by decide +kernel
theorem dX8_odds_51 : decode cX8_odds 51 = .ok (.ifCond .eq 7, 3) := by decide +kernel
theorem dX8_odds_54 : decode cX8_odds 54 = .ok (.iconst 1, 1) := by decide +kernel
theorem dX8_odds_55 : decode cX8_odds 55 = .ok (.goto 4, 3) := by decide +kernel
theorem dX8_odds_58 : decode cX8_odds 58 = .ok (.iconst 0, 1) := by decide +kernel
theorem dX8_odds_59 : decode cX8_odds 59 = .ok (.istore 7, 2) := by decide +kernel
theorem dX8_odds_61 : decode cX8_odds 61 = .ok (.aload_n 0, 1) := by decide +kernel
theorem dX8_odds_62 : decode cX8_odds 62 = .ok (.iload_n 1, 1) := by decide +kernel
theorem dX8_odds_63 : decode cX8_odds 63 = .ok (.iload 7, 2) := by decide +kernel
theorem dX8_odds_65 : decode cX8_odds 65 = .ok (.invokevirtual 119, 3) := by decide +kernel
theorem dX8_odds_68 : decode cX8_odds 68 = .ok (.istore 8, 2) := by decide +kernel
theorem dX8_odds_70 : decode cX8_odds 70 = .ok (.iload 8, 2) := by decide +kernel
theorem dX8_odds_72 : decode cX8_odds 72 = .ok (.ifCond .eq 6, 3) := by decide +kernel
theorem dX8_odds_75 : decode cX8_odds 75 = .ok (.iload 8, 2) := by decide +kernel
theorem dX8_odds_77 : decode cX8_odds 77 = .ok (.ireturn, 1) := by decide +kernel
theorem dX8_odds_78 : decode cX8_odds 78 = .ok (.aload_n 0, 1) := by decide +kernel
theorem dX8_odds_79 : decode cX8_odds 79 = .ok (.getfield 37, 3) := by decide +kernel
theorem dX8_odds_82 : decode cX8_odds 82 = .ok (.aload_n 0, 1) := by decide +kernel
theorem dX8_odds_83 : decode cX8_odds 83 = .ok (.getfield 12, 3) := by decide +kernel
theorem dX8_odds_86 : decode cX8_odds 86 = .ok (.getfield 130, 3) := by decide +kernel
theorem dX8_odds_89 : decode cX8_odds 89 = .ok (.invokevirtual 164, 3) := by decide +kernel
theorem dX8_odds_92 : decode cX8_odds 92 = .ok (.aload_n 0, 1) := by decide +kernel
theorem dX8_odds_93 : decode cX8_odds 93 = .ok (.getfield 37, 3) := by decide +kernel
theorem dX8_odds_96 : decode cX8_odds 96 = .ok (.aload_n 0, 1) := by decide +kernel
theorem dX8_odds_97 : decode cX8_odds 97 = .ok (.getfield 12, 3) := by decide +kernel
theorem dX8_odds_100 : decode cX8_odds 100 = .ok (.getfield 91, 3) := by decide +kernel
theorem dX8_odds_103 : decode cX8_odds 103 = .ok (.iload_n 1, 1) := by decide +kernel
theorem dX8_odds_104 : decode cX8_odds 104 = .ok (.aaload, 1) := by decide +kernel
theorem dX8_odds_105 : decode cX8_odds 105 = .ok (.iload_n 2, 1) := by decide +kernel
theorem dX8_odds_106 : decode cX8_odds 106 = .ok (.iload_n 3, 1) := by decide +kernel
theorem dX8_odds_107 : decode cX8_odds 107 = .ok (.iload 4, 2) := by decide +kernel
theorem dX8_odds_109 : decode cX8_odds 109 = .ok (.iload 5, 2) := by decide +kernel
theorem dX8_odds_111 : decode cX8_odds 111 = .ok (.invokevirtual 184, 3) := by decide +kernel
theorem dX8_odds_114 : decode cX8_odds 114 = .ok (.iload_n 3, 1) := by decide +kernel
theorem dX8_odds_115 : decode cX8_odds 115 = .ok (.iload 6, 2) := by decide +kernel
theorem dX8_odds_117 : decode cX8_odds 117 = .ok (.invokestatic 188, 3) := by decide +kernel
theorem dX8_odds_120 : decode cX8_odds 120 = .ok (.ireturn, 1) := by decide +kernel
theorem dX8_stands_0 : decode cX8_stands 0 = .ok (.aload_n 0, 1) := by decide +kernel
theorem dX8_stands_1 : decode cX8_stands 1 = .ok (.iload_n 1, 1) := by decide +kernel
theorem dX8_stands_2 : decode cX8_stands 2 = .ok (.iload_n 2, 1) := by decide +kernel
theorem dX8_stands_3 : decode cX8_stands 3 = .ok (.sipush (-999), 3) := by decide +kernel
theorem dX8_stands_6 : decode cX8_stands 6 = .ok (.sipush 999, 3) := by decide +kernel
theorem dX8_stands_9 : decode cX8_stands 9 = .ok (.invokestatic 62, 3) := by decide +kernel
theorem dX8_stands_12 : decode cX8_stands 12 = .ok (.invokevirtual 119, 3) := by decide +kernel
theorem dX8_stands_15 : decode cX8_stands 15 = .ok (.istore_n 3, 1) := by decide +kernel
theorem dX8_stands_16 : decode cX8_stands 16 = .ok (.iload_n 3, 1) := by decide +kernel
theorem dX8_stands_17 : decode cX8_stands 17 = .ok (.ifCond .eq 5, 3) := by decide +kernel
theorem dX8_stands_20 : decode cX8_stands 20 = .ok (.iload_n 3, 1) := by decide +kernel
theorem dX8_stands_21 : decode cX8_stands 21 = .ok (.ireturn, 1) := by decide +kernel
theorem dX8_stands_22 : decode cX8_stands 22 = .ok (.aload_n 0, 1) := by decide +kernel
theorem dX8_stands_23 : decode cX8_stands 23 = .ok (.getfield 37, 3) := by decide +kernel
theorem dX8_stands_26 : decode cX8_stands 26 = .ok (.aload_n 0, 1) := by decide +kernel
theorem dX8_stands_27 : decode cX8_stands 27 = .ok (.getfield 12, 3) := by decide +kernel
theorem dX8_stands_30 : decode cX8_stands 30 = .ok (.getfield 130, 3) := by decide +kernel
theorem dX8_stands_33 : decode cX8_stands 33 = .ok (.invokevirtual 164, 3) := by decide +kernel
theorem dX8_stands_36 : decode cX8_stands 36 = .ok (.aload_n 0, 1) := by decide +kernel
theorem dX8_stands_37 : decode cX8_stands 37 = .ok (.getfield 37, 3) := by decide +kernel
theorem dX8_stands_40 : decode cX8_stands 40 = .ok (.aload_n 0, 1) := by decide +kernel
theorem dX8_stands_41 : decode cX8_stands 41 = .ok (.getfield 12, 3) := by decide +kernel
theorem dX8_stands_44 : decode cX8_stands 44 = .ok (.getfield 91, 3) := by decide +kernel
theorem dX8_stands_47 : decode cX8_stands 47 = .ok (.iload_n 1, 1) := by decide +kernel
theorem dX8_stands_48 : decode cX8_stands 48 = .ok (.aaload, 1) := by decide +kernel
theorem dX8_stands_49 : decode cX8_stands 49 = .ok (.iload_n 2, 1) := by decide +kernel
theorem dX8_stands_50 : decode cX8_stands 50 = .ok (.invokevirtual 192, 3) := by decide +kernel
theorem dX8_stands_53 : decode cX8_stands 53 = .ok (.ireturn, 1) := by decide +kernel
theorem dX8_two_0 : decode cX8_two 0 = .ok (.iload_n 1, 1) := by decide +kernel
theorem dX8_two_1 : decode cX8_two 1 = .ok (.invokestatic 87, 3) := by decide +kernel
theorem dX8_two_4 : decode cX8_two 4 = .ok (.ifCond .eq 10, 3) := by decide +kernel
theorem dX8_two_7 : decode cX8_two 7 = .ok (.iload_n 3, 1) := by decide +kernel
theorem dX8_two_8 : decode cX8_two 8 = .ok (.invokestatic 87, 3) := by decide +kernel
theorem dX8_two_11 : decode cX8_two 11 = .ok (.ifCond .ne 6, 3) := by decide +kernel
theorem dX8_two_14 : decode cX8_two 14 = .ok (.bipush (-2), 2) := by decide +kernel
theorem dX8_two_16 : decode cX8_two 16 = .ok (.ireturn, 1) := by decide +kernel
theorem dX8_two_17 : decode cX8_two 17 = .ok (.iload_n 2, 1) := by decide +kernel
theorem dX8_two_18 : decode cX8_two 18 = .ok (.sipush (-999), 3) := by decide +kernel
theorem dX8_two_21 : decode cX8_two 21 = .ok (.sipush 999, 3) := by decide +kernel
theorem dX8_two_24 : decode cX8_two 24 = .ok (.invokestatic 62, 3) := by decide +kernel
theorem dX8_two_27 : decode cX8_two 27 = .ok (.ifCond .eq 39, 3) := by decide +kernel
theorem dX8_two_30 : decode cX8_two 30 = .ok (.iload 4, 2) := by decide +kernel
theorem dX8_two_32 : decode cX8_two 32 = .ok (.sipush (-999), 3) := by decide +kernel
theorem dX8_two_35 : decode cX8_two 35 = .ok (.sipush 999, 3) := by decide +kernel
theorem dX8_two_38 : decode cX8_two 38 = .ok (.invokestatic 62, 3) := by decide +kernel
theorem dX8_two_41 : decode cX8_two 41 = .ok (.ifCond .eq 25, 3) := by decide +kernel
theorem dX8_two_44 : decode cX8_two 44 = .ok (.iload 5, 2) := by decide +kernel
theorem dX8_two_46 : decode cX8_two 46 = .ok (.iconst 1, 1) := by decide +kernel
theorem dX8_two_47 : decode cX8_two 47 = .ok (.bipush 9, 2) := by decide +kernel
theorem dX8_two_49 : decode cX8_two 49 = .ok (.invokestatic 62, 3) := by decide +kernel
theorem dX8_two_52 : decode cX8_two 52 = .ok (.ifCond .eq 14, 3) := by decide +kernel
theorem dX8_two_55 : decode cX8_two 55 = .ok (.iload 6, 2) := by decide +kernel
theorem dX8_two_57 : decode cX8_two 57 = .ok (.iconst 1, 1) := by decide +kernel
theorem dX8_two_58 : decode cX8_two 58 = .ok (.bipush 9, 2) := by decide +kernel
theorem dX8_two_60 : decode cX8_two 60 = .ok (.invokestatic 62, 3) := by decide +kernel
theorem dX8_two_63 : decode cX8_two 63 = .ok (.ifCond .ne 6, 3) := by decide +kernel
theorem dX8_two_66 : decode cX8_two 66 = .ok (.bipush (-3), 2) := by decide +kernel
theorem dX8_two_68 : decode cX8_two 68 = .ok (.ireturn, 1) := by decide +kernel
theorem dX8_two_69 : decode cX8_two 69 = .ok (.aload_n 0, 1) := by decide +kernel
theorem dX8_two_70 : decode cX8_two 70 = .ok (.iload_n 1, 1) := by decide +kernel
theorem dX8_two_71 : decode cX8_two 71 = .ok (.invokevirtual 137, 3) := by decide +kernel
theorem dX8_two_74 : decode cX8_two 74 = .ok (.ifCond .eq 11, 3) := by decide +kernel
theorem dX8_two_77 : decode cX8_two 77 = .ok (.aload_n 0, 1) := by decide +kernel
theorem dX8_two_78 : decode cX8_two 78 = .ok (.iload_n 3, 1) := by decide +kernel
theorem dX8_two_79 : decode cX8_two 79 = .ok (.invokevirtual 137, 3) := by decide +kernel
theorem dX8_two_82 : decode cX8_two 82 = .ok (.ifCond .ne 6, 3) := by decide +kernel
theorem dX8_two_85 : decode cX8_two 85 = .ok (.bipush (-4), 2) := by decide +kernel
theorem dX8_two_87 : decode cX8_two 87 = .ok (.ireturn, 1) := by decide +kernel
theorem dX8_two_88 : decode cX8_two 88 = .ok (.aload_n 0, 1) := by decide +kernel
theorem dX8_two_89 : decode cX8_two 89 = .ok (.getfield 37, 3) := by decide +kernel
theorem dX8_two_92 : decode cX8_two 92 = .ok (.aload_n 0, 1) := by decide +kernel
theorem dX8_two_93 : decode cX8_two 93 = .ok (.getfield 12, 3) := by decide +kernel
theorem dX8_two_96 : decode cX8_two 96 = .ok (.getfield 130, 3) := by decide +kernel
theorem dX8_two_99 : decode cX8_two 99 = .ok (.invokevirtual 164, 3) := by decide +kernel
theorem dX8_two_102 : decode cX8_two 102 = .ok (.aload_n 0, 1) := by decide +kernel
theorem dX8_two_103 : decode cX8_two 103 = .ok (.getfield 37, 3) := by decide +kernel
theorem dX8_two_106 : decode cX8_two 106 = .ok (.getfield 195, 3) := by decide +kernel
theorem dX8_two_109 : decode cX8_two 109 = .ok (.iload_n 1, 1) := by decide +kernel
theorem dX8_two_110 : decode cX8_two 110 = .ok (.iload_n 2, 1) := by decide +kernel
theorem dX8_two_111 : decode cX8_two 111 = .ok (.iconst 0, 1) := by decide +kernel
theorem dX8_two_112 : decode cX8_two 112 = .ok (.invokevirtual 123, 3) := by decide +kernel
theorem dX8_two_115 : decode cX8_two 115 = .ok (.aload_n 0, 1) := by decide +kernel
theorem dX8_two_116 : decode cX8_two 116 = .ok (.getfield 37, 3) := by decide +kernel
theorem dX8_two_119 : decode cX8_two 119 = .ok (.getfield 198, 3) := by decide +kernel
theorem dX8_two_122 : decode cX8_two 122 = .ok (.iload_n 3, 1) := by decide +kernel
theorem dX8_two_123 : decode cX8_two 123 = .ok (.iload 4, 2) := by decide +kernel
theorem dX8_two_125 : decode cX8_two 125 = .ok (.iconst 0, 1) := by decide +kernel
theorem dX8_two_126 : decode cX8_two 126 = .ok (.invokevirtual 123, 3) := by decide +kernel
theorem dX8_two_129 : decode cX8_two 129 = .ok (.aload_n 0, 1) := by decide +kernel
theorem dX8_two_130 : decode cX8_two 130 = .ok (.getfield 37, 3) := by decide +kernel
theorem dX8_two_133 : decode cX8_two 133 = .ok (.aload_n 0, 1) := by decide +kernel
theorem dX8_two_134 : decode cX8_two 134 = .ok (.getfield 12, 3) := by decide +kernel
theorem dX8_two_137 : decode cX8_two 137 = .ok (.getfield 91, 3) := by decide +kernel
theorem dX8_two_140 : decode cX8_two 140 = .ok (.iload_n 1, 1) := by decide +kernel
theorem dX8_two_141 : decode cX8_two 141 = .ok (.aaload, 1) := by decide +kernel
theorem dX8_two_142 : decode cX8_two 142 = .ok (.aload_n 0, 1) := by decide +kernel
theorem dX8_two_143 : decode cX8_two 143 = .ok (.getfield 12, 3) := by decide +kernel
theorem dX8_two_146 : decode cX8_two 146 = .ok (.getfield 91, 3) := by decide +kernel
theorem dX8_two_149 : decode cX8_two 149 = .ok (.iload_n 3, 1) := by decide +kernel
theorem dX8_two_150 : decode cX8_two 150 = .ok (.aaload, 1) := by decide +kernel
theorem dX8_two_151 : decode cX8_two 151 = .ok (.iload 5, 2) := by decide +kernel
theorem dX8_two_153 : decode cX8_two 153 = .ok (.iload 6, 2) := by decide +kernel
theorem dX8_two_155 : decode cX8_two 155 = .ok (.invokevirtual 201, 3) := by decide +kernel
theorem dX8_two_158 : decode cX8_two 158 = .ok (.ireturn, 1) := by decide +kernel
theorem dX8_film_0 : decode cX8_film 0 = .ok (.iload_n 1, 1) := by decide +kernel
theorem dX8_film_1 : decode cX8_film 1 = .ok (.sipush (-999), 3) := by decide +kernel
theorem dX8_film_4 : decode cX8_film 4 = .ok (.sipush 999, 3) := by decide +kernel
theorem dX8_film_7 : decode cX8_film 7 = .ok (.invokestatic 62, 3) := by decide +kernel
theorem dX8_film_10 : decode cX8_film 10 = .ok (.ifCond .eq 14, 3) := by decide +kernel
theorem dX8_film_13 : decode cX8_film 13 = .ok (.iload_n 2, 1) := by decide +kernel
theorem dX8_film_14 : decode cX8_film 14 = .ok (.bipush (-99), 2) := by decide +kernel
theorem dX8_film_16 : decode cX8_film 16 = .ok (.bipush 99, 2) := by decide +kernel
theorem dX8_film_18 : decode cX8_film 18 = .ok (.invokestatic 62, 3) := by decide +kernel
theorem dX8_film_21 : decode cX8_film 21 = .ok (.ifCond .ne 6, 3) := by decide +kernel
theorem dX8_film_24 : decode cX8_film 24 = .ok (.bipush (-3), 2) := by decide +kernel
theorem dX8_film_26 : decode cX8_film 26 = .ok (.ireturn, 1) := by decide +kernel
theorem dX8_film_27 : decode cX8_film 27 = .ok (.aload_n 0, 1) := by decide +kernel
theorem dX8_film_28 : decode cX8_film 28 = .ok (.getfield 51, 3) := by decide +kernel
theorem dX8_film_31 : decode cX8_film 31 = .ok (.getfield 205, 3) := by decide +kernel
theorem dX8_film_34 : decode cX8_film 34 = .ok (.bipush 24, 2) := by decide +kernel
theorem dX8_film_36 : decode cX8_film 36 = .ok (.if_icmp .lt 6, 3) := by decide +kernel
theorem dX8_film_39 : decode cX8_film 39 = .ok (.bipush (-5), 2) := by decide +kernel
theorem dX8_film_41 : decode cX8_film 41 = .ok (.ireturn, 1) := by decide +kernel
theorem dX8_film_42 : decode cX8_film 42 = .ok (.aload_n 0, 1) := by decide +kernel
theorem dX8_film_43 : decode cX8_film 43 = .ok (.getfield 51, 3) := by decide +kernel
theorem dX8_film_46 : decode cX8_film 46 = .ok (.iload_n 1, 1) := by decide +kernel
theorem dX8_film_47 : decode cX8_film 47 = .ok (.iload_n 2, 1) := by decide +kernel
theorem dX8_film_48 : decode cX8_film 48 = .ok (.invokevirtual 208, 3) := by decide +kernel
theorem dX8_film_51 : decode cX8_film 51 = .ok (.aload_n 0, 1) := by decide +kernel
theorem dX8_film_52 : decode cX8_film 52 = .ok (.getfield 51, 3) := by decide +kernel
theorem dX8_film_55 : decode cX8_film 55 = .ok (.getfield 205, 3) := by decide +kernel
theorem dX8_film_58 : decode cX8_film 58 = .ok (.ireturn, 1) := by decide +kernel
theorem dX8_wind_0 : decode cX8_wind 0 = .ok (.aload_n 0, 1) := by decide +kernel
theorem dX8_wind_1 : decode cX8_wind 1 = .ok (.getfield 51, 3) := by decide +kernel
theorem dX8_wind_4 : decode cX8_wind 4 = .ok (.getfield 205, 3) := by decide +kernel
theorem dX8_wind_7 : decode cX8_wind 7 = .ok (.istore_n 1, 1) := by decide +kernel
theorem dX8_wind_8 : decode cX8_wind 8 = .ok (.aload_n 0, 1) := by decide +kernel
theorem dX8_wind_9 : decode cX8_wind 9 = .ok (.getfield 51, 3) := by decide +kernel
theorem dX8_wind_12 : decode cX8_wind 12 = .ok (.iconst 0, 1) := by decide +kernel
theorem dX8_wind_13 : decode cX8_wind 13 = .ok (.putfield 205, 3) := by decide +kernel
theorem dX8_wind_16 : decode cX8_wind 16 = .ok (.iload_n 1, 1) := by decide +kernel
theorem dX8_wind_17 : decode cX8_wind 17 = .ok (.ireturn, 1) := by decide +kernel
theorem dX8_fits_0 : decode cX8_fits 0 = .ok (.iload_n 1, 1) := by decide +kernel
theorem dX8_fits_1 : decode cX8_fits 1 = .ok (.iconst 0, 1) := by decide +kernel
theorem dX8_fits_2 : decode cX8_fits 2 = .ok (.iconst 3, 1) := by decide +kernel
theorem dX8_fits_3 : decode cX8_fits 3 = .ok (.invokestatic 62, 3) := by decide +kernel
theorem dX8_fits_6 : decode cX8_fits 6 = .ok (.ifCond .ne 6, 3) := by decide +kernel
theorem dX8_fits_9 : decode cX8_fits 9 = .ok (.bipush (-3), 2) := by decide +kernel
theorem dX8_fits_11 : decode cX8_fits 11 = .ok (.ireturn, 1) := by decide +kernel
theorem dX8_fits_12 : decode cX8_fits 12 = .ok (.aload_n 0, 1) := by decide +kernel
theorem dX8_fits_13 : decode cX8_fits 13 = .ok (.getfield 51, 3) := by decide +kernel
theorem dX8_fits_16 : decode cX8_fits 16 = .ok (.aload_n 0, 1) := by decide +kernel
theorem dX8_fits_17 : decode cX8_fits 17 = .ok (.getfield 12, 3) := by decide +kernel
theorem dX8_fits_20 : decode cX8_fits 20 = .ok (.getfield 130, 3) := by decide +kernel
theorem dX8_fits_23 : decode cX8_fits 23 = .ok (.iconst 0, 1) := by decide +kernel
theorem dX8_fits_24 : decode cX8_fits 24 = .ok (.invokevirtual 211, 3) := by decide +kernel
theorem dX8_fits_27 : decode cX8_fits 27 = .ok (.iload_n 1, 1) := by decide +kernel
theorem dX8_fits_28 : decode cX8_fits 28 = .ok (.tableswitch 52 0 2 #[28, 36, 44], 28) := by decide +kernel
theorem dX8_fits_56 : decode cX8_fits 56 = .ok (.aload_n 0, 1) := by decide +kernel
theorem dX8_fits_57 : decode cX8_fits 57 = .ok (.getfield 51, 3) := by decide +kernel
theorem dX8_fits_60 : decode cX8_fits 60 = .ok (.getfield 215, 3) := by decide +kernel
theorem dX8_fits_63 : decode cX8_fits 63 = .ok (.ireturn, 1) := by decide +kernel
theorem dX8_fits_64 : decode cX8_fits 64 = .ok (.aload_n 0, 1) := by decide +kernel
theorem dX8_fits_65 : decode cX8_fits 65 = .ok (.getfield 51, 3) := by decide +kernel
theorem dX8_fits_68 : decode cX8_fits 68 = .ok (.getfield 218, 3) := by decide +kernel
theorem dX8_fits_71 : decode cX8_fits 71 = .ok (.ireturn, 1) := by decide +kernel
theorem dX8_fits_72 : decode cX8_fits 72 = .ok (.aload_n 0, 1) := by decide +kernel
theorem dX8_fits_73 : decode cX8_fits 73 = .ok (.getfield 51, 3) := by decide +kernel
theorem dX8_fits_76 : decode cX8_fits 76 = .ok (.getfield 221, 3) := by decide +kernel
theorem dX8_fits_79 : decode cX8_fits 79 = .ok (.ireturn, 1) := by decide +kernel
theorem dX8_fits_80 : decode cX8_fits 80 = .ok (.aload_n 0, 1) := by decide +kernel
theorem dX8_fits_81 : decode cX8_fits 81 = .ok (.getfield 51, 3) := by decide +kernel
theorem dX8_fits_84 : decode cX8_fits 84 = .ok (.getfield 224, 3) := by decide +kernel
theorem dX8_fits_87 : decode cX8_fits 87 = .ok (.ireturn, 1) := by decide +kernel
theorem dX8_next_0 : decode cX8_next 0 = .ok (.iload_n 1, 1) := by decide +kernel
theorem dX8_next_1 : decode cX8_next 1 = .ok (.sipush (-999), 3) := by decide +kernel
theorem dX8_next_4 : decode cX8_next 4 = .ok (.sipush 999, 3) := by decide +kernel
theorem dX8_next_7 : decode cX8_next 7 = .ok (.invokestatic 62, 3) := by decide +kernel
theorem dX8_next_10 : decode cX8_next 10 = .ok (.ifCond .eq 12, 3) := by decide +kernel
theorem dX8_next_13 : decode cX8_next 13 = .ok (.iload_n 2, 1) := by decide +kernel
theorem dX8_next_14 : decode cX8_next 14 = .ok (.iconst 0, 1) := by decide +kernel
theorem dX8_next_15 : decode cX8_next 15 = .ok (.iconst 1, 1) := by decide +kernel
theorem dX8_next_16 : decode cX8_next 16 = .ok (.invokestatic 62, 3) := by decide +kernel
theorem dX8_next_19 : decode cX8_next 19 = .ok (.ifCond .ne 6, 3) := by decide +kernel
theorem dX8_next_22 : decode cX8_next 22 = .ok (.bipush (-3), 2) := by decide +kernel
theorem dX8_next_24 : decode cX8_next 24 = .ok (.ireturn, 1) := by decide +kernel
theorem dX8_next_25 : decode cX8_next 25 = .ok (.aload_n 0, 1) := by decide +kernel
theorem dX8_next_26 : decode cX8_next 26 = .ok (.getfield 51, 3) := by decide +kernel
theorem dX8_next_29 : decode cX8_next 29 = .ok (.aload_n 0, 1) := by decide +kernel
theorem dX8_next_30 : decode cX8_next 30 = .ok (.getfield 12, 3) := by decide +kernel
theorem dX8_next_33 : decode cX8_next 33 = .ok (.getfield 130, 3) := by decide +kernel
theorem dX8_next_36 : decode cX8_next 36 = .ok (.iload_n 1, 1) := by decide +kernel
theorem dX8_next_37 : decode cX8_next 37 = .ok (.invokevirtual 211, 3) := by decide +kernel
theorem dX8_next_40 : decode cX8_next 40 = .ok (.aload_n 0, 1) := by decide +kernel
theorem dX8_next_41 : decode cX8_next 41 = .ok (.getfield 51, 3) := by decide +kernel
theorem dX8_next_44 : decode cX8_next 44 = .ok (.getfield 215, 3) := by decide +kernel
theorem dX8_next_47 : decode cX8_next 47 = .ok (.ifCond .ne 5, 3) := by decide +kernel
theorem dX8_next_50 : decode cX8_next 50 = .ok (.iconst (-1), 1) := by decide +kernel
theorem dX8_next_51 : decode cX8_next 51 = .ok (.ireturn, 1) := by decide +kernel
theorem dX8_next_52 : decode cX8_next 52 = .ok (.sipush 1000, 3) := by decide +kernel
theorem dX8_next_55 : decode cX8_next 55 = .ok (.iload_n 2, 1) := by decide +kernel
theorem dX8_next_56 : decode cX8_next 56 = .ok (.ifCond .ne 13, 3) := by decide +kernel
theorem dX8_next_59 : decode cX8_next 59 = .ok (.aload_n 0, 1) := by decide +kernel
theorem dX8_next_60 : decode cX8_next 60 = .ok (.getfield 51, 3) := by decide +kernel
theorem dX8_next_63 : decode cX8_next 63 = .ok (.getfield 227, 3) := by decide +kernel
theorem dX8_next_66 : decode cX8_next 66 = .ok (.goto 10, 3) := by decide +kernel
theorem dX8_next_69 : decode cX8_next 69 = .ok (.aload_n 0, 1) := by decide +kernel
theorem dX8_next_70 : decode cX8_next 70 = .ok (.getfield 51, 3) := by decide +kernel
theorem dX8_next_73 : decode cX8_next 73 = .ok (.getfield 230, 3) := by decide +kernel
theorem dX8_next_76 : decode cX8_next 76 = .ok (.iadd, 1) := by decide +kernel
theorem dX8_next_77 : decode cX8_next 77 = .ok (.ireturn, 1) := by decide +kernel
theorem dX8_plan_0 : decode cX8_plan 0 = .ok (.iload_n 1, 1) := by decide +kernel
theorem dX8_plan_1 : decode cX8_plan 1 = .ok (.iconst 1, 1) := by decide +kernel
theorem dX8_plan_2 : decode cX8_plan 2 = .ok (.iconst 5, 1) := by decide +kernel
theorem dX8_plan_3 : decode cX8_plan 3 = .ok (.invokestatic 62, 3) := by decide +kernel
theorem dX8_plan_6 : decode cX8_plan 6 = .ok (.ifCond .eq 14, 3) := by decide +kernel
theorem dX8_plan_9 : decode cX8_plan 9 = .ok (.iload_n 2, 1) := by decide +kernel
theorem dX8_plan_10 : decode cX8_plan 10 = .ok (.iconst (-1), 1) := by decide +kernel
theorem dX8_plan_11 : decode cX8_plan 11 = .ok (.iload_n 1, 1) := by decide +kernel
theorem dX8_plan_12 : decode cX8_plan 12 = .ok (.iconst 1, 1) := by decide +kernel
theorem dX8_plan_13 : decode cX8_plan 13 = .ok (.isub, 1) := by decide +kernel
theorem dX8_plan_14 : decode cX8_plan 14 = .ok (.invokestatic 62, 3) := by decide +kernel
theorem dX8_plan_17 : decode cX8_plan 17 = .ok (.ifCond .ne 6, 3) := by decide +kernel
theorem dX8_plan_20 : decode cX8_plan 20 = .ok (.bipush (-3), 2) := by decide +kernel
theorem dX8_plan_22 : decode cX8_plan 22 = .ok (.ireturn, 1) := by decide +kernel
theorem dX8_plan_23 : decode cX8_plan 23 = .ok (.aload_n 0, 1) := by decide +kernel
theorem dX8_plan_24 : decode cX8_plan 24 = .ok (.getfield 37, 3) := by decide +kernel
theorem dX8_plan_27 : decode cX8_plan 27 = .ok (.aload_n 0, 1) := by decide +kernel
theorem dX8_plan_28 : decode cX8_plan 28 = .ok (.getfield 12, 3) := by decide +kernel
theorem dX8_plan_31 : decode cX8_plan 31 = .ok (.getfield 130, 3) := by decide +kernel
theorem dX8_plan_34 : decode cX8_plan 34 = .ok (.invokevirtual 164, 3) := by decide +kernel
theorem dX8_plan_37 : decode cX8_plan 37 = .ok (.aload_n 0, 1) := by decide +kernel
theorem dX8_plan_38 : decode cX8_plan 38 = .ok (.getfield 44, 3) := by decide +kernel
theorem dX8_plan_41 : decode cX8_plan 41 = .ok (.aload_n 0, 1) := by decide +kernel
theorem dX8_plan_42 : decode cX8_plan 42 = .ok (.getfield 12, 3) := by decide +kernel
theorem dX8_plan_45 : decode cX8_plan 45 = .ok (.aload_n 0, 1) := by decide +kernel
theorem dX8_plan_46 : decode cX8_plan 46 = .ok (.getfield 37, 3) := by decide +kernel
theorem dX8_plan_49 : decode cX8_plan 49 = .ok (.invokevirtual 233, 3) := by decide +kernel
theorem dX8_plan_52 : decode cX8_plan 52 = .ok (.aload_n 0, 1) := by decide +kernel
theorem dX8_plan_53 : decode cX8_plan 53 = .ok (.getfield 44, 3) := by decide +kernel
theorem dX8_plan_56 : decode cX8_plan 56 = .ok (.bipush 10, 2) := by decide +kernel
theorem dX8_plan_58 : decode cX8_plan 58 = .ok (.aload_n 0, 1) := by decide +kernel
theorem dX8_plan_59 : decode cX8_plan 59 = .ok (.getfield 12, 3) := by decide +kernel
theorem dX8_plan_62 : decode cX8_plan 62 = .ok (.getfield 130, 3) := by decide +kernel
theorem dX8_plan_65 : decode cX8_plan 65 = .ok (.iconst 2, 1) := by decide +kernel
theorem dX8_plan_66 : decode cX8_plan 66 = .ok (.iaload, 1) := by decide +kernel
theorem dX8_plan_67 : decode cX8_plan 67 = .ok (.imul, 1) := by decide +kernel
theorem dX8_plan_68 : decode cX8_plan 68 = .ok (.iload_n 1, 1) := by decide +kernel
theorem dX8_plan_69 : decode cX8_plan 69 = .ok (.invokevirtual 237, 3) := by decide +kernel
theorem dX8_plan_72 : decode cX8_plan 72 = .ok (.istore_n 3, 1) := by decide +kernel
theorem dX8_plan_73 : decode cX8_plan 73 = .ok (.iload_n 3, 1) := by decide +kernel
theorem dX8_plan_74 : decode cX8_plan 74 = .ok (.iconst (-1), 1) := by decide +kernel
theorem dX8_plan_75 : decode cX8_plan 75 = .ok (.if_icmp .ne 5, 3) := by decide +kernel
theorem dX8_plan_78 : decode cX8_plan 78 = .ok (.iconst (-1), 1) := by decide +kernel
theorem dX8_plan_79 : decode cX8_plan 79 = .ok (.ireturn, 1) := by decide +kernel
theorem dX8_plan_80 : decode cX8_plan 80 = .ok (.iload_n 2, 1) := by decide +kernel
theorem dX8_plan_81 : decode cX8_plan 81 = .ok (.iconst (-1), 1) := by decide +kernel
theorem dX8_plan_82 : decode cX8_plan 82 = .ok (.if_icmp .ne 13, 3) := by decide +kernel
theorem dX8_plan_85 : decode cX8_plan 85 = .ok (.aload_n 0, 1) := by decide +kernel
theorem dX8_plan_86 : decode cX8_plan 86 = .ok (.getfield 44, 3) := by decide +kernel
theorem dX8_plan_89 : decode cX8_plan 89 = .ok (.getfield 241, 3) := by decide +kernel
theorem dX8_plan_92 : decode cX8_plan 92 = .ok (.goto 9, 3) := by decide +kernel
theorem dX8_plan_95 : decode cX8_plan 95 = .ok (.iload_n 3, 1) := by decide +kernel
theorem dX8_plan_96 : decode cX8_plan 96 = .ok (.iload_n 1, 1) := by decide +kernel
theorem dX8_plan_97 : decode cX8_plan 97 = .ok (.iload_n 2, 1) := by decide +kernel
theorem dX8_plan_98 : decode cX8_plan 98 = .ok (.invokestatic 244, 3) := by decide +kernel
theorem dX8_plan_101 : decode cX8_plan 101 = .ok (.ireturn, 1) := by decide +kernel
theorem dX8_room_0 : decode cX8_room 0 = .ok (.iload_n 1, 1) := by decide +kernel
theorem dX8_room_1 : decode cX8_room 1 = .ok (.iconst 0, 1) := by decide +kernel
theorem dX8_room_2 : decode cX8_room 2 = .ok (.bipush 35, 2) := by decide +kernel
theorem dX8_room_4 : decode cX8_room 4 = .ok (.invokestatic 62, 3) := by decide +kernel
theorem dX8_room_7 : decode cX8_room 7 = .ok (.ifCond .ne 6, 3) := by decide +kernel
theorem dX8_room_10 : decode cX8_room 10 = .ok (.bipush (-2), 2) := by decide +kernel
theorem dX8_room_12 : decode cX8_room 12 = .ok (.ireturn, 1) := by decide +kernel
theorem dX8_room_13 : decode cX8_room 13 = .ok (.iload_n 2, 1) := by decide +kernel
theorem dX8_room_14 : decode cX8_room 14 = .ok (.iconst 0, 1) := by decide +kernel
theorem dX8_room_15 : decode cX8_room 15 = .ok (.bipush 99, 2) := by decide +kernel
theorem dX8_room_17 : decode cX8_room 17 = .ok (.invokestatic 62, 3) := by decide +kernel
theorem dX8_room_20 : decode cX8_room 20 = .ok (.ifCond .eq 14, 3) := by decide +kernel
theorem dX8_room_23 : decode cX8_room 23 = .ok (.iload_n 3, 1) := by decide +kernel
theorem dX8_room_24 : decode cX8_room 24 = .ok (.iconst 0, 1) := by decide +kernel
theorem dX8_room_25 : decode cX8_room 25 = .ok (.sipush 300, 3) := by decide +kernel
theorem dX8_room_28 : decode cX8_room 28 = .ok (.invokestatic 62, 3) := by decide +kernel
theorem dX8_room_31 : decode cX8_room 31 = .ok (.ifCond .ne 6, 3) := by decide +kernel
theorem dX8_room_34 : decode cX8_room 34 = .ok (.bipush (-3), 2) := by decide +kernel
theorem dX8_room_36 : decode cX8_room 36 = .ok (.ireturn, 1) := by decide +kernel
theorem dX8_room_37 : decode cX8_room 37 = .ok (.aload_n 0, 1) := by decide +kernel
theorem dX8_room_38 : decode cX8_room 38 = .ok (.getfield 58, 3) := by decide +kernel
theorem dX8_room_41 : decode cX8_room 41 = .ok (.getfield 247, 3) := by decide +kernel
theorem dX8_room_44 : decode cX8_room 44 = .ok (.iload_n 1, 1) := by decide +kernel
theorem dX8_room_45 : decode cX8_room 45 = .ok (.iaload, 1) := by decide +kernel
theorem dX8_room_46 : decode cX8_room 46 = .ok (.istore 4, 2) := by decide +kernel
theorem dX8_room_48 : decode cX8_room 48 = .ok (.aload_n 0, 1) := by decide +kernel
theorem dX8_room_49 : decode cX8_room 49 = .ok (.getfield 58, 3) := by decide +kernel
theorem dX8_room_52 : decode cX8_room 52 = .ok (.getfield 247, 3) := by decide +kernel
theorem dX8_room_55 : decode cX8_room 55 = .ok (.iload_n 1, 1) := by decide +kernel
theorem dX8_room_56 : decode cX8_room 56 = .ok (.iload_n 2, 1) := by decide +kernel
theorem dX8_room_57 : decode cX8_room 57 = .ok (.iastore, 1) := by decide +kernel
theorem dX8_room_58 : decode cX8_room 58 = .ok (.aload_n 0, 1) := by decide +kernel
theorem dX8_room_59 : decode cX8_room 59 = .ok (.getfield 58, 3) := by decide +kernel
theorem dX8_room_62 : decode cX8_room 62 = .ok (.getfield 250, 3) := by decide +kernel
theorem dX8_room_65 : decode cX8_room 65 = .ok (.iload_n 1, 1) := by decide +kernel
theorem dX8_room_66 : decode cX8_room 66 = .ok (.iload_n 3, 1) := by decide +kernel
theorem dX8_room_67 : decode cX8_room 67 = .ok (.iastore, 1) := by decide +kernel
theorem dX8_room_68 : decode cX8_room 68 = .ok (.iload 4, 2) := by decide +kernel
theorem dX8_room_70 : decode cX8_room 70 = .ok (.ireturn, 1) := by decide +kernel
theorem dX8_way_0 : decode cX8_way 0 = .ok (.iload_n 1, 1) := by decide +kernel
theorem dX8_way_1 : decode cX8_way 1 = .ok (.invokestatic 87, 3) := by decide +kernel
theorem dX8_way_4 : decode cX8_way 4 = .ok (.ifCond .eq 23, 3) := by decide +kernel
theorem dX8_way_7 : decode cX8_way 7 = .ok (.iload_n 2, 1) := by decide +kernel
theorem dX8_way_8 : decode cX8_way 8 = .ok (.iconst 0, 1) := by decide +kernel
theorem dX8_way_9 : decode cX8_way 9 = .ok (.bipush 35, 2) := by decide +kernel
theorem dX8_way_11 : decode cX8_way 11 = .ok (.invokestatic 62, 3) := by decide +kernel
theorem dX8_way_14 : decode cX8_way 14 = .ok (.ifCond .eq 13, 3) := by decide +kernel
theorem dX8_way_17 : decode cX8_way 17 = .ok (.iload_n 3, 1) := by decide +kernel
theorem dX8_way_18 : decode cX8_way 18 = .ok (.iconst 0, 1) := by decide +kernel
theorem dX8_way_19 : decode cX8_way 19 = .ok (.bipush 35, 2) := by decide +kernel
theorem dX8_way_21 : decode cX8_way 21 = .ok (.invokestatic 62, 3) := by decide +kernel
theorem dX8_way_24 : decode cX8_way 24 = .ok (.ifCond .ne 6, 3) := by decide +kernel
theorem dX8_way_27 : decode cX8_way 27 = .ok (.bipush (-2), 2) := by decide +kernel
theorem dX8_way_29 : decode cX8_way 29 = .ok (.ireturn, 1) := by decide +kernel
theorem dX8_way_30 : decode cX8_way 30 = .ok (.iload 4, 2) := by decide +kernel
theorem dX8_way_32 : decode cX8_way 32 = .ok (.iconst 0, 1) := by decide +kernel
theorem dX8_way_33 : decode cX8_way 33 = .ok (.bipush 99, 2) := by decide +kernel
theorem dX8_way_35 : decode cX8_way 35 = .ok (.invokestatic 62, 3) := by decide +kernel
theorem dX8_way_38 : decode cX8_way 38 = .ok (.ifCond .eq 13, 3) := by decide +kernel
theorem dX8_way_41 : decode cX8_way 41 = .ok (.iload 5, 2) := by decide +kernel
theorem dX8_way_43 : decode cX8_way 43 = .ok (.iconst 0, 1) := by decide +kernel
theorem dX8_way_44 : decode cX8_way 44 = .ok (.iconst 1, 1) := by decide +kernel
theorem dX8_way_45 : decode cX8_way 45 = .ok (.invokestatic 62, 3) := by decide +kernel
theorem dX8_way_48 : decode cX8_way 48 = .ok (.ifCond .ne 6, 3) := by decide +kernel
theorem dX8_way_51 : decode cX8_way 51 = .ok (.bipush (-3), 2) := by decide +kernel
theorem dX8_way_53 : decode cX8_way 53 = .ok (.ireturn, 1) := by decide +kernel
theorem dX8_way_54 : decode cX8_way 54 = .ok (.aload_n 0, 1) := by decide +kernel
theorem dX8_way_55 : decode cX8_way 55 = .ok (.iload_n 1, 1) := by decide +kernel
theorem dX8_way_56 : decode cX8_way 56 = .ok (.invokevirtual 137, 3) := by decide +kernel
theorem dX8_way_59 : decode cX8_way 59 = .ok (.ifCond .ne 6, 3) := by decide +kernel
theorem dX8_way_62 : decode cX8_way 62 = .ok (.bipush (-4), 2) := by decide +kernel
theorem dX8_way_64 : decode cX8_way 64 = .ok (.ireturn, 1) := by decide +kernel
theorem dX8_way_65 : decode cX8_way 65 = .ok (.aload_n 0, 1) := by decide +kernel
theorem dX8_way_66 : decode cX8_way 66 = .ok (.getfield 58, 3) := by decide +kernel
theorem dX8_way_69 : decode cX8_way 69 = .ok (.iload_n 2, 1) := by decide +kernel
theorem dX8_way_70 : decode cX8_way 70 = .ok (.iload 4, 2) := by decide +kernel
theorem dX8_way_72 : decode cX8_way 72 = .ok (.aload_n 0, 1) := by decide +kernel
theorem dX8_way_73 : decode cX8_way 73 = .ok (.getfield 12, 3) := by decide +kernel
theorem dX8_way_76 : decode cX8_way 76 = .ok (.getfield 91, 3) := by decide +kernel
theorem dX8_way_79 : decode cX8_way 79 = .ok (.iload_n 1, 1) := by decide +kernel
theorem dX8_way_80 : decode cX8_way 80 = .ok (.aaload, 1) := by decide +kernel
theorem dX8_way_81 : decode cX8_way 81 = .ok (.getfield 109, 3) := by decide +kernel
theorem dX8_way_84 : decode cX8_way 84 = .ok (.invokevirtual 253, 3) := by decide +kernel
theorem dX8_way_87 : decode cX8_way 87 = .ok (.iload 5, 2) := by decide +kernel
theorem dX8_way_89 : decode cX8_way 89 = .ok (.ifCond .ne 15, 3) := by decide +kernel
theorem dX8_way_92 : decode cX8_way 92 = .ok (.aload_n 0, 1) := by decide +kernel
theorem dX8_way_93 : decode cX8_way 93 = .ok (.getfield 58, 3) := by decide +kernel
theorem dX8_way_96 : decode cX8_way 96 = .ok (.getfield 256, 3) := by decide +kernel
theorem dX8_way_99 : decode cX8_way 99 = .ok (.iload_n 3, 1) := by decide +kernel
theorem dX8_way_100 : decode cX8_way 100 = .ok (.iaload, 1) := by decide +kernel
theorem dX8_way_101 : decode cX8_way 101 = .ok (.goto 12, 3) := by decide +kernel
theorem dX8_way_104 : decode cX8_way 104 = .ok (.aload_n 0, 1) := by decide +kernel
theorem dX8_way_105 : decode cX8_way 105 = .ok (.getfield 58, 3) := by decide +kernel
theorem dX8_way_108 : decode cX8_way 108 = .ok (.getfield 259, 3) := by decide +kernel
theorem dX8_way_111 : decode cX8_way 111 = .ok (.iload_n 3, 1) := by decide +kernel
theorem dX8_way_112 : decode cX8_way 112 = .ok (.iaload, 1) := by decide +kernel
theorem dX8_way_113 : decode cX8_way 113 = .ok (.ireturn, 1) := by decide +kernel
theorem dX8_count_0 : decode cX8_count 0 = .ok (.iload_n 1, 1) := by decide +kernel
theorem dX8_count_1 : decode cX8_count 1 = .ok (.iconst 0, 1) := by decide +kernel
theorem dX8_count_2 : decode cX8_count 2 = .ok (.bipush 11, 2) := by decide +kernel
theorem dX8_count_4 : decode cX8_count 4 = .ok (.invokestatic 62, 3) := by decide +kernel
theorem dX8_count_7 : decode cX8_count 7 = .ok (.ifCond .ne 6, 3) := by decide +kernel
theorem dX8_count_10 : decode cX8_count 10 = .ok (.bipush (-3), 2) := by decide +kernel
theorem dX8_count_12 : decode cX8_count 12 = .ok (.ireturn, 1) := by decide +kernel
theorem dX8_count_13 : decode cX8_count 13 = .ok (.iload_n 1, 1) := by decide +kernel
theorem dX8_count_14 : decode cX8_count 14 = .ok (.lookupswitch 42 #[(10, 26), (11, 34)], 26) := by decide +kernel
theorem dX8_count_40 : decode cX8_count 40 = .ok (.aload_n 0, 1) := by decide +kernel
theorem dX8_count_41 : decode cX8_count 41 = .ok (.getfield 51, 3) := by decide +kernel
theorem dX8_count_44 : decode cX8_count 44 = .ok (.getfield 205, 3) := by decide +kernel
theorem dX8_count_47 : decode cX8_count 47 = .ok (.ireturn, 1) := by decide +kernel
theorem dX8_count_48 : decode cX8_count 48 = .ok (.aload_n 0, 1) := by decide +kernel
theorem dX8_count_49 : decode cX8_count 49 = .ok (.getfield 19, 3) := by decide +kernel
theorem dX8_count_52 : decode cX8_count 52 = .ok (.getfield 66, 3) := by decide +kernel
theorem dX8_count_55 : decode cX8_count 55 = .ok (.ireturn, 1) := by decide +kernel
theorem dX8_count_56 : decode cX8_count 56 = .ok (.aload_n 0, 1) := by decide +kernel
theorem dX8_count_57 : decode cX8_count 57 = .ok (.getfield 12, 3) := by decide +kernel
theorem dX8_count_60 : decode cX8_count 60 = .ok (.getfield 130, 3) := by decide +kernel
theorem dX8_count_63 : decode cX8_count 63 = .ok (.iload_n 1, 1) := by decide +kernel
theorem dX8_count_64 : decode cX8_count 64 = .ok (.iaload, 1) := by decide +kernel
theorem dX8_count_65 : decode cX8_count 65 = .ok (.ireturn, 1) := by decide +kernel
theorem dX8_within_0 : decode cX8_within 0 = .ok (.iload_n 0, 1) := by decide +kernel
theorem dX8_within_1 : decode cX8_within 1 = .ok (.iload_n 1, 1) := by decide +kernel
theorem dX8_within_2 : decode cX8_within 2 = .ok (.if_icmp .lt 12, 3) := by decide +kernel
theorem dX8_within_5 : decode cX8_within 5 = .ok (.iload_n 0, 1) := by decide +kernel
theorem dX8_within_6 : decode cX8_within 6 = .ok (.iload_n 2, 1) := by decide +kernel
theorem dX8_within_7 : decode cX8_within 7 = .ok (.if_icmp .gt 7, 3) := by decide +kernel
theorem dX8_within_10 : decode cX8_within 10 = .ok (.iconst 1, 1) := by decide +kernel
theorem dX8_within_11 : decode cX8_within 11 = .ok (.goto 4, 3) := by decide +kernel
theorem dX8_within_14 : decode cX8_within 14 = .ok (.iconst 0, 1) := by decide +kernel
theorem dX8_within_15 : decode cX8_within 15 = .ok (.ireturn, 1) := by decide +kernel
theorem dX8_isThing_0 : decode cX8_isThing 0 = .ok (.iload_n 0, 1) := by decide +kernel
theorem dX8_isThing_1 : decode cX8_isThing 1 = .ok (.iconst 0, 1) := by decide +kernel
theorem dX8_isThing_2 : decode cX8_isThing 2 = .ok (.iconst 3, 1) := by decide +kernel
theorem dX8_isThing_3 : decode cX8_isThing 3 = .ok (.invokestatic 62, 3) := by decide +kernel
theorem dX8_isThing_6 : decode cX8_isThing 6 = .ok (.ireturn, 1) := by decide +kernel
theorem dX8_hasLumps_0 : decode cX8_hasLumps 0 = .ok (.aload_n 0, 1) := by decide +kernel
theorem dX8_hasLumps_1 : decode cX8_hasLumps 1 = .ok (.getfield 12, 3) := by decide +kernel
theorem dX8_hasLumps_4 : decode cX8_hasLumps 4 = .ok (.getfield 91, 3) := by decide +kernel
theorem dX8_hasLumps_7 : decode cX8_hasLumps 7 = .ok (.iload_n 1, 1) := by decide +kernel
theorem dX8_hasLumps_8 : decode cX8_hasLumps 8 = .ok (.aaload, 1) := by decide +kernel
theorem dX8_hasLumps_9 : decode cX8_hasLumps 9 = .ok (.getfield 103, 3) := by decide +kernel
theorem dX8_hasLumps_12 : decode cX8_hasLumps 12 = .ok (.ifCond .le 7, 3) := by decide +kernel
theorem dX8_hasLumps_15 : decode cX8_hasLumps 15 = .ok (.iconst 1, 1) := by decide +kernel
theorem dX8_hasLumps_16 : decode cX8_hasLumps 16 = .ok (.goto 4, 3) := by decide +kernel
theorem dX8_hasLumps_19 : decode cX8_hasLumps 19 = .ok (.iconst 0, 1) := by decide +kernel
theorem dX8_hasLumps_20 : decode cX8_hasLumps 20 = .ok (.ireturn, 1) := by decide +kernel
theorem dX8_refusal_0 : decode cX8_refusal 0 = .ok (.iload_n 1, 1) := by decide +kernel
theorem dX8_refusal_1 : decode cX8_refusal 1 = .ok (.invokestatic 87, 3) := by decide +kernel
theorem dX8_refusal_4 : decode cX8_refusal 4 = .ok (.ifCond .ne 6, 3) := by decide +kernel
theorem dX8_refusal_7 : decode cX8_refusal 7 = .ok (.bipush (-2), 2) := by decide +kernel
theorem dX8_refusal_9 : decode cX8_refusal 9 = .ok (.ireturn, 1) := by decide +kernel
theorem dX8_refusal_10 : decode cX8_refusal 10 = .ok (.iload_n 2, 1) := by decide +kernel
theorem dX8_refusal_11 : decode cX8_refusal 11 = .ok (.ifCond .ne 6, 3) := by decide +kernel
theorem dX8_refusal_14 : decode cX8_refusal 14 = .ok (.bipush (-3), 2) := by decide +kernel
theorem dX8_refusal_16 : decode cX8_refusal 16 = .ok (.ireturn, 1) := by decide +kernel
theorem dX8_refusal_17 : decode cX8_refusal 17 = .ok (.aload_n 0, 1) := by decide +kernel
theorem dX8_refusal_18 : decode cX8_refusal 18 = .ok (.iload_n 1, 1) := by decide +kernel
theorem dX8_refusal_19 : decode cX8_refusal 19 = .ok (.invokevirtual 137, 3) := by decide +kernel
theorem dX8_refusal_22 : decode cX8_refusal 22 = .ok (.ifCond .eq 7, 3) := by decide +kernel
theorem dX8_refusal_25 : decode cX8_refusal 25 = .ok (.iconst 0, 1) := by decide +kernel
theorem dX8_refusal_26 : decode cX8_refusal 26 = .ok (.goto 5, 3) := by decide +kernel
theorem dX8_refusal_29 : decode cX8_refusal 29 = .ok (.bipush (-4), 2) := by decide +kernel
theorem dX8_refusal_31 : decode cX8_refusal 31 = .ok (.ireturn, 1) := by decide +kernel
theorem dX8_limited_0 : decode cX8_limited 0 = .ok (.iload_n 0, 1) := by decide +kernel
theorem dX8_limited_1 : decode cX8_limited 1 = .ok (.iload_n 1, 1) := by decide +kernel
theorem dX8_limited_2 : decode cX8_limited 2 = .ok (.if_icmp .le 5, 3) := by decide +kernel
theorem dX8_limited_5 : decode cX8_limited 5 = .ok (.iload_n 1, 1) := by decide +kernel
theorem dX8_limited_6 : decode cX8_limited 6 = .ok (.ireturn, 1) := by decide +kernel
theorem dX8_limited_7 : decode cX8_limited 7 = .ok (.iload_n 0, 1) := by decide +kernel
theorem dX8_limited_8 : decode cX8_limited 8 = .ok (.iload_n 1, 1) := by decide +kernel
theorem dX8_limited_9 : decode cX8_limited 9 = .ok (.ineg, 1) := by decide +kernel
theorem dX8_limited_10 : decode cX8_limited 10 = .ok (.if_icmp .ge 8, 3) := by decide +kernel
theorem dX8_limited_13 : decode cX8_limited 13 = .ok (.iload_n 1, 1) := by decide +kernel
theorem dX8_limited_14 : decode cX8_limited 14 = .ok (.ineg, 1) := by decide +kernel
theorem dX8_limited_15 : decode cX8_limited 15 = .ok (.goto 4, 3) := by decide +kernel
theorem dX8_limited_18 : decode cX8_limited 18 = .ok (.iload_n 0, 1) := by decide +kernel
theorem dX8_limited_19 : decode cX8_limited 19 = .ok (.ireturn, 1) := by decide +kernel
theorem dX8_wish_0 : decode cX8_wish 0 = .ok (.iload_n 1, 1) := by decide +kernel
theorem dX8_wish_1 : decode cX8_wish 1 = .ok (.invokestatic 262, 3) := by decide +kernel
theorem dX8_wish_4 : decode cX8_wish 4 = .ok (.aload_n 0, 1) := by decide +kernel
theorem dX8_wish_5 : decode cX8_wish 5 = .ok (.iconst 4, 1) := by decide +kernel
theorem dX8_wish_6 : decode cX8_wish 6 = .ok (.iaload, 1) := by decide +kernel
theorem dX8_wish_7 : decode cX8_wish 7 = .ok (.if_icmp .ge 5, 3) := by decide +kernel
theorem dX8_wish_10 : decode cX8_wish 10 = .ok (.iconst 0, 1) := by decide +kernel
theorem dX8_wish_11 : decode cX8_wish 11 = .ok (.ireturn, 1) := by decide +kernel
theorem dX8_wish_12 : decode cX8_wish 12 = .ok (.aload_n 0, 1) := by decide +kernel
theorem dX8_wish_13 : decode cX8_wish 13 = .ok (.iconst 0, 1) := by decide +kernel
theorem dX8_wish_14 : decode cX8_wish 14 = .ok (.iaload, 1) := by decide +kernel
theorem dX8_wish_15 : decode cX8_wish 15 = .ok (.iload_n 1, 1) := by decide +kernel
theorem dX8_wish_16 : decode cX8_wish 16 = .ok (.imul, 1) := by decide +kernel
theorem dX8_wish_17 : decode cX8_wish 17 = .ok (.aload_n 0, 1) := by decide +kernel
theorem dX8_wish_18 : decode cX8_wish 18 = .ok (.iconst 1, 1) := by decide +kernel
theorem dX8_wish_19 : decode cX8_wish 19 = .ok (.iaload, 1) := by decide +kernel
theorem dX8_wish_20 : decode cX8_wish 20 = .ok (.iload_n 1, 1) := by decide +kernel
theorem dX8_wish_21 : decode cX8_wish 21 = .ok (.iload_n 2, 1) := by decide +kernel
theorem dX8_wish_22 : decode cX8_wish 22 = .ok (.isub, 1) := by decide +kernel
theorem dX8_wish_23 : decode cX8_wish 23 = .ok (.imul, 1) := by decide +kernel
theorem dX8_wish_24 : decode cX8_wish 24 = .ok (.iadd, 1) := by decide +kernel
theorem dX8_wish_25 : decode cX8_wish 25 = .ok (.bipush 10, 2) := by decide +kernel
theorem dX8_wish_27 : decode cX8_wish 27 = .ok (.idiv, 1) := by decide +kernel
theorem dX8_wish_28 : decode cX8_wish 28 = .ok (.aload_n 0, 1) := by decide +kernel
theorem dX8_wish_29 : decode cX8_wish 29 = .ok (.iconst 3, 1) := by decide +kernel
theorem dX8_wish_30 : decode cX8_wish 30 = .ok (.iaload, 1) := by decide +kernel
theorem dX8_wish_31 : decode cX8_wish 31 = .ok (.invokestatic 267, 3) := by decide +kernel
theorem dX8_wish_34 : decode cX8_wish 34 = .ok (.ireturn, 1) := by decide +kernel
theorem dX8_lowestTerms_0 : decode cX8_lowestTerms 0 = .ok (.iload_n 0, 1) := by decide +kernel
theorem dX8_lowestTerms_1 : decode cX8_lowestTerms 1 = .ok (.istore_n 3, 1) := by decide +kernel
theorem dX8_lowestTerms_2 : decode cX8_lowestTerms 2 = .ok (.bipush 10, 2) := by decide +kernel
theorem dX8_lowestTerms_4 : decode cX8_lowestTerms 4 = .ok (.iload_n 1, 1) := by decide +kernel
theorem dX8_lowestTerms_5 : decode cX8_lowestTerms 5 = .ok (.invokestatic 270, 3) := by decide +kernel
theorem dX8_lowestTerms_8 : decode cX8_lowestTerms 8 = .ok (.istore 4, 2) := by decide +kernel
theorem dX8_lowestTerms_10 : decode cX8_lowestTerms 10 = .ok (.iconst 0, 1) := by decide +kernel
theorem dX8_lowestTerms_11 : decode cX8_lowestTerms 11 = .ok (.istore 5, 2) := by decide +kernel
theorem dX8_lowestTerms_13 : decode cX8_lowestTerms 13 = .ok (.iload 5, 2) := by decide +kernel
theorem dX8_lowestTerms_15 : decode cX8_lowestTerms 15 = .ok (.iload_n 1, 1) := by decide +kernel
theorem dX8_lowestTerms_16 : decode cX8_lowestTerms 16 = .ok (.if_icmp .ge 41, 3) := by decide +kernel
theorem dX8_lowestTerms_19 : decode cX8_lowestTerms 19 = .ok (.iload_n 3, 1) := by decide +kernel
theorem dX8_lowestTerms_20 : decode cX8_lowestTerms 20 = .ok (.iconst 2, 1) := by decide +kernel
theorem dX8_lowestTerms_21 : decode cX8_lowestTerms 21 = .ok (.irem, 1) := by decide +kernel
theorem dX8_lowestTerms_22 : decode cX8_lowestTerms 22 = .ok (.ifCond .ne 13, 3) := by decide +kernel
theorem dX8_lowestTerms_25 : decode cX8_lowestTerms 25 = .ok (.iload_n 3, 1) := by decide +kernel
theorem dX8_lowestTerms_26 : decode cX8_lowestTerms 26 = .ok (.iconst 2, 1) := by decide +kernel
theorem dX8_lowestTerms_27 : decode cX8_lowestTerms 27 = .ok (.idiv, 1) := by decide +kernel
theorem dX8_lowestTerms_28 : decode cX8_lowestTerms 28 = .ok (.istore_n 3, 1) := by decide +kernel
theorem dX8_lowestTerms_29 : decode cX8_lowestTerms 29 = .ok (.iload 4, 2) := by decide +kernel
theorem dX8_lowestTerms_31 : decode cX8_lowestTerms 31 = .ok (.iconst 2, 1) := by decide +kernel
theorem dX8_lowestTerms_32 : decode cX8_lowestTerms 32 = .ok (.idiv, 1) := by decide +kernel
theorem dX8_lowestTerms_33 : decode cX8_lowestTerms 33 = .ok (.istore 4, 2) := by decide +kernel
theorem dX8_lowestTerms_35 : decode cX8_lowestTerms 35 = .ok (.iload_n 3, 1) := by decide +kernel
theorem dX8_lowestTerms_36 : decode cX8_lowestTerms 36 = .ok (.iconst 5, 1) := by decide +kernel
theorem dX8_lowestTerms_37 : decode cX8_lowestTerms 37 = .ok (.irem, 1) := by decide +kernel
theorem dX8_lowestTerms_38 : decode cX8_lowestTerms 38 = .ok (.ifCond .ne 13, 3) := by decide +kernel
theorem dX8_lowestTerms_41 : decode cX8_lowestTerms 41 = .ok (.iload_n 3, 1) := by decide +kernel
theorem dX8_lowestTerms_42 : decode cX8_lowestTerms 42 = .ok (.iconst 5, 1) := by decide +kernel
theorem dX8_lowestTerms_43 : decode cX8_lowestTerms 43 = .ok (.idiv, 1) := by decide +kernel
theorem dX8_lowestTerms_44 : decode cX8_lowestTerms 44 = .ok (.istore_n 3, 1) := by decide +kernel
theorem dX8_lowestTerms_45 : decode cX8_lowestTerms 45 = .ok (.iload 4, 2) := by decide +kernel
theorem dX8_lowestTerms_47 : decode cX8_lowestTerms 47 = .ok (.iconst 5, 1) := by decide +kernel
theorem dX8_lowestTerms_48 : decode cX8_lowestTerms 48 = .ok (.idiv, 1) := by decide +kernel
theorem dX8_lowestTerms_49 : decode cX8_lowestTerms 49 = .ok (.istore 4, 2) := by decide +kernel
theorem dX8_lowestTerms_51 : decode cX8_lowestTerms 51 = .ok (.iinc 5 1, 3) := by decide +kernel
theorem dX8_lowestTerms_54 : decode cX8_lowestTerms 54 = .ok (.goto (-41), 3) := by decide +kernel
theorem dX8_lowestTerms_57 : decode cX8_lowestTerms 57 = .ok (.iload_n 2, 1) := by decide +kernel
theorem dX8_lowestTerms_58 : decode cX8_lowestTerms 58 = .ok (.ifCond .ne 7, 3) := by decide +kernel
theorem dX8_lowestTerms_61 : decode cX8_lowestTerms 61 = .ok (.iload_n 3, 1) := by decide +kernel
theorem dX8_lowestTerms_62 : decode cX8_lowestTerms 62 = .ok (.goto 5, 3) := by decide +kernel
theorem dX8_lowestTerms_65 : decode cX8_lowestTerms 65 = .ok (.iload 4, 2) := by decide +kernel
theorem dX8_lowestTerms_67 : decode cX8_lowestTerms 67 = .ok (.ireturn, 1) := by decide +kernel
theorem dX8_power_0 : decode cX8_power 0 = .ok (.iconst 1, 1) := by decide +kernel
theorem dX8_power_1 : decode cX8_power 1 = .ok (.istore_n 2, 1) := by decide +kernel
theorem dX8_power_2 : decode cX8_power 2 = .ok (.iconst 0, 1) := by decide +kernel
theorem dX8_power_3 : decode cX8_power 3 = .ok (.istore_n 3, 1) := by decide +kernel
theorem dX8_power_4 : decode cX8_power 4 = .ok (.iload_n 3, 1) := by decide +kernel
theorem dX8_power_5 : decode cX8_power 5 = .ok (.iload_n 1, 1) := by decide +kernel
theorem dX8_power_6 : decode cX8_power 6 = .ok (.if_icmp .ge 13, 3) := by decide +kernel
theorem dX8_power_9 : decode cX8_power 9 = .ok (.iload_n 2, 1) := by decide +kernel
theorem dX8_power_10 : decode cX8_power 10 = .ok (.iload_n 0, 1) := by decide +kernel
theorem dX8_power_11 : decode cX8_power 11 = .ok (.imul, 1) := by decide +kernel
theorem dX8_power_12 : decode cX8_power 12 = .ok (.istore_n 2, 1) := by decide +kernel
theorem dX8_power_13 : decode cX8_power 13 = .ok (.iinc 3 1, 3) := by decide +kernel
theorem dX8_power_16 : decode cX8_power 16 = .ok (.goto (-12), 3) := by decide +kernel
theorem dX8_power_19 : decode cX8_power 19 = .ok (.iload_n 2, 1) := by decide +kernel
theorem dX8_power_20 : decode cX8_power 20 = .ok (.ireturn, 1) := by decide +kernel
end
section
theorem dX9_init_0 : decode cX9_init 0 = .ok (.aload_n 0, 1) := by decide +kernel
theorem dX9_init_1 : decode cX9_init 1 = .ok (.invokespecial 1, 3) := by decide +kernel
theorem dX9_init_4 : decode cX9_init 4 = .ok (.aload_n 0, 1) := by decide +kernel
theorem dX9_init_5 : decode cX9_init 5 = .ok (.sipush 200, 3) := by decide +kernel
theorem dX9_init_8 : decode cX9_init 8 = .ok (.newarray .int, 2) := by decide +kernel
theorem dX9_init_10 : decode cX9_init 10 = .ok (.putfield 7, 3) := by decide +kernel
theorem dX9_init_13 : decode cX9_init 13 = .ok (.aload_n 0, 1) := by decide +kernel
theorem dX9_init_14 : decode cX9_init 14 = .ok (.bipush 48, 2) := by decide +kernel
theorem dX9_init_16 : decode cX9_init 16 = .ok (.newarray .int, 2) := by decide +kernel
theorem dX9_init_18 : decode cX9_init 18 = .ok (.putfield 13, 3) := by decide +kernel
theorem dX9_init_21 : decode cX9_init 21 = .ok (.aload_n 0, 1) := by decide +kernel
theorem dX9_init_22 : decode cX9_init 22 = .ok (.iconst 4, 1) := by decide +kernel
theorem dX9_init_23 : decode cX9_init 23 = .ok (.newarray .int, 2) := by decide +kernel
theorem dX9_init_25 : decode cX9_init 25 = .ok (.putfield 16, 3) := by decide +kernel
theorem dX9_init_28 : decode cX9_init 28 = .ok (.aload_n 0, 1) := by decide +kernel
theorem dX9_init_29 : decode cX9_init 29 = .ok (.iconst 4, 1) := by decide +kernel
theorem dX9_init_30 : decode cX9_init 30 = .ok (.newarray .int, 2) := by decide +kernel
theorem dX9_init_32 : decode cX9_init 32 = .ok (.putfield 19, 3) := by decide +kernel
theorem dX9_init_35 : decode cX9_init 35 = .ok (.aload_n 0, 1) := by decide +kernel
theorem dX9_init_36 : decode cX9_init 36 = .ok (.iconst 4, 1) := by decide +kernel
theorem dX9_init_37 : decode cX9_init 37 = .ok (.newarray .int, 2) := by decide +kernel
theorem dX9_init_39 : decode cX9_init 39 = .ok (.putfield 22, 3) := by decide +kernel
theorem dX9_init_42 : decode cX9_init 42 = .ok (.aload_n 0, 1) := by decide +kernel
theorem dX9_init_43 : decode cX9_init 43 = .ok (.bipush 32, 2) := by decide +kernel
theorem dX9_init_45 : decode cX9_init 45 = .ok (.newarray .int, 2) := by decide +kernel
theorem dX9_init_47 : decode cX9_init 47 = .ok (.putfield 25, 3) := by decide +kernel
theorem dX9_init_50 : decode cX9_init 50 = .ok (.aload_n 0, 1) := by decide +kernel
theorem dX9_init_51 : decode cX9_init 51 = .ok (.bipush 10, 2) := by decide +kernel
theorem dX9_init_53 : decode cX9_init 53 = .ok (.putfield 28, 3) := by decide +kernel
theorem dX9_init_56 : decode cX9_init 56 = .ok (.aload_n 0, 1) := by decide +kernel
theorem dX9_init_57 : decode cX9_init 57 = .ok (.bipush 20, 2) := by decide +kernel
theorem dX9_init_59 : decode cX9_init 59 = .ok (.putfield 32, 3) := by decide +kernel
theorem dX9_init_62 : decode cX9_init 62 = .ok (.aload_n 0, 1) := by decide +kernel
theorem dX9_init_63 : decode cX9_init 63 = .ok (.iconst 1, 1) := by decide +kernel
theorem dX9_init_64 : decode cX9_init 64 = .ok (.putfield 35, 3) := by decide +kernel
theorem dX9_init_67 : decode cX9_init 67 = .ok (.aload_n 0, 1) := by decide +kernel
theorem dX9_init_68 : decode cX9_init 68 = .ok (.bipush 20, 2) := by decide +kernel
theorem dX9_init_70 : decode cX9_init 70 = .ok (.putfield 38, 3) := by decide +kernel
theorem dX9_init_73 : decode cX9_init 73 = .ok (.aload_n 0, 1) := by decide +kernel
theorem dX9_init_74 : decode cX9_init 74 = .ok (.sipush 200, 3) := by decide +kernel
theorem dX9_init_77 : decode cX9_init 77 = .ok (.putfield 41, 3) := by decide +kernel
theorem dX9_init_80 : decode cX9_init 80 = .ok (.aload_n 0, 1) := by decide +kernel
theorem dX9_init_81 : decode cX9_init 81 = .ok (.bipush 20, 2) := by decide +kernel
theorem dX9_init_83 : decode cX9_init 83 = .ok (.putfield 44, 3) := by decide +kernel
theorem dX9_init_86 : decode cX9_init 86 = .ok (.aload_n 0, 1) := by decide +kernel
theorem dX9_init_87 : decode cX9_init 87 = .ok (.bipush 100, 2) := by decide +kernel
theorem dX9_init_89 : decode cX9_init 89 = .ok (.putfield 47, 3) := by decide +kernel
theorem dX9_init_92 : decode cX9_init 92 = .ok (.aload_n 0, 1) := by decide +kernel
theorem dX9_init_93 : decode cX9_init 93 = .ok (.iconst 4, 1) := by decide +kernel
theorem dX9_init_94 : decode cX9_init 94 = .ok (.newarray .int, 2) := by decide +kernel
theorem dX9_init_96 : decode cX9_init 96 = .ok (.putfield 50, 3) := by decide +kernel
theorem dX9_init_99 : decode cX9_init 99 = .ok (.aload_n 0, 1) := by decide +kernel
theorem dX9_init_100 : decode cX9_init 100 = .ok (.sipush 2010, 3) := by decide +kernel
theorem dX9_init_103 : decode cX9_init 103 = .ok (.newarray .int, 2) := by decide +kernel
theorem dX9_init_105 : decode cX9_init 105 = .ok (.putfield 53, 3) := by decide +kernel
theorem dX9_init_108 : decode cX9_init 108 = .ok (.aload_n 0, 1) := by decide +kernel
theorem dX9_init_109 : decode cX9_init 109 = .ok (.iconst 5, 1) := by decide +kernel
theorem dX9_init_110 : decode cX9_init 110 = .ok (.newarray .int, 2) := by decide +kernel
theorem dX9_init_112 : decode cX9_init 112 = .ok (.putfield 56, 3) := by decide +kernel
theorem dX9_init_115 : decode cX9_init 115 = .ok (.aload_n 0, 1) := by decide +kernel
theorem dX9_init_116 : decode cX9_init 116 = .ok (.iconst 5, 1) := by decide +kernel
theorem dX9_init_117 : decode cX9_init 117 = .ok (.newarray .int, 2) := by decide +kernel
theorem dX9_init_119 : decode cX9_init 119 = .ok (.putfield 59, 3) := by decide +kernel
theorem dX9_init_122 : decode cX9_init 122 = .ok (.aload_n 0, 1) := by decide +kernel
theorem dX9_init_123 : decode cX9_init 123 = .ok (.iconst 5, 1) := by decide +kernel
theorem dX9_init_124 : decode cX9_init 124 = .ok (.newarray .int, 2) := by decide +kernel
theorem dX9_init_126 : decode cX9_init 126 = .ok (.putfield 62, 3) := by decide +kernel
theorem dX9_init_129 : decode cX9_init 129 = .ok (.aload_n 0, 1) := by decide +kernel
theorem dX9_init_130 : decode cX9_init 130 = .ok (.iconst 5, 1) := by decide +kernel
theorem dX9_init_131 : decode cX9_init 131 = .ok (.newarray .int, 2) := by decide +kernel
theorem dX9_init_133 : decode cX9_init 133 = .ok (.putfield 65, 3) := by decide +kernel
theorem dX9_init_136 : decode cX9_init 136 = .ok (.aload_n 0, 1) := by decide +kernel
theorem dX9_init_137 : decode cX9_init 137 = .ok (.iconst 5, 1) := by decide +kernel
theorem dX9_init_138 : decode cX9_init 138 = .ok (.newarray .int, 2) := by decide +kernel
theorem dX9_init_140 : decode cX9_init 140 = .ok (.putfield 68, 3) := by decide +kernel
theorem dX9_init_143 : decode cX9_init 143 = .ok (.aload_n 0, 1) := by decide +kernel
theorem dX9_init_144 : decode cX9_init 144 = .ok (.bipush 25, 2) := by decide +kernel
theorem dX9_init_146 : decode cX9_init 146 = .ok (.newarray .int, 2) := by decide +kernel
theorem dX9_init_148 : decode cX9_init 148 = .ok (.putfield 71, 3) := by decide +kernel
theorem dX9_init_151 : decode cX9_init 151 = .ok (.aload_n 0, 1) := by decide +kernel
theorem dX9_init_152 : decode cX9_init 152 = .ok (.bipush 25, 2) := by decide +kernel
theorem dX9_init_154 : decode cX9_init 154 = .ok (.newarray .int, 2) := by decide +kernel
theorem dX9_init_156 : decode cX9_init 156 = .ok (.putfield 74, 3) := by decide +kernel
theorem dX9_init_159 : decode cX9_init 159 = .ok (.aload_n 0, 1) := by decide +kernel
theorem dX9_init_160 : decode cX9_init 160 = .ok (.bipush 28, 2) := by decide +kernel
theorem dX9_init_162 : decode cX9_init 162 = .ok (.newarray .boolean, 2) := by decide +kernel
theorem dX9_init_164 : decode cX9_init 164 = .ok (.putfield 77, 3) := by decide +kernel
theorem dX9_init_167 : decode cX9_init 167 = .ok (.aload_n 0, 1) := by decide +kernel
theorem dX9_init_168 : decode cX9_init 168 = .ok (.bipush 36, 2) := by decide +kernel
theorem dX9_init_170 : decode cX9_init 170 = .ok (.newarray .int, 2) := by decide +kernel
theorem dX9_init_172 : decode cX9_init 172 = .ok (.putfield 81, 3) := by decide +kernel
theorem dX9_init_175 : decode cX9_init 175 = .ok (.aload_n 0, 1) := by decide +kernel
theorem dX9_init_176 : decode cX9_init 176 = .ok (.bipush 36, 2) := by decide +kernel
theorem dX9_init_178 : decode cX9_init 178 = .ok (.newarray .int, 2) := by decide +kernel
theorem dX9_init_180 : decode cX9_init 180 = .ok (.putfield 84, 3) := by decide +kernel
theorem dX9_init_183 : decode cX9_init 183 = .ok (.aload_n 0, 1) := by decide +kernel
theorem dX9_init_184 : decode cX9_init 184 = .ok (.bipush 36, 2) := by decide +kernel
theorem dX9_init_186 : decode cX9_init 186 = .ok (.newarray .int, 2) := by decide +kernel
theorem dX9_init_188 : decode cX9_init 188 = .ok (.putfield 87, 3) := by decide +kernel
theorem dX9_init_191 : decode cX9_init 191 = .ok (.aload_n 0, 1) := by decide +kernel
theorem dX9_init_192 : decode cX9_init 192 = .ok (.getfield 68, 3) := by decide +kernel
theorem dX9_init_195 : decode cX9_init 195 = .ok (.iconst 2, 1) := by decide +kernel
theorem dX9_init_196 : decode cX9_init 196 = .ok (.iconst (-1), 1) := by decide +kernel
theorem dX9_init_197 : decode cX9_init 197 = .ok (.iastore, 1) := by decide +kernel
theorem dX9_init_198 : decode cX9_init 198 = .ok (.aload_n 0, 1) := by decide +kernel
theorem dX9_init_199 : decode cX9_init 199 = .ok (.getfield 68, 3) := by decide +kernel
theorem dX9_init_202 : decode cX9_init 202 = .ok (.iconst 3, 1) := by decide +kernel
theorem dX9_init_203 : decode cX9_init 203 = .ok (.iconst (-1), 1) := by decide +kernel
theorem dX9_init_204 : decode cX9_init 204 = .ok (.iastore, 1) := by decide +kernel
theorem dX9_init_205 : decode cX9_init 205 = .ok (.aload_n 0, 1) := by decide +kernel
theorem dX9_init_206 : decode cX9_init 206 = .ok (.getfield 68, 3) := by decide +kernel
theorem dX9_init_209 : decode cX9_init 209 = .ok (.iconst 4, 1) := by decide +kernel
theorem dX9_init_210 : decode cX9_init 210 = .ok (.iconst (-1), 1) := by decide +kernel
theorem dX9_init_211 : decode cX9_init 211 = .ok (.iastore, 1) := by decide +kernel
theorem dX9_init_212 : decode cX9_init 212 = .ok (.return_, 1) := by decide +kernel
theorem dX9_in_0 : decode cX9_in 0 = .ok (.lload_n 0, 1) := by decide +kernel
theorem dX9_in_1 : decode cX9_in 1 = .ok (.lload_n 2, 1) := by decide +kernel
theorem dX9_in_2 : decode cX9_in 2 = .ok (.lcmp, 1) := by decide +kernel
theorem dX9_in_3 : decode cX9_in 3 = .ok (.ifCond .lt 14, 3) := by decide +kernel
theorem dX9_in_6 : decode cX9_in 6 = .ok (.lload_n 0, 1) := by decide +kernel
theorem dX9_in_7 : decode cX9_in 7 = .ok (.lload 4, 2) := by decide +kernel
theorem dX9_in_9 : decode cX9_in 9 = .ok (.lcmp, 1) := by decide +kernel
theorem dX9_in_10 : decode cX9_in 10 = .ok (.ifCond .gt 7, 3) := by decide +kernel
theorem dX9_in_13 : decode cX9_in 13 = .ok (.iconst 1, 1) := by decide +kernel
theorem dX9_in_14 : decode cX9_in 14 = .ok (.goto 4, 3) := by decide +kernel
theorem dX9_in_17 : decode cX9_in 17 = .ok (.iconst 0, 1) := by decide +kernel
theorem dX9_in_18 : decode cX9_in 18 = .ok (.ireturn, 1) := by decide +kernel
theorem dX9_write_0 : decode cX9_write 0 = .ok (.iload_n 3, 1) := by decide +kernel
theorem dX9_write_1 : decode cX9_write 1 = .ok (.i2l, 1) := by decide +kernel
theorem dX9_write_2 : decode cX9_write 2 = .ok (.lconst 1, 1) := by decide +kernel
theorem dX9_write_3 : decode cX9_write 3 = .ok (.ldc2_w 90, 3) := by decide +kernel
theorem dX9_write_6 : decode cX9_write 6 = .ok (.invokestatic 92, 3) := by decide +kernel
theorem dX9_write_9 : decode cX9_write 9 = .ok (.ifCond .ne 6, 3) := by decide +kernel
theorem dX9_write_12 : decode cX9_write 12 = .ok (.bipush (-3), 2) := by decide +kernel
theorem dX9_write_14 : decode cX9_write 14 = .ok (.ireturn, 1) := by decide +kernel
theorem dX9_write_15 : decode cX9_write 15 = .ok (.aload_n 0, 1) := by decide +kernel
theorem dX9_write_16 : decode cX9_write 16 = .ok (.getfield 96, 3) := by decide +kernel
theorem dX9_write_19 : decode cX9_write 19 = .ok (.iload_n 3, 1) := by decide +kernel
theorem dX9_write_20 : decode cX9_write 20 = .ok (.iadd, 1) := by decide +kernel
theorem dX9_write_21 : decode cX9_write 21 = .ok (.sipush 200, 3) := by decide +kernel
theorem dX9_write_24 : decode cX9_write 24 = .ok (.if_icmp .le 6, 3) := by decide +kernel
theorem dX9_write_27 : decode cX9_write 27 = .ok (.bipush (-5), 2) := by decide +kernel
theorem dX9_write_29 : decode cX9_write 29 = .ok (.ireturn, 1) := by decide +kernel
theorem dX9_write_30 : decode cX9_write 30 = .ok (.iconst 0, 1) := by decide +kernel
theorem dX9_write_31 : decode cX9_write 31 = .ok (.istore 4, 2) := by decide +kernel
theorem dX9_write_33 : decode cX9_write 33 = .ok (.iload 4, 2) := by decide +kernel
theorem dX9_write_35 : decode cX9_write 35 = .ok (.iload_n 3, 1) := by decide +kernel
theorem dX9_write_36 : decode cX9_write 36 = .ok (.if_icmp .ge 40, 3) := by decide +kernel
theorem dX9_write_39 : decode cX9_write 39 = .ok (.aload_n 0, 1) := by decide +kernel
theorem dX9_write_40 : decode cX9_write 40 = .ok (.getfield 7, 3) := by decide +kernel
theorem dX9_write_43 : decode cX9_write 43 = .ok (.aload_n 0, 1) := by decide +kernel
theorem dX9_write_44 : decode cX9_write 44 = .ok (.getfield 96, 3) := by decide +kernel
theorem dX9_write_47 : decode cX9_write 47 = .ok (.lload_n 1, 1) := by decide +kernel
theorem dX9_write_48 : decode cX9_write 48 = .ok (.bipush 8, 2) := by decide +kernel
theorem dX9_write_50 : decode cX9_write 50 = .ok (.iload 4, 2) := by decide +kernel
theorem dX9_write_52 : decode cX9_write 52 = .ok (.imul, 1) := by decide +kernel
theorem dX9_write_53 : decode cX9_write 53 = .ok (.lshr, 1) := by decide +kernel
theorem dX9_write_54 : decode cX9_write 54 = .ok (.ldc2_w 99, 3) := by decide +kernel
theorem dX9_write_57 : decode cX9_write 57 = .ok (.land, 1) := by decide +kernel
theorem dX9_write_58 : decode cX9_write 58 = .ok (.l2i, 1) := by decide +kernel
theorem dX9_write_59 : decode cX9_write 59 = .ok (.iastore, 1) := by decide +kernel
theorem dX9_write_60 : decode cX9_write 60 = .ok (.aload_n 0, 1) := by decide +kernel
theorem dX9_write_61 : decode cX9_write 61 = .ok (.dup, 1) := by decide +kernel
theorem dX9_write_62 : decode cX9_write 62 = .ok (.getfield 96, 3) := by decide +kernel
theorem dX9_write_65 : decode cX9_write 65 = .ok (.iconst 1, 1) := by decide +kernel
theorem dX9_write_66 : decode cX9_write 66 = .ok (.iadd, 1) := by decide +kernel
theorem dX9_write_67 : decode cX9_write 67 = .ok (.putfield 96, 3) := by decide +kernel
theorem dX9_write_70 : decode cX9_write 70 = .ok (.iinc 4 1, 3) := by decide +kernel
theorem dX9_write_73 : decode cX9_write 73 = .ok (.goto (-40), 3) := by decide +kernel
theorem dX9_write_76 : decode cX9_write 76 = .ok (.aload_n 0, 1) := by decide +kernel
theorem dX9_write_77 : decode cX9_write 77 = .ok (.getfield 96, 3) := by decide +kernel
theorem dX9_write_80 : decode cX9_write 80 = .ok (.ireturn, 1) := by decide +kernel
theorem dX9_erase_0 : decode cX9_erase 0 = .ok (.aload_n 0, 1) := by decide +kernel
theorem dX9_erase_1 : decode cX9_erase 1 = .ok (.getfield 96, 3) := by decide +kernel
theorem dX9_erase_4 : decode cX9_erase 4 = .ok (.istore_n 1, 1) := by decide +kernel
theorem dX9_erase_5 : decode cX9_erase 5 = .ok (.aload_n 0, 1) := by decide +kernel
theorem dX9_erase_6 : decode cX9_erase 6 = .ok (.iconst 0, 1) := by decide +kernel
theorem dX9_erase_7 : decode cX9_erase 7 = .ok (.putfield 96, 3) := by decide +kernel
theorem dX9_erase_10 : decode cX9_erase 10 = .ok (.iload_n 1, 1) := by decide +kernel
theorem dX9_erase_11 : decode cX9_erase 11 = .ok (.ireturn, 1) := by decide +kernel
theorem dX9_sort_0 : decode cX9_sort 0 = .ok (.iload_n 0, 1) := by decide +kernel
theorem dX9_sort_1 : decode cX9_sort 1 = .ok (.bipush 97, 2) := by decide +kernel
theorem dX9_sort_3 : decode cX9_sort 3 = .ok (.if_icmp .lt 13, 3) := by decide +kernel
theorem dX9_sort_6 : decode cX9_sort 6 = .ok (.iload_n 0, 1) := by decide +kernel
theorem dX9_sort_7 : decode cX9_sort 7 = .ok (.bipush 122, 2) := by decide +kernel
theorem dX9_sort_9 : decode cX9_sort 9 = .ok (.if_icmp .gt 7, 3) := by decide +kernel
theorem dX9_sort_12 : decode cX9_sort 12 = .ok (.iconst 1, 1) := by decide +kernel
theorem dX9_sort_13 : decode cX9_sort 13 = .ok (.goto 20, 3) := by decide +kernel
theorem dX9_sort_16 : decode cX9_sort 16 = .ok (.iload_n 0, 1) := by decide +kernel
theorem dX9_sort_17 : decode cX9_sort 17 = .ok (.bipush 48, 2) := by decide +kernel
theorem dX9_sort_19 : decode cX9_sort 19 = .ok (.if_icmp .lt 13, 3) := by decide +kernel
theorem dX9_sort_22 : decode cX9_sort 22 = .ok (.iload_n 0, 1) := by decide +kernel
theorem dX9_sort_23 : decode cX9_sort 23 = .ok (.bipush 57, 2) := by decide +kernel
theorem dX9_sort_25 : decode cX9_sort 25 = .ok (.if_icmp .gt 7, 3) := by decide +kernel
theorem dX9_sort_28 : decode cX9_sort 28 = .ok (.iconst 2, 1) := by decide +kernel
theorem dX9_sort_29 : decode cX9_sort 29 = .ok (.goto 4, 3) := by decide +kernel
theorem dX9_sort_32 : decode cX9_sort 32 = .ok (.iconst 0, 1) := by decide +kernel
theorem dX9_sort_33 : decode cX9_sort 33 = .ok (.ireturn, 1) := by decide +kernel
theorem dX9_token_0 : decode cX9_token 0 = .ok (.aload_n 0, 1) := by decide +kernel
theorem dX9_token_1 : decode cX9_token 1 = .ok (.getfield 101, 3) := by decide +kernel
theorem dX9_token_4 : decode cX9_token 4 = .ok (.aload_n 0, 1) := by decide +kernel
theorem dX9_token_5 : decode cX9_token 5 = .ok (.getfield 96, 3) := by decide +kernel
theorem dX9_token_8 : decode cX9_token 8 = .ok (.if_icmp .ge 30, 3) := by decide +kernel
theorem dX9_token_11 : decode cX9_token 11 = .ok (.aload_n 0, 1) := by decide +kernel
theorem dX9_token_12 : decode cX9_token 12 = .ok (.getfield 7, 3) := by decide +kernel
theorem dX9_token_15 : decode cX9_token 15 = .ok (.aload_n 0, 1) := by decide +kernel
theorem dX9_token_16 : decode cX9_token 16 = .ok (.getfield 101, 3) := by decide +kernel
theorem dX9_token_19 : decode cX9_token 19 = .ok (.iaload, 1) := by decide +kernel
theorem dX9_token_20 : decode cX9_token 20 = .ok (.bipush 32, 2) := by decide +kernel
theorem dX9_token_22 : decode cX9_token 22 = .ok (.if_icmp .ne 16, 3) := by decide +kernel
theorem dX9_token_25 : decode cX9_token 25 = .ok (.aload_n 0, 1) := by decide +kernel
theorem dX9_token_26 : decode cX9_token 26 = .ok (.dup, 1) := by decide +kernel
theorem dX9_token_27 : decode cX9_token 27 = .ok (.getfield 101, 3) := by decide +kernel
theorem dX9_token_30 : decode cX9_token 30 = .ok (.iconst 1, 1) := by decide +kernel
theorem dX9_token_31 : decode cX9_token 31 = .ok (.iadd, 1) := by decide +kernel
theorem dX9_token_32 : decode cX9_token 32 = .ok (.putfield 101, 3) := by decide +kernel
theorem dX9_token_35 : decode cX9_token 35 = .ok (.goto (-35), 3) := by decide +kernel
theorem dX9_token_38 : decode cX9_token 38 = .ok (.aload_n 0, 1) := by decide +kernel
theorem dX9_token_39 : decode cX9_token 39 = .ok (.aload_n 0, 1) := by decide +kernel
theorem dX9_token_40 : decode cX9_token 40 = .ok (.getfield 101, 3) := by decide +kernel
theorem dX9_token_43 : decode cX9_token 43 = .ok (.putfield 104, 3) := by decide +kernel
theorem dX9_token_46 : decode cX9_token 46 = .ok (.aload_n 0, 1) := by decide +kernel
theorem dX9_token_47 : decode cX9_token 47 = .ok (.dup, 1) := by decide +kernel
theorem dX9_token_48 : decode cX9_token 48 = .ok (.getfield 101, 3) := by decide +kernel
theorem dX9_token_51 : decode cX9_token 51 = .ok (.aload_n 0, 1) := by decide +kernel
theorem dX9_token_52 : decode cX9_token 52 = .ok (.getfield 101, 3) := by decide +kernel
theorem dX9_token_55 : decode cX9_token 55 = .ok (.aload_n 0, 1) := by decide +kernel
theorem dX9_token_56 : decode cX9_token 56 = .ok (.getfield 96, 3) := by decide +kernel
theorem dX9_token_59 : decode cX9_token 59 = .ok (.if_icmp .ge 7, 3) := by decide +kernel
theorem dX9_token_62 : decode cX9_token 62 = .ok (.iconst 1, 1) := by decide +kernel
theorem dX9_token_63 : decode cX9_token 63 = .ok (.goto 4, 3) := by decide +kernel
theorem dX9_token_66 : decode cX9_token 66 = .ok (.iconst 0, 1) := by decide +kernel
theorem dX9_token_67 : decode cX9_token 67 = .ok (.iadd, 1) := by decide +kernel
theorem dX9_token_68 : decode cX9_token 68 = .ok (.putfield 101, 3) := by decide +kernel
theorem dX9_token_71 : decode cX9_token 71 = .ok (.aload_n 0, 1) := by decide +kernel
theorem dX9_token_72 : decode cX9_token 72 = .ok (.getfield 101, 3) := by decide +kernel
theorem dX9_token_75 : decode cX9_token 75 = .ok (.aload_n 0, 1) := by decide +kernel
theorem dX9_token_76 : decode cX9_token 76 = .ok (.getfield 96, 3) := by decide +kernel
theorem dX9_token_79 : decode cX9_token 79 = .ok (.if_icmp .ge 58, 3) := by decide +kernel
theorem dX9_token_82 : decode cX9_token 82 = .ok (.aload_n 0, 1) := by decide +kernel
theorem dX9_token_83 : decode cX9_token 83 = .ok (.getfield 7, 3) := by decide +kernel
theorem dX9_token_86 : decode cX9_token 86 = .ok (.aload_n 0, 1) := by decide +kernel
theorem dX9_token_87 : decode cX9_token 87 = .ok (.getfield 104, 3) := by decide +kernel
theorem dX9_token_90 : decode cX9_token 90 = .ok (.iaload, 1) := by decide +kernel
theorem dX9_token_91 : decode cX9_token 91 = .ok (.invokestatic 107, 3) := by decide +kernel
theorem dX9_token_94 : decode cX9_token 94 = .ok (.ifCond .le 43, 3) := by decide +kernel
theorem dX9_token_97 : decode cX9_token 97 = .ok (.aload_n 0, 1) := by decide +kernel
theorem dX9_token_98 : decode cX9_token 98 = .ok (.getfield 7, 3) := by decide +kernel
theorem dX9_token_101 : decode cX9_token 101 = .ok (.aload_n 0, 1) := by decide +kernel
theorem dX9_token_102 : decode cX9_token 102 = .ok (.getfield 101, 3) := by decide +kernel
theorem dX9_token_105 : decode cX9_token 105 = .ok (.iaload, 1) := by decide +kernel
theorem dX9_token_106 : decode cX9_token 106 = .ok (.invokestatic 107, 3) := by decide +kernel
theorem dX9_token_109 : decode cX9_token 109 = .ok (.aload_n 0, 1) := by decide +kernel
theorem dX9_token_110 : decode cX9_token 110 = .ok (.getfield 7, 3) := by decide +kernel
theorem dX9_token_113 : decode cX9_token 113 = .ok (.aload_n 0, 1) := by decide +kernel
theorem dX9_token_114 : decode cX9_token 114 = .ok (.getfield 104, 3) := by decide +kernel
theorem dX9_token_117 : decode cX9_token 117 = .ok (.iaload, 1) := by decide +kernel
theorem dX9_token_118 : decode cX9_token 118 = .ok (.invokestatic 107, 3) := by decide +kernel
theorem dX9_token_121 : decode cX9_token 121 = .ok (.if_icmp .ne 16, 3) := by decide +kernel
theorem dX9_token_124 : decode cX9_token 124 = .ok (.aload_n 0, 1) := by decide +kernel
theorem dX9_token_125 : decode cX9_token 125 = .ok (.dup, 1) := by decide +kernel
theorem dX9_token_126 : decode cX9_token 126 = .ok (.getfield 101, 3) := by decide +kernel
theorem dX9_token_129 : decode cX9_token 129 = .ok (.iconst 1, 1) := by decide +kernel
theorem dX9_token_130 : decode cX9_token 130 = .ok (.iadd, 1) := by decide +kernel
theorem dX9_token_131 : decode cX9_token 131 = .ok (.putfield 101, 3) := by decide +kernel
theorem dX9_token_134 : decode cX9_token 134 = .ok (.goto (-63), 3) := by decide +kernel
theorem dX9_token_137 : decode cX9_token 137 = .ok (.aload_n 0, 1) := by decide +kernel
theorem dX9_token_138 : decode cX9_token 138 = .ok (.aload_n 0, 1) := by decide +kernel
theorem dX9_token_139 : decode cX9_token 139 = .ok (.getfield 101, 3) := by decide +kernel
theorem dX9_token_142 : decode cX9_token 142 = .ok (.putfield 111, 3) := by decide +kernel
theorem dX9_token_145 : decode cX9_token 145 = .ok (.return_, 1) := by decide +kernel
theorem dX9_isWord_0 : decode cX9_isWord 0 = .ok (.aload_n 0, 1) := by decide +kernel
theorem dX9_isWord_1 : decode cX9_isWord 1 = .ok (.getfield 111, 3) := by decide +kernel
theorem dX9_isWord_4 : decode cX9_isWord 4 = .ok (.aload_n 0, 1) := by decide +kernel
theorem dX9_isWord_5 : decode cX9_isWord 5 = .ok (.getfield 104, 3) := by decide +kernel
theorem dX9_isWord_8 : decode cX9_isWord 8 = .ok (.isub, 1) := by decide +kernel
theorem dX9_isWord_9 : decode cX9_isWord 9 = .ok (.iload_n 3, 1) := by decide +kernel
theorem dX9_isWord_10 : decode cX9_isWord 10 = .ok (.if_icmp .ne 7, 3) := by decide +kernel
theorem dX9_isWord_13 : decode cX9_isWord 13 = .ok (.iconst 1, 1) := by decide +kernel
theorem dX9_isWord_14 : decode cX9_isWord 14 = .ok (.goto 4, 3) := by decide +kernel
theorem dX9_isWord_17 : decode cX9_isWord 17 = .ok (.iconst 0, 1) := by decide +kernel
theorem dX9_isWord_18 : decode cX9_isWord 18 = .ok (.istore 4, 2) := by decide +kernel
theorem dX9_isWord_20 : decode cX9_isWord 20 = .ok (.iconst 0, 1) := by decide +kernel
theorem dX9_isWord_21 : decode cX9_isWord 21 = .ok (.istore 5, 2) := by decide +kernel
theorem dX9_isWord_23 : decode cX9_isWord 23 = .ok (.iload 4, 2) := by decide +kernel
theorem dX9_isWord_25 : decode cX9_isWord 25 = .ok (.ifCond .eq 51, 3) := by decide +kernel
theorem dX9_isWord_28 : decode cX9_isWord 28 = .ok (.iload 5, 2) := by decide +kernel
theorem dX9_isWord_30 : decode cX9_isWord 30 = .ok (.iload_n 3, 1) := by decide +kernel
theorem dX9_isWord_31 : decode cX9_isWord 31 = .ok (.if_icmp .ge 45, 3) := by decide +kernel
theorem dX9_isWord_34 : decode cX9_isWord 34 = .ok (.aload_n 0, 1) := by decide +kernel
theorem dX9_isWord_35 : decode cX9_isWord 35 = .ok (.getfield 7, 3) := by decide +kernel
theorem dX9_isWord_38 : decode cX9_isWord 38 = .ok (.aload_n 0, 1) := by decide +kernel
theorem dX9_isWord_39 : decode cX9_isWord 39 = .ok (.getfield 104, 3) := by decide +kernel
theorem dX9_isWord_42 : decode cX9_isWord 42 = .ok (.iload 5, 2) := by decide +kernel
theorem dX9_isWord_44 : decode cX9_isWord 44 = .ok (.iadd, 1) := by decide +kernel
theorem dX9_isWord_45 : decode cX9_isWord 45 = .ok (.iaload, 1) := by decide +kernel
theorem dX9_isWord_46 : decode cX9_isWord 46 = .ok (.bipush 96, 2) := by decide +kernel
theorem dX9_isWord_48 : decode cX9_isWord 48 = .ok (.lload_n 1, 1) := by decide +kernel
theorem dX9_isWord_49 : decode cX9_isWord 49 = .ok (.iconst 5, 1) := by decide +kernel
theorem dX9_isWord_50 : decode cX9_isWord 50 = .ok (.iload 5, 2) := by decide +kernel
theorem dX9_isWord_52 : decode cX9_isWord 52 = .ok (.imul, 1) := by decide +kernel
theorem dX9_isWord_53 : decode cX9_isWord 53 = .ok (.lshr, 1) := by decide +kernel
theorem dX9_isWord_54 : decode cX9_isWord 54 = .ok (.ldc2_w 114, 3) := by decide +kernel
theorem dX9_isWord_57 : decode cX9_isWord 57 = .ok (.land, 1) := by decide +kernel
theorem dX9_isWord_58 : decode cX9_isWord 58 = .ok (.l2i, 1) := by decide +kernel
theorem dX9_isWord_59 : decode cX9_isWord 59 = .ok (.iadd, 1) := by decide +kernel
theorem dX9_isWord_60 : decode cX9_isWord 60 = .ok (.if_icmp .ne 7, 3) := by decide +kernel
theorem dX9_isWord_63 : decode cX9_isWord 63 = .ok (.iconst 1, 1) := by decide +kernel
theorem dX9_isWord_64 : decode cX9_isWord 64 = .ok (.goto 4, 3) := by decide +kernel
theorem dX9_isWord_67 : decode cX9_isWord 67 = .ok (.iconst 0, 1) := by decide +kernel
theorem dX9_isWord_68 : decode cX9_isWord 68 = .ok (.istore 4, 2) := by decide +kernel
theorem dX9_isWord_70 : decode cX9_isWord 70 = .ok (.iinc 5 1, 3) := by decide +kernel
theorem dX9_isWord_73 : decode cX9_isWord 73 = .ok (.goto (-50), 3) := by decide +kernel
theorem dX9_isWord_76 : decode cX9_isWord 76 = .ok (.iload 4, 2) := by decide +kernel
theorem dX9_isWord_78 : decode cX9_isWord 78 = .ok (.ireturn, 1) := by decide +kernel
theorem dX9_wordOf_0 : decode cX9_wordOf 0 = .ok (.aload_n 0, 1) := by decide +kernel
theorem dX9_wordOf_1 : decode cX9_wordOf 1 = .ok (.ldc2_w 116, 3) := by decide +kernel
theorem dX9_wordOf_4 : decode cX9_wordOf 4 = .ok (.iconst 5, 1) := by decide +kernel
theorem dX9_wordOf_5 : decode cX9_wordOf 5 = .ok (.invokevirtual 118, 3) := by decide +kernel
theorem dX9_wordOf_8 : decode cX9_wordOf 8 = .ok (.ifCond .eq 7, 3) := by decide +kernel
theorem dX9_wordOf_11 : decode cX9_wordOf 11 = .ok (.iconst 0, 1) := by decide +kernel
theorem dX9_wordOf_12 : decode cX9_wordOf 12 = .ok (.goto 127, 3) := by decide +kernel
theorem dX9_wordOf_15 : decode cX9_wordOf 15 = .ok (.aload_n 0, 1) := by decide +kernel
theorem dX9_wordOf_16 : decode cX9_wordOf 16 = .ok (.ldc2_w 122, 3) := by decide +kernel
theorem dX9_wordOf_19 : decode cX9_wordOf 19 = .ok (.iconst 4, 1) := by decide +kernel
theorem dX9_wordOf_20 : decode cX9_wordOf 20 = .ok (.invokevirtual 118, 3) := by decide +kernel
theorem dX9_wordOf_23 : decode cX9_wordOf 23 = .ok (.ifCond .eq 7, 3) := by decide +kernel
theorem dX9_wordOf_26 : decode cX9_wordOf 26 = .ok (.iconst 1, 1) := by decide +kernel
theorem dX9_wordOf_27 : decode cX9_wordOf 27 = .ok (.goto 112, 3) := by decide +kernel
theorem dX9_wordOf_30 : decode cX9_wordOf 30 = .ok (.aload_n 0, 1) := by decide +kernel
theorem dX9_wordOf_31 : decode cX9_wordOf 31 = .ok (.ldc2_w 124, 3) := by decide +kernel
theorem dX9_wordOf_34 : decode cX9_wordOf 34 = .ok (.iconst 4, 1) := by decide +kernel
theorem dX9_wordOf_35 : decode cX9_wordOf 35 = .ok (.invokevirtual 118, 3) := by decide +kernel
theorem dX9_wordOf_38 : decode cX9_wordOf 38 = .ok (.ifCond .eq 7, 3) := by decide +kernel
theorem dX9_wordOf_41 : decode cX9_wordOf 41 = .ok (.iconst 2, 1) := by decide +kernel
theorem dX9_wordOf_42 : decode cX9_wordOf 42 = .ok (.goto 97, 3) := by decide +kernel
theorem dX9_wordOf_45 : decode cX9_wordOf 45 = .ok (.aload_n 0, 1) := by decide +kernel
theorem dX9_wordOf_46 : decode cX9_wordOf 46 = .ok (.ldc2_w 126, 3) := by decide +kernel
theorem dX9_wordOf_49 : decode cX9_wordOf 49 = .ok (.iconst 3, 1) := by decide +kernel
theorem dX9_wordOf_50 : decode cX9_wordOf 50 = .ok (.invokevirtual 118, 3) := by decide +kernel
theorem dX9_wordOf_53 : decode cX9_wordOf 53 = .ok (.ifCond .eq 7, 3) := by decide +kernel
theorem dX9_wordOf_56 : decode cX9_wordOf 56 = .ok (.iconst 3, 1) := by decide +kernel
theorem dX9_wordOf_57 : decode cX9_wordOf 57 = .ok (.goto 82, 3) := by decide +kernel
theorem dX9_wordOf_60 : decode cX9_wordOf 60 = .ok (.aload_n 0, 1) := by decide +kernel
theorem dX9_wordOf_61 : decode cX9_wordOf 61 = .ok (.ldc2_w 128, 3) := by decide +kernel
theorem dX9_wordOf_64 : decode cX9_wordOf 64 = .ok (.iconst 5, 1) := by decide +kernel
theorem dX9_wordOf_65 : decode cX9_wordOf 65 = .ok (.invokevirtual 118, 3) := by decide +kernel
theorem dX9_wordOf_68 : decode cX9_wordOf 68 = .ok (.ifCond .eq 7, 3) := by decide +kernel
theorem dX9_wordOf_71 : decode cX9_wordOf 71 = .ok (.iconst 4, 1) := by decide +kernel
theorem dX9_wordOf_72 : decode cX9_wordOf 72 = .ok (.goto 67, 3) := by decide +kernel
theorem dX9_wordOf_75 : decode cX9_wordOf 75 = .ok (.aload_n 0, 1) := by decide +kernel
theorem dX9_wordOf_76 : decode cX9_wordOf 76 = .ok (.ldc2_w 130, 3) := by decide +kernel
theorem dX9_wordOf_79 : decode cX9_wordOf 79 = .ok (.iconst 4, 1) := by decide +kernel
theorem dX9_wordOf_80 : decode cX9_wordOf 80 = .ok (.invokevirtual 118, 3) := by decide +kernel
theorem dX9_wordOf_83 : decode cX9_wordOf 83 = .ok (.ifCond .eq 7, 3) := by decide +kernel
theorem dX9_wordOf_86 : decode cX9_wordOf 86 = .ok (.iconst 5, 1) := by decide +kernel
theorem dX9_wordOf_87 : decode cX9_wordOf 87 = .ok (.goto 52, 3) := by decide +kernel
theorem dX9_wordOf_90 : decode cX9_wordOf 90 = .ok (.aload_n 0, 1) := by decide +kernel
theorem dX9_wordOf_91 : decode cX9_wordOf 91 = .ok (.ldc2_w 132, 3) := by decide +kernel
theorem dX9_wordOf_94 : decode cX9_wordOf 94 = .ok (.iconst 5, 1) := by decide +kernel
theorem dX9_wordOf_95 : decode cX9_wordOf 95 = .ok (.invokevirtual 118, 3) := by decide +kernel
theorem dX9_wordOf_98 : decode cX9_wordOf 98 = .ok (.ifCond .eq 8, 3) := by decide +kernel
theorem dX9_wordOf_101 : decode cX9_wordOf 101 = .ok (.bipush 6, 2) := by decide +kernel
theorem dX9_wordOf_103 : decode cX9_wordOf 103 = .ok (.goto 36, 3) := by decide +kernel
theorem dX9_wordOf_106 : decode cX9_wordOf 106 = .ok (.aload_n 0, 1) := by decide +kernel
theorem dX9_wordOf_107 : decode cX9_wordOf 107 = .ok (.ldc2_w 134, 3) := by decide +kernel
theorem dX9_wordOf_110 : decode cX9_wordOf 110 = .ok (.iconst 4, 1) := by decide +kernel
theorem dX9_wordOf_111 : decode cX9_wordOf 111 = .ok (.invokevirtual 118, 3) := by decide +kernel
theorem dX9_wordOf_114 : decode cX9_wordOf 114 = .ok (.ifCond .eq 8, 3) := by decide +kernel
theorem dX9_wordOf_117 : decode cX9_wordOf 117 = .ok (.bipush 7, 2) := by decide +kernel
theorem dX9_wordOf_119 : decode cX9_wordOf 119 = .ok (.goto 20, 3) := by decide +kernel
theorem dX9_wordOf_122 : decode cX9_wordOf 122 = .ok (.aload_n 0, 1) := by decide +kernel
theorem dX9_wordOf_123 : decode cX9_wordOf 123 = .ok (.ldc2_w 136, 3) := by decide +kernel
theorem dX9_wordOf_126 : decode cX9_wordOf 126 = .ok (.iconst 5, 1) := by decide +kernel
theorem dX9_wordOf_127 : decode cX9_wordOf 127 = .ok (.invokevirtual 118, 3) := by decide +kernel
theorem dX9_wordOf_130 : decode cX9_wordOf 130 = .ok (.ifCond .eq 8, 3) := by decide +kernel
theorem dX9_wordOf_133 : decode cX9_wordOf 133 = .ok (.bipush 8, 2) := by decide +kernel
theorem dX9_wordOf_135 : decode cX9_wordOf 135 = .ok (.goto 4, 3) := by decide +kernel
theorem dX9_wordOf_138 : decode cX9_wordOf 138 = .ok (.iconst (-1), 1) := by decide +kernel
theorem dX9_wordOf_139 : decode cX9_wordOf 139 = .ok (.ireturn, 1) := by decide +kernel
theorem dX9_reads_0 : decode cX9_reads 0 = .ok (.aload_n 0, 1) := by decide +kernel
theorem dX9_reads_1 : decode cX9_reads 1 = .ok (.getfield 104, 3) := by decide +kernel
theorem dX9_reads_4 : decode cX9_reads 4 = .ok (.aload_n 0, 1) := by decide +kernel
theorem dX9_reads_5 : decode cX9_reads 5 = .ok (.getfield 96, 3) := by decide +kernel
theorem dX9_reads_8 : decode cX9_reads 8 = .ok (.if_icmp .eq 32, 3) := by decide +kernel
theorem dX9_reads_11 : decode cX9_reads 11 = .ok (.aload_n 0, 1) := by decide +kernel
theorem dX9_reads_12 : decode cX9_reads 12 = .ok (.getfield 7, 3) := by decide +kernel
theorem dX9_reads_15 : decode cX9_reads 15 = .ok (.aload_n 0, 1) := by decide +kernel
theorem dX9_reads_16 : decode cX9_reads 16 = .ok (.getfield 104, 3) := by decide +kernel
theorem dX9_reads_19 : decode cX9_reads 19 = .ok (.iaload, 1) := by decide +kernel
theorem dX9_reads_20 : decode cX9_reads 20 = .ok (.invokestatic 107, 3) := by decide +kernel
theorem dX9_reads_23 : decode cX9_reads 23 = .ok (.iconst 2, 1) := by decide +kernel
theorem dX9_reads_24 : decode cX9_reads 24 = .ok (.if_icmp .ne 16, 3) := by decide +kernel
theorem dX9_reads_27 : decode cX9_reads 27 = .ok (.aload_n 0, 1) := by decide +kernel
theorem dX9_reads_28 : decode cX9_reads 28 = .ok (.getfield 111, 3) := by decide +kernel
theorem dX9_reads_31 : decode cX9_reads 31 = .ok (.aload_n 0, 1) := by decide +kernel
theorem dX9_reads_32 : decode cX9_reads 32 = .ok (.getfield 104, 3) := by decide +kernel
theorem dX9_reads_35 : decode cX9_reads 35 = .ok (.isub, 1) := by decide +kernel
theorem dX9_reads_36 : decode cX9_reads 36 = .ok (.iconst 3, 1) := by decide +kernel
theorem dX9_reads_37 : decode cX9_reads 37 = .ok (.if_icmp .le 5, 3) := by decide +kernel
theorem dX9_reads_40 : decode cX9_reads 40 = .ok (.iconst 0, 1) := by decide +kernel
theorem dX9_reads_41 : decode cX9_reads 41 = .ok (.ireturn, 1) := by decide +kernel
theorem dX9_reads_42 : decode cX9_reads 42 = .ok (.iconst 0, 1) := by decide +kernel
theorem dX9_reads_43 : decode cX9_reads 43 = .ok (.istore 4, 2) := by decide +kernel
theorem dX9_reads_45 : decode cX9_reads 45 = .ok (.aload_n 0, 1) := by decide +kernel
theorem dX9_reads_46 : decode cX9_reads 46 = .ok (.getfield 104, 3) := by decide +kernel
theorem dX9_reads_49 : decode cX9_reads 49 = .ok (.istore 5, 2) := by decide +kernel
theorem dX9_reads_51 : decode cX9_reads 51 = .ok (.iload 5, 2) := by decide +kernel
theorem dX9_reads_53 : decode cX9_reads 53 = .ok (.aload_n 0, 1) := by decide +kernel
theorem dX9_reads_54 : decode cX9_reads 54 = .ok (.getfield 111, 3) := by decide +kernel
theorem dX9_reads_57 : decode cX9_reads 57 = .ok (.if_icmp .ge 27, 3) := by decide +kernel
theorem dX9_reads_60 : decode cX9_reads 60 = .ok (.bipush 10, 2) := by decide +kernel
theorem dX9_reads_62 : decode cX9_reads 62 = .ok (.iload 4, 2) := by decide +kernel
theorem dX9_reads_64 : decode cX9_reads 64 = .ok (.imul, 1) := by decide +kernel
theorem dX9_reads_65 : decode cX9_reads 65 = .ok (.aload_n 0, 1) := by decide +kernel
theorem dX9_reads_66 : decode cX9_reads 66 = .ok (.getfield 7, 3) := by decide +kernel
theorem dX9_reads_69 : decode cX9_reads 69 = .ok (.iload 5, 2) := by decide +kernel
theorem dX9_reads_71 : decode cX9_reads 71 = .ok (.iaload, 1) := by decide +kernel
theorem dX9_reads_72 : decode cX9_reads 72 = .ok (.iadd, 1) := by decide +kernel
theorem dX9_reads_73 : decode cX9_reads 73 = .ok (.bipush 48, 2) := by decide +kernel
theorem dX9_reads_75 : decode cX9_reads 75 = .ok (.isub, 1) := by decide +kernel
theorem dX9_reads_76 : decode cX9_reads 76 = .ok (.istore 4, 2) := by decide +kernel
theorem dX9_reads_78 : decode cX9_reads 78 = .ok (.iinc 5 1, 3) := by decide +kernel
theorem dX9_reads_81 : decode cX9_reads 81 = .ok (.goto (-30), 3) := by decide +kernel
theorem dX9_reads_84 : decode cX9_reads 84 = .ok (.iload 4, 2) := by decide +kernel
theorem dX9_reads_86 : decode cX9_reads 86 = .ok (.i2l, 1) := by decide +kernel
theorem dX9_reads_87 : decode cX9_reads 87 = .ok (.iload_n 2, 1) := by decide +kernel
theorem dX9_reads_88 : decode cX9_reads 88 = .ok (.i2l, 1) := by decide +kernel
theorem dX9_reads_89 : decode cX9_reads 89 = .ok (.iload_n 3, 1) := by decide +kernel
theorem dX9_reads_90 : decode cX9_reads 90 = .ok (.i2l, 1) := by decide +kernel
theorem dX9_reads_91 : decode cX9_reads 91 = .ok (.invokestatic 92, 3) := by decide +kernel
theorem dX9_reads_94 : decode cX9_reads 94 = .ok (.ifCond .ne 5, 3) := by decide +kernel
theorem dX9_reads_97 : decode cX9_reads 97 = .ok (.iconst 0, 1) := by decide +kernel
theorem dX9_reads_98 : decode cX9_reads 98 = .ok (.ireturn, 1) := by decide +kernel
theorem dX9_reads_99 : decode cX9_reads 99 = .ok (.aload_n 0, 1) := by decide +kernel
theorem dX9_reads_100 : decode cX9_reads 100 = .ok (.getfield 13, 3) := by decide +kernel
theorem dX9_reads_103 : decode cX9_reads 103 = .ok (.bipush 6, 2) := by decide +kernel
theorem dX9_reads_105 : decode cX9_reads 105 = .ok (.aload_n 0, 1) := by decide +kernel
theorem dX9_reads_106 : decode cX9_reads 106 = .ok (.getfield 138, 3) := by decide +kernel
theorem dX9_reads_109 : decode cX9_reads 109 = .ok (.imul, 1) := by decide +kernel
theorem dX9_reads_110 : decode cX9_reads 110 = .ok (.iconst 1, 1) := by decide +kernel
theorem dX9_reads_111 : decode cX9_reads 111 = .ok (.iadd, 1) := by decide +kernel
theorem dX9_reads_112 : decode cX9_reads 112 = .ok (.iload_n 1, 1) := by decide +kernel
theorem dX9_reads_113 : decode cX9_reads 113 = .ok (.iadd, 1) := by decide +kernel
theorem dX9_reads_114 : decode cX9_reads 114 = .ok (.iload 4, 2) := by decide +kernel
theorem dX9_reads_116 : decode cX9_reads 116 = .ok (.iastore, 1) := by decide +kernel
theorem dX9_reads_117 : decode cX9_reads 117 = .ok (.aload_n 0, 1) := by decide +kernel
theorem dX9_reads_118 : decode cX9_reads 118 = .ok (.invokevirtual 141, 3) := by decide +kernel
theorem dX9_reads_121 : decode cX9_reads 121 = .ok (.iconst 1, 1) := by decide +kernel
theorem dX9_reads_122 : decode cX9_reads 122 = .ok (.ireturn, 1) := by decide +kernel
theorem dX9_readsKind_0 : decode cX9_readsKind 0 = .ok (.aload_n 0, 1) := by decide +kernel
theorem dX9_readsKind_1 : decode cX9_readsKind 1 = .ok (.ldc2_w 144, 3) := by decide +kernel
theorem dX9_readsKind_4 : decode cX9_readsKind 4 = .ok (.iconst 5, 1) := by decide +kernel
theorem dX9_readsKind_5 : decode cX9_readsKind 5 = .ok (.invokevirtual 118, 3) := by decide +kernel
theorem dX9_readsKind_8 : decode cX9_readsKind 8 = .ok (.ifCond .eq 7, 3) := by decide +kernel
theorem dX9_readsKind_11 : decode cX9_readsKind 11 = .ok (.iconst 0, 1) := by decide +kernel
theorem dX9_readsKind_12 : decode cX9_readsKind 12 = .ok (.goto 51, 3) := by decide +kernel
theorem dX9_readsKind_15 : decode cX9_readsKind 15 = .ok (.aload_n 0, 1) := by decide +kernel
theorem dX9_readsKind_16 : decode cX9_readsKind 16 = .ok (.ldc2_w 146, 3) := by decide +kernel
theorem dX9_readsKind_19 : decode cX9_readsKind 19 = .ok (.bipush 7, 2) := by decide +kernel
theorem dX9_readsKind_21 : decode cX9_readsKind 21 = .ok (.invokevirtual 118, 3) := by decide +kernel
theorem dX9_readsKind_24 : decode cX9_readsKind 24 = .ok (.ifCond .eq 7, 3) := by decide +kernel
theorem dX9_readsKind_27 : decode cX9_readsKind 27 = .ok (.iconst 1, 1) := by decide +kernel
theorem dX9_readsKind_28 : decode cX9_readsKind 28 = .ok (.goto 35, 3) := by decide +kernel
theorem dX9_readsKind_31 : decode cX9_readsKind 31 = .ok (.aload_n 0, 1) := by decide +kernel
theorem dX9_readsKind_32 : decode cX9_readsKind 32 = .ok (.ldc2_w 148, 3) := by decide +kernel
theorem dX9_readsKind_35 : decode cX9_readsKind 35 = .ok (.iconst 3, 1) := by decide +kernel
theorem dX9_readsKind_36 : decode cX9_readsKind 36 = .ok (.invokevirtual 118, 3) := by decide +kernel
theorem dX9_readsKind_39 : decode cX9_readsKind 39 = .ok (.ifCond .eq 7, 3) := by decide +kernel
theorem dX9_readsKind_42 : decode cX9_readsKind 42 = .ok (.iconst 2, 1) := by decide +kernel
theorem dX9_readsKind_43 : decode cX9_readsKind 43 = .ok (.goto 20, 3) := by decide +kernel
theorem dX9_readsKind_46 : decode cX9_readsKind 46 = .ok (.aload_n 0, 1) := by decide +kernel
theorem dX9_readsKind_47 : decode cX9_readsKind 47 = .ok (.ldc2_w 150, 3) := by decide +kernel
theorem dX9_readsKind_50 : decode cX9_readsKind 50 = .ok (.bipush 7, 2) := by decide +kernel
theorem dX9_readsKind_52 : decode cX9_readsKind 52 = .ok (.invokevirtual 118, 3) := by decide +kernel
theorem dX9_readsKind_55 : decode cX9_readsKind 55 = .ok (.ifCond .eq 7, 3) := by decide +kernel
theorem dX9_readsKind_58 : decode cX9_readsKind 58 = .ok (.iconst 3, 1) := by decide +kernel
theorem dX9_readsKind_59 : decode cX9_readsKind 59 = .ok (.goto 4, 3) := by decide +kernel
theorem dX9_readsKind_62 : decode cX9_readsKind 62 = .ok (.iconst (-1), 1) := by decide +kernel
theorem dX9_readsKind_63 : decode cX9_readsKind 63 = .ok (.istore_n 1, 1) := by decide +kernel
theorem dX9_readsKind_64 : decode cX9_readsKind 64 = .ok (.iload_n 1, 1) := by decide +kernel
theorem dX9_readsKind_65 : decode cX9_readsKind 65 = .ok (.iconst (-1), 1) := by decide +kernel
theorem dX9_readsKind_66 : decode cX9_readsKind 66 = .ok (.if_icmp .ne 5, 3) := by decide +kernel
theorem dX9_readsKind_69 : decode cX9_readsKind 69 = .ok (.iconst 0, 1) := by decide +kernel
theorem dX9_readsKind_70 : decode cX9_readsKind 70 = .ok (.ireturn, 1) := by decide +kernel
theorem dX9_readsKind_71 : decode cX9_readsKind 71 = .ok (.aload_n 0, 1) := by decide +kernel
theorem dX9_readsKind_72 : decode cX9_readsKind 72 = .ok (.invokevirtual 141, 3) := by decide +kernel
theorem dX9_readsKind_75 : decode cX9_readsKind 75 = .ok (.aload_n 0, 1) := by decide +kernel
theorem dX9_readsKind_76 : decode cX9_readsKind 76 = .ok (.getfield 13, 3) := by decide +kernel
theorem dX9_readsKind_79 : decode cX9_readsKind 79 = .ok (.bipush 6, 2) := by decide +kernel
theorem dX9_readsKind_81 : decode cX9_readsKind 81 = .ok (.aload_n 0, 1) := by decide +kernel
theorem dX9_readsKind_82 : decode cX9_readsKind 82 = .ok (.getfield 138, 3) := by decide +kernel
theorem dX9_readsKind_85 : decode cX9_readsKind 85 = .ok (.imul, 1) := by decide +kernel
theorem dX9_readsKind_86 : decode cX9_readsKind 86 = .ok (.iconst 2, 1) := by decide +kernel
theorem dX9_readsKind_87 : decode cX9_readsKind 87 = .ok (.iadd, 1) := by decide +kernel
theorem dX9_readsKind_88 : decode cX9_readsKind 88 = .ok (.iload_n 1, 1) := by decide +kernel
theorem dX9_readsKind_89 : decode cX9_readsKind 89 = .ok (.iastore, 1) := by decide +kernel
theorem dX9_readsKind_90 : decode cX9_readsKind 90 = .ok (.aload_n 0, 1) := by decide +kernel
theorem dX9_readsKind_91 : decode cX9_readsKind 91 = .ok (.getfield 13, 3) := by decide +kernel
theorem dX9_readsKind_94 : decode cX9_readsKind 94 = .ok (.bipush 6, 2) := by decide +kernel
theorem dX9_readsKind_96 : decode cX9_readsKind 96 = .ok (.aload_n 0, 1) := by decide +kernel
theorem dX9_readsKind_97 : decode cX9_readsKind 97 = .ok (.getfield 138, 3) := by decide +kernel
theorem dX9_readsKind_100 : decode cX9_readsKind 100 = .ok (.imul, 1) := by decide +kernel
theorem dX9_readsKind_101 : decode cX9_readsKind 101 = .ok (.iconst 3, 1) := by decide +kernel
theorem dX9_readsKind_102 : decode cX9_readsKind 102 = .ok (.iadd, 1) := by decide +kernel
theorem dX9_readsKind_103 : decode cX9_readsKind 103 = .ok (.iconst 0, 1) := by decide +kernel
theorem dX9_readsKind_104 : decode cX9_readsKind 104 = .ok (.iastore, 1) := by decide +kernel
theorem dX9_readsKind_105 : decode cX9_readsKind 105 = .ok (.iload_n 1, 1) := by decide +kernel
theorem dX9_readsKind_106 : decode cX9_readsKind 106 = .ok (.ifCond .eq 14, 3) := by decide +kernel
theorem dX9_readsKind_109 : decode cX9_readsKind 109 = .ok (.aload_n 0, 1) := by decide +kernel
theorem dX9_readsKind_110 : decode cX9_readsKind 110 = .ok (.iconst 2, 1) := by decide +kernel
theorem dX9_readsKind_111 : decode cX9_readsKind 111 = .ok (.iconst 1, 1) := by decide +kernel
theorem dX9_readsKind_112 : decode cX9_readsKind 112 = .ok (.bipush 9, 2) := by decide +kernel
theorem dX9_readsKind_114 : decode cX9_readsKind 114 = .ok (.invokevirtual 152, 3) := by decide +kernel
theorem dX9_readsKind_117 : decode cX9_readsKind 117 = .ok (.ifCond .eq 7, 3) := by decide +kernel
theorem dX9_readsKind_120 : decode cX9_readsKind 120 = .ok (.iconst 1, 1) := by decide +kernel
theorem dX9_readsKind_121 : decode cX9_readsKind 121 = .ok (.goto 4, 3) := by decide +kernel
theorem dX9_readsKind_124 : decode cX9_readsKind 124 = .ok (.iconst 0, 1) := by decide +kernel
theorem dX9_readsKind_125 : decode cX9_readsKind 125 = .ok (.ireturn, 1) := by decide +kernel
theorem dX9_readsLump_0 : decode cX9_readsLump 0 = .ok (.aload_n 0, 1) := by decide +kernel
theorem dX9_readsLump_1 : decode cX9_readsLump 1 = .ok (.getfield 104, 3) := by decide +kernel
theorem dX9_readsLump_4 : decode cX9_readsLump 4 = .ok (.istore_n 1, 1) := by decide +kernel
theorem dX9_readsLump_5 : decode cX9_readsLump 5 = .ok (.aload_n 0, 1) := by decide +kernel
theorem dX9_readsLump_6 : decode cX9_readsLump 6 = .ok (.iconst 0, 1) := by decide +kernel
theorem dX9_readsLump_7 : decode cX9_readsLump 7 = .ok (.iconst 0, 1) := by decide +kernel
theorem dX9_readsLump_8 : decode cX9_readsLump 8 = .ok (.iconst 3, 1) := by decide +kernel
theorem dX9_readsLump_9 : decode cX9_readsLump 9 = .ok (.invokevirtual 152, 3) := by decide +kernel
theorem dX9_readsLump_12 : decode cX9_readsLump 12 = .ok (.ifCond .ne 5, 3) := by decide +kernel
theorem dX9_readsLump_15 : decode cX9_readsLump 15 = .ok (.iconst 0, 1) := by decide +kernel
theorem dX9_readsLump_16 : decode cX9_readsLump 16 = .ok (.ireturn, 1) := by decide +kernel
theorem dX9_readsLump_17 : decode cX9_readsLump 17 = .ok (.aload_n 0, 1) := by decide +kernel
theorem dX9_readsLump_18 : decode cX9_readsLump 18 = .ok (.getfield 50, 3) := by decide +kernel
theorem dX9_readsLump_21 : decode cX9_readsLump 21 = .ok (.aload_n 0, 1) := by decide +kernel
theorem dX9_readsLump_22 : decode cX9_readsLump 22 = .ok (.getfield 13, 3) := by decide +kernel
theorem dX9_readsLump_25 : decode cX9_readsLump 25 = .ok (.bipush 6, 2) := by decide +kernel
theorem dX9_readsLump_27 : decode cX9_readsLump 27 = .ok (.aload_n 0, 1) := by decide +kernel
theorem dX9_readsLump_28 : decode cX9_readsLump 28 = .ok (.getfield 138, 3) := by decide +kernel
theorem dX9_readsLump_31 : decode cX9_readsLump 31 = .ok (.imul, 1) := by decide +kernel
theorem dX9_readsLump_32 : decode cX9_readsLump 32 = .ok (.iconst 1, 1) := by decide +kernel
theorem dX9_readsLump_33 : decode cX9_readsLump 33 = .ok (.iadd, 1) := by decide +kernel
theorem dX9_readsLump_34 : decode cX9_readsLump 34 = .ok (.iaload, 1) := by decide +kernel
theorem dX9_readsLump_35 : decode cX9_readsLump 35 = .ok (.iaload, 1) := by decide +kernel
theorem dX9_readsLump_36 : decode cX9_readsLump 36 = .ok (.iconst 4, 1) := by decide +kernel
theorem dX9_readsLump_37 : decode cX9_readsLump 37 = .ok (.if_icmp .ne 10, 3) := by decide +kernel
theorem dX9_readsLump_40 : decode cX9_readsLump 40 = .ok (.aload_n 0, 1) := by decide +kernel
theorem dX9_readsLump_41 : decode cX9_readsLump 41 = .ok (.iload_n 1, 1) := by decide +kernel
theorem dX9_readsLump_42 : decode cX9_readsLump 42 = .ok (.putfield 104, 3) := by decide +kernel
theorem dX9_readsLump_45 : decode cX9_readsLump 45 = .ok (.iconst 0, 1) := by decide +kernel
theorem dX9_readsLump_46 : decode cX9_readsLump 46 = .ok (.ireturn, 1) := by decide +kernel
theorem dX9_readsLump_47 : decode cX9_readsLump 47 = .ok (.aload_n 0, 1) := by decide +kernel
theorem dX9_readsLump_48 : decode cX9_readsLump 48 = .ok (.iconst 1, 1) := by decide +kernel
theorem dX9_readsLump_49 : decode cX9_readsLump 49 = .ok (.iconst 1, 1) := by decide +kernel
theorem dX9_readsLump_50 : decode cX9_readsLump 50 = .ok (.sipush 300, 3) := by decide +kernel
theorem dX9_readsLump_53 : decode cX9_readsLump 53 = .ok (.invokevirtual 152, 3) := by decide +kernel
theorem dX9_readsLump_56 : decode cX9_readsLump 56 = .ok (.ifCond .eq 18, 3) := by decide +kernel
theorem dX9_readsLump_59 : decode cX9_readsLump 59 = .ok (.aload_n 0, 1) := by decide +kernel
theorem dX9_readsLump_60 : decode cX9_readsLump 60 = .ok (.iconst 2, 1) := by decide +kernel
theorem dX9_readsLump_61 : decode cX9_readsLump 61 = .ok (.iconst 1, 1) := by decide +kernel
theorem dX9_readsLump_62 : decode cX9_readsLump 62 = .ok (.bipush 99, 2) := by decide +kernel
theorem dX9_readsLump_64 : decode cX9_readsLump 64 = .ok (.invokevirtual 152, 3) := by decide +kernel
theorem dX9_readsLump_67 : decode cX9_readsLump 67 = .ok (.ifCond .eq 7, 3) := by decide +kernel
theorem dX9_readsLump_70 : decode cX9_readsLump 70 = .ok (.iconst 1, 1) := by decide +kernel
theorem dX9_readsLump_71 : decode cX9_readsLump 71 = .ok (.goto 4, 3) := by decide +kernel
theorem dX9_readsLump_74 : decode cX9_readsLump 74 = .ok (.iconst 0, 1) := by decide +kernel
theorem dX9_readsLump_75 : decode cX9_readsLump 75 = .ok (.ireturn, 1) := by decide +kernel
theorem dX9_readsRest_0 : decode cX9_readsRest 0 = .ok (.iload_n 1, 1) := by decide +kernel
theorem dX9_readsRest_1 : decode cX9_readsRest 1 = .ok (.tableswitch 182 0 7 #[47, 70, 75, 83, 144, 154, 163, 173], 47) := by decide +kernel
theorem dX9_readsRest_48 : decode cX9_readsRest 48 = .ok (.aload_n 0, 1) := by decide +kernel
theorem dX9_readsRest_49 : decode cX9_readsRest 49 = .ok (.iconst 0, 1) := by decide +kernel
theorem dX9_readsRest_50 : decode cX9_readsRest 50 = .ok (.iconst 0, 1) := by decide +kernel
theorem dX9_readsRest_51 : decode cX9_readsRest 51 = .ok (.iconst 3, 1) := by decide +kernel
theorem dX9_readsRest_52 : decode cX9_readsRest 52 = .ok (.invokevirtual 152, 3) := by decide +kernel
theorem dX9_readsRest_55 : decode cX9_readsRest 55 = .ok (.ifCond .eq 14, 3) := by decide +kernel
theorem dX9_readsRest_58 : decode cX9_readsRest 58 = .ok (.aload_n 0, 1) := by decide +kernel
theorem dX9_readsRest_59 : decode cX9_readsRest 59 = .ok (.invokevirtual 156, 3) := by decide +kernel
theorem dX9_readsRest_62 : decode cX9_readsRest 62 = .ok (.ifCond .eq 7, 3) := by decide +kernel
theorem dX9_readsRest_65 : decode cX9_readsRest 65 = .ok (.iconst 1, 1) := by decide +kernel
theorem dX9_readsRest_66 : decode cX9_readsRest 66 = .ok (.goto 4, 3) := by decide +kernel
theorem dX9_readsRest_69 : decode cX9_readsRest 69 = .ok (.iconst 0, 1) := by decide +kernel
theorem dX9_readsRest_70 : decode cX9_readsRest 70 = .ok (.ireturn, 1) := by decide +kernel
theorem dX9_readsRest_71 : decode cX9_readsRest 71 = .ok (.aload_n 0, 1) := by decide +kernel
theorem dX9_readsRest_72 : decode cX9_readsRest 72 = .ok (.invokevirtual 160, 3) := by decide +kernel
theorem dX9_readsRest_75 : decode cX9_readsRest 75 = .ok (.ireturn, 1) := by decide +kernel
theorem dX9_readsRest_76 : decode cX9_readsRest 76 = .ok (.aload_n 0, 1) := by decide +kernel
theorem dX9_readsRest_77 : decode cX9_readsRest 77 = .ok (.iconst 0, 1) := by decide +kernel
theorem dX9_readsRest_78 : decode cX9_readsRest 78 = .ok (.iconst 0, 1) := by decide +kernel
theorem dX9_readsRest_79 : decode cX9_readsRest 79 = .ok (.iconst 3, 1) := by decide +kernel
theorem dX9_readsRest_80 : decode cX9_readsRest 80 = .ok (.invokevirtual 152, 3) := by decide +kernel
theorem dX9_readsRest_83 : decode cX9_readsRest 83 = .ok (.ireturn, 1) := by decide +kernel
theorem dX9_readsRest_84 : decode cX9_readsRest 84 = .ok (.aload_n 0, 1) := by decide +kernel
theorem dX9_readsRest_85 : decode cX9_readsRest 85 = .ok (.iconst 0, 1) := by decide +kernel
theorem dX9_readsRest_86 : decode cX9_readsRest 86 = .ok (.iconst 0, 1) := by decide +kernel
theorem dX9_readsRest_87 : decode cX9_readsRest 87 = .ok (.bipush 40, 2) := by decide +kernel
theorem dX9_readsRest_89 : decode cX9_readsRest 89 = .ok (.invokevirtual 152, 3) := by decide +kernel
theorem dX9_readsRest_92 : decode cX9_readsRest 92 = .ok (.ifCond .eq 51, 3) := by decide +kernel
theorem dX9_readsRest_95 : decode cX9_readsRest 95 = .ok (.aload_n 0, 1) := by decide +kernel
theorem dX9_readsRest_96 : decode cX9_readsRest 96 = .ok (.iconst 1, 1) := by decide +kernel
theorem dX9_readsRest_97 : decode cX9_readsRest 97 = .ok (.iconst 0, 1) := by decide +kernel
theorem dX9_readsRest_98 : decode cX9_readsRest 98 = .ok (.bipush 40, 2) := by decide +kernel
theorem dX9_readsRest_100 : decode cX9_readsRest 100 = .ok (.invokevirtual 152, 3) := by decide +kernel
theorem dX9_readsRest_103 : decode cX9_readsRest 103 = .ok (.ifCond .eq 40, 3) := by decide +kernel
theorem dX9_readsRest_106 : decode cX9_readsRest 106 = .ok (.aload_n 0, 1) := by decide +kernel
theorem dX9_readsRest_107 : decode cX9_readsRest 107 = .ok (.iconst 2, 1) := by decide +kernel
theorem dX9_readsRest_108 : decode cX9_readsRest 108 = .ok (.iconst 0, 1) := by decide +kernel
theorem dX9_readsRest_109 : decode cX9_readsRest 109 = .ok (.bipush 6, 2) := by decide +kernel
theorem dX9_readsRest_111 : decode cX9_readsRest 111 = .ok (.invokevirtual 152, 3) := by decide +kernel
theorem dX9_readsRest_114 : decode cX9_readsRest 114 = .ok (.ifCond .eq 29, 3) := by decide +kernel
theorem dX9_readsRest_117 : decode cX9_readsRest 117 = .ok (.aload_n 0, 1) := by decide +kernel
theorem dX9_readsRest_118 : decode cX9_readsRest 118 = .ok (.iconst 3, 1) := by decide +kernel
theorem dX9_readsRest_119 : decode cX9_readsRest 119 = .ok (.iconst 1, 1) := by decide +kernel
theorem dX9_readsRest_120 : decode cX9_readsRest 120 = .ok (.bipush 99, 2) := by decide +kernel
theorem dX9_readsRest_122 : decode cX9_readsRest 122 = .ok (.invokevirtual 152, 3) := by decide +kernel
theorem dX9_readsRest_125 : decode cX9_readsRest 125 = .ok (.ifCond .eq 18, 3) := by decide +kernel
theorem dX9_readsRest_128 : decode cX9_readsRest 128 = .ok (.aload_n 0, 1) := by decide +kernel
theorem dX9_readsRest_129 : decode cX9_readsRest 129 = .ok (.iconst 4, 1) := by decide +kernel
theorem dX9_readsRest_130 : decode cX9_readsRest 130 = .ok (.iconst 0, 1) := by decide +kernel
theorem dX9_readsRest_131 : decode cX9_readsRest 131 = .ok (.bipush 99, 2) := by decide +kernel
theorem dX9_readsRest_133 : decode cX9_readsRest 133 = .ok (.invokevirtual 152, 3) := by decide +kernel
theorem dX9_readsRest_136 : decode cX9_readsRest 136 = .ok (.ifCond .eq 7, 3) := by decide +kernel
theorem dX9_readsRest_139 : decode cX9_readsRest 139 = .ok (.iconst 1, 1) := by decide +kernel
theorem dX9_readsRest_140 : decode cX9_readsRest 140 = .ok (.goto 4, 3) := by decide +kernel
theorem dX9_readsRest_143 : decode cX9_readsRest 143 = .ok (.iconst 0, 1) := by decide +kernel
theorem dX9_readsRest_144 : decode cX9_readsRest 144 = .ok (.ireturn, 1) := by decide +kernel
theorem dX9_readsRest_145 : decode cX9_readsRest 145 = .ok (.aload_n 0, 1) := by decide +kernel
theorem dX9_readsRest_146 : decode cX9_readsRest 146 = .ok (.iconst 0, 1) := by decide +kernel
theorem dX9_readsRest_147 : decode cX9_readsRest 147 = .ok (.iconst 0, 1) := by decide +kernel
theorem dX9_readsRest_148 : decode cX9_readsRest 148 = .ok (.sipush 999, 3) := by decide +kernel
theorem dX9_readsRest_151 : decode cX9_readsRest 151 = .ok (.invokevirtual 152, 3) := by decide +kernel
theorem dX9_readsRest_154 : decode cX9_readsRest 154 = .ok (.ireturn, 1) := by decide +kernel
theorem dX9_readsRest_155 : decode cX9_readsRest 155 = .ok (.aload_n 0, 1) := by decide +kernel
theorem dX9_readsRest_156 : decode cX9_readsRest 156 = .ok (.iconst 0, 1) := by decide +kernel
theorem dX9_readsRest_157 : decode cX9_readsRest 157 = .ok (.iconst 1, 1) := by decide +kernel
theorem dX9_readsRest_158 : decode cX9_readsRest 158 = .ok (.bipush 99, 2) := by decide +kernel
theorem dX9_readsRest_160 : decode cX9_readsRest 160 = .ok (.invokevirtual 152, 3) := by decide +kernel
theorem dX9_readsRest_163 : decode cX9_readsRest 163 = .ok (.ireturn, 1) := by decide +kernel
theorem dX9_readsRest_164 : decode cX9_readsRest 164 = .ok (.aload_n 0, 1) := by decide +kernel
theorem dX9_readsRest_165 : decode cX9_readsRest 165 = .ok (.iconst 0, 1) := by decide +kernel
theorem dX9_readsRest_166 : decode cX9_readsRest 166 = .ok (.iconst 1, 1) := by decide +kernel
theorem dX9_readsRest_167 : decode cX9_readsRest 167 = .ok (.sipush 999, 3) := by decide +kernel
theorem dX9_readsRest_170 : decode cX9_readsRest 170 = .ok (.invokevirtual 152, 3) := by decide +kernel
theorem dX9_readsRest_173 : decode cX9_readsRest 173 = .ok (.ireturn, 1) := by decide +kernel
theorem dX9_readsRest_174 : decode cX9_readsRest 174 = .ok (.aload_n 0, 1) := by decide +kernel
theorem dX9_readsRest_175 : decode cX9_readsRest 175 = .ok (.iconst 0, 1) := by decide +kernel
theorem dX9_readsRest_176 : decode cX9_readsRest 176 = .ok (.iconst 0, 1) := by decide +kernel
theorem dX9_readsRest_177 : decode cX9_readsRest 177 = .ok (.bipush 20, 2) := by decide +kernel
theorem dX9_readsRest_179 : decode cX9_readsRest 179 = .ok (.invokevirtual 152, 3) := by decide +kernel
theorem dX9_readsRest_182 : decode cX9_readsRest 182 = .ok (.ireturn, 1) := by decide +kernel
theorem dX9_readsRest_183 : decode cX9_readsRest 183 = .ok (.aload_n 0, 1) := by decide +kernel
theorem dX9_readsRest_184 : decode cX9_readsRest 184 = .ok (.iconst 0, 1) := by decide +kernel
theorem dX9_readsRest_185 : decode cX9_readsRest 185 = .ok (.iconst 0, 1) := by decide +kernel
theorem dX9_readsRest_186 : decode cX9_readsRest 186 = .ok (.bipush 99, 2) := by decide +kernel
theorem dX9_readsRest_188 : decode cX9_readsRest 188 = .ok (.invokevirtual 152, 3) := by decide +kernel
theorem dX9_readsRest_191 : decode cX9_readsRest 191 = .ok (.ireturn, 1) := by decide +kernel
theorem dX9_readsLine_0 : decode cX9_readsLine 0 = .ok (.aload_n 0, 1) := by decide +kernel
theorem dX9_readsLine_1 : decode cX9_readsLine 1 = .ok (.invokevirtual 163, 3) := by decide +kernel
theorem dX9_readsLine_4 : decode cX9_readsLine 4 = .ok (.istore_n 1, 1) := by decide +kernel
theorem dX9_readsLine_5 : decode cX9_readsLine 5 = .ok (.iload_n 1, 1) := by decide +kernel
theorem dX9_readsLine_6 : decode cX9_readsLine 6 = .ok (.iconst (-1), 1) := by decide +kernel
theorem dX9_readsLine_7 : decode cX9_readsLine 7 = .ok (.if_icmp .ne 5, 3) := by decide +kernel
theorem dX9_readsLine_10 : decode cX9_readsLine 10 = .ok (.iconst 0, 1) := by decide +kernel
theorem dX9_readsLine_11 : decode cX9_readsLine 11 = .ok (.ireturn, 1) := by decide +kernel
theorem dX9_readsLine_12 : decode cX9_readsLine 12 = .ok (.aload_n 0, 1) := by decide +kernel
theorem dX9_readsLine_13 : decode cX9_readsLine 13 = .ok (.invokevirtual 141, 3) := by decide +kernel
theorem dX9_readsLine_16 : decode cX9_readsLine 16 = .ok (.bipush 6, 2) := by decide +kernel
theorem dX9_readsLine_18 : decode cX9_readsLine 18 = .ok (.aload_n 0, 1) := by decide +kernel
theorem dX9_readsLine_19 : decode cX9_readsLine 19 = .ok (.getfield 138, 3) := by decide +kernel
theorem dX9_readsLine_22 : decode cX9_readsLine 22 = .ok (.imul, 1) := by decide +kernel
theorem dX9_readsLine_23 : decode cX9_readsLine 23 = .ok (.istore_n 2, 1) := by decide +kernel
theorem dX9_readsLine_24 : decode cX9_readsLine 24 = .ok (.aload_n 0, 1) := by decide +kernel
theorem dX9_readsLine_25 : decode cX9_readsLine 25 = .ok (.getfield 13, 3) := by decide +kernel
theorem dX9_readsLine_28 : decode cX9_readsLine 28 = .ok (.iload_n 2, 1) := by decide +kernel
theorem dX9_readsLine_29 : decode cX9_readsLine 29 = .ok (.iload_n 1, 1) := by decide +kernel
theorem dX9_readsLine_30 : decode cX9_readsLine 30 = .ok (.iastore, 1) := by decide +kernel
theorem dX9_readsLine_31 : decode cX9_readsLine 31 = .ok (.aload_n 0, 1) := by decide +kernel
theorem dX9_readsLine_32 : decode cX9_readsLine 32 = .ok (.iload_n 1, 1) := by decide +kernel
theorem dX9_readsLine_33 : decode cX9_readsLine 33 = .ok (.invokevirtual 167, 3) := by decide +kernel
theorem dX9_readsLine_36 : decode cX9_readsLine 36 = .ok (.ifCond .ne 5, 3) := by decide +kernel
theorem dX9_readsLine_39 : decode cX9_readsLine 39 = .ok (.iconst 0, 1) := by decide +kernel
theorem dX9_readsLine_40 : decode cX9_readsLine 40 = .ok (.ireturn, 1) := by decide +kernel
theorem dX9_readsLine_41 : decode cX9_readsLine 41 = .ok (.iload_n 1, 1) := by decide +kernel
theorem dX9_readsLine_42 : decode cX9_readsLine 42 = .ok (.iconst 1, 1) := by decide +kernel
theorem dX9_readsLine_43 : decode cX9_readsLine 43 = .ok (.if_icmp .ne 23, 3) := by decide +kernel
theorem dX9_readsLine_46 : decode cX9_readsLine 46 = .ok (.aload_n 0, 1) := by decide +kernel
theorem dX9_readsLine_47 : decode cX9_readsLine 47 = .ok (.getfield 50, 3) := by decide +kernel
theorem dX9_readsLine_50 : decode cX9_readsLine 50 = .ok (.aload_n 0, 1) := by decide +kernel
theorem dX9_readsLine_51 : decode cX9_readsLine 51 = .ok (.getfield 13, 3) := by decide +kernel
theorem dX9_readsLine_54 : decode cX9_readsLine 54 = .ok (.iload_n 2, 1) := by decide +kernel
theorem dX9_readsLine_55 : decode cX9_readsLine 55 = .ok (.iconst 1, 1) := by decide +kernel
theorem dX9_readsLine_56 : decode cX9_readsLine 56 = .ok (.iadd, 1) := by decide +kernel
theorem dX9_readsLine_57 : decode cX9_readsLine 57 = .ok (.iaload, 1) := by decide +kernel
theorem dX9_readsLine_58 : decode cX9_readsLine 58 = .ok (.dup2, 1) := by decide +kernel
theorem dX9_readsLine_59 : decode cX9_readsLine 59 = .ok (.iaload, 1) := by decide +kernel
theorem dX9_readsLine_60 : decode cX9_readsLine 60 = .ok (.iconst 1, 1) := by decide +kernel
theorem dX9_readsLine_61 : decode cX9_readsLine 61 = .ok (.iadd, 1) := by decide +kernel
theorem dX9_readsLine_62 : decode cX9_readsLine 62 = .ok (.iastore, 1) := by decide +kernel
theorem dX9_readsLine_63 : decode cX9_readsLine 63 = .ok (.goto 22, 3) := by decide +kernel
theorem dX9_readsLine_66 : decode cX9_readsLine 66 = .ok (.iload_n 1, 1) := by decide +kernel
theorem dX9_readsLine_67 : decode cX9_readsLine 67 = .ok (.iconst 2, 1) := by decide +kernel
theorem dX9_readsLine_68 : decode cX9_readsLine 68 = .ok (.if_icmp .ne 17, 3) := by decide +kernel
theorem dX9_readsLine_71 : decode cX9_readsLine 71 = .ok (.aload_n 0, 1) := by decide +kernel
theorem dX9_readsLine_72 : decode cX9_readsLine 72 = .ok (.getfield 50, 3) := by decide +kernel
theorem dX9_readsLine_75 : decode cX9_readsLine 75 = .ok (.aload_n 0, 1) := by decide +kernel
theorem dX9_readsLine_76 : decode cX9_readsLine 76 = .ok (.getfield 13, 3) := by decide +kernel
theorem dX9_readsLine_79 : decode cX9_readsLine 79 = .ok (.iload_n 2, 1) := by decide +kernel
theorem dX9_readsLine_80 : decode cX9_readsLine 80 = .ok (.iconst 1, 1) := by decide +kernel
theorem dX9_readsLine_81 : decode cX9_readsLine 81 = .ok (.iadd, 1) := by decide +kernel
theorem dX9_readsLine_82 : decode cX9_readsLine 82 = .ok (.iaload, 1) := by decide +kernel
theorem dX9_readsLine_83 : decode cX9_readsLine 83 = .ok (.iconst 0, 1) := by decide +kernel
theorem dX9_readsLine_84 : decode cX9_readsLine 84 = .ok (.iastore, 1) := by decide +kernel
theorem dX9_readsLine_85 : decode cX9_readsLine 85 = .ok (.aload_n 0, 1) := by decide +kernel
theorem dX9_readsLine_86 : decode cX9_readsLine 86 = .ok (.dup, 1) := by decide +kernel
theorem dX9_readsLine_87 : decode cX9_readsLine 87 = .ok (.getfield 138, 3) := by decide +kernel
theorem dX9_readsLine_90 : decode cX9_readsLine 90 = .ok (.iconst 1, 1) := by decide +kernel
theorem dX9_readsLine_91 : decode cX9_readsLine 91 = .ok (.iadd, 1) := by decide +kernel
theorem dX9_readsLine_92 : decode cX9_readsLine 92 = .ok (.putfield 138, 3) := by decide +kernel
theorem dX9_readsLine_95 : decode cX9_readsLine 95 = .ok (.iconst 1, 1) := by decide +kernel
theorem dX9_readsLine_96 : decode cX9_readsLine 96 = .ok (.ireturn, 1) := by decide +kernel
theorem dX9_fault_0 : decode cX9_fault 0 = .ok (.aload_n 0, 1) := by decide +kernel
theorem dX9_fault_1 : decode cX9_fault 1 = .ok (.iconst 0, 1) := by decide +kernel
theorem dX9_fault_2 : decode cX9_fault 2 = .ok (.putfield 101, 3) := by decide +kernel
theorem dX9_fault_5 : decode cX9_fault 5 = .ok (.aload_n 0, 1) := by decide +kernel
theorem dX9_fault_6 : decode cX9_fault 6 = .ok (.iconst 0, 1) := by decide +kernel
theorem dX9_fault_7 : decode cX9_fault 7 = .ok (.putfield 138, 3) := by decide +kernel
theorem dX9_fault_10 : decode cX9_fault 10 = .ok (.iconst 0, 1) := by decide +kernel
theorem dX9_fault_11 : decode cX9_fault 11 = .ok (.istore_n 1, 1) := by decide +kernel
theorem dX9_fault_12 : decode cX9_fault 12 = .ok (.iload_n 1, 1) := by decide +kernel
theorem dX9_fault_13 : decode cX9_fault 13 = .ok (.iconst 4, 1) := by decide +kernel
theorem dX9_fault_14 : decode cX9_fault 14 = .ok (.if_icmp .ge 21, 3) := by decide +kernel
theorem dX9_fault_17 : decode cX9_fault 17 = .ok (.aload_n 0, 1) := by decide +kernel
theorem dX9_fault_18 : decode cX9_fault 18 = .ok (.getfield 50, 3) := by decide +kernel
theorem dX9_fault_21 : decode cX9_fault 21 = .ok (.iload_n 1, 1) := by decide +kernel
theorem dX9_fault_22 : decode cX9_fault 22 = .ok (.aload_n 0, 1) := by decide +kernel
theorem dX9_fault_23 : decode cX9_fault 23 = .ok (.getfield 22, 3) := by decide +kernel
theorem dX9_fault_26 : decode cX9_fault 26 = .ok (.iload_n 1, 1) := by decide +kernel
theorem dX9_fault_27 : decode cX9_fault 27 = .ok (.iaload, 1) := by decide +kernel
theorem dX9_fault_28 : decode cX9_fault 28 = .ok (.iastore, 1) := by decide +kernel
theorem dX9_fault_29 : decode cX9_fault 29 = .ok (.iinc 1 1, 3) := by decide +kernel
theorem dX9_fault_32 : decode cX9_fault 32 = .ok (.goto (-20), 3) := by decide +kernel
theorem dX9_fault_35 : decode cX9_fault 35 = .ok (.aload_n 0, 1) := by decide +kernel
theorem dX9_fault_36 : decode cX9_fault 36 = .ok (.invokevirtual 141, 3) := by decide +kernel
theorem dX9_fault_39 : decode cX9_fault 39 = .ok (.aload_n 0, 1) := by decide +kernel
theorem dX9_fault_40 : decode cX9_fault 40 = .ok (.invokevirtual 171, 3) := by decide +kernel
theorem dX9_fault_43 : decode cX9_fault 43 = .ok (.ifCond .ne 8, 3) := by decide +kernel
theorem dX9_fault_46 : decode cX9_fault 46 = .ok (.aload_n 0, 1) := by decide +kernel
theorem dX9_fault_47 : decode cX9_fault 47 = .ok (.getfield 104, 3) := by decide +kernel
theorem dX9_fault_50 : decode cX9_fault 50 = .ok (.ireturn, 1) := by decide +kernel
theorem dX9_fault_51 : decode cX9_fault 51 = .ok (.aload_n 0, 1) := by decide +kernel
theorem dX9_fault_52 : decode cX9_fault 52 = .ok (.getfield 104, 3) := by decide +kernel
theorem dX9_fault_55 : decode cX9_fault 55 = .ok (.aload_n 0, 1) := by decide +kernel
theorem dX9_fault_56 : decode cX9_fault 56 = .ok (.getfield 96, 3) := by decide +kernel
theorem dX9_fault_59 : decode cX9_fault 59 = .ok (.if_icmp .ge 70, 3) := by decide +kernel
theorem dX9_fault_62 : decode cX9_fault 62 = .ok (.aload_n 0, 1) := by decide +kernel
theorem dX9_fault_63 : decode cX9_fault 63 = .ok (.getfield 111, 3) := by decide +kernel
theorem dX9_fault_66 : decode cX9_fault 66 = .ok (.aload_n 0, 1) := by decide +kernel
theorem dX9_fault_67 : decode cX9_fault 67 = .ok (.getfield 104, 3) := by decide +kernel
theorem dX9_fault_70 : decode cX9_fault 70 = .ok (.isub, 1) := by decide +kernel
theorem dX9_fault_71 : decode cX9_fault 71 = .ok (.iconst 1, 1) := by decide +kernel
theorem dX9_fault_72 : decode cX9_fault 72 = .ok (.if_icmp .ne 30, 3) := by decide +kernel
theorem dX9_fault_75 : decode cX9_fault 75 = .ok (.aload_n 0, 1) := by decide +kernel
theorem dX9_fault_76 : decode cX9_fault 76 = .ok (.getfield 7, 3) := by decide +kernel
theorem dX9_fault_79 : decode cX9_fault 79 = .ok (.aload_n 0, 1) := by decide +kernel
theorem dX9_fault_80 : decode cX9_fault 80 = .ok (.getfield 104, 3) := by decide +kernel
theorem dX9_fault_83 : decode cX9_fault 83 = .ok (.iaload, 1) := by decide +kernel
theorem dX9_fault_84 : decode cX9_fault 84 = .ok (.bipush 59, 2) := by decide +kernel
theorem dX9_fault_86 : decode cX9_fault 86 = .ok (.if_icmp .ne 16, 3) := by decide +kernel
theorem dX9_fault_89 : decode cX9_fault 89 = .ok (.aload_n 0, 1) := by decide +kernel
theorem dX9_fault_90 : decode cX9_fault 90 = .ok (.getfield 138, 3) := by decide +kernel
theorem dX9_fault_93 : decode cX9_fault 93 = .ok (.bipush 8, 2) := by decide +kernel
theorem dX9_fault_95 : decode cX9_fault 95 = .ok (.if_icmp .ge 7, 3) := by decide +kernel
theorem dX9_fault_98 : decode cX9_fault 98 = .ok (.iconst 1, 1) := by decide +kernel
theorem dX9_fault_99 : decode cX9_fault 99 = .ok (.goto 4, 3) := by decide +kernel
theorem dX9_fault_102 : decode cX9_fault 102 = .ok (.iconst 0, 1) := by decide +kernel
theorem dX9_fault_103 : decode cX9_fault 103 = .ok (.istore_n 1, 1) := by decide +kernel
theorem dX9_fault_104 : decode cX9_fault 104 = .ok (.iload_n 1, 1) := by decide +kernel
theorem dX9_fault_105 : decode cX9_fault 105 = .ok (.ifCond .eq 12, 3) := by decide +kernel
theorem dX9_fault_108 : decode cX9_fault 108 = .ok (.aload_n 0, 1) := by decide +kernel
theorem dX9_fault_109 : decode cX9_fault 109 = .ok (.invokevirtual 141, 3) := by decide +kernel
theorem dX9_fault_112 : decode cX9_fault 112 = .ok (.aload_n 0, 1) := by decide +kernel
theorem dX9_fault_113 : decode cX9_fault 113 = .ok (.invokevirtual 171, 3) := by decide +kernel
theorem dX9_fault_116 : decode cX9_fault 116 = .ok (.istore_n 1, 1) := by decide +kernel
theorem dX9_fault_117 : decode cX9_fault 117 = .ok (.iload_n 1, 1) := by decide +kernel
theorem dX9_fault_118 : decode cX9_fault 118 = .ok (.ifCond .ne 8, 3) := by decide +kernel
theorem dX9_fault_121 : decode cX9_fault 121 = .ok (.aload_n 0, 1) := by decide +kernel
theorem dX9_fault_122 : decode cX9_fault 122 = .ok (.getfield 104, 3) := by decide +kernel
theorem dX9_fault_125 : decode cX9_fault 125 = .ok (.ireturn, 1) := by decide +kernel
theorem dX9_fault_126 : decode cX9_fault 126 = .ok (.goto (-75), 3) := by decide +kernel
theorem dX9_fault_129 : decode cX9_fault 129 = .ok (.iconst (-1), 1) := by decide +kernel
theorem dX9_fault_130 : decode cX9_fault 130 = .ok (.ireturn, 1) := by decide +kernel
theorem dX9_tell_0 : decode cX9_tell 0 = .ok (.aload_n 0, 1) := by decide +kernel
theorem dX9_tell_1 : decode cX9_tell 1 = .ok (.getfield 13, 3) := by decide +kernel
theorem dX9_tell_4 : decode cX9_tell 4 = .ok (.iload_n 1, 1) := by decide +kernel
theorem dX9_tell_5 : decode cX9_tell 5 = .ok (.iconst 1, 1) := by decide +kernel
theorem dX9_tell_6 : decode cX9_tell 6 = .ok (.iadd, 1) := by decide +kernel
theorem dX9_tell_7 : decode cX9_tell 7 = .ok (.iaload, 1) := by decide +kernel
theorem dX9_tell_8 : decode cX9_tell 8 = .ok (.istore_n 2, 1) := by decide +kernel
theorem dX9_tell_9 : decode cX9_tell 9 = .ok (.aload_n 0, 1) := by decide +kernel
theorem dX9_tell_10 : decode cX9_tell 10 = .ok (.getfield 13, 3) := by decide +kernel
theorem dX9_tell_13 : decode cX9_tell 13 = .ok (.iload_n 1, 1) := by decide +kernel
theorem dX9_tell_14 : decode cX9_tell 14 = .ok (.iconst 2, 1) := by decide +kernel
theorem dX9_tell_15 : decode cX9_tell 15 = .ok (.iadd, 1) := by decide +kernel
theorem dX9_tell_16 : decode cX9_tell 16 = .ok (.iaload, 1) := by decide +kernel
theorem dX9_tell_17 : decode cX9_tell 17 = .ok (.istore_n 3, 1) := by decide +kernel
theorem dX9_tell_18 : decode cX9_tell 18 = .ok (.aload_n 0, 1) := by decide +kernel
theorem dX9_tell_19 : decode cX9_tell 19 = .ok (.getfield 13, 3) := by decide +kernel
theorem dX9_tell_22 : decode cX9_tell 22 = .ok (.iload_n 1, 1) := by decide +kernel
theorem dX9_tell_23 : decode cX9_tell 23 = .ok (.iconst 3, 1) := by decide +kernel
theorem dX9_tell_24 : decode cX9_tell 24 = .ok (.iadd, 1) := by decide +kernel
theorem dX9_tell_25 : decode cX9_tell 25 = .ok (.iaload, 1) := by decide +kernel
theorem dX9_tell_26 : decode cX9_tell 26 = .ok (.istore 4, 2) := by decide +kernel
theorem dX9_tell_28 : decode cX9_tell 28 = .ok (.aload_n 0, 1) := by decide +kernel
theorem dX9_tell_29 : decode cX9_tell 29 = .ok (.getfield 13, 3) := by decide +kernel
theorem dX9_tell_32 : decode cX9_tell 32 = .ok (.iload_n 1, 1) := by decide +kernel
theorem dX9_tell_33 : decode cX9_tell 33 = .ok (.iaload, 1) := by decide +kernel
theorem dX9_tell_34 : decode cX9_tell 34 = .ok (.tableswitch 187 0 7 #[46, 62, 114, 122, 163, 169, 175, 181], 46) := by decide +kernel
theorem dX9_tell_80 : decode cX9_tell 80 = .ok (.aload_n 0, 1) := by decide +kernel
theorem dX9_tell_81 : decode cX9_tell 81 = .ok (.getfield 16, 3) := by decide +kernel
theorem dX9_tell_84 : decode cX9_tell 84 = .ok (.iload_n 2, 1) := by decide +kernel
theorem dX9_tell_85 : decode cX9_tell 85 = .ok (.iload_n 3, 1) := by decide +kernel
theorem dX9_tell_86 : decode cX9_tell 86 = .ok (.iastore, 1) := by decide +kernel
theorem dX9_tell_87 : decode cX9_tell 87 = .ok (.aload_n 0, 1) := by decide +kernel
theorem dX9_tell_88 : decode cX9_tell 88 = .ok (.getfield 19, 3) := by decide +kernel
theorem dX9_tell_91 : decode cX9_tell 91 = .ok (.iload_n 2, 1) := by decide +kernel
theorem dX9_tell_92 : decode cX9_tell 92 = .ok (.iload 4, 2) := by decide +kernel
theorem dX9_tell_94 : decode cX9_tell 94 = .ok (.iastore, 1) := by decide +kernel
theorem dX9_tell_95 : decode cX9_tell 95 = .ok (.return_, 1) := by decide +kernel
theorem dX9_tell_96 : decode cX9_tell 96 = .ok (.aload_n 0, 1) := by decide +kernel
theorem dX9_tell_97 : decode cX9_tell 97 = .ok (.getfield 25, 3) := by decide +kernel
theorem dX9_tell_100 : decode cX9_tell 100 = .ok (.bipush 8, 2) := by decide +kernel
theorem dX9_tell_102 : decode cX9_tell 102 = .ok (.iload_n 2, 1) := by decide +kernel
theorem dX9_tell_103 : decode cX9_tell 103 = .ok (.imul, 1) := by decide +kernel
theorem dX9_tell_104 : decode cX9_tell 104 = .ok (.iconst 2, 1) := by decide +kernel
theorem dX9_tell_105 : decode cX9_tell 105 = .ok (.aload_n 0, 1) := by decide +kernel
theorem dX9_tell_106 : decode cX9_tell 106 = .ok (.getfield 22, 3) := by decide +kernel
theorem dX9_tell_109 : decode cX9_tell 109 = .ok (.iload_n 2, 1) := by decide +kernel
theorem dX9_tell_110 : decode cX9_tell 110 = .ok (.iaload, 1) := by decide +kernel
theorem dX9_tell_111 : decode cX9_tell 111 = .ok (.imul, 1) := by decide +kernel
theorem dX9_tell_112 : decode cX9_tell 112 = .ok (.iadd, 1) := by decide +kernel
theorem dX9_tell_113 : decode cX9_tell 113 = .ok (.iload_n 3, 1) := by decide +kernel
theorem dX9_tell_114 : decode cX9_tell 114 = .ok (.iastore, 1) := by decide +kernel
theorem dX9_tell_115 : decode cX9_tell 115 = .ok (.aload_n 0, 1) := by decide +kernel
theorem dX9_tell_116 : decode cX9_tell 116 = .ok (.getfield 25, 3) := by decide +kernel
theorem dX9_tell_119 : decode cX9_tell 119 = .ok (.bipush 8, 2) := by decide +kernel
theorem dX9_tell_121 : decode cX9_tell 121 = .ok (.iload_n 2, 1) := by decide +kernel
theorem dX9_tell_122 : decode cX9_tell 122 = .ok (.imul, 1) := by decide +kernel
theorem dX9_tell_123 : decode cX9_tell 123 = .ok (.iconst 2, 1) := by decide +kernel
theorem dX9_tell_124 : decode cX9_tell 124 = .ok (.aload_n 0, 1) := by decide +kernel
theorem dX9_tell_125 : decode cX9_tell 125 = .ok (.getfield 22, 3) := by decide +kernel
theorem dX9_tell_128 : decode cX9_tell 128 = .ok (.iload_n 2, 1) := by decide +kernel
theorem dX9_tell_129 : decode cX9_tell 129 = .ok (.iaload, 1) := by decide +kernel
theorem dX9_tell_130 : decode cX9_tell 130 = .ok (.imul, 1) := by decide +kernel
theorem dX9_tell_131 : decode cX9_tell 131 = .ok (.iadd, 1) := by decide +kernel
theorem dX9_tell_132 : decode cX9_tell 132 = .ok (.iconst 1, 1) := by decide +kernel
theorem dX9_tell_133 : decode cX9_tell 133 = .ok (.iadd, 1) := by decide +kernel
theorem dX9_tell_134 : decode cX9_tell 134 = .ok (.iload 4, 2) := by decide +kernel
theorem dX9_tell_136 : decode cX9_tell 136 = .ok (.iastore, 1) := by decide +kernel
theorem dX9_tell_137 : decode cX9_tell 137 = .ok (.aload_n 0, 1) := by decide +kernel
theorem dX9_tell_138 : decode cX9_tell 138 = .ok (.getfield 22, 3) := by decide +kernel
theorem dX9_tell_141 : decode cX9_tell 141 = .ok (.iload_n 2, 1) := by decide +kernel
theorem dX9_tell_142 : decode cX9_tell 142 = .ok (.dup2, 1) := by decide +kernel
theorem dX9_tell_143 : decode cX9_tell 143 = .ok (.iaload, 1) := by decide +kernel
theorem dX9_tell_144 : decode cX9_tell 144 = .ok (.iconst 1, 1) := by decide +kernel
theorem dX9_tell_145 : decode cX9_tell 145 = .ok (.iadd, 1) := by decide +kernel
theorem dX9_tell_146 : decode cX9_tell 146 = .ok (.iastore, 1) := by decide +kernel
theorem dX9_tell_147 : decode cX9_tell 147 = .ok (.return_, 1) := by decide +kernel
theorem dX9_tell_148 : decode cX9_tell 148 = .ok (.aload_n 0, 1) := by decide +kernel
theorem dX9_tell_149 : decode cX9_tell 149 = .ok (.getfield 22, 3) := by decide +kernel
theorem dX9_tell_152 : decode cX9_tell 152 = .ok (.iload_n 2, 1) := by decide +kernel
theorem dX9_tell_153 : decode cX9_tell 153 = .ok (.iconst 0, 1) := by decide +kernel
theorem dX9_tell_154 : decode cX9_tell 154 = .ok (.iastore, 1) := by decide +kernel
theorem dX9_tell_155 : decode cX9_tell 155 = .ok (.return_, 1) := by decide +kernel
theorem dX9_tell_156 : decode cX9_tell 156 = .ok (.aload_n 0, 1) := by decide +kernel
theorem dX9_tell_157 : decode cX9_tell 157 = .ok (.iload_n 2, 1) := by decide +kernel
theorem dX9_tell_158 : decode cX9_tell 158 = .ok (.putfield 28, 3) := by decide +kernel
theorem dX9_tell_161 : decode cX9_tell 161 = .ok (.aload_n 0, 1) := by decide +kernel
theorem dX9_tell_162 : decode cX9_tell 162 = .ok (.iload_n 3, 1) := by decide +kernel
theorem dX9_tell_163 : decode cX9_tell 163 = .ok (.putfield 32, 3) := by decide +kernel
theorem dX9_tell_166 : decode cX9_tell 166 = .ok (.aload_n 0, 1) := by decide +kernel
theorem dX9_tell_167 : decode cX9_tell 167 = .ok (.iload 4, 2) := by decide +kernel
theorem dX9_tell_169 : decode cX9_tell 169 = .ok (.putfield 35, 3) := by decide +kernel
theorem dX9_tell_172 : decode cX9_tell 172 = .ok (.aload_n 0, 1) := by decide +kernel
theorem dX9_tell_173 : decode cX9_tell 173 = .ok (.aload_n 0, 1) := by decide +kernel
theorem dX9_tell_174 : decode cX9_tell 174 = .ok (.getfield 13, 3) := by decide +kernel
theorem dX9_tell_177 : decode cX9_tell 177 = .ok (.iload_n 1, 1) := by decide +kernel
theorem dX9_tell_178 : decode cX9_tell 178 = .ok (.iconst 4, 1) := by decide +kernel
theorem dX9_tell_179 : decode cX9_tell 179 = .ok (.iadd, 1) := by decide +kernel
theorem dX9_tell_180 : decode cX9_tell 180 = .ok (.iaload, 1) := by decide +kernel
theorem dX9_tell_181 : decode cX9_tell 181 = .ok (.putfield 38, 3) := by decide +kernel
theorem dX9_tell_184 : decode cX9_tell 184 = .ok (.aload_n 0, 1) := by decide +kernel
theorem dX9_tell_185 : decode cX9_tell 185 = .ok (.aload_n 0, 1) := by decide +kernel
theorem dX9_tell_186 : decode cX9_tell 186 = .ok (.getfield 13, 3) := by decide +kernel
theorem dX9_tell_189 : decode cX9_tell 189 = .ok (.iload_n 1, 1) := by decide +kernel
theorem dX9_tell_190 : decode cX9_tell 190 = .ok (.iconst 5, 1) := by decide +kernel
theorem dX9_tell_191 : decode cX9_tell 191 = .ok (.iadd, 1) := by decide +kernel
theorem dX9_tell_192 : decode cX9_tell 192 = .ok (.iaload, 1) := by decide +kernel
theorem dX9_tell_193 : decode cX9_tell 193 = .ok (.putfield 174, 3) := by decide +kernel
theorem dX9_tell_196 : decode cX9_tell 196 = .ok (.return_, 1) := by decide +kernel
theorem dX9_tell_197 : decode cX9_tell 197 = .ok (.aload_n 0, 1) := by decide +kernel
theorem dX9_tell_198 : decode cX9_tell 198 = .ok (.iload_n 2, 1) := by decide +kernel
theorem dX9_tell_199 : decode cX9_tell 199 = .ok (.putfield 41, 3) := by decide +kernel
theorem dX9_tell_202 : decode cX9_tell 202 = .ok (.return_, 1) := by decide +kernel
theorem dX9_tell_203 : decode cX9_tell 203 = .ok (.aload_n 0, 1) := by decide +kernel
theorem dX9_tell_204 : decode cX9_tell 204 = .ok (.iload_n 2, 1) := by decide +kernel
theorem dX9_tell_205 : decode cX9_tell 205 = .ok (.putfield 44, 3) := by decide +kernel
theorem dX9_tell_208 : decode cX9_tell 208 = .ok (.return_, 1) := by decide +kernel
theorem dX9_tell_209 : decode cX9_tell 209 = .ok (.aload_n 0, 1) := by decide +kernel
theorem dX9_tell_210 : decode cX9_tell 210 = .ok (.iload_n 2, 1) := by decide +kernel
theorem dX9_tell_211 : decode cX9_tell 211 = .ok (.putfield 47, 3) := by decide +kernel
theorem dX9_tell_214 : decode cX9_tell 214 = .ok (.return_, 1) := by decide +kernel
theorem dX9_tell_215 : decode cX9_tell 215 = .ok (.aload_n 0, 1) := by decide +kernel
theorem dX9_tell_216 : decode cX9_tell 216 = .ok (.iload_n 2, 1) := by decide +kernel
theorem dX9_tell_217 : decode cX9_tell 217 = .ok (.putfield 177, 3) := by decide +kernel
theorem dX9_tell_220 : decode cX9_tell 220 = .ok (.return_, 1) := by decide +kernel
theorem dX9_tell_221 : decode cX9_tell 221 = .ok (.aload_n 0, 1) := by decide +kernel
theorem dX9_tell_222 : decode cX9_tell 222 = .ok (.iload_n 2, 1) := by decide +kernel
theorem dX9_tell_223 : decode cX9_tell 223 = .ok (.putfield 180, 3) := by decide +kernel
theorem dX9_tell_226 : decode cX9_tell 226 = .ok (.return_, 1) := by decide +kernel
theorem dX9_chin_0 : decode cX9_chin 0 = .ok (.aload_n 0, 1) := by decide +kernel
theorem dX9_chin_1 : decode cX9_chin 1 = .ok (.invokevirtual 183, 3) := by decide +kernel
theorem dX9_chin_4 : decode cX9_chin 4 = .ok (.iconst (-1), 1) := by decide +kernel
theorem dX9_chin_5 : decode cX9_chin 5 = .ok (.if_icmp .eq 6, 3) := by decide +kernel
theorem dX9_chin_8 : decode cX9_chin 8 = .ok (.bipush (-4), 2) := by decide +kernel
theorem dX9_chin_10 : decode cX9_chin 10 = .ok (.ireturn, 1) := by decide +kernel
theorem dX9_chin_11 : decode cX9_chin 11 = .ok (.iconst 0, 1) := by decide +kernel
theorem dX9_chin_12 : decode cX9_chin 12 = .ok (.istore_n 1, 1) := by decide +kernel
theorem dX9_chin_13 : decode cX9_chin 13 = .ok (.iload_n 1, 1) := by decide +kernel
theorem dX9_chin_14 : decode cX9_chin 14 = .ok (.aload_n 0, 1) := by decide +kernel
theorem dX9_chin_15 : decode cX9_chin 15 = .ok (.getfield 138, 3) := by decide +kernel
theorem dX9_chin_18 : decode cX9_chin 18 = .ok (.if_icmp .ge 17, 3) := by decide +kernel
theorem dX9_chin_21 : decode cX9_chin 21 = .ok (.aload_n 0, 1) := by decide +kernel
theorem dX9_chin_22 : decode cX9_chin 22 = .ok (.bipush 6, 2) := by decide +kernel
theorem dX9_chin_24 : decode cX9_chin 24 = .ok (.iload_n 1, 1) := by decide +kernel
theorem dX9_chin_25 : decode cX9_chin 25 = .ok (.imul, 1) := by decide +kernel
theorem dX9_chin_26 : decode cX9_chin 26 = .ok (.invokevirtual 186, 3) := by decide +kernel
theorem dX9_chin_29 : decode cX9_chin 29 = .ok (.iinc 1 1, 3) := by decide +kernel
theorem dX9_chin_32 : decode cX9_chin 32 = .ok (.goto (-19), 3) := by decide +kernel
theorem dX9_chin_35 : decode cX9_chin 35 = .ok (.aload_n 0, 1) := by decide +kernel
theorem dX9_chin_36 : decode cX9_chin 36 = .ok (.iconst 0, 1) := by decide +kernel
theorem dX9_chin_37 : decode cX9_chin 37 = .ok (.putfield 96, 3) := by decide +kernel
theorem dX9_chin_40 : decode cX9_chin 40 = .ok (.aload_n 0, 1) := by decide +kernel
theorem dX9_chin_41 : decode cX9_chin 41 = .ok (.getfield 138, 3) := by decide +kernel
theorem dX9_chin_44 : decode cX9_chin 44 = .ok (.ireturn, 1) := by decide +kernel
theorem dX9_isThing_0 : decode cX9_isThing 0 = .ok (.iload_n 0, 1) := by decide +kernel
theorem dX9_isThing_1 : decode cX9_isThing 1 = .ok (.i2l, 1) := by decide +kernel
theorem dX9_isThing_2 : decode cX9_isThing 2 = .ok (.lconst 0, 1) := by decide +kernel
theorem dX9_isThing_3 : decode cX9_isThing 3 = .ok (.ldc2_w 190, 3) := by decide +kernel
theorem dX9_isThing_6 : decode cX9_isThing 6 = .ok (.invokestatic 92, 3) := by decide +kernel
theorem dX9_isThing_9 : decode cX9_isThing 9 = .ok (.ireturn, 1) := by decide +kernel
theorem dX9_longOf_0 : decode cX9_longOf 0 = .ok (.iconst 0, 1) := by decide +kernel
theorem dX9_longOf_1 : decode cX9_longOf 1 = .ok (.istore_n 2, 1) := by decide +kernel
theorem dX9_longOf_2 : decode cX9_longOf 2 = .ok (.iconst 0, 1) := by decide +kernel
theorem dX9_longOf_3 : decode cX9_longOf 3 = .ok (.istore_n 3, 1) := by decide +kernel
theorem dX9_longOf_4 : decode cX9_longOf 4 = .ok (.iconst 0, 1) := by decide +kernel
theorem dX9_longOf_5 : decode cX9_longOf 5 = .ok (.istore 4, 2) := by decide +kernel
theorem dX9_longOf_7 : decode cX9_longOf 7 = .ok (.iload 4, 2) := by decide +kernel
theorem dX9_longOf_9 : decode cX9_longOf 9 = .ok (.aload_n 0, 1) := by decide +kernel
theorem dX9_longOf_10 : decode cX9_longOf 10 = .ok (.getfield 22, 3) := by decide +kernel
theorem dX9_longOf_13 : decode cX9_longOf 13 = .ok (.iload_n 1, 1) := by decide +kernel
theorem dX9_longOf_14 : decode cX9_longOf 14 = .ok (.iaload, 1) := by decide +kernel
theorem dX9_longOf_15 : decode cX9_longOf 15 = .ok (.if_icmp .ge 62, 3) := by decide +kernel
theorem dX9_longOf_18 : decode cX9_longOf 18 = .ok (.aload_n 0, 1) := by decide +kernel
theorem dX9_longOf_19 : decode cX9_longOf 19 = .ok (.getfield 25, 3) := by decide +kernel
theorem dX9_longOf_22 : decode cX9_longOf 22 = .ok (.bipush 8, 2) := by decide +kernel
theorem dX9_longOf_24 : decode cX9_longOf 24 = .ok (.iload_n 1, 1) := by decide +kernel
theorem dX9_longOf_25 : decode cX9_longOf 25 = .ok (.imul, 1) := by decide +kernel
theorem dX9_longOf_26 : decode cX9_longOf 26 = .ok (.iconst 2, 1) := by decide +kernel
theorem dX9_longOf_27 : decode cX9_longOf 27 = .ok (.iload 4, 2) := by decide +kernel
theorem dX9_longOf_29 : decode cX9_longOf 29 = .ok (.imul, 1) := by decide +kernel
theorem dX9_longOf_30 : decode cX9_longOf 30 = .ok (.iadd, 1) := by decide +kernel
theorem dX9_longOf_31 : decode cX9_longOf 31 = .ok (.iaload, 1) := by decide +kernel
theorem dX9_longOf_32 : decode cX9_longOf 32 = .ok (.istore 5, 2) := by decide +kernel
theorem dX9_longOf_34 : decode cX9_longOf 34 = .ok (.aload_n 0, 1) := by decide +kernel
theorem dX9_longOf_35 : decode cX9_longOf 35 = .ok (.getfield 25, 3) := by decide +kernel
theorem dX9_longOf_38 : decode cX9_longOf 38 = .ok (.bipush 8, 2) := by decide +kernel
theorem dX9_longOf_40 : decode cX9_longOf 40 = .ok (.iload_n 1, 1) := by decide +kernel
theorem dX9_longOf_41 : decode cX9_longOf 41 = .ok (.imul, 1) := by decide +kernel
theorem dX9_longOf_42 : decode cX9_longOf 42 = .ok (.iconst 2, 1) := by decide +kernel
theorem dX9_longOf_43 : decode cX9_longOf 43 = .ok (.iload 4, 2) := by decide +kernel
theorem dX9_longOf_45 : decode cX9_longOf 45 = .ok (.imul, 1) := by decide +kernel
theorem dX9_longOf_46 : decode cX9_longOf 46 = .ok (.iadd, 1) := by decide +kernel
theorem dX9_longOf_47 : decode cX9_longOf 47 = .ok (.iconst 1, 1) := by decide +kernel
theorem dX9_longOf_48 : decode cX9_longOf 48 = .ok (.iadd, 1) := by decide +kernel
theorem dX9_longOf_49 : decode cX9_longOf 49 = .ok (.iaload, 1) := by decide +kernel
theorem dX9_longOf_50 : decode cX9_longOf 50 = .ok (.istore 6, 2) := by decide +kernel
theorem dX9_longOf_52 : decode cX9_longOf 52 = .ok (.iload_n 2, 1) := by decide +kernel
theorem dX9_longOf_53 : decode cX9_longOf 53 = .ok (.iload 5, 2) := by decide +kernel
theorem dX9_longOf_55 : decode cX9_longOf 55 = .ok (.iload 5, 2) := by decide +kernel
theorem dX9_longOf_57 : decode cX9_longOf 57 = .ok (.imul, 1) := by decide +kernel
theorem dX9_longOf_58 : decode cX9_longOf 58 = .ok (.iload 6, 2) := by decide +kernel
theorem dX9_longOf_60 : decode cX9_longOf 60 = .ok (.imul, 1) := by decide +kernel
theorem dX9_longOf_61 : decode cX9_longOf 61 = .ok (.iadd, 1) := by decide +kernel
theorem dX9_longOf_62 : decode cX9_longOf 62 = .ok (.istore_n 2, 1) := by decide +kernel
theorem dX9_longOf_63 : decode cX9_longOf 63 = .ok (.iload_n 3, 1) := by decide +kernel
theorem dX9_longOf_64 : decode cX9_longOf 64 = .ok (.iload 5, 2) := by decide +kernel
theorem dX9_longOf_66 : decode cX9_longOf 66 = .ok (.iload 6, 2) := by decide +kernel
theorem dX9_longOf_68 : decode cX9_longOf 68 = .ok (.imul, 1) := by decide +kernel
theorem dX9_longOf_69 : decode cX9_longOf 69 = .ok (.iadd, 1) := by decide +kernel
theorem dX9_longOf_70 : decode cX9_longOf 70 = .ok (.istore_n 3, 1) := by decide +kernel
theorem dX9_longOf_71 : decode cX9_longOf 71 = .ok (.iinc 4 1, 3) := by decide +kernel
theorem dX9_longOf_74 : decode cX9_longOf 74 = .ok (.goto (-67), 3) := by decide +kernel
theorem dX9_longOf_77 : decode cX9_longOf 77 = .ok (.iload_n 3, 1) := by decide +kernel
theorem dX9_longOf_78 : decode cX9_longOf 78 = .ok (.ifCond .ne 7, 3) := by decide +kernel
theorem dX9_longOf_81 : decode cX9_longOf 81 = .ok (.iconst (-1), 1) := by decide +kernel
theorem dX9_longOf_82 : decode cX9_longOf 82 = .ok (.goto 6, 3) := by decide +kernel
theorem dX9_longOf_85 : decode cX9_longOf 85 = .ok (.iload_n 2, 1) := by decide +kernel
theorem dX9_longOf_86 : decode cX9_longOf 86 = .ok (.iload_n 3, 1) := by decide +kernel
theorem dX9_longOf_87 : decode cX9_longOf 87 = .ok (.idiv, 1) := by decide +kernel
theorem dX9_longOf_88 : decode cX9_longOf 88 = .ok (.ireturn, 1) := by decide +kernel
theorem dX9_greatest_0 : decode cX9_greatest 0 = .ok (.iconst 0, 1) := by decide +kernel
theorem dX9_greatest_1 : decode cX9_greatest 1 = .ok (.istore_n 2, 1) := by decide +kernel
theorem dX9_greatest_2 : decode cX9_greatest 2 = .ok (.iconst 0, 1) := by decide +kernel
theorem dX9_greatest_3 : decode cX9_greatest 3 = .ok (.istore_n 3, 1) := by decide +kernel
theorem dX9_greatest_4 : decode cX9_greatest 4 = .ok (.iload_n 3, 1) := by decide +kernel
theorem dX9_greatest_5 : decode cX9_greatest 5 = .ok (.aload_n 0, 1) := by decide +kernel
theorem dX9_greatest_6 : decode cX9_greatest 6 = .ok (.getfield 22, 3) := by decide +kernel
theorem dX9_greatest_9 : decode cX9_greatest 9 = .ok (.iload_n 1, 1) := by decide +kernel
theorem dX9_greatest_10 : decode cX9_greatest 10 = .ok (.iaload, 1) := by decide +kernel
theorem dX9_greatest_11 : decode cX9_greatest 11 = .ok (.if_icmp .ge 44, 3) := by decide +kernel
theorem dX9_greatest_14 : decode cX9_greatest 14 = .ok (.aload_n 0, 1) := by decide +kernel
theorem dX9_greatest_15 : decode cX9_greatest 15 = .ok (.getfield 25, 3) := by decide +kernel
theorem dX9_greatest_18 : decode cX9_greatest 18 = .ok (.bipush 8, 2) := by decide +kernel
theorem dX9_greatest_20 : decode cX9_greatest 20 = .ok (.iload_n 1, 1) := by decide +kernel
theorem dX9_greatest_21 : decode cX9_greatest 21 = .ok (.imul, 1) := by decide +kernel
theorem dX9_greatest_22 : decode cX9_greatest 22 = .ok (.iconst 2, 1) := by decide +kernel
theorem dX9_greatest_23 : decode cX9_greatest 23 = .ok (.iload_n 3, 1) := by decide +kernel
theorem dX9_greatest_24 : decode cX9_greatest 24 = .ok (.imul, 1) := by decide +kernel
theorem dX9_greatest_25 : decode cX9_greatest 25 = .ok (.iadd, 1) := by decide +kernel
theorem dX9_greatest_26 : decode cX9_greatest 26 = .ok (.iaload, 1) := by decide +kernel
theorem dX9_greatest_27 : decode cX9_greatest 27 = .ok (.iload_n 2, 1) := by decide +kernel
theorem dX9_greatest_28 : decode cX9_greatest 28 = .ok (.if_icmp .le 19, 3) := by decide +kernel
theorem dX9_greatest_31 : decode cX9_greatest 31 = .ok (.aload_n 0, 1) := by decide +kernel
theorem dX9_greatest_32 : decode cX9_greatest 32 = .ok (.getfield 25, 3) := by decide +kernel
theorem dX9_greatest_35 : decode cX9_greatest 35 = .ok (.bipush 8, 2) := by decide +kernel
theorem dX9_greatest_37 : decode cX9_greatest 37 = .ok (.iload_n 1, 1) := by decide +kernel
theorem dX9_greatest_38 : decode cX9_greatest 38 = .ok (.imul, 1) := by decide +kernel
theorem dX9_greatest_39 : decode cX9_greatest 39 = .ok (.iconst 2, 1) := by decide +kernel
theorem dX9_greatest_40 : decode cX9_greatest 40 = .ok (.iload_n 3, 1) := by decide +kernel
theorem dX9_greatest_41 : decode cX9_greatest 41 = .ok (.imul, 1) := by decide +kernel
theorem dX9_greatest_42 : decode cX9_greatest 42 = .ok (.iadd, 1) := by decide +kernel
theorem dX9_greatest_43 : decode cX9_greatest 43 = .ok (.iaload, 1) := by decide +kernel
theorem dX9_greatest_44 : decode cX9_greatest 44 = .ok (.goto 4, 3) := by decide +kernel
theorem dX9_greatest_47 : decode cX9_greatest 47 = .ok (.iload_n 2, 1) := by decide +kernel
theorem dX9_greatest_48 : decode cX9_greatest 48 = .ok (.istore_n 2, 1) := by decide +kernel
theorem dX9_greatest_49 : decode cX9_greatest 49 = .ok (.iinc 3 1, 3) := by decide +kernel
theorem dX9_greatest_52 : decode cX9_greatest 52 = .ok (.goto (-48), 3) := by decide +kernel
theorem dX9_greatest_55 : decode cX9_greatest 55 = .ok (.iload_n 2, 1) := by decide +kernel
theorem dX9_greatest_56 : decode cX9_greatest 56 = .ok (.ireturn, 1) := by decide +kernel
theorem dX9_thing_0 : decode cX9_thing 0 = .ok (.iload_n 1, 1) := by decide +kernel
theorem dX9_thing_1 : decode cX9_thing 1 = .ok (.invokestatic 192, 3) := by decide +kernel
theorem dX9_thing_4 : decode cX9_thing 4 = .ok (.ifCond .ne 6, 3) := by decide +kernel
theorem dX9_thing_7 : decode cX9_thing 7 = .ok (.bipush (-2), 2) := by decide +kernel
theorem dX9_thing_9 : decode cX9_thing 9 = .ok (.ireturn, 1) := by decide +kernel
theorem dX9_thing_10 : decode cX9_thing 10 = .ok (.iload_n 2, 1) := by decide +kernel
theorem dX9_thing_11 : decode cX9_thing 11 = .ok (.tableswitch 66 0 4 #[33, 40, 47, 54, 60], 33) := by decide +kernel
theorem dX9_thing_44 : decode cX9_thing 44 = .ok (.aload_n 0, 1) := by decide +kernel
theorem dX9_thing_45 : decode cX9_thing 45 = .ok (.getfield 16, 3) := by decide +kernel
theorem dX9_thing_48 : decode cX9_thing 48 = .ok (.iload_n 1, 1) := by decide +kernel
theorem dX9_thing_49 : decode cX9_thing 49 = .ok (.iaload, 1) := by decide +kernel
theorem dX9_thing_50 : decode cX9_thing 50 = .ok (.ireturn, 1) := by decide +kernel
theorem dX9_thing_51 : decode cX9_thing 51 = .ok (.aload_n 0, 1) := by decide +kernel
theorem dX9_thing_52 : decode cX9_thing 52 = .ok (.getfield 19, 3) := by decide +kernel
theorem dX9_thing_55 : decode cX9_thing 55 = .ok (.iload_n 1, 1) := by decide +kernel
theorem dX9_thing_56 : decode cX9_thing 56 = .ok (.iaload, 1) := by decide +kernel
theorem dX9_thing_57 : decode cX9_thing 57 = .ok (.ireturn, 1) := by decide +kernel
theorem dX9_thing_58 : decode cX9_thing 58 = .ok (.aload_n 0, 1) := by decide +kernel
theorem dX9_thing_59 : decode cX9_thing 59 = .ok (.getfield 22, 3) := by decide +kernel
theorem dX9_thing_62 : decode cX9_thing 62 = .ok (.iload_n 1, 1) := by decide +kernel
theorem dX9_thing_63 : decode cX9_thing 63 = .ok (.iaload, 1) := by decide +kernel
theorem dX9_thing_64 : decode cX9_thing 64 = .ok (.ireturn, 1) := by decide +kernel
theorem dX9_thing_65 : decode cX9_thing 65 = .ok (.aload_n 0, 1) := by decide +kernel
theorem dX9_thing_66 : decode cX9_thing 66 = .ok (.iload_n 1, 1) := by decide +kernel
theorem dX9_thing_67 : decode cX9_thing 67 = .ok (.invokevirtual 195, 3) := by decide +kernel
theorem dX9_thing_70 : decode cX9_thing 70 = .ok (.ireturn, 1) := by decide +kernel
theorem dX9_thing_71 : decode cX9_thing 71 = .ok (.aload_n 0, 1) := by decide +kernel
theorem dX9_thing_72 : decode cX9_thing 72 = .ok (.iload_n 1, 1) := by decide +kernel
theorem dX9_thing_73 : decode cX9_thing 73 = .ok (.invokevirtual 198, 3) := by decide +kernel
theorem dX9_thing_76 : decode cX9_thing 76 = .ok (.ireturn, 1) := by decide +kernel
theorem dX9_thing_77 : decode cX9_thing 77 = .ok (.bipush (-3), 2) := by decide +kernel
theorem dX9_thing_79 : decode cX9_thing 79 = .ok (.ireturn, 1) := by decide +kernel
theorem dX9_lump_0 : decode cX9_lump 0 = .ok (.iload_n 1, 1) := by decide +kernel
theorem dX9_lump_1 : decode cX9_lump 1 = .ok (.invokestatic 192, 3) := by decide +kernel
theorem dX9_lump_4 : decode cX9_lump 4 = .ok (.ifCond .eq 21, 3) := by decide +kernel
theorem dX9_lump_7 : decode cX9_lump 7 = .ok (.iload_n 2, 1) := by decide +kernel
theorem dX9_lump_8 : decode cX9_lump 8 = .ok (.i2l, 1) := by decide +kernel
theorem dX9_lump_9 : decode cX9_lump 9 = .ok (.lconst 0, 1) := by decide +kernel
theorem dX9_lump_10 : decode cX9_lump 10 = .ok (.aload_n 0, 1) := by decide +kernel
theorem dX9_lump_11 : decode cX9_lump 11 = .ok (.getfield 22, 3) := by decide +kernel
theorem dX9_lump_14 : decode cX9_lump 14 = .ok (.iload_n 1, 1) := by decide +kernel
theorem dX9_lump_15 : decode cX9_lump 15 = .ok (.iaload, 1) := by decide +kernel
theorem dX9_lump_16 : decode cX9_lump 16 = .ok (.iconst 1, 1) := by decide +kernel
theorem dX9_lump_17 : decode cX9_lump 17 = .ok (.isub, 1) := by decide +kernel
theorem dX9_lump_18 : decode cX9_lump 18 = .ok (.i2l, 1) := by decide +kernel
theorem dX9_lump_19 : decode cX9_lump 19 = .ok (.invokestatic 92, 3) := by decide +kernel
theorem dX9_lump_22 : decode cX9_lump 22 = .ok (.ifCond .ne 6, 3) := by decide +kernel
theorem dX9_lump_25 : decode cX9_lump 25 = .ok (.bipush (-2), 2) := by decide +kernel
theorem dX9_lump_27 : decode cX9_lump 27 = .ok (.ireturn, 1) := by decide +kernel
theorem dX9_lump_28 : decode cX9_lump 28 = .ok (.iload_n 3, 1) := by decide +kernel
theorem dX9_lump_29 : decode cX9_lump 29 = .ok (.i2l, 1) := by decide +kernel
theorem dX9_lump_30 : decode cX9_lump 30 = .ok (.lconst 0, 1) := by decide +kernel
theorem dX9_lump_31 : decode cX9_lump 31 = .ok (.lconst 1, 1) := by decide +kernel
theorem dX9_lump_32 : decode cX9_lump 32 = .ok (.invokestatic 92, 3) := by decide +kernel
theorem dX9_lump_35 : decode cX9_lump 35 = .ok (.ifCond .eq 21, 3) := by decide +kernel
theorem dX9_lump_38 : decode cX9_lump 38 = .ok (.aload_n 0, 1) := by decide +kernel
theorem dX9_lump_39 : decode cX9_lump 39 = .ok (.getfield 25, 3) := by decide +kernel
theorem dX9_lump_42 : decode cX9_lump 42 = .ok (.bipush 8, 2) := by decide +kernel
theorem dX9_lump_44 : decode cX9_lump 44 = .ok (.iload_n 1, 1) := by decide +kernel
theorem dX9_lump_45 : decode cX9_lump 45 = .ok (.imul, 1) := by decide +kernel
theorem dX9_lump_46 : decode cX9_lump 46 = .ok (.iconst 2, 1) := by decide +kernel
theorem dX9_lump_47 : decode cX9_lump 47 = .ok (.iload_n 2, 1) := by decide +kernel
theorem dX9_lump_48 : decode cX9_lump 48 = .ok (.imul, 1) := by decide +kernel
theorem dX9_lump_49 : decode cX9_lump 49 = .ok (.iadd, 1) := by decide +kernel
theorem dX9_lump_50 : decode cX9_lump 50 = .ok (.iload_n 3, 1) := by decide +kernel
theorem dX9_lump_51 : decode cX9_lump 51 = .ok (.iadd, 1) := by decide +kernel
theorem dX9_lump_52 : decode cX9_lump 52 = .ok (.iaload, 1) := by decide +kernel
theorem dX9_lump_53 : decode cX9_lump 53 = .ok (.goto 5, 3) := by decide +kernel
theorem dX9_lump_56 : decode cX9_lump 56 = .ok (.bipush (-3), 2) := by decide +kernel
theorem dX9_lump_58 : decode cX9_lump 58 = .ok (.ireturn, 1) := by decide +kernel
theorem dX9_asTold_0 : decode cX9_asTold 0 = .ok (.aload_n 0, 1) := by decide +kernel
theorem dX9_asTold_1 : decode cX9_asTold 1 = .ok (.aload_n 0, 1) := by decide +kernel
theorem dX9_asTold_2 : decode cX9_asTold 2 = .ok (.getfield 28, 3) := by decide +kernel
theorem dX9_asTold_5 : decode cX9_asTold 5 = .ok (.putfield 201, 3) := by decide +kernel
theorem dX9_asTold_8 : decode cX9_asTold 8 = .ok (.aload_n 0, 1) := by decide +kernel
theorem dX9_asTold_9 : decode cX9_asTold 9 = .ok (.aload_n 0, 1) := by decide +kernel
theorem dX9_asTold_10 : decode cX9_asTold 10 = .ok (.getfield 32, 3) := by decide +kernel
theorem dX9_asTold_13 : decode cX9_asTold 13 = .ok (.putfield 204, 3) := by decide +kernel
theorem dX9_asTold_16 : decode cX9_asTold 16 = .ok (.aload_n 0, 1) := by decide +kernel
theorem dX9_asTold_17 : decode cX9_asTold 17 = .ok (.aload_n 0, 1) := by decide +kernel
theorem dX9_asTold_18 : decode cX9_asTold 18 = .ok (.getfield 35, 3) := by decide +kernel
theorem dX9_asTold_21 : decode cX9_asTold 21 = .ok (.putfield 207, 3) := by decide +kernel
theorem dX9_asTold_24 : decode cX9_asTold 24 = .ok (.aload_n 0, 1) := by decide +kernel
theorem dX9_asTold_25 : decode cX9_asTold 25 = .ok (.aload_n 0, 1) := by decide +kernel
theorem dX9_asTold_26 : decode cX9_asTold 26 = .ok (.getfield 180, 3) := by decide +kernel
theorem dX9_asTold_29 : decode cX9_asTold 29 = .ok (.putfield 210, 3) := by decide +kernel
theorem dX9_asTold_32 : decode cX9_asTold 32 = .ok (.aload_n 0, 1) := by decide +kernel
theorem dX9_asTold_33 : decode cX9_asTold 33 = .ok (.iload_n 1, 1) := by decide +kernel
theorem dX9_asTold_34 : decode cX9_asTold 34 = .ok (.invokevirtual 213, 3) := by decide +kernel
theorem dX9_asTold_37 : decode cX9_asTold 37 = .ok (.return_, 1) := by decide +kernel
theorem dX9_look_0 : decode cX9_look 0 = .ok (.aload_n 0, 1) := by decide +kernel
theorem dX9_look_1 : decode cX9_look 1 = .ok (.aload_n 0, 1) := by decide +kernel
theorem dX9_look_2 : decode cX9_look 2 = .ok (.getfield 16, 3) := by decide +kernel
theorem dX9_look_5 : decode cX9_look 5 = .ok (.iload_n 1, 1) := by decide +kernel
theorem dX9_look_6 : decode cX9_look 6 = .ok (.iaload, 1) := by decide +kernel
theorem dX9_look_7 : decode cX9_look 7 = .ok (.putfield 216, 3) := by decide +kernel
theorem dX9_look_10 : decode cX9_look 10 = .ok (.aload_n 0, 1) := by decide +kernel
theorem dX9_look_11 : decode cX9_look 11 = .ok (.aload_n 0, 1) := by decide +kernel
theorem dX9_look_12 : decode cX9_look 12 = .ok (.getfield 19, 3) := by decide +kernel
theorem dX9_look_15 : decode cX9_look 15 = .ok (.iload_n 1, 1) := by decide +kernel
theorem dX9_look_16 : decode cX9_look 16 = .ok (.iaload, 1) := by decide +kernel
theorem dX9_look_17 : decode cX9_look 17 = .ok (.putfield 219, 3) := by decide +kernel
theorem dX9_look_20 : decode cX9_look 20 = .ok (.aload_n 0, 1) := by decide +kernel
theorem dX9_look_21 : decode cX9_look 21 = .ok (.aload_n 0, 1) := by decide +kernel
theorem dX9_look_22 : decode cX9_look 22 = .ok (.iload_n 1, 1) := by decide +kernel
theorem dX9_look_23 : decode cX9_look 23 = .ok (.invokevirtual 195, 3) := by decide +kernel
theorem dX9_look_26 : decode cX9_look 26 = .ok (.putfield 222, 3) := by decide +kernel
theorem dX9_look_29 : decode cX9_look 29 = .ok (.return_, 1) := by decide +kernel
theorem dX9_start_0 : decode cX9_start 0 = .ok (.aload_n 0, 1) := by decide +kernel
theorem dX9_start_1 : decode cX9_start 1 = .ok (.getfield 53, 3) := by decide +kernel
theorem dX9_start_4 : decode cX9_start 4 = .ok (.sipush 402, 3) := by decide +kernel
theorem dX9_start_7 : decode cX9_start 7 = .ok (.iload_n 1, 1) := by decide +kernel
theorem dX9_start_8 : decode cX9_start 8 = .ok (.imul, 1) := by decide +kernel
theorem dX9_start_9 : decode cX9_start 9 = .ok (.iload_n 2, 1) := by decide +kernel
theorem dX9_start_10 : decode cX9_start 10 = .ok (.iastore, 1) := by decide +kernel
theorem dX9_start_11 : decode cX9_start 11 = .ok (.aload_n 0, 1) := by decide +kernel
theorem dX9_start_12 : decode cX9_start 12 = .ok (.getfield 56, 3) := by decide +kernel
theorem dX9_start_15 : decode cX9_start 15 = .ok (.iload_n 1, 1) := by decide +kernel
theorem dX9_start_16 : decode cX9_start 16 = .ok (.iload_n 3, 1) := by decide +kernel
theorem dX9_start_17 : decode cX9_start 17 = .ok (.iastore, 1) := by decide +kernel
theorem dX9_start_18 : decode cX9_start 18 = .ok (.aload_n 0, 1) := by decide +kernel
theorem dX9_start_19 : decode cX9_start 19 = .ok (.getfield 59, 3) := by decide +kernel
theorem dX9_start_22 : decode cX9_start 22 = .ok (.iload_n 1, 1) := by decide +kernel
theorem dX9_start_23 : decode cX9_start 23 = .ok (.iconst 0, 1) := by decide +kernel
theorem dX9_start_24 : decode cX9_start 24 = .ok (.iastore, 1) := by decide +kernel
theorem dX9_start_25 : decode cX9_start 25 = .ok (.aload_n 0, 1) := by decide +kernel
theorem dX9_start_26 : decode cX9_start 26 = .ok (.getfield 62, 3) := by decide +kernel
theorem dX9_start_29 : decode cX9_start 29 = .ok (.iload_n 1, 1) := by decide +kernel
theorem dX9_start_30 : decode cX9_start 30 = .ok (.iconst 0, 1) := by decide +kernel
theorem dX9_start_31 : decode cX9_start 31 = .ok (.iastore, 1) := by decide +kernel
theorem dX9_start_32 : decode cX9_start 32 = .ok (.aload_n 0, 1) := by decide +kernel
theorem dX9_start_33 : decode cX9_start 33 = .ok (.getfield 65, 3) := by decide +kernel
theorem dX9_start_36 : decode cX9_start 36 = .ok (.iload_n 1, 1) := by decide +kernel
theorem dX9_start_37 : decode cX9_start 37 = .ok (.iconst 0, 1) := by decide +kernel
theorem dX9_start_38 : decode cX9_start 38 = .ok (.iastore, 1) := by decide +kernel
theorem dX9_start_39 : decode cX9_start 39 = .ok (.return_, 1) := by decide +kernel
theorem dX9_leansAt_0 : decode cX9_leansAt 0 = .ok (.aload_n 0, 1) := by decide +kernel
theorem dX9_leansAt_1 : decode cX9_leansAt 1 = .ok (.getfield 53, 3) := by decide +kernel
theorem dX9_leansAt_4 : decode cX9_leansAt 4 = .ok (.sipush 402, 3) := by decide +kernel
theorem dX9_leansAt_7 : decode cX9_leansAt 7 = .ok (.iload_n 1, 1) := by decide +kernel
theorem dX9_leansAt_8 : decode cX9_leansAt 8 = .ok (.imul, 1) := by decide +kernel
theorem dX9_leansAt_9 : decode cX9_leansAt 9 = .ok (.aload_n 0, 1) := by decide +kernel
theorem dX9_leansAt_10 : decode cX9_leansAt 10 = .ok (.getfield 62, 3) := by decide +kernel
theorem dX9_leansAt_13 : decode cX9_leansAt 13 = .ok (.iload_n 1, 1) := by decide +kernel
theorem dX9_leansAt_14 : decode cX9_leansAt 14 = .ok (.iaload, 1) := by decide +kernel
theorem dX9_leansAt_15 : decode cX9_leansAt 15 = .ok (.iadd, 1) := by decide +kernel
theorem dX9_leansAt_16 : decode cX9_leansAt 16 = .ok (.iaload, 1) := by decide +kernel
theorem dX9_leansAt_17 : decode cX9_leansAt 17 = .ok (.ireturn, 1) := by decide +kernel
theorem dX9_fell_0 : decode cX9_fell 0 = .ok (.aload_n 0, 1) := by decide +kernel
theorem dX9_fell_1 : decode cX9_fell 1 = .ok (.iload_n 1, 1) := by decide +kernel
theorem dX9_fell_2 : decode cX9_fell 2 = .ok (.invokevirtual 225, 3) := by decide +kernel
theorem dX9_fell_5 : decode cX9_fell 5 = .ok (.istore_n 2, 1) := by decide +kernel
theorem dX9_fell_6 : decode cX9_fell 6 = .ok (.iload_n 2, 1) := by decide +kernel
theorem dX9_fell_7 : decode cX9_fell 7 = .ok (.aload_n 0, 1) := by decide +kernel
theorem dX9_fell_8 : decode cX9_fell 8 = .ok (.getfield 47, 3) := by decide +kernel
theorem dX9_fell_11 : decode cX9_fell 11 = .ok (.if_icmp .gt 12, 3) := by decide +kernel
theorem dX9_fell_14 : decode cX9_fell 14 = .ok (.iload_n 2, 1) := by decide +kernel
theorem dX9_fell_15 : decode cX9_fell 15 = .ok (.aload_n 0, 1) := by decide +kernel
theorem dX9_fell_16 : decode cX9_fell 16 = .ok (.getfield 47, 3) := by decide +kernel
theorem dX9_fell_19 : decode cX9_fell 19 = .ok (.ineg, 1) := by decide +kernel
theorem dX9_fell_20 : decode cX9_fell 20 = .ok (.if_icmp .ge 7, 3) := by decide +kernel
theorem dX9_fell_23 : decode cX9_fell 23 = .ok (.iconst 1, 1) := by decide +kernel
theorem dX9_fell_24 : decode cX9_fell 24 = .ok (.goto 4, 3) := by decide +kernel
theorem dX9_fell_27 : decode cX9_fell 27 = .ok (.iconst 0, 1) := by decide +kernel
theorem dX9_fell_28 : decode cX9_fell 28 = .ok (.ireturn, 1) := by decide +kernel
theorem dX9_minds_0 : decode cX9_minds 0 = .ok (.iload_n 1, 1) := by decide +kernel
theorem dX9_minds_1 : decode cX9_minds 1 = .ok (.aload_n 0, 1) := by decide +kernel
theorem dX9_minds_2 : decode cX9_minds 2 = .ok (.getfield 174, 3) := by decide +kernel
theorem dX9_minds_5 : decode cX9_minds 5 = .ok (.if_icmp .ge 14, 3) := by decide +kernel
theorem dX9_minds_8 : decode cX9_minds 8 = .ok (.iload_n 1, 1) := by decide +kernel
theorem dX9_minds_9 : decode cX9_minds 9 = .ok (.aload_n 0, 1) := by decide +kernel
theorem dX9_minds_10 : decode cX9_minds 10 = .ok (.getfield 174, 3) := by decide +kernel
theorem dX9_minds_13 : decode cX9_minds 13 = .ok (.ineg, 1) := by decide +kernel
theorem dX9_minds_14 : decode cX9_minds 14 = .ok (.if_icmp .le 5, 3) := by decide +kernel
theorem dX9_minds_17 : decode cX9_minds 17 = .ok (.iconst 0, 1) := by decide +kernel
theorem dX9_minds_18 : decode cX9_minds 18 = .ok (.ireturn, 1) := by decide +kernel
theorem dX9_minds_19 : decode cX9_minds 19 = .ok (.aload_n 0, 1) := by decide +kernel
theorem dX9_minds_20 : decode cX9_minds 20 = .ok (.getfield 201, 3) := by decide +kernel
theorem dX9_minds_23 : decode cX9_minds 23 = .ok (.iload_n 1, 1) := by decide +kernel
theorem dX9_minds_24 : decode cX9_minds 24 = .ok (.imul, 1) := by decide +kernel
theorem dX9_minds_25 : decode cX9_minds 25 = .ok (.aload_n 0, 1) := by decide +kernel
theorem dX9_minds_26 : decode cX9_minds 26 = .ok (.getfield 204, 3) := by decide +kernel
theorem dX9_minds_29 : decode cX9_minds 29 = .ok (.iload_n 1, 1) := by decide +kernel
theorem dX9_minds_30 : decode cX9_minds 30 = .ok (.iload_n 2, 1) := by decide +kernel
theorem dX9_minds_31 : decode cX9_minds 31 = .ok (.isub, 1) := by decide +kernel
theorem dX9_minds_32 : decode cX9_minds 32 = .ok (.imul, 1) := by decide +kernel
theorem dX9_minds_33 : decode cX9_minds 33 = .ok (.iadd, 1) := by decide +kernel
theorem dX9_minds_34 : decode cX9_minds 34 = .ok (.bipush 10, 2) := by decide +kernel
theorem dX9_minds_36 : decode cX9_minds 36 = .ok (.idiv, 1) := by decide +kernel
theorem dX9_minds_37 : decode cX9_minds 37 = .ok (.istore_n 3, 1) := by decide +kernel
theorem dX9_minds_38 : decode cX9_minds 38 = .ok (.iload_n 3, 1) := by decide +kernel
theorem dX9_minds_39 : decode cX9_minds 39 = .ok (.aload_n 0, 1) := by decide +kernel
theorem dX9_minds_40 : decode cX9_minds 40 = .ok (.getfield 38, 3) := by decide +kernel
theorem dX9_minds_43 : decode cX9_minds 43 = .ok (.if_icmp .le 10, 3) := by decide +kernel
theorem dX9_minds_46 : decode cX9_minds 46 = .ok (.aload_n 0, 1) := by decide +kernel
theorem dX9_minds_47 : decode cX9_minds 47 = .ok (.getfield 38, 3) := by decide +kernel
theorem dX9_minds_50 : decode cX9_minds 50 = .ok (.goto 21, 3) := by decide +kernel
theorem dX9_minds_53 : decode cX9_minds 53 = .ok (.iload_n 3, 1) := by decide +kernel
theorem dX9_minds_54 : decode cX9_minds 54 = .ok (.aload_n 0, 1) := by decide +kernel
theorem dX9_minds_55 : decode cX9_minds 55 = .ok (.getfield 38, 3) := by decide +kernel
theorem dX9_minds_58 : decode cX9_minds 58 = .ok (.ineg, 1) := by decide +kernel
theorem dX9_minds_59 : decode cX9_minds 59 = .ok (.if_icmp .ge 11, 3) := by decide +kernel
theorem dX9_minds_62 : decode cX9_minds 62 = .ok (.aload_n 0, 1) := by decide +kernel
theorem dX9_minds_63 : decode cX9_minds 63 = .ok (.getfield 38, 3) := by decide +kernel
theorem dX9_minds_66 : decode cX9_minds 66 = .ok (.ineg, 1) := by decide +kernel
theorem dX9_minds_67 : decode cX9_minds 67 = .ok (.goto 4, 3) := by decide +kernel
theorem dX9_minds_70 : decode cX9_minds 70 = .ok (.iload_n 3, 1) := by decide +kernel
theorem dX9_minds_71 : decode cX9_minds 71 = .ok (.ireturn, 1) := by decide +kernel
theorem dX9_moves_0 : decode cX9_moves 0 = .ok (.aload_n 0, 1) := by decide +kernel
theorem dX9_moves_1 : decode cX9_moves 1 = .ok (.getfield 207, 3) := by decide +kernel
theorem dX9_moves_4 : decode cX9_moves 4 = .ok (.aload_n 0, 1) := by decide +kernel
theorem dX9_moves_5 : decode cX9_moves 5 = .ok (.getfield 216, 3) := by decide +kernel
theorem dX9_moves_8 : decode cX9_moves 8 = .ok (.iconst 3, 1) := by decide +kernel
theorem dX9_moves_9 : decode cX9_moves 9 = .ok (.if_icmp .ne 10, 3) := by decide +kernel
theorem dX9_moves_12 : decode cX9_moves 12 = .ok (.aload_n 0, 1) := by decide +kernel
theorem dX9_moves_13 : decode cX9_moves 13 = .ok (.getfield 219, 3) := by decide +kernel
theorem dX9_moves_16 : decode cX9_moves 16 = .ok (.goto 4, 3) := by decide +kernel
theorem dX9_moves_19 : decode cX9_moves 19 = .ok (.iconst 0, 1) := by decide +kernel
theorem dX9_moves_20 : decode cX9_moves 20 = .ok (.iadd, 1) := by decide +kernel
theorem dX9_moves_21 : decode cX9_moves 21 = .ok (.istore_n 2, 1) := by decide +kernel
theorem dX9_moves_22 : decode cX9_moves 22 = .ok (.aload_n 0, 1) := by decide +kernel
theorem dX9_moves_23 : decode cX9_moves 23 = .ok (.getfield 62, 3) := by decide +kernel
theorem dX9_moves_26 : decode cX9_moves 26 = .ok (.iload_n 1, 1) := by decide +kernel
theorem dX9_moves_27 : decode cX9_moves 27 = .ok (.iaload, 1) := by decide +kernel
theorem dX9_moves_28 : decode cX9_moves 28 = .ok (.istore_n 3, 1) := by decide +kernel
theorem dX9_moves_29 : decode cX9_moves 29 = .ok (.aload_n 0, 1) := by decide +kernel
theorem dX9_moves_30 : decode cX9_moves 30 = .ok (.getfield 53, 3) := by decide +kernel
theorem dX9_moves_33 : decode cX9_moves 33 = .ok (.sipush 402, 3) := by decide +kernel
theorem dX9_moves_36 : decode cX9_moves 36 = .ok (.iload_n 1, 1) := by decide +kernel
theorem dX9_moves_37 : decode cX9_moves 37 = .ok (.imul, 1) := by decide +kernel
theorem dX9_moves_38 : decode cX9_moves 38 = .ok (.iload_n 3, 1) := by decide +kernel
theorem dX9_moves_39 : decode cX9_moves 39 = .ok (.iload_n 2, 1) := by decide +kernel
theorem dX9_moves_40 : decode cX9_moves 40 = .ok (.if_icmp .le 9, 3) := by decide +kernel
theorem dX9_moves_43 : decode cX9_moves 43 = .ok (.iload_n 3, 1) := by decide +kernel
theorem dX9_moves_44 : decode cX9_moves 44 = .ok (.iload_n 2, 1) := by decide +kernel
theorem dX9_moves_45 : decode cX9_moves 45 = .ok (.isub, 1) := by decide +kernel
theorem dX9_moves_46 : decode cX9_moves 46 = .ok (.goto 4, 3) := by decide +kernel
theorem dX9_moves_49 : decode cX9_moves 49 = .ok (.iconst 0, 1) := by decide +kernel
theorem dX9_moves_50 : decode cX9_moves 50 = .ok (.iadd, 1) := by decide +kernel
theorem dX9_moves_51 : decode cX9_moves 51 = .ok (.iaload, 1) := by decide +kernel
theorem dX9_moves_52 : decode cX9_moves 52 = .ok (.istore 4, 2) := by decide +kernel
theorem dX9_moves_54 : decode cX9_moves 54 = .ok (.aload_n 0, 1) := by decide +kernel
theorem dX9_moves_55 : decode cX9_moves 55 = .ok (.getfield 53, 3) := by decide +kernel
theorem dX9_moves_58 : decode cX9_moves 58 = .ok (.sipush 402, 3) := by decide +kernel
theorem dX9_moves_61 : decode cX9_moves 61 = .ok (.iload_n 1, 1) := by decide +kernel
theorem dX9_moves_62 : decode cX9_moves 62 = .ok (.imul, 1) := by decide +kernel
theorem dX9_moves_63 : decode cX9_moves 63 = .ok (.iload_n 3, 1) := by decide +kernel
theorem dX9_moves_64 : decode cX9_moves 64 = .ok (.iload_n 2, 1) := by decide +kernel
theorem dX9_moves_65 : decode cX9_moves 65 = .ok (.iconst 1, 1) := by decide +kernel
theorem dX9_moves_66 : decode cX9_moves 66 = .ok (.iadd, 1) := by decide +kernel
theorem dX9_moves_67 : decode cX9_moves 67 = .ok (.if_icmp .le 11, 3) := by decide +kernel
theorem dX9_moves_70 : decode cX9_moves 70 = .ok (.iload_n 3, 1) := by decide +kernel
theorem dX9_moves_71 : decode cX9_moves 71 = .ok (.iload_n 2, 1) := by decide +kernel
theorem dX9_moves_72 : decode cX9_moves 72 = .ok (.isub, 1) := by decide +kernel
theorem dX9_moves_73 : decode cX9_moves 73 = .ok (.iconst 1, 1) := by decide +kernel
theorem dX9_moves_74 : decode cX9_moves 74 = .ok (.isub, 1) := by decide +kernel
theorem dX9_moves_75 : decode cX9_moves 75 = .ok (.goto 4, 3) := by decide +kernel
theorem dX9_moves_78 : decode cX9_moves 78 = .ok (.iconst 0, 1) := by decide +kernel
theorem dX9_moves_79 : decode cX9_moves 79 = .ok (.iadd, 1) := by decide +kernel
theorem dX9_moves_80 : decode cX9_moves 80 = .ok (.iaload, 1) := by decide +kernel
theorem dX9_moves_81 : decode cX9_moves 81 = .ok (.istore 5, 2) := by decide +kernel
theorem dX9_moves_83 : decode cX9_moves 83 = .ok (.aload_n 0, 1) := by decide +kernel
theorem dX9_moves_84 : decode cX9_moves 84 = .ok (.iload 4, 2) := by decide +kernel
theorem dX9_moves_86 : decode cX9_moves 86 = .ok (.iload 5, 2) := by decide +kernel
theorem dX9_moves_88 : decode cX9_moves 88 = .ok (.invokevirtual 228, 3) := by decide +kernel
theorem dX9_moves_91 : decode cX9_moves 91 = .ok (.istore 6, 2) := by decide +kernel
theorem dX9_moves_93 : decode cX9_moves 93 = .ok (.aload_n 0, 1) := by decide +kernel
theorem dX9_moves_94 : decode cX9_moves 94 = .ok (.getfield 59, 3) := by decide +kernel
theorem dX9_moves_97 : decode cX9_moves 97 = .ok (.iload_n 1, 1) := by decide +kernel
theorem dX9_moves_98 : decode cX9_moves 98 = .ok (.iaload, 1) := by decide +kernel
theorem dX9_moves_99 : decode cX9_moves 99 = .ok (.iload 6, 2) := by decide +kernel
theorem dX9_moves_101 : decode cX9_moves 101 = .ok (.iadd, 1) := by decide +kernel
theorem dX9_moves_102 : decode cX9_moves 102 = .ok (.istore 7, 2) := by decide +kernel
theorem dX9_moves_104 : decode cX9_moves 104 = .ok (.iload 7, 2) := by decide +kernel
theorem dX9_moves_106 : decode cX9_moves 106 = .ok (.aload_n 0, 1) := by decide +kernel
theorem dX9_moves_107 : decode cX9_moves 107 = .ok (.getfield 41, 3) := by decide +kernel
theorem dX9_moves_110 : decode cX9_moves 110 = .ok (.if_icmp .le 17, 3) := by decide +kernel
theorem dX9_moves_113 : decode cX9_moves 113 = .ok (.aload_n 0, 1) := by decide +kernel
theorem dX9_moves_114 : decode cX9_moves 114 = .ok (.getfield 41, 3) := by decide +kernel
theorem dX9_moves_117 : decode cX9_moves 117 = .ok (.aload_n 0, 1) := by decide +kernel
theorem dX9_moves_118 : decode cX9_moves 118 = .ok (.getfield 59, 3) := by decide +kernel
theorem dX9_moves_121 : decode cX9_moves 121 = .ok (.iload_n 1, 1) := by decide +kernel
theorem dX9_moves_122 : decode cX9_moves 122 = .ok (.iaload, 1) := by decide +kernel
theorem dX9_moves_123 : decode cX9_moves 123 = .ok (.isub, 1) := by decide +kernel
theorem dX9_moves_124 : decode cX9_moves 124 = .ok (.goto 30, 3) := by decide +kernel
theorem dX9_moves_127 : decode cX9_moves 127 = .ok (.iload 7, 2) := by decide +kernel
theorem dX9_moves_129 : decode cX9_moves 129 = .ok (.aload_n 0, 1) := by decide +kernel
theorem dX9_moves_130 : decode cX9_moves 130 = .ok (.getfield 41, 3) := by decide +kernel
theorem dX9_moves_133 : decode cX9_moves 133 = .ok (.ineg, 1) := by decide +kernel
theorem dX9_moves_134 : decode cX9_moves 134 = .ok (.if_icmp .ge 18, 3) := by decide +kernel
theorem dX9_moves_137 : decode cX9_moves 137 = .ok (.aload_n 0, 1) := by decide +kernel
theorem dX9_moves_138 : decode cX9_moves 138 = .ok (.getfield 41, 3) := by decide +kernel
theorem dX9_moves_141 : decode cX9_moves 141 = .ok (.ineg, 1) := by decide +kernel
theorem dX9_moves_142 : decode cX9_moves 142 = .ok (.aload_n 0, 1) := by decide +kernel
theorem dX9_moves_143 : decode cX9_moves 143 = .ok (.getfield 59, 3) := by decide +kernel
theorem dX9_moves_146 : decode cX9_moves 146 = .ok (.iload_n 1, 1) := by decide +kernel
theorem dX9_moves_147 : decode cX9_moves 147 = .ok (.iaload, 1) := by decide +kernel
theorem dX9_moves_148 : decode cX9_moves 148 = .ok (.isub, 1) := by decide +kernel
theorem dX9_moves_149 : decode cX9_moves 149 = .ok (.goto 5, 3) := by decide +kernel
theorem dX9_moves_152 : decode cX9_moves 152 = .ok (.iload 6, 2) := by decide +kernel
theorem dX9_moves_154 : decode cX9_moves 154 = .ok (.ireturn, 1) := by decide +kernel
theorem dX9_tick_0 : decode cX9_tick 0 = .ok (.aload_n 0, 1) := by decide +kernel
theorem dX9_tick_1 : decode cX9_tick 1 = .ok (.iload_n 1, 1) := by decide +kernel
theorem dX9_tick_2 : decode cX9_tick 2 = .ok (.invokevirtual 225, 3) := by decide +kernel
theorem dX9_tick_5 : decode cX9_tick 5 = .ok (.istore 4, 2) := by decide +kernel
theorem dX9_tick_7 : decode cX9_tick 7 = .ok (.aload_n 0, 1) := by decide +kernel
theorem dX9_tick_8 : decode cX9_tick 8 = .ok (.getfield 56, 3) := by decide +kernel
theorem dX9_tick_11 : decode cX9_tick 11 = .ok (.iload_n 1, 1) := by decide +kernel
theorem dX9_tick_12 : decode cX9_tick 12 = .ok (.iaload, 1) := by decide +kernel
theorem dX9_tick_13 : decode cX9_tick 13 = .ok (.istore 5, 2) := by decide +kernel
theorem dX9_tick_15 : decode cX9_tick 15 = .ok (.iload_n 2, 1) := by decide +kernel
theorem dX9_tick_16 : decode cX9_tick 16 = .ok (.ifCond .eq 11, 3) := by decide +kernel
theorem dX9_tick_19 : decode cX9_tick 19 = .ok (.aload_n 0, 1) := by decide +kernel
theorem dX9_tick_20 : decode cX9_tick 20 = .ok (.iload_n 1, 1) := by decide +kernel
theorem dX9_tick_21 : decode cX9_tick 21 = .ok (.invokevirtual 232, 3) := by decide +kernel
theorem dX9_tick_24 : decode cX9_tick 24 = .ok (.goto 4, 3) := by decide +kernel
theorem dX9_tick_27 : decode cX9_tick 27 = .ok (.iconst 0, 1) := by decide +kernel
theorem dX9_tick_28 : decode cX9_tick 28 = .ok (.istore 6, 2) := by decide +kernel
theorem dX9_tick_30 : decode cX9_tick 30 = .ok (.aload_n 0, 1) := by decide +kernel
theorem dX9_tick_31 : decode cX9_tick 31 = .ok (.getfield 62, 3) := by decide +kernel
theorem dX9_tick_34 : decode cX9_tick 34 = .ok (.iload_n 1, 1) := by decide +kernel
theorem dX9_tick_35 : decode cX9_tick 35 = .ok (.iaload, 1) := by decide +kernel
theorem dX9_tick_36 : decode cX9_tick 36 = .ok (.iconst 2, 1) := by decide +kernel
theorem dX9_tick_37 : decode cX9_tick 37 = .ok (.irem, 1) := by decide +kernel
theorem dX9_tick_38 : decode cX9_tick 38 = .ok (.ifCond .ne 15, 3) := by decide +kernel
theorem dX9_tick_41 : decode cX9_tick 41 = .ok (.aload_n 0, 1) := by decide +kernel
theorem dX9_tick_42 : decode cX9_tick 42 = .ok (.getfield 44, 3) := by decide +kernel
theorem dX9_tick_45 : decode cX9_tick 45 = .ok (.aload_n 0, 1) := by decide +kernel
theorem dX9_tick_46 : decode cX9_tick 46 = .ok (.getfield 210, 3) := by decide +kernel
theorem dX9_tick_49 : decode cX9_tick 49 = .ok (.iadd, 1) := by decide +kernel
theorem dX9_tick_50 : decode cX9_tick 50 = .ok (.goto 12, 3) := by decide +kernel
theorem dX9_tick_53 : decode cX9_tick 53 = .ok (.aload_n 0, 1) := by decide +kernel
theorem dX9_tick_54 : decode cX9_tick 54 = .ok (.getfield 44, 3) := by decide +kernel
theorem dX9_tick_57 : decode cX9_tick 57 = .ok (.aload_n 0, 1) := by decide +kernel
theorem dX9_tick_58 : decode cX9_tick 58 = .ok (.getfield 210, 3) := by decide +kernel
theorem dX9_tick_61 : decode cX9_tick 61 = .ok (.isub, 1) := by decide +kernel
theorem dX9_tick_62 : decode cX9_tick 62 = .ok (.istore 7, 2) := by decide +kernel
theorem dX9_tick_64 : decode cX9_tick 64 = .ok (.iload 4, 2) := by decide +kernel
theorem dX9_tick_66 : decode cX9_tick 66 = .ok (.iload 7, 2) := by decide +kernel
theorem dX9_tick_68 : decode cX9_tick 68 = .ok (.imul, 1) := by decide +kernel
theorem dX9_tick_69 : decode cX9_tick 69 = .ok (.aload_n 0, 1) := by decide +kernel
theorem dX9_tick_70 : decode cX9_tick 70 = .ok (.getfield 222, 3) := by decide +kernel
theorem dX9_tick_73 : decode cX9_tick 73 = .ok (.idiv, 1) := by decide +kernel
theorem dX9_tick_74 : decode cX9_tick 74 = .ok (.istore 8, 2) := by decide +kernel
theorem dX9_tick_76 : decode cX9_tick 76 = .ok (.iload 8, 2) := by decide +kernel
theorem dX9_tick_78 : decode cX9_tick 78 = .ok (.aload_n 0, 1) := by decide +kernel
theorem dX9_tick_79 : decode cX9_tick 79 = .ok (.getfield 216, 3) := by decide +kernel
theorem dX9_tick_82 : decode cX9_tick 82 = .ok (.iconst 1, 1) := by decide +kernel
theorem dX9_tick_83 : decode cX9_tick 83 = .ok (.if_icmp .ne 16, 3) := by decide +kernel
theorem dX9_tick_86 : decode cX9_tick 86 = .ok (.iload 4, 2) := by decide +kernel
theorem dX9_tick_88 : decode cX9_tick 88 = .ok (.aload_n 0, 1) := by decide +kernel
theorem dX9_tick_89 : decode cX9_tick 89 = .ok (.getfield 219, 3) := by decide +kernel
theorem dX9_tick_92 : decode cX9_tick 92 = .ok (.imul, 1) := by decide +kernel
theorem dX9_tick_93 : decode cX9_tick 93 = .ok (.bipush 10, 2) := by decide +kernel
theorem dX9_tick_95 : decode cX9_tick 95 = .ok (.idiv, 1) := by decide +kernel
theorem dX9_tick_96 : decode cX9_tick 96 = .ok (.goto 4, 3) := by decide +kernel
theorem dX9_tick_99 : decode cX9_tick 99 = .ok (.iconst 0, 1) := by decide +kernel
theorem dX9_tick_100 : decode cX9_tick 100 = .ok (.isub, 1) := by decide +kernel
theorem dX9_tick_101 : decode cX9_tick 101 = .ok (.istore 8, 2) := by decide +kernel
theorem dX9_tick_103 : decode cX9_tick 103 = .ok (.iload 8, 2) := by decide +kernel
theorem dX9_tick_105 : decode cX9_tick 105 = .ok (.aload_n 0, 1) := by decide +kernel
theorem dX9_tick_106 : decode cX9_tick 106 = .ok (.getfield 216, 3) := by decide +kernel
theorem dX9_tick_109 : decode cX9_tick 109 = .ok (.iconst 2, 1) := by decide +kernel
theorem dX9_tick_110 : decode cX9_tick 110 = .ok (.if_icmp .ne 16, 3) := by decide +kernel
theorem dX9_tick_113 : decode cX9_tick 113 = .ok (.iload 5, 2) := by decide +kernel
theorem dX9_tick_115 : decode cX9_tick 115 = .ok (.aload_n 0, 1) := by decide +kernel
theorem dX9_tick_116 : decode cX9_tick 116 = .ok (.getfield 219, 3) := by decide +kernel
theorem dX9_tick_119 : decode cX9_tick 119 = .ok (.imul, 1) := by decide +kernel
theorem dX9_tick_120 : decode cX9_tick 120 = .ok (.bipush 20, 2) := by decide +kernel
theorem dX9_tick_122 : decode cX9_tick 122 = .ok (.idiv, 1) := by decide +kernel
theorem dX9_tick_123 : decode cX9_tick 123 = .ok (.goto 4, 3) := by decide +kernel
theorem dX9_tick_126 : decode cX9_tick 126 = .ok (.iconst 0, 1) := by decide +kernel
theorem dX9_tick_127 : decode cX9_tick 127 = .ok (.iadd, 1) := by decide +kernel
theorem dX9_tick_128 : decode cX9_tick 128 = .ok (.istore 8, 2) := by decide +kernel
theorem dX9_tick_130 : decode cX9_tick 130 = .ok (.aload_n 0, 1) := by decide +kernel
theorem dX9_tick_131 : decode cX9_tick 131 = .ok (.getfield 56, 3) := by decide +kernel
theorem dX9_tick_134 : decode cX9_tick 134 = .ok (.iload_n 1, 1) := by decide +kernel
theorem dX9_tick_135 : decode cX9_tick 135 = .ok (.iload 5, 2) := by decide +kernel
theorem dX9_tick_137 : decode cX9_tick 137 = .ok (.iload 8, 2) := by decide +kernel
theorem dX9_tick_139 : decode cX9_tick 139 = .ok (.iadd, 1) := by decide +kernel
theorem dX9_tick_140 : decode cX9_tick 140 = .ok (.iload_n 3, 1) := by decide +kernel
theorem dX9_tick_141 : decode cX9_tick 141 = .ok (.iadd, 1) := by decide +kernel
theorem dX9_tick_142 : decode cX9_tick 142 = .ok (.iastore, 1) := by decide +kernel
theorem dX9_tick_143 : decode cX9_tick 143 = .ok (.aload_n 0, 1) := by decide +kernel
theorem dX9_tick_144 : decode cX9_tick 144 = .ok (.getfield 59, 3) := by decide +kernel
theorem dX9_tick_147 : decode cX9_tick 147 = .ok (.iload_n 1, 1) := by decide +kernel
theorem dX9_tick_148 : decode cX9_tick 148 = .ok (.dup2, 1) := by decide +kernel
theorem dX9_tick_149 : decode cX9_tick 149 = .ok (.iaload, 1) := by decide +kernel
theorem dX9_tick_150 : decode cX9_tick 150 = .ok (.iload 6, 2) := by decide +kernel
theorem dX9_tick_152 : decode cX9_tick 152 = .ok (.iadd, 1) := by decide +kernel
theorem dX9_tick_153 : decode cX9_tick 153 = .ok (.iastore, 1) := by decide +kernel
theorem dX9_tick_154 : decode cX9_tick 154 = .ok (.aload_n 0, 1) := by decide +kernel
theorem dX9_tick_155 : decode cX9_tick 155 = .ok (.getfield 65, 3) := by decide +kernel
theorem dX9_tick_158 : decode cX9_tick 158 = .ok (.iload_n 1, 1) := by decide +kernel
theorem dX9_tick_159 : decode cX9_tick 159 = .ok (.iload 6, 2) := by decide +kernel
theorem dX9_tick_161 : decode cX9_tick 161 = .ok (.iastore, 1) := by decide +kernel
theorem dX9_tick_162 : decode cX9_tick 162 = .ok (.aload_n 0, 1) := by decide +kernel
theorem dX9_tick_163 : decode cX9_tick 163 = .ok (.getfield 62, 3) := by decide +kernel
theorem dX9_tick_166 : decode cX9_tick 166 = .ok (.iload_n 1, 1) := by decide +kernel
theorem dX9_tick_167 : decode cX9_tick 167 = .ok (.dup2, 1) := by decide +kernel
theorem dX9_tick_168 : decode cX9_tick 168 = .ok (.iaload, 1) := by decide +kernel
theorem dX9_tick_169 : decode cX9_tick 169 = .ok (.iconst 1, 1) := by decide +kernel
theorem dX9_tick_170 : decode cX9_tick 170 = .ok (.iadd, 1) := by decide +kernel
theorem dX9_tick_171 : decode cX9_tick 171 = .ok (.iastore, 1) := by decide +kernel
theorem dX9_tick_172 : decode cX9_tick 172 = .ok (.aload_n 0, 1) := by decide +kernel
theorem dX9_tick_173 : decode cX9_tick 173 = .ok (.getfield 53, 3) := by decide +kernel
theorem dX9_tick_176 : decode cX9_tick 176 = .ok (.sipush 402, 3) := by decide +kernel
theorem dX9_tick_179 : decode cX9_tick 179 = .ok (.iload_n 1, 1) := by decide +kernel
theorem dX9_tick_180 : decode cX9_tick 180 = .ok (.imul, 1) := by decide +kernel
theorem dX9_tick_181 : decode cX9_tick 181 = .ok (.aload_n 0, 1) := by decide +kernel
theorem dX9_tick_182 : decode cX9_tick 182 = .ok (.getfield 62, 3) := by decide +kernel
theorem dX9_tick_185 : decode cX9_tick 185 = .ok (.iload_n 1, 1) := by decide +kernel
theorem dX9_tick_186 : decode cX9_tick 186 = .ok (.iaload, 1) := by decide +kernel
theorem dX9_tick_187 : decode cX9_tick 187 = .ok (.iadd, 1) := by decide +kernel
theorem dX9_tick_188 : decode cX9_tick 188 = .ok (.iload 4, 2) := by decide +kernel
theorem dX9_tick_190 : decode cX9_tick 190 = .ok (.aload_n 0, 1) := by decide +kernel
theorem dX9_tick_191 : decode cX9_tick 191 = .ok (.getfield 56, 3) := by decide +kernel
theorem dX9_tick_194 : decode cX9_tick 194 = .ok (.iload_n 1, 1) := by decide +kernel
theorem dX9_tick_195 : decode cX9_tick 195 = .ok (.iaload, 1) := by decide +kernel
theorem dX9_tick_196 : decode cX9_tick 196 = .ok (.iadd, 1) := by decide +kernel
theorem dX9_tick_197 : decode cX9_tick 197 = .ok (.iload 6, 2) := by decide +kernel
theorem dX9_tick_199 : decode cX9_tick 199 = .ok (.isub, 1) := by decide +kernel
theorem dX9_tick_200 : decode cX9_tick 200 = .ok (.iastore, 1) := by decide +kernel
theorem dX9_tick_201 : decode cX9_tick 201 = .ok (.return_, 1) := by decide +kernel
theorem dX9_isX_0 : decode cX9_isX 0 = .ok (.iload_n 0, 1) := by decide +kernel
theorem dX9_isX_1 : decode cX9_isX 1 = .ok (.i2l, 1) := by decide +kernel
theorem dX9_isX_2 : decode cX9_isX 2 = .ok (.ldc2_w 235, 3) := by decide +kernel
theorem dX9_isX_5 : decode cX9_isX 5 = .ok (.ldc2_w 237, 3) := by decide +kernel
theorem dX9_isX_8 : decode cX9_isX 8 = .ok (.invokestatic 92, 3) := by decide +kernel
theorem dX9_isX_11 : decode cX9_isX 11 = .ok (.ireturn, 1) := by decide +kernel
theorem dX9_isV_0 : decode cX9_isV 0 = .ok (.iload_n 0, 1) := by decide +kernel
theorem dX9_isV_1 : decode cX9_isV 1 = .ok (.i2l, 1) := by decide +kernel
theorem dX9_isV_2 : decode cX9_isV 2 = .ok (.ldc2_w 239, 3) := by decide +kernel
theorem dX9_isV_5 : decode cX9_isV 5 = .ok (.ldc2_w 241, 3) := by decide +kernel
theorem dX9_isV_8 : decode cX9_isV 8 = .ok (.invokestatic 92, 3) := by decide +kernel
theorem dX9_isV_11 : decode cX9_isV 11 = .ok (.ireturn, 1) := by decide +kernel
theorem dX9_begin_0 : decode cX9_begin 0 = .ok (.iload_n 1, 1) := by decide +kernel
theorem dX9_begin_1 : decode cX9_begin 1 = .ok (.invokestatic 192, 3) := by decide +kernel
theorem dX9_begin_4 : decode cX9_begin 4 = .ok (.ifCond .ne 6, 3) := by decide +kernel
theorem dX9_begin_7 : decode cX9_begin 7 = .ok (.bipush (-2), 2) := by decide +kernel
theorem dX9_begin_9 : decode cX9_begin 9 = .ok (.ireturn, 1) := by decide +kernel
theorem dX9_begin_10 : decode cX9_begin 10 = .ok (.iload_n 2, 1) := by decide +kernel
theorem dX9_begin_11 : decode cX9_begin 11 = .ok (.invokestatic 243, 3) := by decide +kernel
theorem dX9_begin_14 : decode cX9_begin 14 = .ok (.ifCond .eq 10, 3) := by decide +kernel
theorem dX9_begin_17 : decode cX9_begin 17 = .ok (.iload_n 3, 1) := by decide +kernel
theorem dX9_begin_18 : decode cX9_begin 18 = .ok (.invokestatic 246, 3) := by decide +kernel
theorem dX9_begin_21 : decode cX9_begin 21 = .ok (.ifCond .ne 6, 3) := by decide +kernel
theorem dX9_begin_24 : decode cX9_begin 24 = .ok (.bipush (-3), 2) := by decide +kernel
theorem dX9_begin_26 : decode cX9_begin 26 = .ok (.ireturn, 1) := by decide +kernel
theorem dX9_begin_27 : decode cX9_begin 27 = .ok (.aload_n 0, 1) := by decide +kernel
theorem dX9_begin_28 : decode cX9_begin 28 = .ok (.getfield 22, 3) := by decide +kernel
theorem dX9_begin_31 : decode cX9_begin 31 = .ok (.iload_n 1, 1) := by decide +kernel
theorem dX9_begin_32 : decode cX9_begin 32 = .ok (.iaload, 1) := by decide +kernel
theorem dX9_begin_33 : decode cX9_begin 33 = .ok (.ifCond .ne 6, 3) := by decide +kernel
theorem dX9_begin_36 : decode cX9_begin 36 = .ok (.bipush (-4), 2) := by decide +kernel
theorem dX9_begin_38 : decode cX9_begin 38 = .ok (.ireturn, 1) := by decide +kernel
theorem dX9_begin_39 : decode cX9_begin 39 = .ok (.aload_n 0, 1) := by decide +kernel
theorem dX9_begin_40 : decode cX9_begin 40 = .ok (.getfield 68, 3) := by decide +kernel
theorem dX9_begin_43 : decode cX9_begin 43 = .ok (.iconst 2, 1) := by decide +kernel
theorem dX9_begin_44 : decode cX9_begin 44 = .ok (.iload_n 1, 1) := by decide +kernel
theorem dX9_begin_45 : decode cX9_begin 45 = .ok (.iastore, 1) := by decide +kernel
theorem dX9_begin_46 : decode cX9_begin 46 = .ok (.aload_n 0, 1) := by decide +kernel
theorem dX9_begin_47 : decode cX9_begin 47 = .ok (.iconst 2, 1) := by decide +kernel
theorem dX9_begin_48 : decode cX9_begin 48 = .ok (.iload_n 2, 1) := by decide +kernel
theorem dX9_begin_49 : decode cX9_begin 49 = .ok (.iload_n 3, 1) := by decide +kernel
theorem dX9_begin_50 : decode cX9_begin 50 = .ok (.invokevirtual 249, 3) := by decide +kernel
theorem dX9_begin_53 : decode cX9_begin 53 = .ok (.iconst 1, 1) := by decide +kernel
theorem dX9_begin_54 : decode cX9_begin 54 = .ok (.ireturn, 1) := by decide +kernel
theorem dX9_ticks_0 : decode cX9_ticks 0 = .ok (.iload_n 1, 1) := by decide +kernel
theorem dX9_ticks_1 : decode cX9_ticks 1 = .ok (.i2l, 1) := by decide +kernel
theorem dX9_ticks_2 : decode cX9_ticks 2 = .ok (.lconst 1, 1) := by decide +kernel
theorem dX9_ticks_3 : decode cX9_ticks 3 = .ok (.ldc2_w 253, 3) := by decide +kernel
theorem dX9_ticks_6 : decode cX9_ticks 6 = .ok (.invokestatic 92, 3) := by decide +kernel
theorem dX9_ticks_9 : decode cX9_ticks 9 = .ok (.ifCond .ne 6, 3) := by decide +kernel
theorem dX9_ticks_12 : decode cX9_ticks 12 = .ok (.bipush (-3), 2) := by decide +kernel
theorem dX9_ticks_14 : decode cX9_ticks 14 = .ok (.ireturn, 1) := by decide +kernel
theorem dX9_ticks_15 : decode cX9_ticks 15 = .ok (.aload_n 0, 1) := by decide +kernel
theorem dX9_ticks_16 : decode cX9_ticks 16 = .ok (.getfield 68, 3) := by decide +kernel
theorem dX9_ticks_19 : decode cX9_ticks 19 = .ok (.iconst 2, 1) := by decide +kernel
theorem dX9_ticks_20 : decode cX9_ticks 20 = .ok (.iaload, 1) := by decide +kernel
theorem dX9_ticks_21 : decode cX9_ticks 21 = .ok (.istore_n 2, 1) := by decide +kernel
theorem dX9_ticks_22 : decode cX9_ticks 22 = .ok (.iload_n 2, 1) := by decide +kernel
theorem dX9_ticks_23 : decode cX9_ticks 23 = .ok (.iconst (-1), 1) := by decide +kernel
theorem dX9_ticks_24 : decode cX9_ticks 24 = .ok (.if_icmp .eq 20, 3) := by decide +kernel
theorem dX9_ticks_27 : decode cX9_ticks 27 = .ok (.aload_n 0, 1) := by decide +kernel
theorem dX9_ticks_28 : decode cX9_ticks 28 = .ok (.iconst 2, 1) := by decide +kernel
theorem dX9_ticks_29 : decode cX9_ticks 29 = .ok (.invokevirtual 255, 3) := by decide +kernel
theorem dX9_ticks_32 : decode cX9_ticks 32 = .ok (.ifCond .ne 12, 3) := by decide +kernel
theorem dX9_ticks_35 : decode cX9_ticks 35 = .ok (.aload_n 0, 1) := by decide +kernel
theorem dX9_ticks_36 : decode cX9_ticks 36 = .ok (.getfield 22, 3) := by decide +kernel
theorem dX9_ticks_39 : decode cX9_ticks 39 = .ok (.iload_n 2, 1) := by decide +kernel
theorem dX9_ticks_40 : decode cX9_ticks 40 = .ok (.iaload, 1) := by decide +kernel
theorem dX9_ticks_41 : decode cX9_ticks 41 = .ok (.ifCond .ne 6, 3) := by decide +kernel
theorem dX9_ticks_44 : decode cX9_ticks 44 = .ok (.bipush (-4), 2) := by decide +kernel
theorem dX9_ticks_46 : decode cX9_ticks 46 = .ok (.ireturn, 1) := by decide +kernel
theorem dX9_ticks_47 : decode cX9_ticks 47 = .ok (.aload_n 0, 1) := by decide +kernel
theorem dX9_ticks_48 : decode cX9_ticks 48 = .ok (.iload_n 2, 1) := by decide +kernel
theorem dX9_ticks_49 : decode cX9_ticks 49 = .ok (.invokevirtual 258, 3) := by decide +kernel
theorem dX9_ticks_52 : decode cX9_ticks 52 = .ok (.iconst 0, 1) := by decide +kernel
theorem dX9_ticks_53 : decode cX9_ticks 53 = .ok (.istore_n 3, 1) := by decide +kernel
theorem dX9_ticks_54 : decode cX9_ticks 54 = .ok (.iload_n 3, 1) := by decide +kernel
theorem dX9_ticks_55 : decode cX9_ticks 55 = .ok (.iload_n 1, 1) := by decide +kernel
theorem dX9_ticks_56 : decode cX9_ticks 56 = .ok (.if_icmp .ge 39, 3) := by decide +kernel
theorem dX9_ticks_59 : decode cX9_ticks 59 = .ok (.aload_n 0, 1) := by decide +kernel
theorem dX9_ticks_60 : decode cX9_ticks 60 = .ok (.getfield 62, 3) := by decide +kernel
theorem dX9_ticks_63 : decode cX9_ticks 63 = .ok (.iconst 2, 1) := by decide +kernel
theorem dX9_ticks_64 : decode cX9_ticks 64 = .ok (.iaload, 1) := by decide +kernel
theorem dX9_ticks_65 : decode cX9_ticks 65 = .ok (.sipush 400, 3) := by decide +kernel
theorem dX9_ticks_68 : decode cX9_ticks 68 = .ok (.if_icmp .ge 27, 3) := by decide +kernel
theorem dX9_ticks_71 : decode cX9_ticks 71 = .ok (.aload_n 0, 1) := by decide +kernel
theorem dX9_ticks_72 : decode cX9_ticks 72 = .ok (.iconst 2, 1) := by decide +kernel
theorem dX9_ticks_73 : decode cX9_ticks 73 = .ok (.invokevirtual 255, 3) := by decide +kernel
theorem dX9_ticks_76 : decode cX9_ticks 76 = .ok (.ifCond .ne 19, 3) := by decide +kernel
theorem dX9_ticks_79 : decode cX9_ticks 79 = .ok (.aload_n 0, 1) := by decide +kernel
theorem dX9_ticks_80 : decode cX9_ticks 80 = .ok (.iconst 2, 1) := by decide +kernel
theorem dX9_ticks_81 : decode cX9_ticks 81 = .ok (.iconst 1, 1) := by decide +kernel
theorem dX9_ticks_82 : decode cX9_ticks 82 = .ok (.aload_n 0, 1) := by decide +kernel
theorem dX9_ticks_83 : decode cX9_ticks 83 = .ok (.getfield 177, 3) := by decide +kernel
theorem dX9_ticks_86 : decode cX9_ticks 86 = .ok (.invokevirtual 261, 3) := by decide +kernel
theorem dX9_ticks_89 : decode cX9_ticks 89 = .ok (.iinc 3 1, 3) := by decide +kernel
theorem dX9_ticks_92 : decode cX9_ticks 92 = .ok (.goto (-38), 3) := by decide +kernel
theorem dX9_ticks_95 : decode cX9_ticks 95 = .ok (.iload_n 3, 1) := by decide +kernel
theorem dX9_ticks_96 : decode cX9_ticks 96 = .ok (.ireturn, 1) := by decide +kernel
theorem dX9_now_0 : decode cX9_now 0 = .ok (.iload_n 1, 1) := by decide +kernel
theorem dX9_now_1 : decode cX9_now 1 = .ok (.i2l, 1) := by decide +kernel
theorem dX9_now_2 : decode cX9_now 2 = .ok (.lconst 0, 1) := by decide +kernel
theorem dX9_now_3 : decode cX9_now 3 = .ok (.ldc2_w 265, 3) := by decide +kernel
theorem dX9_now_6 : decode cX9_now 6 = .ok (.invokestatic 92, 3) := by decide +kernel
theorem dX9_now_9 : decode cX9_now 9 = .ok (.ifCond .ne 6, 3) := by decide +kernel
theorem dX9_now_12 : decode cX9_now 12 = .ok (.bipush (-3), 2) := by decide +kernel
theorem dX9_now_14 : decode cX9_now 14 = .ok (.ireturn, 1) := by decide +kernel
theorem dX9_now_15 : decode cX9_now 15 = .ok (.aload_n 0, 1) := by decide +kernel
theorem dX9_now_16 : decode cX9_now 16 = .ok (.getfield 68, 3) := by decide +kernel
theorem dX9_now_19 : decode cX9_now 19 = .ok (.iconst 2, 1) := by decide +kernel
theorem dX9_now_20 : decode cX9_now 20 = .ok (.iaload, 1) := by decide +kernel
theorem dX9_now_21 : decode cX9_now 21 = .ok (.iconst (-1), 1) := by decide +kernel
theorem dX9_now_22 : decode cX9_now 22 = .ok (.if_icmp .ne 6, 3) := by decide +kernel
theorem dX9_now_25 : decode cX9_now 25 = .ok (.bipush (-4), 2) := by decide +kernel
theorem dX9_now_27 : decode cX9_now 27 = .ok (.ireturn, 1) := by decide +kernel
theorem dX9_now_28 : decode cX9_now 28 = .ok (.iload_n 1, 1) := by decide +kernel
theorem dX9_now_29 : decode cX9_now 29 = .ok (.tableswitch 103 0 5 #[39, 49, 60, 71, 78, 89], 39) := by decide +kernel
theorem dX9_now_68 : decode cX9_now 68 = .ok (.aload_n 0, 1) := by decide +kernel
theorem dX9_now_69 : decode cX9_now 69 = .ok (.iconst 2, 1) := by decide +kernel
theorem dX9_now_70 : decode cX9_now 70 = .ok (.invokevirtual 225, 3) := by decide +kernel
theorem dX9_now_73 : decode cX9_now 73 = .ok (.ldc_w 267, 3) := by decide +kernel
theorem dX9_now_76 : decode cX9_now 76 = .ok (.iadd, 1) := by decide +kernel
theorem dX9_now_77 : decode cX9_now 77 = .ok (.ireturn, 1) := by decide +kernel
theorem dX9_now_78 : decode cX9_now 78 = .ok (.aload_n 0, 1) := by decide +kernel
theorem dX9_now_79 : decode cX9_now 79 = .ok (.getfield 56, 3) := by decide +kernel
theorem dX9_now_82 : decode cX9_now 82 = .ok (.iconst 2, 1) := by decide +kernel
theorem dX9_now_83 : decode cX9_now 83 = .ok (.iaload, 1) := by decide +kernel
theorem dX9_now_84 : decode cX9_now 84 = .ok (.ldc_w 267, 3) := by decide +kernel
theorem dX9_now_87 : decode cX9_now 87 = .ok (.iadd, 1) := by decide +kernel
theorem dX9_now_88 : decode cX9_now 88 = .ok (.ireturn, 1) := by decide +kernel
theorem dX9_now_89 : decode cX9_now 89 = .ok (.aload_n 0, 1) := by decide +kernel
theorem dX9_now_90 : decode cX9_now 90 = .ok (.getfield 59, 3) := by decide +kernel
theorem dX9_now_93 : decode cX9_now 93 = .ok (.iconst 2, 1) := by decide +kernel
theorem dX9_now_94 : decode cX9_now 94 = .ok (.iaload, 1) := by decide +kernel
theorem dX9_now_95 : decode cX9_now 95 = .ok (.sipush 1000, 3) := by decide +kernel
theorem dX9_now_98 : decode cX9_now 98 = .ok (.iadd, 1) := by decide +kernel
theorem dX9_now_99 : decode cX9_now 99 = .ok (.ireturn, 1) := by decide +kernel
theorem dX9_now_100 : decode cX9_now 100 = .ok (.aload_n 0, 1) := by decide +kernel
theorem dX9_now_101 : decode cX9_now 101 = .ok (.getfield 62, 3) := by decide +kernel
theorem dX9_now_104 : decode cX9_now 104 = .ok (.iconst 2, 1) := by decide +kernel
theorem dX9_now_105 : decode cX9_now 105 = .ok (.iaload, 1) := by decide +kernel
theorem dX9_now_106 : decode cX9_now 106 = .ok (.ireturn, 1) := by decide +kernel
theorem dX9_now_107 : decode cX9_now 107 = .ok (.aload_n 0, 1) := by decide +kernel
theorem dX9_now_108 : decode cX9_now 108 = .ok (.getfield 65, 3) := by decide +kernel
theorem dX9_now_111 : decode cX9_now 111 = .ok (.iconst 2, 1) := by decide +kernel
theorem dX9_now_112 : decode cX9_now 112 = .ok (.iaload, 1) := by decide +kernel
theorem dX9_now_113 : decode cX9_now 113 = .ok (.sipush 1000, 3) := by decide +kernel
theorem dX9_now_116 : decode cX9_now 116 = .ok (.iadd, 1) := by decide +kernel
theorem dX9_now_117 : decode cX9_now 117 = .ok (.ireturn, 1) := by decide +kernel
theorem dX9_now_118 : decode cX9_now 118 = .ok (.aload_n 0, 1) := by decide +kernel
theorem dX9_now_119 : decode cX9_now 119 = .ok (.iconst 2, 1) := by decide +kernel
theorem dX9_now_120 : decode cX9_now 120 = .ok (.invokevirtual 255, 3) := by decide +kernel
theorem dX9_now_123 : decode cX9_now 123 = .ok (.ifCond .eq 7, 3) := by decide +kernel
theorem dX9_now_126 : decode cX9_now 126 = .ok (.iconst 1, 1) := by decide +kernel
theorem dX9_now_127 : decode cX9_now 127 = .ok (.goto 4, 3) := by decide +kernel
theorem dX9_now_130 : decode cX9_now 130 = .ok (.iconst 0, 1) := by decide +kernel
theorem dX9_now_131 : decode cX9_now 131 = .ok (.ireturn, 1) := by decide +kernel
theorem dX9_now_132 : decode cX9_now 132 = .ok (.aload_n 0, 1) := by decide +kernel
theorem dX9_now_133 : decode cX9_now 133 = .ok (.getfield 68, 3) := by decide +kernel
theorem dX9_now_136 : decode cX9_now 136 = .ok (.iconst 2, 1) := by decide +kernel
theorem dX9_now_137 : decode cX9_now 137 = .ok (.iaload, 1) := by decide +kernel
theorem dX9_now_138 : decode cX9_now 138 = .ok (.ireturn, 1) := by decide +kernel
theorem dX9_copy_0 : decode cX9_copy 0 = .ok (.iconst 0, 1) := by decide +kernel
theorem dX9_copy_1 : decode cX9_copy 1 = .ok (.istore_n 3, 1) := by decide +kernel
theorem dX9_copy_2 : decode cX9_copy 2 = .ok (.iload_n 3, 1) := by decide +kernel
theorem dX9_copy_3 : decode cX9_copy 3 = .ok (.sipush 402, 3) := by decide +kernel
theorem dX9_copy_6 : decode cX9_copy 6 = .ok (.if_icmp .ge 33, 3) := by decide +kernel
theorem dX9_copy_9 : decode cX9_copy 9 = .ok (.aload_n 0, 1) := by decide +kernel
theorem dX9_copy_10 : decode cX9_copy 10 = .ok (.getfield 53, 3) := by decide +kernel
theorem dX9_copy_13 : decode cX9_copy 13 = .ok (.sipush 402, 3) := by decide +kernel
theorem dX9_copy_16 : decode cX9_copy 16 = .ok (.iload_n 2, 1) := by decide +kernel
theorem dX9_copy_17 : decode cX9_copy 17 = .ok (.imul, 1) := by decide +kernel
theorem dX9_copy_18 : decode cX9_copy 18 = .ok (.iload_n 3, 1) := by decide +kernel
theorem dX9_copy_19 : decode cX9_copy 19 = .ok (.iadd, 1) := by decide +kernel
theorem dX9_copy_20 : decode cX9_copy 20 = .ok (.aload_n 0, 1) := by decide +kernel
theorem dX9_copy_21 : decode cX9_copy 21 = .ok (.getfield 53, 3) := by decide +kernel
theorem dX9_copy_24 : decode cX9_copy 24 = .ok (.sipush 402, 3) := by decide +kernel
theorem dX9_copy_27 : decode cX9_copy 27 = .ok (.iload_n 1, 1) := by decide +kernel
theorem dX9_copy_28 : decode cX9_copy 28 = .ok (.imul, 1) := by decide +kernel
theorem dX9_copy_29 : decode cX9_copy 29 = .ok (.iload_n 3, 1) := by decide +kernel
theorem dX9_copy_30 : decode cX9_copy 30 = .ok (.iadd, 1) := by decide +kernel
theorem dX9_copy_31 : decode cX9_copy 31 = .ok (.iaload, 1) := by decide +kernel
theorem dX9_copy_32 : decode cX9_copy 32 = .ok (.iastore, 1) := by decide +kernel
theorem dX9_copy_33 : decode cX9_copy 33 = .ok (.iinc 3 1, 3) := by decide +kernel
theorem dX9_copy_36 : decode cX9_copy 36 = .ok (.goto (-34), 3) := by decide +kernel
theorem dX9_copy_39 : decode cX9_copy 39 = .ok (.aload_n 0, 1) := by decide +kernel
theorem dX9_copy_40 : decode cX9_copy 40 = .ok (.getfield 56, 3) := by decide +kernel
theorem dX9_copy_43 : decode cX9_copy 43 = .ok (.iload_n 2, 1) := by decide +kernel
theorem dX9_copy_44 : decode cX9_copy 44 = .ok (.aload_n 0, 1) := by decide +kernel
theorem dX9_copy_45 : decode cX9_copy 45 = .ok (.getfield 56, 3) := by decide +kernel
theorem dX9_copy_48 : decode cX9_copy 48 = .ok (.iload_n 1, 1) := by decide +kernel
theorem dX9_copy_49 : decode cX9_copy 49 = .ok (.iaload, 1) := by decide +kernel
theorem dX9_copy_50 : decode cX9_copy 50 = .ok (.iastore, 1) := by decide +kernel
theorem dX9_copy_51 : decode cX9_copy 51 = .ok (.aload_n 0, 1) := by decide +kernel
theorem dX9_copy_52 : decode cX9_copy 52 = .ok (.getfield 59, 3) := by decide +kernel
theorem dX9_copy_55 : decode cX9_copy 55 = .ok (.iload_n 2, 1) := by decide +kernel
theorem dX9_copy_56 : decode cX9_copy 56 = .ok (.aload_n 0, 1) := by decide +kernel
theorem dX9_copy_57 : decode cX9_copy 57 = .ok (.getfield 59, 3) := by decide +kernel
theorem dX9_copy_60 : decode cX9_copy 60 = .ok (.iload_n 1, 1) := by decide +kernel
theorem dX9_copy_61 : decode cX9_copy 61 = .ok (.iaload, 1) := by decide +kernel
theorem dX9_copy_62 : decode cX9_copy 62 = .ok (.iastore, 1) := by decide +kernel
theorem dX9_copy_63 : decode cX9_copy 63 = .ok (.aload_n 0, 1) := by decide +kernel
theorem dX9_copy_64 : decode cX9_copy 64 = .ok (.getfield 62, 3) := by decide +kernel
theorem dX9_copy_67 : decode cX9_copy 67 = .ok (.iload_n 2, 1) := by decide +kernel
theorem dX9_copy_68 : decode cX9_copy 68 = .ok (.aload_n 0, 1) := by decide +kernel
theorem dX9_copy_69 : decode cX9_copy 69 = .ok (.getfield 62, 3) := by decide +kernel
theorem dX9_copy_72 : decode cX9_copy 72 = .ok (.iload_n 1, 1) := by decide +kernel
theorem dX9_copy_73 : decode cX9_copy 73 = .ok (.iaload, 1) := by decide +kernel
theorem dX9_copy_74 : decode cX9_copy 74 = .ok (.iastore, 1) := by decide +kernel
theorem dX9_copy_75 : decode cX9_copy 75 = .ok (.aload_n 0, 1) := by decide +kernel
theorem dX9_copy_76 : decode cX9_copy 76 = .ok (.getfield 65, 3) := by decide +kernel
theorem dX9_copy_79 : decode cX9_copy 79 = .ok (.iload_n 2, 1) := by decide +kernel
theorem dX9_copy_80 : decode cX9_copy 80 = .ok (.aload_n 0, 1) := by decide +kernel
theorem dX9_copy_81 : decode cX9_copy 81 = .ok (.getfield 65, 3) := by decide +kernel
theorem dX9_copy_84 : decode cX9_copy 84 = .ok (.iload_n 1, 1) := by decide +kernel
theorem dX9_copy_85 : decode cX9_copy 85 = .ok (.iaload, 1) := by decide +kernel
theorem dX9_copy_86 : decode cX9_copy 86 = .ok (.iastore, 1) := by decide +kernel
theorem dX9_copy_87 : decode cX9_copy 87 = .ok (.aload_n 0, 1) := by decide +kernel
theorem dX9_copy_88 : decode cX9_copy 88 = .ok (.getfield 68, 3) := by decide +kernel
theorem dX9_copy_91 : decode cX9_copy 91 = .ok (.iload_n 2, 1) := by decide +kernel
theorem dX9_copy_92 : decode cX9_copy 92 = .ok (.aload_n 0, 1) := by decide +kernel
theorem dX9_copy_93 : decode cX9_copy 93 = .ok (.getfield 68, 3) := by decide +kernel
theorem dX9_copy_96 : decode cX9_copy 96 = .ok (.iload_n 1, 1) := by decide +kernel
theorem dX9_copy_97 : decode cX9_copy 97 = .ok (.iaload, 1) := by decide +kernel
theorem dX9_copy_98 : decode cX9_copy 98 = .ok (.iastore, 1) := by decide +kernel
theorem dX9_copy_99 : decode cX9_copy 99 = .ok (.return_, 1) := by decide +kernel
theorem dX9_keep_0 : decode cX9_keep 0 = .ok (.iload_n 1, 1) := by decide +kernel
theorem dX9_keep_1 : decode cX9_keep 1 = .ok (.i2l, 1) := by decide +kernel
theorem dX9_keep_2 : decode cX9_keep 2 = .ok (.lconst 0, 1) := by decide +kernel
theorem dX9_keep_3 : decode cX9_keep 3 = .ok (.lconst 1, 1) := by decide +kernel
theorem dX9_keep_4 : decode cX9_keep 4 = .ok (.invokestatic 92, 3) := by decide +kernel
theorem dX9_keep_7 : decode cX9_keep 7 = .ok (.ifCond .ne 6, 3) := by decide +kernel
theorem dX9_keep_10 : decode cX9_keep 10 = .ok (.bipush (-2), 2) := by decide +kernel
theorem dX9_keep_12 : decode cX9_keep 12 = .ok (.ireturn, 1) := by decide +kernel
theorem dX9_keep_13 : decode cX9_keep 13 = .ok (.aload_n 0, 1) := by decide +kernel
theorem dX9_keep_14 : decode cX9_keep 14 = .ok (.getfield 68, 3) := by decide +kernel
theorem dX9_keep_17 : decode cX9_keep 17 = .ok (.iconst 2, 1) := by decide +kernel
theorem dX9_keep_18 : decode cX9_keep 18 = .ok (.iaload, 1) := by decide +kernel
theorem dX9_keep_19 : decode cX9_keep 19 = .ok (.iconst (-1), 1) := by decide +kernel
theorem dX9_keep_20 : decode cX9_keep 20 = .ok (.if_icmp .ne 6, 3) := by decide +kernel
theorem dX9_keep_23 : decode cX9_keep 23 = .ok (.bipush (-4), 2) := by decide +kernel
theorem dX9_keep_25 : decode cX9_keep 25 = .ok (.ireturn, 1) := by decide +kernel
theorem dX9_keep_26 : decode cX9_keep 26 = .ok (.aload_n 0, 1) := by decide +kernel
theorem dX9_keep_27 : decode cX9_keep 27 = .ok (.iconst 2, 1) := by decide +kernel
theorem dX9_keep_28 : decode cX9_keep 28 = .ok (.iconst 3, 1) := by decide +kernel
theorem dX9_keep_29 : decode cX9_keep 29 = .ok (.iload_n 1, 1) := by decide +kernel
theorem dX9_keep_30 : decode cX9_keep 30 = .ok (.iadd, 1) := by decide +kernel
theorem dX9_keep_31 : decode cX9_keep 31 = .ok (.invokevirtual 268, 3) := by decide +kernel
theorem dX9_keep_34 : decode cX9_keep 34 = .ok (.iconst 1, 1) := by decide +kernel
theorem dX9_keep_35 : decode cX9_keep 35 = .ok (.ireturn, 1) := by decide +kernel
theorem dX9_back_0 : decode cX9_back 0 = .ok (.iload_n 1, 1) := by decide +kernel
theorem dX9_back_1 : decode cX9_back 1 = .ok (.i2l, 1) := by decide +kernel
theorem dX9_back_2 : decode cX9_back 2 = .ok (.lconst 0, 1) := by decide +kernel
theorem dX9_back_3 : decode cX9_back 3 = .ok (.lconst 1, 1) := by decide +kernel
theorem dX9_back_4 : decode cX9_back 4 = .ok (.invokestatic 92, 3) := by decide +kernel
theorem dX9_back_7 : decode cX9_back 7 = .ok (.ifCond .ne 6, 3) := by decide +kernel
theorem dX9_back_10 : decode cX9_back 10 = .ok (.bipush (-2), 2) := by decide +kernel
theorem dX9_back_12 : decode cX9_back 12 = .ok (.ireturn, 1) := by decide +kernel
theorem dX9_back_13 : decode cX9_back 13 = .ok (.aload_n 0, 1) := by decide +kernel
theorem dX9_back_14 : decode cX9_back 14 = .ok (.getfield 68, 3) := by decide +kernel
theorem dX9_back_17 : decode cX9_back 17 = .ok (.iconst 3, 1) := by decide +kernel
theorem dX9_back_18 : decode cX9_back 18 = .ok (.iload_n 1, 1) := by decide +kernel
theorem dX9_back_19 : decode cX9_back 19 = .ok (.iadd, 1) := by decide +kernel
theorem dX9_back_20 : decode cX9_back 20 = .ok (.iaload, 1) := by decide +kernel
theorem dX9_back_21 : decode cX9_back 21 = .ok (.iconst (-1), 1) := by decide +kernel
theorem dX9_back_22 : decode cX9_back 22 = .ok (.if_icmp .ne 6, 3) := by decide +kernel
theorem dX9_back_25 : decode cX9_back 25 = .ok (.bipush (-4), 2) := by decide +kernel
theorem dX9_back_27 : decode cX9_back 27 = .ok (.ireturn, 1) := by decide +kernel
theorem dX9_back_28 : decode cX9_back 28 = .ok (.aload_n 0, 1) := by decide +kernel
theorem dX9_back_29 : decode cX9_back 29 = .ok (.iconst 3, 1) := by decide +kernel
theorem dX9_back_30 : decode cX9_back 30 = .ok (.iload_n 1, 1) := by decide +kernel
theorem dX9_back_31 : decode cX9_back 31 = .ok (.iadd, 1) := by decide +kernel
theorem dX9_back_32 : decode cX9_back 32 = .ok (.iconst 2, 1) := by decide +kernel
theorem dX9_back_33 : decode cX9_back 33 = .ok (.invokevirtual 268, 3) := by decide +kernel
theorem dX9_back_36 : decode cX9_back 36 = .ok (.aload_n 0, 1) := by decide +kernel
theorem dX9_back_37 : decode cX9_back 37 = .ok (.getfield 62, 3) := by decide +kernel
theorem dX9_back_40 : decode cX9_back 40 = .ok (.iconst 2, 1) := by decide +kernel
theorem dX9_back_41 : decode cX9_back 41 = .ok (.iaload, 1) := by decide +kernel
theorem dX9_back_42 : decode cX9_back 42 = .ok (.ireturn, 1) := by decide +kernel
theorem dX9_lasts_0 : decode cX9_lasts 0 = .ok (.aload_n 0, 1) := by decide +kernel
theorem dX9_lasts_1 : decode cX9_lasts 1 = .ok (.iconst 0, 1) := by decide +kernel
theorem dX9_lasts_2 : decode cX9_lasts 2 = .ok (.iload_n 1, 1) := by decide +kernel
theorem dX9_lasts_3 : decode cX9_lasts 3 = .ok (.iload_n 2, 1) := by decide +kernel
theorem dX9_lasts_4 : decode cX9_lasts 4 = .ok (.invokevirtual 249, 3) := by decide +kernel
theorem dX9_lasts_7 : decode cX9_lasts 7 = .ok (.aload_n 0, 1) := by decide +kernel
theorem dX9_lasts_8 : decode cX9_lasts 8 = .ok (.getfield 62, 3) := by decide +kernel
theorem dX9_lasts_11 : decode cX9_lasts 11 = .ok (.iconst 0, 1) := by decide +kernel
theorem dX9_lasts_12 : decode cX9_lasts 12 = .ok (.iaload, 1) := by decide +kernel
theorem dX9_lasts_13 : decode cX9_lasts 13 = .ok (.sipush 400, 3) := by decide +kernel
theorem dX9_lasts_16 : decode cX9_lasts 16 = .ok (.if_icmp .ge 24, 3) := by decide +kernel
theorem dX9_lasts_19 : decode cX9_lasts 19 = .ok (.aload_n 0, 1) := by decide +kernel
theorem dX9_lasts_20 : decode cX9_lasts 20 = .ok (.iconst 0, 1) := by decide +kernel
theorem dX9_lasts_21 : decode cX9_lasts 21 = .ok (.invokevirtual 255, 3) := by decide +kernel
theorem dX9_lasts_24 : decode cX9_lasts 24 = .ok (.ifCond .ne 16, 3) := by decide +kernel
theorem dX9_lasts_27 : decode cX9_lasts 27 = .ok (.aload_n 0, 1) := by decide +kernel
theorem dX9_lasts_28 : decode cX9_lasts 28 = .ok (.iconst 0, 1) := by decide +kernel
theorem dX9_lasts_29 : decode cX9_lasts 29 = .ok (.iload_n 3, 1) := by decide +kernel
theorem dX9_lasts_30 : decode cX9_lasts 30 = .ok (.aload_n 0, 1) := by decide +kernel
theorem dX9_lasts_31 : decode cX9_lasts 31 = .ok (.getfield 177, 3) := by decide +kernel
theorem dX9_lasts_34 : decode cX9_lasts 34 = .ok (.invokevirtual 261, 3) := by decide +kernel
theorem dX9_lasts_37 : decode cX9_lasts 37 = .ok (.goto (-30), 3) := by decide +kernel
theorem dX9_lasts_40 : decode cX9_lasts 40 = .ok (.aload_n 0, 1) := by decide +kernel
theorem dX9_lasts_41 : decode cX9_lasts 41 = .ok (.getfield 62, 3) := by decide +kernel
theorem dX9_lasts_44 : decode cX9_lasts 44 = .ok (.iconst 0, 1) := by decide +kernel
theorem dX9_lasts_45 : decode cX9_lasts 45 = .ok (.iaload, 1) := by decide +kernel
theorem dX9_lasts_46 : decode cX9_lasts 46 = .ok (.ireturn, 1) := by decide +kernel
theorem dX9_kept_0 : decode cX9_kept 0 = .ok (.iload_n 1, 1) := by decide +kernel
theorem dX9_kept_1 : decode cX9_kept 1 = .ok (.invokestatic 192, 3) := by decide +kernel
theorem dX9_kept_4 : decode cX9_kept 4 = .ok (.ifCond .ne 6, 3) := by decide +kernel
theorem dX9_kept_7 : decode cX9_kept 7 = .ok (.bipush (-2), 2) := by decide +kernel
theorem dX9_kept_9 : decode cX9_kept 9 = .ok (.ireturn, 1) := by decide +kernel
theorem dX9_kept_10 : decode cX9_kept 10 = .ok (.iload_n 2, 1) := by decide +kernel
theorem dX9_kept_11 : decode cX9_kept 11 = .ok (.invokestatic 243, 3) := by decide +kernel
theorem dX9_kept_14 : decode cX9_kept 14 = .ok (.ifCond .eq 10, 3) := by decide +kernel
theorem dX9_kept_17 : decode cX9_kept 17 = .ok (.iload_n 3, 1) := by decide +kernel
theorem dX9_kept_18 : decode cX9_kept 18 = .ok (.invokestatic 246, 3) := by decide +kernel
theorem dX9_kept_21 : decode cX9_kept 21 = .ok (.ifCond .ne 6, 3) := by decide +kernel
theorem dX9_kept_24 : decode cX9_kept 24 = .ok (.bipush (-3), 2) := by decide +kernel
theorem dX9_kept_26 : decode cX9_kept 26 = .ok (.ireturn, 1) := by decide +kernel
theorem dX9_kept_27 : decode cX9_kept 27 = .ok (.aload_n 0, 1) := by decide +kernel
theorem dX9_kept_28 : decode cX9_kept 28 = .ok (.getfield 22, 3) := by decide +kernel
theorem dX9_kept_31 : decode cX9_kept 31 = .ok (.iload_n 1, 1) := by decide +kernel
theorem dX9_kept_32 : decode cX9_kept 32 = .ok (.iaload, 1) := by decide +kernel
theorem dX9_kept_33 : decode cX9_kept 33 = .ok (.ifCond .ne 6, 3) := by decide +kernel
theorem dX9_kept_36 : decode cX9_kept 36 = .ok (.bipush (-4), 2) := by decide +kernel
theorem dX9_kept_38 : decode cX9_kept 38 = .ok (.ireturn, 1) := by decide +kernel
theorem dX9_kept_39 : decode cX9_kept 39 = .ok (.aload_n 0, 1) := by decide +kernel
theorem dX9_kept_40 : decode cX9_kept 40 = .ok (.iload_n 1, 1) := by decide +kernel
theorem dX9_kept_41 : decode cX9_kept 41 = .ok (.invokevirtual 258, 3) := by decide +kernel
theorem dX9_kept_44 : decode cX9_kept 44 = .ok (.aload_n 0, 1) := by decide +kernel
theorem dX9_kept_45 : decode cX9_kept 45 = .ok (.iload_n 2, 1) := by decide +kernel
theorem dX9_kept_46 : decode cX9_kept 46 = .ok (.iload_n 3, 1) := by decide +kernel
theorem dX9_kept_47 : decode cX9_kept 47 = .ok (.iconst 1, 1) := by decide +kernel
theorem dX9_kept_48 : decode cX9_kept 48 = .ok (.invokevirtual 272, 3) := by decide +kernel
theorem dX9_kept_51 : decode cX9_kept 51 = .ok (.ireturn, 1) := by decide +kernel
theorem dX9_least_0 : decode cX9_least 0 = .ok (.sipush 400, 3) := by decide +kernel
theorem dX9_least_3 : decode cX9_least 3 = .ok (.istore_n 2, 1) := by decide +kernel
theorem dX9_least_4 : decode cX9_least 4 = .ok (.iload_n 1, 1) := by decide +kernel
theorem dX9_least_5 : decode cX9_least 5 = .ok (.ineg, 1) := by decide +kernel
theorem dX9_least_6 : decode cX9_least 6 = .ok (.istore_n 3, 1) := by decide +kernel
theorem dX9_least_7 : decode cX9_least 7 = .ok (.iload_n 3, 1) := by decide +kernel
theorem dX9_least_8 : decode cX9_least 8 = .ok (.iload_n 1, 1) := by decide +kernel
theorem dX9_least_9 : decode cX9_least 9 = .ok (.if_icmp .gt 35, 3) := by decide +kernel
theorem dX9_least_12 : decode cX9_least 12 = .ok (.iload_n 2, 1) := by decide +kernel
theorem dX9_least_13 : decode cX9_least 13 = .ok (.ifCond .le 31, 3) := by decide +kernel
theorem dX9_least_16 : decode cX9_least 16 = .ok (.aload_n 0, 1) := by decide +kernel
theorem dX9_least_17 : decode cX9_least 17 = .ok (.iload_n 3, 1) := by decide +kernel
theorem dX9_least_18 : decode cX9_least 18 = .ok (.iconst 0, 1) := by decide +kernel
theorem dX9_least_19 : decode cX9_least 19 = .ok (.iconst 1, 1) := by decide +kernel
theorem dX9_least_20 : decode cX9_least 20 = .ok (.invokevirtual 272, 3) := by decide +kernel
theorem dX9_least_23 : decode cX9_least 23 = .ok (.istore 4, 2) := by decide +kernel
theorem dX9_least_25 : decode cX9_least 25 = .ok (.iload 4, 2) := by decide +kernel
theorem dX9_least_27 : decode cX9_least 27 = .ok (.iload_n 2, 1) := by decide +kernel
theorem dX9_least_28 : decode cX9_least 28 = .ok (.if_icmp .ge 8, 3) := by decide +kernel
theorem dX9_least_31 : decode cX9_least 31 = .ok (.iload 4, 2) := by decide +kernel
theorem dX9_least_33 : decode cX9_least 33 = .ok (.goto 4, 3) := by decide +kernel
theorem dX9_least_36 : decode cX9_least 36 = .ok (.iload_n 2, 1) := by decide +kernel
theorem dX9_least_37 : decode cX9_least 37 = .ok (.istore_n 2, 1) := by decide +kernel
theorem dX9_least_38 : decode cX9_least 38 = .ok (.iinc 3 1, 3) := by decide +kernel
theorem dX9_least_41 : decode cX9_least 41 = .ok (.goto (-34), 3) := by decide +kernel
theorem dX9_least_44 : decode cX9_least 44 = .ok (.iload_n 2, 1) := by decide +kernel
theorem dX9_least_45 : decode cX9_least 45 = .ok (.ireturn, 1) := by decide +kernel
theorem dX9_isK_0 : decode cX9_isK 0 = .ok (.iload_n 0, 1) := by decide +kernel
theorem dX9_isK_1 : decode cX9_isK 1 = .ok (.i2l, 1) := by decide +kernel
theorem dX9_isK_2 : decode cX9_isK 2 = .ok (.lconst 0, 1) := by decide +kernel
theorem dX9_isK_3 : decode cX9_isK 3 = .ok (.ldc2_w 276, 3) := by decide +kernel
theorem dX9_isK_6 : decode cX9_isK 6 = .ok (.invokestatic 92, 3) := by decide +kernel
theorem dX9_isK_9 : decode cX9_isK 9 = .ok (.ireturn, 1) := by decide +kernel
theorem dX9_steady_0 : decode cX9_steady 0 = .ok (.iload_n 1, 1) := by decide +kernel
theorem dX9_steady_1 : decode cX9_steady 1 = .ok (.invokestatic 192, 3) := by decide +kernel
theorem dX9_steady_4 : decode cX9_steady 4 = .ok (.ifCond .ne 6, 3) := by decide +kernel
theorem dX9_steady_7 : decode cX9_steady 7 = .ok (.bipush (-2), 2) := by decide +kernel
theorem dX9_steady_9 : decode cX9_steady 9 = .ok (.ireturn, 1) := by decide +kernel
theorem dX9_steady_10 : decode cX9_steady 10 = .ok (.iload_n 2, 1) := by decide +kernel
theorem dX9_steady_11 : decode cX9_steady 11 = .ok (.invokestatic 278, 3) := by decide +kernel
theorem dX9_steady_14 : decode cX9_steady 14 = .ok (.ifCond .ne 6, 3) := by decide +kernel
theorem dX9_steady_17 : decode cX9_steady 17 = .ok (.bipush (-3), 2) := by decide +kernel
theorem dX9_steady_19 : decode cX9_steady 19 = .ok (.ireturn, 1) := by decide +kernel
theorem dX9_steady_20 : decode cX9_steady 20 = .ok (.aload_n 0, 1) := by decide +kernel
theorem dX9_steady_21 : decode cX9_steady 21 = .ok (.getfield 22, 3) := by decide +kernel
theorem dX9_steady_24 : decode cX9_steady 24 = .ok (.iload_n 1, 1) := by decide +kernel
theorem dX9_steady_25 : decode cX9_steady 25 = .ok (.iaload, 1) := by decide +kernel
theorem dX9_steady_26 : decode cX9_steady 26 = .ok (.ifCond .ne 6, 3) := by decide +kernel
theorem dX9_steady_29 : decode cX9_steady 29 = .ok (.bipush (-4), 2) := by decide +kernel
theorem dX9_steady_31 : decode cX9_steady 31 = .ok (.ireturn, 1) := by decide +kernel
theorem dX9_steady_32 : decode cX9_steady 32 = .ok (.aload_n 0, 1) := by decide +kernel
theorem dX9_steady_33 : decode cX9_steady 33 = .ok (.iload_n 1, 1) := by decide +kernel
theorem dX9_steady_34 : decode cX9_steady 34 = .ok (.invokevirtual 258, 3) := by decide +kernel
theorem dX9_steady_37 : decode cX9_steady 37 = .ok (.aload_n 0, 1) := by decide +kernel
theorem dX9_steady_38 : decode cX9_steady 38 = .ok (.iload_n 2, 1) := by decide +kernel
theorem dX9_steady_39 : decode cX9_steady 39 = .ok (.invokevirtual 281, 3) := by decide +kernel
theorem dX9_steady_42 : decode cX9_steady 42 = .ok (.ireturn, 1) := by decide +kernel
theorem dX9_stays_0 : decode cX9_stays 0 = .ok (.iconst 1, 1) := by decide +kernel
theorem dX9_stays_1 : decode cX9_stays 1 = .ok (.istore_n 2, 1) := by decide +kernel
theorem dX9_stays_2 : decode cX9_stays 2 = .ok (.iload_n 1, 1) := by decide +kernel
theorem dX9_stays_3 : decode cX9_stays 3 = .ok (.ineg, 1) := by decide +kernel
theorem dX9_stays_4 : decode cX9_stays 4 = .ok (.istore_n 3, 1) := by decide +kernel
theorem dX9_stays_5 : decode cX9_stays 5 = .ok (.iload_n 3, 1) := by decide +kernel
theorem dX9_stays_6 : decode cX9_stays 6 = .ok (.iload_n 1, 1) := by decide +kernel
theorem dX9_stays_7 : decode cX9_stays 7 = .ok (.if_icmp .gt 32, 3) := by decide +kernel
theorem dX9_stays_10 : decode cX9_stays 10 = .ok (.iload_n 2, 1) := by decide +kernel
theorem dX9_stays_11 : decode cX9_stays 11 = .ok (.ifCond .eq 28, 3) := by decide +kernel
theorem dX9_stays_14 : decode cX9_stays 14 = .ok (.aload_n 0, 1) := by decide +kernel
theorem dX9_stays_15 : decode cX9_stays 15 = .ok (.iload_n 3, 1) := by decide +kernel
theorem dX9_stays_16 : decode cX9_stays 16 = .ok (.iconst 0, 1) := by decide +kernel
theorem dX9_stays_17 : decode cX9_stays 17 = .ok (.iconst 1, 1) := by decide +kernel
theorem dX9_stays_18 : decode cX9_stays 18 = .ok (.invokevirtual 272, 3) := by decide +kernel
theorem dX9_stays_21 : decode cX9_stays 21 = .ok (.sipush 400, 3) := by decide +kernel
theorem dX9_stays_24 : decode cX9_stays 24 = .ok (.if_icmp .ne 7, 3) := by decide +kernel
theorem dX9_stays_27 : decode cX9_stays 27 = .ok (.iconst 1, 1) := by decide +kernel
theorem dX9_stays_28 : decode cX9_stays 28 = .ok (.goto 4, 3) := by decide +kernel
theorem dX9_stays_31 : decode cX9_stays 31 = .ok (.iconst 0, 1) := by decide +kernel
theorem dX9_stays_32 : decode cX9_stays 32 = .ok (.istore_n 2, 1) := by decide +kernel
theorem dX9_stays_33 : decode cX9_stays 33 = .ok (.iinc 3 1, 3) := by decide +kernel
theorem dX9_stays_36 : decode cX9_stays 36 = .ok (.goto (-31), 3) := by decide +kernel
theorem dX9_stays_39 : decode cX9_stays 39 = .ok (.iload_n 2, 1) := by decide +kernel
theorem dX9_stays_40 : decode cX9_stays 40 = .ok (.ireturn, 1) := by decide +kernel
theorem dX9_line_0 : decode cX9_line 0 = .ok (.iload_n 1, 1) := by decide +kernel
theorem dX9_line_1 : decode cX9_line 1 = .ok (.invokestatic 278, 3) := by decide +kernel
theorem dX9_line_4 : decode cX9_line 4 = .ok (.ifCond .ne 6, 3) := by decide +kernel
theorem dX9_line_7 : decode cX9_line 7 = .ok (.bipush (-3), 2) := by decide +kernel
theorem dX9_line_9 : decode cX9_line 9 = .ok (.ireturn, 1) := by decide +kernel
theorem dX9_line_10 : decode cX9_line 10 = .ok (.aload_n 0, 1) := by decide +kernel
theorem dX9_line_11 : decode cX9_line 11 = .ok (.iconst 0, 1) := by decide +kernel
theorem dX9_line_12 : decode cX9_line 12 = .ok (.invokevirtual 258, 3) := by decide +kernel
theorem dX9_line_15 : decode cX9_line 15 = .ok (.aload_n 0, 1) := by decide +kernel
theorem dX9_line_16 : decode cX9_line 16 = .ok (.iconst 0, 1) := by decide +kernel
theorem dX9_line_17 : decode cX9_line 17 = .ok (.putfield 216, 3) := by decide +kernel
theorem dX9_line_20 : decode cX9_line 20 = .ok (.aload_n 0, 1) := by decide +kernel
theorem dX9_line_21 : decode cX9_line 21 = .ok (.iconst 0, 1) := by decide +kernel
theorem dX9_line_22 : decode cX9_line 22 = .ok (.putfield 219, 3) := by decide +kernel
theorem dX9_line_25 : decode cX9_line 25 = .ok (.iconst (-1), 1) := by decide +kernel
theorem dX9_line_26 : decode cX9_line 26 = .ok (.istore_n 2, 1) := by decide +kernel
theorem dX9_line_27 : decode cX9_line 27 = .ok (.iconst 1, 1) := by decide +kernel
theorem dX9_line_28 : decode cX9_line 28 = .ok (.istore_n 3, 1) := by decide +kernel
theorem dX9_line_29 : decode cX9_line 29 = .ok (.sipush 300, 3) := by decide +kernel
theorem dX9_line_32 : decode cX9_line 32 = .ok (.istore 4, 2) := by decide +kernel
theorem dX9_line_34 : decode cX9_line 34 = .ok (.iload 4, 2) := by decide +kernel
theorem dX9_line_36 : decode cX9_line 36 = .ok (.ifCond .le 36, 3) := by decide +kernel
theorem dX9_line_39 : decode cX9_line 39 = .ok (.iload_n 3, 1) := by decide +kernel
theorem dX9_line_40 : decode cX9_line 40 = .ok (.ifCond .eq 32, 3) := by decide +kernel
theorem dX9_line_43 : decode cX9_line 43 = .ok (.aload_n 0, 1) := by decide +kernel
theorem dX9_line_44 : decode cX9_line 44 = .ok (.iload 4, 2) := by decide +kernel
theorem dX9_line_46 : decode cX9_line 46 = .ok (.putfield 222, 3) := by decide +kernel
theorem dX9_line_49 : decode cX9_line 49 = .ok (.aload_n 0, 1) := by decide +kernel
theorem dX9_line_50 : decode cX9_line 50 = .ok (.iload_n 1, 1) := by decide +kernel
theorem dX9_line_51 : decode cX9_line 51 = .ok (.invokevirtual 284, 3) := by decide +kernel
theorem dX9_line_54 : decode cX9_line 54 = .ok (.istore_n 3, 1) := by decide +kernel
theorem dX9_line_55 : decode cX9_line 55 = .ok (.iload_n 3, 1) := by decide +kernel
theorem dX9_line_56 : decode cX9_line 56 = .ok (.ifCond .eq 8, 3) := by decide +kernel
theorem dX9_line_59 : decode cX9_line 59 = .ok (.iload 4, 2) := by decide +kernel
theorem dX9_line_61 : decode cX9_line 61 = .ok (.goto 4, 3) := by decide +kernel
theorem dX9_line_64 : decode cX9_line 64 = .ok (.iload_n 2, 1) := by decide +kernel
theorem dX9_line_65 : decode cX9_line 65 = .ok (.istore_n 2, 1) := by decide +kernel
theorem dX9_line_66 : decode cX9_line 66 = .ok (.iinc 4 (-1), 3) := by decide +kernel
theorem dX9_line_69 : decode cX9_line 69 = .ok (.goto (-35), 3) := by decide +kernel
theorem dX9_line_72 : decode cX9_line 72 = .ok (.iload_n 2, 1) := by decide +kernel
theorem dX9_line_73 : decode cX9_line 73 = .ok (.ireturn, 1) := by decide +kernel
theorem dX9_best_0 : decode cX9_best 0 = .ok (.iload_n 1, 1) := by decide +kernel
theorem dX9_best_1 : decode cX9_best 1 = .ok (.invokestatic 192, 3) := by decide +kernel
theorem dX9_best_4 : decode cX9_best 4 = .ok (.ifCond .ne 6, 3) := by decide +kernel
theorem dX9_best_7 : decode cX9_best 7 = .ok (.bipush (-2), 2) := by decide +kernel
theorem dX9_best_9 : decode cX9_best 9 = .ok (.ireturn, 1) := by decide +kernel
theorem dX9_best_10 : decode cX9_best 10 = .ok (.iload_n 2, 1) := by decide +kernel
theorem dX9_best_11 : decode cX9_best 11 = .ok (.i2l, 1) := by decide +kernel
theorem dX9_best_12 : decode cX9_best 12 = .ok (.lconst 0, 1) := by decide +kernel
theorem dX9_best_13 : decode cX9_best 13 = .ok (.ldc2_w 287, 3) := by decide +kernel
theorem dX9_best_16 : decode cX9_best 16 = .ok (.invokestatic 92, 3) := by decide +kernel
theorem dX9_best_19 : decode cX9_best 19 = .ok (.ifCond .eq 15, 3) := by decide +kernel
theorem dX9_best_22 : decode cX9_best 22 = .ok (.iload_n 3, 1) := by decide +kernel
theorem dX9_best_23 : decode cX9_best 23 = .ok (.i2l, 1) := by decide +kernel
theorem dX9_best_24 : decode cX9_best 24 = .ok (.lconst 0, 1) := by decide +kernel
theorem dX9_best_25 : decode cX9_best 25 = .ok (.ldc2_w 289, 3) := by decide +kernel
theorem dX9_best_28 : decode cX9_best 28 = .ok (.invokestatic 92, 3) := by decide +kernel
theorem dX9_best_31 : decode cX9_best 31 = .ok (.ifCond .ne 6, 3) := by decide +kernel
theorem dX9_best_34 : decode cX9_best 34 = .ok (.bipush (-3), 2) := by decide +kernel
theorem dX9_best_36 : decode cX9_best 36 = .ok (.ireturn, 1) := by decide +kernel
theorem dX9_best_37 : decode cX9_best 37 = .ok (.aload_n 0, 1) := by decide +kernel
theorem dX9_best_38 : decode cX9_best 38 = .ok (.getfield 22, 3) := by decide +kernel
theorem dX9_best_41 : decode cX9_best 41 = .ok (.iload_n 1, 1) := by decide +kernel
theorem dX9_best_42 : decode cX9_best 42 = .ok (.iaload, 1) := by decide +kernel
theorem dX9_best_43 : decode cX9_best 43 = .ok (.ifCond .ne 6, 3) := by decide +kernel
theorem dX9_best_46 : decode cX9_best 46 = .ok (.bipush (-4), 2) := by decide +kernel
theorem dX9_best_48 : decode cX9_best 48 = .ok (.ireturn, 1) := by decide +kernel
theorem dX9_best_49 : decode cX9_best 49 = .ok (.aload_n 0, 1) := by decide +kernel
theorem dX9_best_50 : decode cX9_best 50 = .ok (.iload_n 1, 1) := by decide +kernel
theorem dX9_best_51 : decode cX9_best 51 = .ok (.invokevirtual 258, 3) := by decide +kernel
theorem dX9_best_54 : decode cX9_best 54 = .ok (.iconst (-1), 1) := by decide +kernel
theorem dX9_best_55 : decode cX9_best 55 = .ok (.istore 4, 2) := by decide +kernel
theorem dX9_best_57 : decode cX9_best 57 = .ok (.iconst 0, 1) := by decide +kernel
theorem dX9_best_58 : decode cX9_best 58 = .ok (.istore 5, 2) := by decide +kernel
theorem dX9_best_60 : decode cX9_best 60 = .ok (.iconst 0, 1) := by decide +kernel
theorem dX9_best_61 : decode cX9_best 61 = .ok (.istore 6, 2) := by decide +kernel
theorem dX9_best_63 : decode cX9_best 63 = .ok (.iload 6, 2) := by decide +kernel
theorem dX9_best_65 : decode cX9_best 65 = .ok (.sipush 441, 3) := by decide +kernel
theorem dX9_best_68 : decode cX9_best 68 = .ok (.if_icmp .ge 91, 3) := by decide +kernel
theorem dX9_best_71 : decode cX9_best 71 = .ok (.aload_n 0, 1) := by decide +kernel
theorem dX9_best_72 : decode cX9_best 72 = .ok (.iload 6, 2) := by decide +kernel
theorem dX9_best_74 : decode cX9_best 74 = .ok (.bipush 21, 2) := by decide +kernel
theorem dX9_best_76 : decode cX9_best 76 = .ok (.idiv, 1) := by decide +kernel
theorem dX9_best_77 : decode cX9_best 77 = .ok (.putfield 201, 3) := by decide +kernel
theorem dX9_best_80 : decode cX9_best 80 = .ok (.aload_n 0, 1) := by decide +kernel
theorem dX9_best_81 : decode cX9_best 81 = .ok (.iload 6, 2) := by decide +kernel
theorem dX9_best_83 : decode cX9_best 83 = .ok (.bipush 21, 2) := by decide +kernel
theorem dX9_best_85 : decode cX9_best 85 = .ok (.irem, 1) := by decide +kernel
theorem dX9_best_86 : decode cX9_best 86 = .ok (.putfield 204, 3) := by decide +kernel
theorem dX9_best_89 : decode cX9_best 89 = .ok (.iconst 0, 1) := by decide +kernel
theorem dX9_best_90 : decode cX9_best 90 = .ok (.istore 7, 2) := by decide +kernel
theorem dX9_best_92 : decode cX9_best 92 = .ok (.iload_n 2, 1) := by decide +kernel
theorem dX9_best_93 : decode cX9_best 93 = .ok (.ineg, 1) := by decide +kernel
theorem dX9_best_94 : decode cX9_best 94 = .ok (.istore 8, 2) := by decide +kernel
theorem dX9_best_96 : decode cX9_best 96 = .ok (.iload 8, 2) := by decide +kernel
theorem dX9_best_98 : decode cX9_best 98 = .ok (.iload_n 2, 1) := by decide +kernel
theorem dX9_best_99 : decode cX9_best 99 = .ok (.if_icmp .gt 22, 3) := by decide +kernel
theorem dX9_best_102 : decode cX9_best 102 = .ok (.iload 7, 2) := by decide +kernel
theorem dX9_best_104 : decode cX9_best 104 = .ok (.aload_n 0, 1) := by decide +kernel
theorem dX9_best_105 : decode cX9_best 105 = .ok (.iload 8, 2) := by decide +kernel
theorem dX9_best_107 : decode cX9_best 107 = .ok (.iconst 0, 1) := by decide +kernel
theorem dX9_best_108 : decode cX9_best 108 = .ok (.iconst 1, 1) := by decide +kernel
theorem dX9_best_109 : decode cX9_best 109 = .ok (.invokevirtual 272, 3) := by decide +kernel
theorem dX9_best_112 : decode cX9_best 112 = .ok (.iadd, 1) := by decide +kernel
theorem dX9_best_113 : decode cX9_best 113 = .ok (.istore 7, 2) := by decide +kernel
theorem dX9_best_115 : decode cX9_best 115 = .ok (.iinc 8 1, 3) := by decide +kernel
theorem dX9_best_118 : decode cX9_best 118 = .ok (.goto (-22), 3) := by decide +kernel
theorem dX9_best_121 : decode cX9_best 121 = .ok (.iload 7, 2) := by decide +kernel
theorem dX9_best_123 : decode cX9_best 123 = .ok (.iload 4, 2) := by decide +kernel
theorem dX9_best_125 : decode cX9_best 125 = .ok (.if_icmp .le 8, 3) := by decide +kernel
theorem dX9_best_128 : decode cX9_best 128 = .ok (.iload 6, 2) := by decide +kernel
theorem dX9_best_130 : decode cX9_best 130 = .ok (.goto 5, 3) := by decide +kernel
theorem dX9_best_133 : decode cX9_best 133 = .ok (.iload 5, 2) := by decide +kernel
theorem dX9_best_135 : decode cX9_best 135 = .ok (.istore 5, 2) := by decide +kernel
theorem dX9_best_137 : decode cX9_best 137 = .ok (.iload 7, 2) := by decide +kernel
theorem dX9_best_139 : decode cX9_best 139 = .ok (.iload 4, 2) := by decide +kernel
theorem dX9_best_141 : decode cX9_best 141 = .ok (.if_icmp .le 8, 3) := by decide +kernel
theorem dX9_best_144 : decode cX9_best 144 = .ok (.iload 7, 2) := by decide +kernel
theorem dX9_best_146 : decode cX9_best 146 = .ok (.goto 5, 3) := by decide +kernel
theorem dX9_best_149 : decode cX9_best 149 = .ok (.iload 4, 2) := by decide +kernel
theorem dX9_best_151 : decode cX9_best 151 = .ok (.istore 4, 2) := by decide +kernel
theorem dX9_best_153 : decode cX9_best 153 = .ok (.iinc 6 1, 3) := by decide +kernel
theorem dX9_best_156 : decode cX9_best 156 = .ok (.goto (-93), 3) := by decide +kernel
theorem dX9_best_159 : decode cX9_best 159 = .ok (.iload_n 3, 1) := by decide +kernel
theorem dX9_best_160 : decode cX9_best 160 = .ok (.ifCond .ne 8, 3) := by decide +kernel
theorem dX9_best_163 : decode cX9_best 163 = .ok (.iload 4, 2) := by decide +kernel
theorem dX9_best_165 : decode cX9_best 165 = .ok (.goto 21, 3) := by decide +kernel
theorem dX9_best_168 : decode cX9_best 168 = .ok (.iload_n 3, 1) := by decide +kernel
theorem dX9_best_169 : decode cX9_best 169 = .ok (.iconst 1, 1) := by decide +kernel
theorem dX9_best_170 : decode cX9_best 170 = .ok (.if_icmp .ne 11, 3) := by decide +kernel
theorem dX9_best_173 : decode cX9_best 173 = .ok (.iload 5, 2) := by decide +kernel
theorem dX9_best_175 : decode cX9_best 175 = .ok (.bipush 21, 2) := by decide +kernel
theorem dX9_best_177 : decode cX9_best 177 = .ok (.idiv, 1) := by decide +kernel
theorem dX9_best_178 : decode cX9_best 178 = .ok (.goto 8, 3) := by decide +kernel
theorem dX9_best_181 : decode cX9_best 181 = .ok (.iload 5, 2) := by decide +kernel
theorem dX9_best_183 : decode cX9_best 183 = .ok (.bipush 21, 2) := by decide +kernel
theorem dX9_best_185 : decode cX9_best 185 = .ok (.irem, 1) := by decide +kernel
theorem dX9_best_186 : decode cX9_best 186 = .ok (.ireturn, 1) := by decide +kernel
theorem dX9_divisor_0 : decode cX9_divisor 0 = .ok (.iload_n 0, 1) := by decide +kernel
theorem dX9_divisor_1 : decode cX9_divisor 1 = .ok (.istore_n 2, 1) := by decide +kernel
theorem dX9_divisor_2 : decode cX9_divisor 2 = .ok (.iload_n 1, 1) := by decide +kernel
theorem dX9_divisor_3 : decode cX9_divisor 3 = .ok (.istore_n 3, 1) := by decide +kernel
theorem dX9_divisor_4 : decode cX9_divisor 4 = .ok (.iload_n 3, 1) := by decide +kernel
theorem dX9_divisor_5 : decode cX9_divisor 5 = .ok (.ifCond .eq 16, 3) := by decide +kernel
theorem dX9_divisor_8 : decode cX9_divisor 8 = .ok (.iload_n 2, 1) := by decide +kernel
theorem dX9_divisor_9 : decode cX9_divisor 9 = .ok (.iload_n 3, 1) := by decide +kernel
theorem dX9_divisor_10 : decode cX9_divisor 10 = .ok (.irem, 1) := by decide +kernel
theorem dX9_divisor_11 : decode cX9_divisor 11 = .ok (.istore 4, 2) := by decide +kernel
theorem dX9_divisor_13 : decode cX9_divisor 13 = .ok (.iload_n 3, 1) := by decide +kernel
theorem dX9_divisor_14 : decode cX9_divisor 14 = .ok (.istore_n 2, 1) := by decide +kernel
theorem dX9_divisor_15 : decode cX9_divisor 15 = .ok (.iload 4, 2) := by decide +kernel
theorem dX9_divisor_17 : decode cX9_divisor 17 = .ok (.istore_n 3, 1) := by decide +kernel
theorem dX9_divisor_18 : decode cX9_divisor 18 = .ok (.goto (-14), 3) := by decide +kernel
theorem dX9_divisor_21 : decode cX9_divisor 21 = .ok (.iload_n 2, 1) := by decide +kernel
theorem dX9_divisor_22 : decode cX9_divisor 22 = .ok (.ireturn, 1) := by decide +kernel
theorem dX9_weightOf_0 : decode cX9_weightOf 0 = .ok (.aload_n 0, 1) := by decide +kernel
theorem dX9_weightOf_1 : decode cX9_weightOf 1 = .ok (.iconst 0, 1) := by decide +kernel
theorem dX9_weightOf_2 : decode cX9_weightOf 2 = .ok (.iload_n 2, 1) := by decide +kernel
theorem dX9_weightOf_3 : decode cX9_weightOf 3 = .ok (.iconst 0, 1) := by decide +kernel
theorem dX9_weightOf_4 : decode cX9_weightOf 4 = .ok (.invokevirtual 249, 3) := by decide +kernel
theorem dX9_weightOf_7 : decode cX9_weightOf 7 = .ok (.iload_n 1, 1) := by decide +kernel
theorem dX9_weightOf_8 : decode cX9_weightOf 8 = .ok (.istore 6, 2) := by decide +kernel
theorem dX9_weightOf_10 : decode cX9_weightOf 10 = .ok (.iconst 1, 1) := by decide +kernel
theorem dX9_weightOf_11 : decode cX9_weightOf 11 = .ok (.istore 7, 2) := by decide +kernel
theorem dX9_weightOf_13 : decode cX9_weightOf 13 = .ok (.iconst 0, 1) := by decide +kernel
theorem dX9_weightOf_14 : decode cX9_weightOf 14 = .ok (.istore 8, 2) := by decide +kernel
theorem dX9_weightOf_16 : decode cX9_weightOf 16 = .ok (.iload 8, 2) := by decide +kernel
theorem dX9_weightOf_18 : decode cX9_weightOf 18 = .ok (.iload_n 3, 1) := by decide +kernel
theorem dX9_weightOf_19 : decode cX9_weightOf 19 = .ok (.if_icmp .ge 86, 3) := by decide +kernel
theorem dX9_weightOf_22 : decode cX9_weightOf 22 = .ok (.aload_n 0, 1) := by decide +kernel
theorem dX9_weightOf_23 : decode cX9_weightOf 23 = .ok (.iconst 0, 1) := by decide +kernel
theorem dX9_weightOf_24 : decode cX9_weightOf 24 = .ok (.invokevirtual 255, 3) := by decide +kernel
theorem dX9_weightOf_27 : decode cX9_weightOf 27 = .ok (.ifCond .ne 78, 3) := by decide +kernel
theorem dX9_weightOf_30 : decode cX9_weightOf 30 = .ok (.iload 6, 2) := by decide +kernel
theorem dX9_weightOf_32 : decode cX9_weightOf 32 = .ok (.iconst 3, 1) := by decide +kernel
theorem dX9_weightOf_33 : decode cX9_weightOf 33 = .ok (.irem, 1) := by decide +kernel
theorem dX9_weightOf_34 : decode cX9_weightOf 34 = .ok (.istore 9, 2) := by decide +kernel
theorem dX9_weightOf_36 : decode cX9_weightOf 36 = .ok (.iload 6, 2) := by decide +kernel
theorem dX9_weightOf_38 : decode cX9_weightOf 38 = .ok (.iconst 3, 1) := by decide +kernel
theorem dX9_weightOf_39 : decode cX9_weightOf 39 = .ok (.idiv, 1) := by decide +kernel
theorem dX9_weightOf_40 : decode cX9_weightOf 40 = .ok (.istore 6, 2) := by decide +kernel
theorem dX9_weightOf_42 : decode cX9_weightOf 42 = .ok (.iload 7, 2) := by decide +kernel
theorem dX9_weightOf_44 : decode cX9_weightOf 44 = .ok (.iload 9, 2) := by decide +kernel
theorem dX9_weightOf_46 : decode cX9_weightOf 46 = .ok (.ifCond .ne 13, 3) := by decide +kernel
theorem dX9_weightOf_49 : decode cX9_weightOf 49 = .ok (.bipush 10, 2) := by decide +kernel
theorem dX9_weightOf_51 : decode cX9_weightOf 51 = .ok (.iconst 2, 1) := by decide +kernel
theorem dX9_weightOf_52 : decode cX9_weightOf 52 = .ok (.iload 5, 2) := by decide +kernel
theorem dX9_weightOf_54 : decode cX9_weightOf 54 = .ok (.imul, 1) := by decide +kernel
theorem dX9_weightOf_55 : decode cX9_weightOf 55 = .ok (.isub, 1) := by decide +kernel
theorem dX9_weightOf_56 : decode cX9_weightOf 56 = .ok (.goto 5, 3) := by decide +kernel
theorem dX9_weightOf_59 : decode cX9_weightOf 59 = .ok (.iload 5, 2) := by decide +kernel
theorem dX9_weightOf_61 : decode cX9_weightOf 61 = .ok (.imul, 1) := by decide +kernel
theorem dX9_weightOf_62 : decode cX9_weightOf 62 = .ok (.istore 7, 2) := by decide +kernel
theorem dX9_weightOf_64 : decode cX9_weightOf 64 = .ok (.aload_n 0, 1) := by decide +kernel
theorem dX9_weightOf_65 : decode cX9_weightOf 65 = .ok (.iconst 0, 1) := by decide +kernel
theorem dX9_weightOf_66 : decode cX9_weightOf 66 = .ok (.iconst 1, 1) := by decide +kernel
theorem dX9_weightOf_67 : decode cX9_weightOf 67 = .ok (.aload_n 0, 1) := by decide +kernel
theorem dX9_weightOf_68 : decode cX9_weightOf 68 = .ok (.getfield 177, 3) := by decide +kernel
theorem dX9_weightOf_71 : decode cX9_weightOf 71 = .ok (.iload 9, 2) := by decide +kernel
theorem dX9_weightOf_73 : decode cX9_weightOf 73 = .ok (.iconst 1, 1) := by decide +kernel
theorem dX9_weightOf_74 : decode cX9_weightOf 74 = .ok (.if_icmp .ne 8, 3) := by decide +kernel
theorem dX9_weightOf_77 : decode cX9_weightOf 77 = .ok (.iload 4, 2) := by decide +kernel
theorem dX9_weightOf_79 : decode cX9_weightOf 79 = .ok (.goto 16, 3) := by decide +kernel
theorem dX9_weightOf_82 : decode cX9_weightOf 82 = .ok (.iload 9, 2) := by decide +kernel
theorem dX9_weightOf_84 : decode cX9_weightOf 84 = .ok (.iconst 2, 1) := by decide +kernel
theorem dX9_weightOf_85 : decode cX9_weightOf 85 = .ok (.if_icmp .ne 9, 3) := by decide +kernel
theorem dX9_weightOf_88 : decode cX9_weightOf 88 = .ok (.iload 4, 2) := by decide +kernel
theorem dX9_weightOf_90 : decode cX9_weightOf 90 = .ok (.ineg, 1) := by decide +kernel
theorem dX9_weightOf_91 : decode cX9_weightOf 91 = .ok (.goto 4, 3) := by decide +kernel
theorem dX9_weightOf_94 : decode cX9_weightOf 94 = .ok (.iconst 0, 1) := by decide +kernel
theorem dX9_weightOf_95 : decode cX9_weightOf 95 = .ok (.iadd, 1) := by decide +kernel
theorem dX9_weightOf_96 : decode cX9_weightOf 96 = .ok (.invokevirtual 261, 3) := by decide +kernel
theorem dX9_weightOf_99 : decode cX9_weightOf 99 = .ok (.iinc 8 1, 3) := by decide +kernel
theorem dX9_weightOf_102 : decode cX9_weightOf 102 = .ok (.goto (-86), 3) := by decide +kernel
theorem dX9_weightOf_105 : decode cX9_weightOf 105 = .ok (.aload_n 0, 1) := by decide +kernel
theorem dX9_weightOf_106 : decode cX9_weightOf 106 = .ok (.iconst 0, 1) := by decide +kernel
theorem dX9_weightOf_107 : decode cX9_weightOf 107 = .ok (.invokevirtual 255, 3) := by decide +kernel
theorem dX9_weightOf_110 : decode cX9_weightOf 110 = .ok (.ifCond .eq 7, 3) := by decide +kernel
theorem dX9_weightOf_113 : decode cX9_weightOf 113 = .ok (.iconst 0, 1) := by decide +kernel
theorem dX9_weightOf_114 : decode cX9_weightOf 114 = .ok (.goto 5, 3) := by decide +kernel
theorem dX9_weightOf_117 : decode cX9_weightOf 117 = .ok (.iload 7, 2) := by decide +kernel
theorem dX9_weightOf_119 : decode cX9_weightOf 119 = .ok (.ireturn, 1) := by decide +kernel
theorem dX9_odds_0 : decode cX9_odds 0 = .ok (.iload_n 1, 1) := by decide +kernel
theorem dX9_odds_1 : decode cX9_odds 1 = .ok (.invokestatic 192, 3) := by decide +kernel
theorem dX9_odds_4 : decode cX9_odds 4 = .ok (.ifCond .ne 6, 3) := by decide +kernel
theorem dX9_odds_7 : decode cX9_odds 7 = .ok (.bipush (-2), 2) := by decide +kernel
theorem dX9_odds_9 : decode cX9_odds 9 = .ok (.ireturn, 1) := by decide +kernel
theorem dX9_odds_10 : decode cX9_odds 10 = .ok (.iload_n 2, 1) := by decide +kernel
theorem dX9_odds_11 : decode cX9_odds 11 = .ok (.invokestatic 243, 3) := by decide +kernel
theorem dX9_odds_14 : decode cX9_odds 14 = .ok (.ifCond .eq 52, 3) := by decide +kernel
theorem dX9_odds_17 : decode cX9_odds 17 = .ok (.iload_n 3, 1) := by decide +kernel
theorem dX9_odds_18 : decode cX9_odds 18 = .ok (.i2l, 1) := by decide +kernel
theorem dX9_odds_19 : decode cX9_odds 19 = .ok (.lconst 0, 1) := by decide +kernel
theorem dX9_odds_20 : decode cX9_odds 20 = .ok (.ldc2_w 265, 3) := by decide +kernel
theorem dX9_odds_23 : decode cX9_odds 23 = .ok (.invokestatic 92, 3) := by decide +kernel
theorem dX9_odds_26 : decode cX9_odds 26 = .ok (.ifCond .eq 40, 3) := by decide +kernel
theorem dX9_odds_29 : decode cX9_odds 29 = .ok (.iload 4, 2) := by decide +kernel
theorem dX9_odds_31 : decode cX9_odds 31 = .ok (.i2l, 1) := by decide +kernel
theorem dX9_odds_32 : decode cX9_odds 32 = .ok (.lconst 0, 1) := by decide +kernel
theorem dX9_odds_33 : decode cX9_odds 33 = .ok (.ldc2_w 241, 3) := by decide +kernel
theorem dX9_odds_36 : decode cX9_odds 36 = .ok (.invokestatic 92, 3) := by decide +kernel
theorem dX9_odds_39 : decode cX9_odds 39 = .ok (.ifCond .eq 27, 3) := by decide +kernel
theorem dX9_odds_42 : decode cX9_odds 42 = .ok (.iload 5, 2) := by decide +kernel
theorem dX9_odds_44 : decode cX9_odds 44 = .ok (.i2l, 1) := by decide +kernel
theorem dX9_odds_45 : decode cX9_odds 45 = .ok (.lconst 0, 1) := by decide +kernel
theorem dX9_odds_46 : decode cX9_odds 46 = .ok (.ldc2_w 291, 3) := by decide +kernel
theorem dX9_odds_49 : decode cX9_odds 49 = .ok (.invokestatic 92, 3) := by decide +kernel
theorem dX9_odds_52 : decode cX9_odds 52 = .ok (.ifCond .eq 14, 3) := by decide +kernel
theorem dX9_odds_55 : decode cX9_odds 55 = .ok (.iload 6, 2) := by decide +kernel
theorem dX9_odds_57 : decode cX9_odds 57 = .ok (.i2l, 1) := by decide +kernel
theorem dX9_odds_58 : decode cX9_odds 58 = .ok (.lconst 0, 1) := by decide +kernel
theorem dX9_odds_59 : decode cX9_odds 59 = .ok (.lconst 1, 1) := by decide +kernel
theorem dX9_odds_60 : decode cX9_odds 60 = .ok (.invokestatic 92, 3) := by decide +kernel
theorem dX9_odds_63 : decode cX9_odds 63 = .ok (.ifCond .ne 6, 3) := by decide +kernel
theorem dX9_odds_66 : decode cX9_odds 66 = .ok (.bipush (-3), 2) := by decide +kernel
theorem dX9_odds_68 : decode cX9_odds 68 = .ok (.ireturn, 1) := by decide +kernel
theorem dX9_odds_69 : decode cX9_odds 69 = .ok (.aload_n 0, 1) := by decide +kernel
theorem dX9_odds_70 : decode cX9_odds 70 = .ok (.getfield 22, 3) := by decide +kernel
theorem dX9_odds_73 : decode cX9_odds 73 = .ok (.iload_n 1, 1) := by decide +kernel
theorem dX9_odds_74 : decode cX9_odds 74 = .ok (.iaload, 1) := by decide +kernel
theorem dX9_odds_75 : decode cX9_odds 75 = .ok (.ifCond .ne 6, 3) := by decide +kernel
theorem dX9_odds_78 : decode cX9_odds 78 = .ok (.bipush (-4), 2) := by decide +kernel
theorem dX9_odds_80 : decode cX9_odds 80 = .ok (.ireturn, 1) := by decide +kernel
theorem dX9_odds_81 : decode cX9_odds 81 = .ok (.aload_n 0, 1) := by decide +kernel
theorem dX9_odds_82 : decode cX9_odds 82 = .ok (.iload_n 1, 1) := by decide +kernel
theorem dX9_odds_83 : decode cX9_odds 83 = .ok (.invokevirtual 258, 3) := by decide +kernel
theorem dX9_odds_86 : decode cX9_odds 86 = .ok (.iconst 1, 1) := by decide +kernel
theorem dX9_odds_87 : decode cX9_odds 87 = .ok (.istore 7, 2) := by decide +kernel
theorem dX9_odds_89 : decode cX9_odds 89 = .ok (.iconst 1, 1) := by decide +kernel
theorem dX9_odds_90 : decode cX9_odds 90 = .ok (.istore 8, 2) := by decide +kernel
theorem dX9_odds_92 : decode cX9_odds 92 = .ok (.iconst 0, 1) := by decide +kernel
theorem dX9_odds_93 : decode cX9_odds 93 = .ok (.istore 9, 2) := by decide +kernel
theorem dX9_odds_95 : decode cX9_odds 95 = .ok (.iload 9, 2) := by decide +kernel
theorem dX9_odds_97 : decode cX9_odds 97 = .ok (.iload_n 3, 1) := by decide +kernel
theorem dX9_odds_98 : decode cX9_odds 98 = .ok (.if_icmp .ge 22, 3) := by decide +kernel
theorem dX9_odds_101 : decode cX9_odds 101 = .ok (.iload 7, 2) := by decide +kernel
theorem dX9_odds_103 : decode cX9_odds 103 = .ok (.iconst 3, 1) := by decide +kernel
theorem dX9_odds_104 : decode cX9_odds 104 = .ok (.imul, 1) := by decide +kernel
theorem dX9_odds_105 : decode cX9_odds 105 = .ok (.istore 7, 2) := by decide +kernel
theorem dX9_odds_107 : decode cX9_odds 107 = .ok (.iload 8, 2) := by decide +kernel
theorem dX9_odds_109 : decode cX9_odds 109 = .ok (.bipush 10, 2) := by decide +kernel
theorem dX9_odds_111 : decode cX9_odds 111 = .ok (.imul, 1) := by decide +kernel
theorem dX9_odds_112 : decode cX9_odds 112 = .ok (.istore 8, 2) := by decide +kernel
theorem dX9_odds_114 : decode cX9_odds 114 = .ok (.iinc 9 1, 3) := by decide +kernel
theorem dX9_odds_117 : decode cX9_odds 117 = .ok (.goto (-22), 3) := by decide +kernel
theorem dX9_odds_120 : decode cX9_odds 120 = .ok (.iconst 0, 1) := by decide +kernel
theorem dX9_odds_121 : decode cX9_odds 121 = .ok (.istore 9, 2) := by decide +kernel
theorem dX9_odds_123 : decode cX9_odds 123 = .ok (.iconst 0, 1) := by decide +kernel
theorem dX9_odds_124 : decode cX9_odds 124 = .ok (.istore 10, 2) := by decide +kernel
theorem dX9_odds_126 : decode cX9_odds 126 = .ok (.iload 10, 2) := by decide +kernel
theorem dX9_odds_128 : decode cX9_odds 128 = .ok (.iload 7, 2) := by decide +kernel
theorem dX9_odds_130 : decode cX9_odds 130 = .ok (.if_icmp .ge 26, 3) := by decide +kernel
theorem dX9_odds_133 : decode cX9_odds 133 = .ok (.iload 9, 2) := by decide +kernel
theorem dX9_odds_135 : decode cX9_odds 135 = .ok (.aload_n 0, 1) := by decide +kernel
theorem dX9_odds_136 : decode cX9_odds 136 = .ok (.iload 10, 2) := by decide +kernel
theorem dX9_odds_138 : decode cX9_odds 138 = .ok (.iload_n 2, 1) := by decide +kernel
theorem dX9_odds_139 : decode cX9_odds 139 = .ok (.iload_n 3, 1) := by decide +kernel
theorem dX9_odds_140 : decode cX9_odds 140 = .ok (.iload 4, 2) := by decide +kernel
theorem dX9_odds_142 : decode cX9_odds 142 = .ok (.iload 5, 2) := by decide +kernel
theorem dX9_odds_144 : decode cX9_odds 144 = .ok (.invokevirtual 293, 3) := by decide +kernel
theorem dX9_odds_147 : decode cX9_odds 147 = .ok (.iadd, 1) := by decide +kernel
theorem dX9_odds_148 : decode cX9_odds 148 = .ok (.istore 9, 2) := by decide +kernel
theorem dX9_odds_150 : decode cX9_odds 150 = .ok (.iinc 10 1, 3) := by decide +kernel
theorem dX9_odds_153 : decode cX9_odds 153 = .ok (.goto (-27), 3) := by decide +kernel
theorem dX9_odds_156 : decode cX9_odds 156 = .ok (.iload 9, 2) := by decide +kernel
theorem dX9_odds_158 : decode cX9_odds 158 = .ok (.iload 8, 2) := by decide +kernel
theorem dX9_odds_160 : decode cX9_odds 160 = .ok (.invokestatic 297, 3) := by decide +kernel
theorem dX9_odds_163 : decode cX9_odds 163 = .ok (.istore 10, 2) := by decide +kernel
theorem dX9_odds_165 : decode cX9_odds 165 = .ok (.iload 6, 2) := by decide +kernel
theorem dX9_odds_167 : decode cX9_odds 167 = .ok (.ifCond .ne 11, 3) := by decide +kernel
theorem dX9_odds_170 : decode cX9_odds 170 = .ok (.iload 9, 2) := by decide +kernel
theorem dX9_odds_172 : decode cX9_odds 172 = .ok (.iload 10, 2) := by decide +kernel
theorem dX9_odds_174 : decode cX9_odds 174 = .ok (.idiv, 1) := by decide +kernel
theorem dX9_odds_175 : decode cX9_odds 175 = .ok (.goto 8, 3) := by decide +kernel
theorem dX9_odds_178 : decode cX9_odds 178 = .ok (.iload 8, 2) := by decide +kernel
theorem dX9_odds_180 : decode cX9_odds 180 = .ok (.iload 10, 2) := by decide +kernel
theorem dX9_odds_182 : decode cX9_odds 182 = .ok (.idiv, 1) := by decide +kernel
theorem dX9_odds_183 : decode cX9_odds 183 = .ok (.ireturn, 1) := by decide +kernel
theorem dX9_stands_0 : decode cX9_stands 0 = .ok (.iload_n 1, 1) := by decide +kernel
theorem dX9_stands_1 : decode cX9_stands 1 = .ok (.invokestatic 192, 3) := by decide +kernel
theorem dX9_stands_4 : decode cX9_stands 4 = .ok (.ifCond .ne 6, 3) := by decide +kernel
theorem dX9_stands_7 : decode cX9_stands 7 = .ok (.bipush (-2), 2) := by decide +kernel
theorem dX9_stands_9 : decode cX9_stands 9 = .ok (.ireturn, 1) := by decide +kernel
theorem dX9_stands_10 : decode cX9_stands 10 = .ok (.iload_n 2, 1) := by decide +kernel
theorem dX9_stands_11 : decode cX9_stands 11 = .ok (.invokestatic 243, 3) := by decide +kernel
theorem dX9_stands_14 : decode cX9_stands 14 = .ok (.ifCond .ne 6, 3) := by decide +kernel
theorem dX9_stands_17 : decode cX9_stands 17 = .ok (.bipush (-3), 2) := by decide +kernel
theorem dX9_stands_19 : decode cX9_stands 19 = .ok (.ireturn, 1) := by decide +kernel
theorem dX9_stands_20 : decode cX9_stands 20 = .ok (.aload_n 0, 1) := by decide +kernel
theorem dX9_stands_21 : decode cX9_stands 21 = .ok (.getfield 22, 3) := by decide +kernel
theorem dX9_stands_24 : decode cX9_stands 24 = .ok (.iload_n 1, 1) := by decide +kernel
theorem dX9_stands_25 : decode cX9_stands 25 = .ok (.iaload, 1) := by decide +kernel
theorem dX9_stands_26 : decode cX9_stands 26 = .ok (.ifCond .ne 6, 3) := by decide +kernel
theorem dX9_stands_29 : decode cX9_stands 29 = .ok (.bipush (-4), 2) := by decide +kernel
theorem dX9_stands_31 : decode cX9_stands 31 = .ok (.ireturn, 1) := by decide +kernel
theorem dX9_stands_32 : decode cX9_stands 32 = .ok (.aload_n 0, 1) := by decide +kernel
theorem dX9_stands_33 : decode cX9_stands 33 = .ok (.iload_n 1, 1) := by decide +kernel
theorem dX9_stands_34 : decode cX9_stands 34 = .ok (.invokevirtual 258, 3) := by decide +kernel
theorem dX9_stands_37 : decode cX9_stands 37 = .ok (.iconst 0, 1) := by decide +kernel
theorem dX9_stands_38 : decode cX9_stands 38 = .ok (.istore_n 3, 1) := by decide +kernel
theorem dX9_stands_39 : decode cX9_stands 39 = .ok (.iload_n 3, 1) := by decide +kernel
theorem dX9_stands_40 : decode cX9_stands 40 = .ok (.bipush 100, 2) := by decide +kernel
theorem dX9_stands_42 : decode cX9_stands 42 = .ok (.if_icmp .ge 29, 3) := by decide +kernel
theorem dX9_stands_45 : decode cX9_stands 45 = .ok (.aload_n 0, 1) := by decide +kernel
theorem dX9_stands_46 : decode cX9_stands 46 = .ok (.iload_n 3, 1) := by decide +kernel
theorem dX9_stands_47 : decode cX9_stands 47 = .ok (.putfield 210, 3) := by decide +kernel
theorem dX9_stands_50 : decode cX9_stands 50 = .ok (.aload_n 0, 1) := by decide +kernel
theorem dX9_stands_51 : decode cX9_stands 51 = .ok (.iload_n 2, 1) := by decide +kernel
theorem dX9_stands_52 : decode cX9_stands 52 = .ok (.iconst 0, 1) := by decide +kernel
theorem dX9_stands_53 : decode cX9_stands 53 = .ok (.iconst 0, 1) := by decide +kernel
theorem dX9_stands_54 : decode cX9_stands 54 = .ok (.invokevirtual 272, 3) := by decide +kernel
theorem dX9_stands_57 : decode cX9_stands 57 = .ok (.sipush 400, 3) := by decide +kernel
theorem dX9_stands_60 : decode cX9_stands 60 = .ok (.if_icmp .ne 5, 3) := by decide +kernel
theorem dX9_stands_63 : decode cX9_stands 63 = .ok (.iload_n 3, 1) := by decide +kernel
theorem dX9_stands_64 : decode cX9_stands 64 = .ok (.ireturn, 1) := by decide +kernel
theorem dX9_stands_65 : decode cX9_stands 65 = .ok (.iinc 3 1, 3) := by decide +kernel
theorem dX9_stands_68 : decode cX9_stands 68 = .ok (.goto (-29), 3) := by decide +kernel
theorem dX9_stands_71 : decode cX9_stands 71 = .ok (.iconst (-1), 1) := by decide +kernel
theorem dX9_stands_72 : decode cX9_stands 72 = .ok (.ireturn, 1) := by decide +kernel
theorem dX9_two_0 : decode cX9_two 0 = .ok (.iload_n 1, 1) := by decide +kernel
theorem dX9_two_1 : decode cX9_two 1 = .ok (.invokestatic 192, 3) := by decide +kernel
theorem dX9_two_4 : decode cX9_two 4 = .ok (.ifCond .eq 10, 3) := by decide +kernel
theorem dX9_two_7 : decode cX9_two 7 = .ok (.iload_n 3, 1) := by decide +kernel
theorem dX9_two_8 : decode cX9_two 8 = .ok (.invokestatic 192, 3) := by decide +kernel
theorem dX9_two_11 : decode cX9_two 11 = .ok (.ifCond .ne 6, 3) := by decide +kernel
theorem dX9_two_14 : decode cX9_two 14 = .ok (.bipush (-2), 2) := by decide +kernel
theorem dX9_two_16 : decode cX9_two 16 = .ok (.ireturn, 1) := by decide +kernel
theorem dX9_two_17 : decode cX9_two 17 = .ok (.iload_n 2, 1) := by decide +kernel
theorem dX9_two_18 : decode cX9_two 18 = .ok (.invokestatic 243, 3) := by decide +kernel
theorem dX9_two_21 : decode cX9_two 21 = .ok (.ifCond .eq 37, 3) := by decide +kernel
theorem dX9_two_24 : decode cX9_two 24 = .ok (.iload 4, 2) := by decide +kernel
theorem dX9_two_26 : decode cX9_two 26 = .ok (.invokestatic 243, 3) := by decide +kernel
theorem dX9_two_29 : decode cX9_two 29 = .ok (.ifCond .eq 29, 3) := by decide +kernel
theorem dX9_two_32 : decode cX9_two 32 = .ok (.iload 5, 2) := by decide +kernel
theorem dX9_two_34 : decode cX9_two 34 = .ok (.i2l, 1) := by decide +kernel
theorem dX9_two_35 : decode cX9_two 35 = .ok (.lconst 1, 1) := by decide +kernel
theorem dX9_two_36 : decode cX9_two 36 = .ok (.ldc2_w 300, 3) := by decide +kernel
theorem dX9_two_39 : decode cX9_two 39 = .ok (.invokestatic 92, 3) := by decide +kernel
theorem dX9_two_42 : decode cX9_two 42 = .ok (.ifCond .eq 16, 3) := by decide +kernel
theorem dX9_two_45 : decode cX9_two 45 = .ok (.iload 6, 2) := by decide +kernel
theorem dX9_two_47 : decode cX9_two 47 = .ok (.i2l, 1) := by decide +kernel
theorem dX9_two_48 : decode cX9_two 48 = .ok (.lconst 1, 1) := by decide +kernel
theorem dX9_two_49 : decode cX9_two 49 = .ok (.ldc2_w 300, 3) := by decide +kernel
theorem dX9_two_52 : decode cX9_two 52 = .ok (.invokestatic 92, 3) := by decide +kernel
theorem dX9_two_55 : decode cX9_two 55 = .ok (.ifCond .ne 6, 3) := by decide +kernel
theorem dX9_two_58 : decode cX9_two 58 = .ok (.bipush (-3), 2) := by decide +kernel
theorem dX9_two_60 : decode cX9_two 60 = .ok (.ireturn, 1) := by decide +kernel
theorem dX9_two_61 : decode cX9_two 61 = .ok (.aload_n 0, 1) := by decide +kernel
theorem dX9_two_62 : decode cX9_two 62 = .ok (.getfield 22, 3) := by decide +kernel
theorem dX9_two_65 : decode cX9_two 65 = .ok (.iload_n 1, 1) := by decide +kernel
theorem dX9_two_66 : decode cX9_two 66 = .ok (.iaload, 1) := by decide +kernel
theorem dX9_two_67 : decode cX9_two 67 = .ok (.ifCond .eq 12, 3) := by decide +kernel
theorem dX9_two_70 : decode cX9_two 70 = .ok (.aload_n 0, 1) := by decide +kernel
theorem dX9_two_71 : decode cX9_two 71 = .ok (.getfield 22, 3) := by decide +kernel
theorem dX9_two_74 : decode cX9_two 74 = .ok (.iload_n 3, 1) := by decide +kernel
theorem dX9_two_75 : decode cX9_two 75 = .ok (.iaload, 1) := by decide +kernel
theorem dX9_two_76 : decode cX9_two 76 = .ok (.ifCond .ne 6, 3) := by decide +kernel
theorem dX9_two_79 : decode cX9_two 79 = .ok (.bipush (-4), 2) := by decide +kernel
theorem dX9_two_81 : decode cX9_two 81 = .ok (.ireturn, 1) := by decide +kernel
theorem dX9_two_82 : decode cX9_two 82 = .ok (.aload_n 0, 1) := by decide +kernel
theorem dX9_two_83 : decode cX9_two 83 = .ok (.iload_n 1, 1) := by decide +kernel
theorem dX9_two_84 : decode cX9_two 84 = .ok (.invokevirtual 258, 3) := by decide +kernel
theorem dX9_two_87 : decode cX9_two 87 = .ok (.aload_n 0, 1) := by decide +kernel
theorem dX9_two_88 : decode cX9_two 88 = .ok (.iconst 0, 1) := by decide +kernel
theorem dX9_two_89 : decode cX9_two 89 = .ok (.iload_n 2, 1) := by decide +kernel
theorem dX9_two_90 : decode cX9_two 90 = .ok (.iconst 0, 1) := by decide +kernel
theorem dX9_two_91 : decode cX9_two 91 = .ok (.invokevirtual 249, 3) := by decide +kernel
theorem dX9_two_94 : decode cX9_two 94 = .ok (.aload_n 0, 1) := by decide +kernel
theorem dX9_two_95 : decode cX9_two 95 = .ok (.iconst 1, 1) := by decide +kernel
theorem dX9_two_96 : decode cX9_two 96 = .ok (.iload 4, 2) := by decide +kernel
theorem dX9_two_98 : decode cX9_two 98 = .ok (.iconst 0, 1) := by decide +kernel
theorem dX9_two_99 : decode cX9_two 99 = .ok (.invokevirtual 249, 3) := by decide +kernel
theorem dX9_two_102 : decode cX9_two 102 = .ok (.iconst 0, 1) := by decide +kernel
theorem dX9_two_103 : decode cX9_two 103 = .ok (.istore 7, 2) := by decide +kernel
theorem dX9_two_105 : decode cX9_two 105 = .ok (.iload 7, 2) := by decide +kernel
theorem dX9_two_107 : decode cX9_two 107 = .ok (.sipush 400, 3) := by decide +kernel
theorem dX9_two_110 : decode cX9_two 110 = .ok (.if_icmp .ge 85, 3) := by decide +kernel
theorem dX9_two_113 : decode cX9_two 113 = .ok (.aload_n 0, 1) := by decide +kernel
theorem dX9_two_114 : decode cX9_two 114 = .ok (.iconst 0, 1) := by decide +kernel
theorem dX9_two_115 : decode cX9_two 115 = .ok (.invokevirtual 255, 3) := by decide +kernel
theorem dX9_two_118 : decode cX9_two 118 = .ok (.ifCond .ne 77, 3) := by decide +kernel
theorem dX9_two_121 : decode cX9_two 121 = .ok (.aload_n 0, 1) := by decide +kernel
theorem dX9_two_122 : decode cX9_two 122 = .ok (.iconst 1, 1) := by decide +kernel
theorem dX9_two_123 : decode cX9_two 123 = .ok (.invokevirtual 255, 3) := by decide +kernel
theorem dX9_two_126 : decode cX9_two 126 = .ok (.ifCond .ne 69, 3) := by decide +kernel
theorem dX9_two_129 : decode cX9_two 129 = .ok (.iload 7, 2) := by decide +kernel
theorem dX9_two_131 : decode cX9_two 131 = .ok (.iload 5, 2) := by decide +kernel
theorem dX9_two_133 : decode cX9_two 133 = .ok (.iload 6, 2) := by decide +kernel
theorem dX9_two_135 : decode cX9_two 135 = .ok (.iadd, 1) := by decide +kernel
theorem dX9_two_136 : decode cX9_two 136 = .ok (.irem, 1) := by decide +kernel
theorem dX9_two_137 : decode cX9_two 137 = .ok (.iload 5, 2) := by decide +kernel
theorem dX9_two_139 : decode cX9_two 139 = .ok (.if_icmp .ge 7, 3) := by decide +kernel
theorem dX9_two_142 : decode cX9_two 142 = .ok (.iconst 1, 1) := by decide +kernel
theorem dX9_two_143 : decode cX9_two 143 = .ok (.goto 4, 3) := by decide +kernel
theorem dX9_two_146 : decode cX9_two 146 = .ok (.iconst 0, 1) := by decide +kernel
theorem dX9_two_147 : decode cX9_two 147 = .ok (.istore 8, 2) := by decide +kernel
theorem dX9_two_149 : decode cX9_two 149 = .ok (.aload_n 0, 1) := by decide +kernel
theorem dX9_two_150 : decode cX9_two 150 = .ok (.iload_n 1, 1) := by decide +kernel
theorem dX9_two_151 : decode cX9_two 151 = .ok (.invokevirtual 213, 3) := by decide +kernel
theorem dX9_two_154 : decode cX9_two 154 = .ok (.aload_n 0, 1) := by decide +kernel
theorem dX9_two_155 : decode cX9_two 155 = .ok (.iconst 0, 1) := by decide +kernel
theorem dX9_two_156 : decode cX9_two 156 = .ok (.iload 8, 2) := by decide +kernel
theorem dX9_two_158 : decode cX9_two 158 = .ok (.aload_n 0, 1) := by decide +kernel
theorem dX9_two_159 : decode cX9_two 159 = .ok (.getfield 177, 3) := by decide +kernel
theorem dX9_two_162 : decode cX9_two 162 = .ok (.invokevirtual 261, 3) := by decide +kernel
theorem dX9_two_165 : decode cX9_two 165 = .ok (.aload_n 0, 1) := by decide +kernel
theorem dX9_two_166 : decode cX9_two 166 = .ok (.iload_n 3, 1) := by decide +kernel
theorem dX9_two_167 : decode cX9_two 167 = .ok (.invokevirtual 213, 3) := by decide +kernel
theorem dX9_two_170 : decode cX9_two 170 = .ok (.aload_n 0, 1) := by decide +kernel
theorem dX9_two_171 : decode cX9_two 171 = .ok (.iconst 1, 1) := by decide +kernel
theorem dX9_two_172 : decode cX9_two 172 = .ok (.iload 8, 2) := by decide +kernel
theorem dX9_two_174 : decode cX9_two 174 = .ok (.ifCond .ne 7, 3) := by decide +kernel
theorem dX9_two_177 : decode cX9_two 177 = .ok (.iconst 1, 1) := by decide +kernel
theorem dX9_two_178 : decode cX9_two 178 = .ok (.goto 4, 3) := by decide +kernel
theorem dX9_two_181 : decode cX9_two 181 = .ok (.iconst 0, 1) := by decide +kernel
theorem dX9_two_182 : decode cX9_two 182 = .ok (.aload_n 0, 1) := by decide +kernel
theorem dX9_two_183 : decode cX9_two 183 = .ok (.getfield 177, 3) := by decide +kernel
theorem dX9_two_186 : decode cX9_two 186 = .ok (.invokevirtual 261, 3) := by decide +kernel
theorem dX9_two_189 : decode cX9_two 189 = .ok (.iinc 7 1, 3) := by decide +kernel
theorem dX9_two_192 : decode cX9_two 192 = .ok (.goto (-87), 3) := by decide +kernel
theorem dX9_two_195 : decode cX9_two 195 = .ok (.iload 7, 2) := by decide +kernel
theorem dX9_two_197 : decode cX9_two 197 = .ok (.ireturn, 1) := by decide +kernel
theorem dX9_film_0 : decode cX9_film 0 = .ok (.iload_n 1, 1) := by decide +kernel
theorem dX9_film_1 : decode cX9_film 1 = .ok (.invokestatic 243, 3) := by decide +kernel
theorem dX9_film_4 : decode cX9_film 4 = .ok (.ifCond .eq 10, 3) := by decide +kernel
theorem dX9_film_7 : decode cX9_film 7 = .ok (.iload_n 2, 1) := by decide +kernel
theorem dX9_film_8 : decode cX9_film 8 = .ok (.invokestatic 246, 3) := by decide +kernel
theorem dX9_film_11 : decode cX9_film 11 = .ok (.ifCond .ne 6, 3) := by decide +kernel
theorem dX9_film_14 : decode cX9_film 14 = .ok (.bipush (-3), 2) := by decide +kernel
theorem dX9_film_16 : decode cX9_film 16 = .ok (.ireturn, 1) := by decide +kernel
theorem dX9_film_17 : decode cX9_film 17 = .ok (.aload_n 0, 1) := by decide +kernel
theorem dX9_film_18 : decode cX9_film 18 = .ok (.getfield 302, 3) := by decide +kernel
theorem dX9_film_21 : decode cX9_film 21 = .ok (.bipush 24, 2) := by decide +kernel
theorem dX9_film_23 : decode cX9_film 23 = .ok (.if_icmp .ne 6, 3) := by decide +kernel
theorem dX9_film_26 : decode cX9_film 26 = .ok (.bipush (-5), 2) := by decide +kernel
theorem dX9_film_28 : decode cX9_film 28 = .ok (.ireturn, 1) := by decide +kernel
theorem dX9_film_29 : decode cX9_film 29 = .ok (.aload_n 0, 1) := by decide +kernel
theorem dX9_film_30 : decode cX9_film 30 = .ok (.getfield 71, 3) := by decide +kernel
theorem dX9_film_33 : decode cX9_film 33 = .ok (.aload_n 0, 1) := by decide +kernel
theorem dX9_film_34 : decode cX9_film 34 = .ok (.getfield 302, 3) := by decide +kernel
theorem dX9_film_37 : decode cX9_film 37 = .ok (.iload_n 1, 1) := by decide +kernel
theorem dX9_film_38 : decode cX9_film 38 = .ok (.iastore, 1) := by decide +kernel
theorem dX9_film_39 : decode cX9_film 39 = .ok (.aload_n 0, 1) := by decide +kernel
theorem dX9_film_40 : decode cX9_film 40 = .ok (.getfield 74, 3) := by decide +kernel
theorem dX9_film_43 : decode cX9_film 43 = .ok (.aload_n 0, 1) := by decide +kernel
theorem dX9_film_44 : decode cX9_film 44 = .ok (.getfield 302, 3) := by decide +kernel
theorem dX9_film_47 : decode cX9_film 47 = .ok (.iload_n 2, 1) := by decide +kernel
theorem dX9_film_48 : decode cX9_film 48 = .ok (.iastore, 1) := by decide +kernel
theorem dX9_film_49 : decode cX9_film 49 = .ok (.aload_n 0, 1) := by decide +kernel
theorem dX9_film_50 : decode cX9_film 50 = .ok (.dup, 1) := by decide +kernel
theorem dX9_film_51 : decode cX9_film 51 = .ok (.getfield 302, 3) := by decide +kernel
theorem dX9_film_54 : decode cX9_film 54 = .ok (.iconst 1, 1) := by decide +kernel
theorem dX9_film_55 : decode cX9_film 55 = .ok (.iadd, 1) := by decide +kernel
theorem dX9_film_56 : decode cX9_film 56 = .ok (.putfield 302, 3) := by decide +kernel
theorem dX9_film_59 : decode cX9_film 59 = .ok (.aload_n 0, 1) := by decide +kernel
theorem dX9_film_60 : decode cX9_film 60 = .ok (.getfield 302, 3) := by decide +kernel
theorem dX9_film_63 : decode cX9_film 63 = .ok (.ireturn, 1) := by decide +kernel
theorem dX9_wind_0 : decode cX9_wind 0 = .ok (.aload_n 0, 1) := by decide +kernel
theorem dX9_wind_1 : decode cX9_wind 1 = .ok (.getfield 302, 3) := by decide +kernel
theorem dX9_wind_4 : decode cX9_wind 4 = .ok (.istore_n 1, 1) := by decide +kernel
theorem dX9_wind_5 : decode cX9_wind 5 = .ok (.aload_n 0, 1) := by decide +kernel
theorem dX9_wind_6 : decode cX9_wind 6 = .ok (.iconst 0, 1) := by decide +kernel
theorem dX9_wind_7 : decode cX9_wind 7 = .ok (.putfield 302, 3) := by decide +kernel
theorem dX9_wind_10 : decode cX9_wind 10 = .ok (.iload_n 1, 1) := by decide +kernel
theorem dX9_wind_11 : decode cX9_wind 11 = .ok (.ireturn, 1) := by decide +kernel
theorem dX9_mindsAt_0 : decode cX9_mindsAt 0 = .ok (.iload_n 1, 1) := by decide +kernel
theorem dX9_mindsAt_1 : decode cX9_mindsAt 1 = .ok (.aload_n 0, 1) := by decide +kernel
theorem dX9_mindsAt_2 : decode cX9_mindsAt 2 = .ok (.getfield 207, 3) := by decide +kernel
theorem dX9_mindsAt_5 : decode cX9_mindsAt 5 = .ok (.isub, 1) := by decide +kernel
theorem dX9_mindsAt_6 : decode cX9_mindsAt 6 = .ok (.istore_n 2, 1) := by decide +kernel
theorem dX9_mindsAt_7 : decode cX9_mindsAt 7 = .ok (.iload_n 2, 1) := by decide +kernel
theorem dX9_mindsAt_8 : decode cX9_mindsAt 8 = .ok (.iconst 1, 1) := by decide +kernel
theorem dX9_mindsAt_9 : decode cX9_mindsAt 9 = .ok (.isub, 1) := by decide +kernel
theorem dX9_mindsAt_10 : decode cX9_mindsAt 10 = .ok (.istore_n 3, 1) := by decide +kernel
theorem dX9_mindsAt_11 : decode cX9_mindsAt 11 = .ok (.aload_n 0, 1) := by decide +kernel
theorem dX9_mindsAt_12 : decode cX9_mindsAt 12 = .ok (.aload_n 0, 1) := by decide +kernel
theorem dX9_mindsAt_13 : decode cX9_mindsAt 13 = .ok (.getfield 71, 3) := by decide +kernel
theorem dX9_mindsAt_16 : decode cX9_mindsAt 16 = .ok (.iload_n 2, 1) := by decide +kernel
theorem dX9_mindsAt_17 : decode cX9_mindsAt 17 = .ok (.ifCond .le 7, 3) := by decide +kernel
theorem dX9_mindsAt_20 : decode cX9_mindsAt 20 = .ok (.iload_n 2, 1) := by decide +kernel
theorem dX9_mindsAt_21 : decode cX9_mindsAt 21 = .ok (.goto 4, 3) := by decide +kernel
theorem dX9_mindsAt_24 : decode cX9_mindsAt 24 = .ok (.iconst 0, 1) := by decide +kernel
theorem dX9_mindsAt_25 : decode cX9_mindsAt 25 = .ok (.iaload, 1) := by decide +kernel
theorem dX9_mindsAt_26 : decode cX9_mindsAt 26 = .ok (.aload_n 0, 1) := by decide +kernel
theorem dX9_mindsAt_27 : decode cX9_mindsAt 27 = .ok (.getfield 71, 3) := by decide +kernel
theorem dX9_mindsAt_30 : decode cX9_mindsAt 30 = .ok (.iload_n 3, 1) := by decide +kernel
theorem dX9_mindsAt_31 : decode cX9_mindsAt 31 = .ok (.ifCond .le 7, 3) := by decide +kernel
theorem dX9_mindsAt_34 : decode cX9_mindsAt 34 = .ok (.iload_n 3, 1) := by decide +kernel
theorem dX9_mindsAt_35 : decode cX9_mindsAt 35 = .ok (.goto 4, 3) := by decide +kernel
theorem dX9_mindsAt_38 : decode cX9_mindsAt 38 = .ok (.iconst 0, 1) := by decide +kernel
theorem dX9_mindsAt_39 : decode cX9_mindsAt 39 = .ok (.iaload, 1) := by decide +kernel
theorem dX9_mindsAt_40 : decode cX9_mindsAt 40 = .ok (.invokevirtual 228, 3) := by decide +kernel
theorem dX9_mindsAt_43 : decode cX9_mindsAt 43 = .ok (.ireturn, 1) := by decide +kernel
theorem dX9_fitsBy_0 : decode cX9_fitsBy 0 = .ok (.aload_n 0, 1) := by decide +kernel
theorem dX9_fitsBy_1 : decode cX9_fitsBy 1 = .ok (.iload_n 1, 1) := by decide +kernel
theorem dX9_fitsBy_2 : decode cX9_fitsBy 2 = .ok (.sipush 441, 3) := by decide +kernel
theorem dX9_fitsBy_5 : decode cX9_fitsBy 5 = .ok (.idiv, 1) := by decide +kernel
theorem dX9_fitsBy_6 : decode cX9_fitsBy 6 = .ok (.putfield 207, 3) := by decide +kernel
theorem dX9_fitsBy_9 : decode cX9_fitsBy 9 = .ok (.aload_n 0, 1) := by decide +kernel
theorem dX9_fitsBy_10 : decode cX9_fitsBy 10 = .ok (.iload_n 1, 1) := by decide +kernel
theorem dX9_fitsBy_11 : decode cX9_fitsBy 11 = .ok (.bipush 21, 2) := by decide +kernel
theorem dX9_fitsBy_13 : decode cX9_fitsBy 13 = .ok (.idiv, 1) := by decide +kernel
theorem dX9_fitsBy_14 : decode cX9_fitsBy 14 = .ok (.bipush 21, 2) := by decide +kernel
theorem dX9_fitsBy_16 : decode cX9_fitsBy 16 = .ok (.irem, 1) := by decide +kernel
theorem dX9_fitsBy_17 : decode cX9_fitsBy 17 = .ok (.putfield 201, 3) := by decide +kernel
theorem dX9_fitsBy_20 : decode cX9_fitsBy 20 = .ok (.aload_n 0, 1) := by decide +kernel
theorem dX9_fitsBy_21 : decode cX9_fitsBy 21 = .ok (.iload_n 1, 1) := by decide +kernel
theorem dX9_fitsBy_22 : decode cX9_fitsBy 22 = .ok (.bipush 21, 2) := by decide +kernel
theorem dX9_fitsBy_24 : decode cX9_fitsBy 24 = .ok (.irem, 1) := by decide +kernel
theorem dX9_fitsBy_25 : decode cX9_fitsBy 25 = .ok (.putfield 204, 3) := by decide +kernel
theorem dX9_fitsBy_28 : decode cX9_fitsBy 28 = .ok (.iconst 1, 1) := by decide +kernel
theorem dX9_fitsBy_29 : decode cX9_fitsBy 29 = .ok (.istore_n 2, 1) := by decide +kernel
theorem dX9_fitsBy_30 : decode cX9_fitsBy 30 = .ok (.iconst 0, 1) := by decide +kernel
theorem dX9_fitsBy_31 : decode cX9_fitsBy 31 = .ok (.istore_n 3, 1) := by decide +kernel
theorem dX9_fitsBy_32 : decode cX9_fitsBy 32 = .ok (.iload_n 3, 1) := by decide +kernel
theorem dX9_fitsBy_33 : decode cX9_fitsBy 33 = .ok (.aload_n 0, 1) := by decide +kernel
theorem dX9_fitsBy_34 : decode cX9_fitsBy 34 = .ok (.getfield 302, 3) := by decide +kernel
theorem dX9_fitsBy_37 : decode cX9_fitsBy 37 = .ok (.if_icmp .ge 33, 3) := by decide +kernel
theorem dX9_fitsBy_40 : decode cX9_fitsBy 40 = .ok (.iload_n 2, 1) := by decide +kernel
theorem dX9_fitsBy_41 : decode cX9_fitsBy 41 = .ok (.ifCond .eq 29, 3) := by decide +kernel
theorem dX9_fitsBy_44 : decode cX9_fitsBy 44 = .ok (.aload_n 0, 1) := by decide +kernel
theorem dX9_fitsBy_45 : decode cX9_fitsBy 45 = .ok (.iload_n 3, 1) := by decide +kernel
theorem dX9_fitsBy_46 : decode cX9_fitsBy 46 = .ok (.invokevirtual 305, 3) := by decide +kernel
theorem dX9_fitsBy_49 : decode cX9_fitsBy 49 = .ok (.aload_n 0, 1) := by decide +kernel
theorem dX9_fitsBy_50 : decode cX9_fitsBy 50 = .ok (.getfield 74, 3) := by decide +kernel
theorem dX9_fitsBy_53 : decode cX9_fitsBy 53 = .ok (.iload_n 3, 1) := by decide +kernel
theorem dX9_fitsBy_54 : decode cX9_fitsBy 54 = .ok (.iaload, 1) := by decide +kernel
theorem dX9_fitsBy_55 : decode cX9_fitsBy 55 = .ok (.if_icmp .ne 7, 3) := by decide +kernel
theorem dX9_fitsBy_58 : decode cX9_fitsBy 58 = .ok (.iconst 1, 1) := by decide +kernel
theorem dX9_fitsBy_59 : decode cX9_fitsBy 59 = .ok (.goto 4, 3) := by decide +kernel
theorem dX9_fitsBy_62 : decode cX9_fitsBy 62 = .ok (.iconst 0, 1) := by decide +kernel
theorem dX9_fitsBy_63 : decode cX9_fitsBy 63 = .ok (.istore_n 2, 1) := by decide +kernel
theorem dX9_fitsBy_64 : decode cX9_fitsBy 64 = .ok (.iinc 3 1, 3) := by decide +kernel
theorem dX9_fitsBy_67 : decode cX9_fitsBy 67 = .ok (.goto (-35), 3) := by decide +kernel
theorem dX9_fitsBy_70 : decode cX9_fitsBy 70 = .ok (.iload_n 2, 1) := by decide +kernel
theorem dX9_fitsBy_71 : decode cX9_fitsBy 71 = .ok (.ireturn, 1) := by decide +kernel
theorem dX9_fits_0 : decode cX9_fits 0 = .ok (.iload_n 1, 1) := by decide +kernel
theorem dX9_fits_1 : decode cX9_fits 1 = .ok (.i2l, 1) := by decide +kernel
theorem dX9_fits_2 : decode cX9_fits 2 = .ok (.lconst 0, 1) := by decide +kernel
theorem dX9_fits_3 : decode cX9_fits 3 = .ok (.ldc2_w 190, 3) := by decide +kernel
theorem dX9_fits_6 : decode cX9_fits 6 = .ok (.invokestatic 92, 3) := by decide +kernel
theorem dX9_fits_9 : decode cX9_fits 9 = .ok (.ifCond .ne 6, 3) := by decide +kernel
theorem dX9_fits_12 : decode cX9_fits 12 = .ok (.bipush (-3), 2) := by decide +kernel
theorem dX9_fits_14 : decode cX9_fits 14 = .ok (.ireturn, 1) := by decide +kernel
theorem dX9_fits_15 : decode cX9_fits 15 = .ok (.iconst 0, 1) := by decide +kernel
theorem dX9_fits_16 : decode cX9_fits 16 = .ok (.istore_n 2, 1) := by decide +kernel
theorem dX9_fits_17 : decode cX9_fits 17 = .ok (.iconst (-1), 1) := by decide +kernel
theorem dX9_fits_18 : decode cX9_fits 18 = .ok (.istore_n 3, 1) := by decide +kernel
theorem dX9_fits_19 : decode cX9_fits 19 = .ok (.iconst 0, 1) := by decide +kernel
theorem dX9_fits_20 : decode cX9_fits 20 = .ok (.istore 4, 2) := by decide +kernel
theorem dX9_fits_22 : decode cX9_fits 22 = .ok (.iload 4, 2) := by decide +kernel
theorem dX9_fits_24 : decode cX9_fits 24 = .ok (.sipush 3087, 3) := by decide +kernel
theorem dX9_fits_27 : decode cX9_fits 27 = .ok (.if_icmp .ge 32, 3) := by decide +kernel
theorem dX9_fits_30 : decode cX9_fits 30 = .ok (.aload_n 0, 1) := by decide +kernel
theorem dX9_fits_31 : decode cX9_fits 31 = .ok (.iload 4, 2) := by decide +kernel
theorem dX9_fits_33 : decode cX9_fits 33 = .ok (.invokevirtual 308, 3) := by decide +kernel
theorem dX9_fits_36 : decode cX9_fits 36 = .ok (.ifCond .eq 17, 3) := by decide +kernel
theorem dX9_fits_39 : decode cX9_fits 39 = .ok (.iload_n 2, 1) := by decide +kernel
theorem dX9_fits_40 : decode cX9_fits 40 = .ok (.ifCond .ne 8, 3) := by decide +kernel
theorem dX9_fits_43 : decode cX9_fits 43 = .ok (.iload 4, 2) := by decide +kernel
theorem dX9_fits_45 : decode cX9_fits 45 = .ok (.goto 4, 3) := by decide +kernel
theorem dX9_fits_48 : decode cX9_fits 48 = .ok (.iload_n 3, 1) := by decide +kernel
theorem dX9_fits_49 : decode cX9_fits 49 = .ok (.istore_n 3, 1) := by decide +kernel
theorem dX9_fits_50 : decode cX9_fits 50 = .ok (.iinc 2 1, 3) := by decide +kernel
theorem dX9_fits_53 : decode cX9_fits 53 = .ok (.iinc 4 1, 3) := by decide +kernel
theorem dX9_fits_56 : decode cX9_fits 56 = .ok (.goto (-34), 3) := by decide +kernel
theorem dX9_fits_59 : decode cX9_fits 59 = .ok (.iload_n 1, 1) := by decide +kernel
theorem dX9_fits_60 : decode cX9_fits 60 = .ok (.ifCond .ne 7, 3) := by decide +kernel
theorem dX9_fits_63 : decode cX9_fits 63 = .ok (.iload_n 2, 1) := by decide +kernel
theorem dX9_fits_64 : decode cX9_fits 64 = .ok (.goto 44, 3) := by decide +kernel
theorem dX9_fits_67 : decode cX9_fits 67 = .ok (.iload_n 3, 1) := by decide +kernel
theorem dX9_fits_68 : decode cX9_fits 68 = .ok (.iconst (-1), 1) := by decide +kernel
theorem dX9_fits_69 : decode cX9_fits 69 = .ok (.if_icmp .ne 7, 3) := by decide +kernel
theorem dX9_fits_72 : decode cX9_fits 72 = .ok (.iconst (-1), 1) := by decide +kernel
theorem dX9_fits_73 : decode cX9_fits 73 = .ok (.goto 35, 3) := by decide +kernel
theorem dX9_fits_76 : decode cX9_fits 76 = .ok (.iload_n 1, 1) := by decide +kernel
theorem dX9_fits_77 : decode cX9_fits 77 = .ok (.iconst 1, 1) := by decide +kernel
theorem dX9_fits_78 : decode cX9_fits 78 = .ok (.if_icmp .ne 11, 3) := by decide +kernel
theorem dX9_fits_81 : decode cX9_fits 81 = .ok (.iload_n 3, 1) := by decide +kernel
theorem dX9_fits_82 : decode cX9_fits 82 = .ok (.sipush 441, 3) := by decide +kernel
theorem dX9_fits_85 : decode cX9_fits 85 = .ok (.idiv, 1) := by decide +kernel
theorem dX9_fits_86 : decode cX9_fits 86 = .ok (.goto 22, 3) := by decide +kernel
theorem dX9_fits_89 : decode cX9_fits 89 = .ok (.iload_n 1, 1) := by decide +kernel
theorem dX9_fits_90 : decode cX9_fits 90 = .ok (.iconst 2, 1) := by decide +kernel
theorem dX9_fits_91 : decode cX9_fits 91 = .ok (.if_icmp .ne 13, 3) := by decide +kernel
theorem dX9_fits_94 : decode cX9_fits 94 = .ok (.iload_n 3, 1) := by decide +kernel
theorem dX9_fits_95 : decode cX9_fits 95 = .ok (.bipush 21, 2) := by decide +kernel
theorem dX9_fits_97 : decode cX9_fits 97 = .ok (.idiv, 1) := by decide +kernel
theorem dX9_fits_98 : decode cX9_fits 98 = .ok (.bipush 21, 2) := by decide +kernel
theorem dX9_fits_100 : decode cX9_fits 100 = .ok (.irem, 1) := by decide +kernel
theorem dX9_fits_101 : decode cX9_fits 101 = .ok (.goto 7, 3) := by decide +kernel
theorem dX9_fits_104 : decode cX9_fits 104 = .ok (.iload_n 3, 1) := by decide +kernel
theorem dX9_fits_105 : decode cX9_fits 105 = .ok (.bipush 21, 2) := by decide +kernel
theorem dX9_fits_107 : decode cX9_fits 107 = .ok (.irem, 1) := by decide +kernel
theorem dX9_fits_108 : decode cX9_fits 108 = .ok (.ireturn, 1) := by decide +kernel
theorem dX9_next_0 : decode cX9_next 0 = .ok (.iload_n 1, 1) := by decide +kernel
theorem dX9_next_1 : decode cX9_next 1 = .ok (.invokestatic 243, 3) := by decide +kernel
theorem dX9_next_4 : decode cX9_next 4 = .ok (.ifCond .eq 13, 3) := by decide +kernel
theorem dX9_next_7 : decode cX9_next 7 = .ok (.iload_n 2, 1) := by decide +kernel
theorem dX9_next_8 : decode cX9_next 8 = .ok (.i2l, 1) := by decide +kernel
theorem dX9_next_9 : decode cX9_next 9 = .ok (.lconst 0, 1) := by decide +kernel
theorem dX9_next_10 : decode cX9_next 10 = .ok (.lconst 1, 1) := by decide +kernel
theorem dX9_next_11 : decode cX9_next 11 = .ok (.invokestatic 92, 3) := by decide +kernel
theorem dX9_next_14 : decode cX9_next 14 = .ok (.ifCond .ne 6, 3) := by decide +kernel
theorem dX9_next_17 : decode cX9_next 17 = .ok (.bipush (-3), 2) := by decide +kernel
theorem dX9_next_19 : decode cX9_next 19 = .ok (.ireturn, 1) := by decide +kernel
theorem dX9_next_20 : decode cX9_next 20 = .ok (.aload_n 0, 1) := by decide +kernel
theorem dX9_next_21 : decode cX9_next 21 = .ok (.getfield 71, 3) := by decide +kernel
theorem dX9_next_24 : decode cX9_next 24 = .ok (.aload_n 0, 1) := by decide +kernel
theorem dX9_next_25 : decode cX9_next 25 = .ok (.getfield 302, 3) := by decide +kernel
theorem dX9_next_28 : decode cX9_next 28 = .ok (.iload_n 1, 1) := by decide +kernel
theorem dX9_next_29 : decode cX9_next 29 = .ok (.iastore, 1) := by decide +kernel
theorem dX9_next_30 : decode cX9_next 30 = .ok (.ldc_w 311, 3) := by decide +kernel
theorem dX9_next_33 : decode cX9_next 33 = .ok (.istore_n 3, 1) := by decide +kernel
theorem dX9_next_34 : decode cX9_next 34 = .ok (.ldc_w 312, 3) := by decide +kernel
theorem dX9_next_37 : decode cX9_next 37 = .ok (.istore 4, 2) := by decide +kernel
theorem dX9_next_39 : decode cX9_next 39 = .ok (.iconst 0, 1) := by decide +kernel
theorem dX9_next_40 : decode cX9_next 40 = .ok (.istore 5, 2) := by decide +kernel
theorem dX9_next_42 : decode cX9_next 42 = .ok (.iload 5, 2) := by decide +kernel
theorem dX9_next_44 : decode cX9_next 44 = .ok (.sipush 3087, 3) := by decide +kernel
theorem dX9_next_47 : decode cX9_next 47 = .ok (.if_icmp .ge 57, 3) := by decide +kernel
theorem dX9_next_50 : decode cX9_next 50 = .ok (.aload_n 0, 1) := by decide +kernel
theorem dX9_next_51 : decode cX9_next 51 = .ok (.iload 5, 2) := by decide +kernel
theorem dX9_next_53 : decode cX9_next 53 = .ok (.invokevirtual 308, 3) := by decide +kernel
theorem dX9_next_56 : decode cX9_next 56 = .ok (.ifCond .eq 42, 3) := by decide +kernel
theorem dX9_next_59 : decode cX9_next 59 = .ok (.aload_n 0, 1) := by decide +kernel
theorem dX9_next_60 : decode cX9_next 60 = .ok (.aload_n 0, 1) := by decide +kernel
theorem dX9_next_61 : decode cX9_next 61 = .ok (.getfield 302, 3) := by decide +kernel
theorem dX9_next_64 : decode cX9_next 64 = .ok (.invokevirtual 305, 3) := by decide +kernel
theorem dX9_next_67 : decode cX9_next 67 = .ok (.istore 6, 2) := by decide +kernel
theorem dX9_next_69 : decode cX9_next 69 = .ok (.iload 6, 2) := by decide +kernel
theorem dX9_next_71 : decode cX9_next 71 = .ok (.iload_n 3, 1) := by decide +kernel
theorem dX9_next_72 : decode cX9_next 72 = .ok (.if_icmp .ge 8, 3) := by decide +kernel
theorem dX9_next_75 : decode cX9_next 75 = .ok (.iload 6, 2) := by decide +kernel
theorem dX9_next_77 : decode cX9_next 77 = .ok (.goto 4, 3) := by decide +kernel
theorem dX9_next_80 : decode cX9_next 80 = .ok (.iload_n 3, 1) := by decide +kernel
theorem dX9_next_81 : decode cX9_next 81 = .ok (.istore_n 3, 1) := by decide +kernel
theorem dX9_next_82 : decode cX9_next 82 = .ok (.iload 6, 2) := by decide +kernel
theorem dX9_next_84 : decode cX9_next 84 = .ok (.iload 4, 2) := by decide +kernel
theorem dX9_next_86 : decode cX9_next 86 = .ok (.if_icmp .le 8, 3) := by decide +kernel
theorem dX9_next_89 : decode cX9_next 89 = .ok (.iload 6, 2) := by decide +kernel
theorem dX9_next_91 : decode cX9_next 91 = .ok (.goto 5, 3) := by decide +kernel
theorem dX9_next_94 : decode cX9_next 94 = .ok (.iload 4, 2) := by decide +kernel
theorem dX9_next_96 : decode cX9_next 96 = .ok (.istore 4, 2) := by decide +kernel
theorem dX9_next_98 : decode cX9_next 98 = .ok (.iinc 5 1, 3) := by decide +kernel
theorem dX9_next_101 : decode cX9_next 101 = .ok (.goto (-59), 3) := by decide +kernel
theorem dX9_next_104 : decode cX9_next 104 = .ok (.iload_n 3, 1) := by decide +kernel
theorem dX9_next_105 : decode cX9_next 105 = .ok (.ldc_w 311, 3) := by decide +kernel
theorem dX9_next_108 : decode cX9_next 108 = .ok (.if_icmp .ne 7, 3) := by decide +kernel
theorem dX9_next_111 : decode cX9_next 111 = .ok (.iconst (-1), 1) := by decide +kernel
theorem dX9_next_112 : decode cX9_next 112 = .ok (.goto 17, 3) := by decide +kernel
theorem dX9_next_115 : decode cX9_next 115 = .ok (.sipush 1000, 3) := by decide +kernel
theorem dX9_next_118 : decode cX9_next 118 = .ok (.iload_n 2, 1) := by decide +kernel
theorem dX9_next_119 : decode cX9_next 119 = .ok (.ifCond .ne 7, 3) := by decide +kernel
theorem dX9_next_122 : decode cX9_next 122 = .ok (.iload_n 3, 1) := by decide +kernel
theorem dX9_next_123 : decode cX9_next 123 = .ok (.goto 5, 3) := by decide +kernel
theorem dX9_next_126 : decode cX9_next 126 = .ok (.iload 4, 2) := by decide +kernel
theorem dX9_next_128 : decode cX9_next 128 = .ok (.iadd, 1) := by decide +kernel
theorem dX9_next_129 : decode cX9_next 129 = .ok (.ireturn, 1) := by decide +kernel
theorem dX9_layHolds_0 : decode cX9_layHolds 0 = .ok (.iconst 0, 1) := by decide +kernel
theorem dX9_layHolds_1 : decode cX9_layHolds 1 = .ok (.istore_n 1, 1) := by decide +kernel
theorem dX9_layHolds_2 : decode cX9_layHolds 2 = .ok (.iload_n 1, 1) := by decide +kernel
theorem dX9_layHolds_3 : decode cX9_layHolds 3 = .ok (.bipush 28, 2) := by decide +kernel
theorem dX9_layHolds_5 : decode cX9_layHolds 5 = .ok (.if_icmp .ge 60, 3) := by decide +kernel
theorem dX9_layHolds_8 : decode cX9_layHolds 8 = .ok (.iload_n 1, 1) := by decide +kernel
theorem dX9_layHolds_9 : decode cX9_layHolds 9 = .ok (.bipush 7, 2) := by decide +kernel
theorem dX9_layHolds_11 : decode cX9_layHolds 11 = .ok (.idiv, 1) := by decide +kernel
theorem dX9_layHolds_12 : decode cX9_layHolds 12 = .ok (.istore_n 2, 1) := by decide +kernel
theorem dX9_layHolds_13 : decode cX9_layHolds 13 = .ok (.aload_n 0, 1) := by decide +kernel
theorem dX9_layHolds_14 : decode cX9_layHolds 14 = .ok (.getfield 22, 3) := by decide +kernel
theorem dX9_layHolds_17 : decode cX9_layHolds 17 = .ok (.iload_n 2, 1) := by decide +kernel
theorem dX9_layHolds_18 : decode cX9_layHolds 18 = .ok (.iaload, 1) := by decide +kernel
theorem dX9_layHolds_19 : decode cX9_layHolds 19 = .ok (.ifCond .le 40, 3) := by decide +kernel
theorem dX9_layHolds_22 : decode cX9_layHolds 22 = .ok (.aload_n 0, 1) := by decide +kernel
theorem dX9_layHolds_23 : decode cX9_layHolds 23 = .ok (.iload_n 2, 1) := by decide +kernel
theorem dX9_layHolds_24 : decode cX9_layHolds 24 = .ok (.invokevirtual 258, 3) := by decide +kernel
theorem dX9_layHolds_27 : decode cX9_layHolds 27 = .ok (.aload_n 0, 1) := by decide +kernel
theorem dX9_layHolds_28 : decode cX9_layHolds 28 = .ok (.iload_n 1, 1) := by decide +kernel
theorem dX9_layHolds_29 : decode cX9_layHolds 29 = .ok (.bipush 7, 2) := by decide +kernel
theorem dX9_layHolds_31 : decode cX9_layHolds 31 = .ok (.irem, 1) := by decide +kernel
theorem dX9_layHolds_32 : decode cX9_layHolds 32 = .ok (.putfield 207, 3) := by decide +kernel
theorem dX9_layHolds_35 : decode cX9_layHolds 35 = .ok (.aload_n 0, 1) := by decide +kernel
theorem dX9_layHolds_36 : decode cX9_layHolds 36 = .ok (.getfield 77, 3) := by decide +kernel
theorem dX9_layHolds_39 : decode cX9_layHolds 39 = .ok (.iload_n 1, 1) := by decide +kernel
theorem dX9_layHolds_40 : decode cX9_layHolds 40 = .ok (.aload_n 0, 1) := by decide +kernel
theorem dX9_layHolds_41 : decode cX9_layHolds 41 = .ok (.bipush 10, 2) := by decide +kernel
theorem dX9_layHolds_43 : decode cX9_layHolds 43 = .ok (.iconst 0, 1) := by decide +kernel
theorem dX9_layHolds_44 : decode cX9_layHolds 44 = .ok (.iconst 1, 1) := by decide +kernel
theorem dX9_layHolds_45 : decode cX9_layHolds 45 = .ok (.invokevirtual 272, 3) := by decide +kernel
theorem dX9_layHolds_48 : decode cX9_layHolds 48 = .ok (.bipush 39, 2) := by decide +kernel
theorem dX9_layHolds_50 : decode cX9_layHolds 50 = .ok (.if_icmp .le 7, 3) := by decide +kernel
theorem dX9_layHolds_53 : decode cX9_layHolds 53 = .ok (.iconst 1, 1) := by decide +kernel
theorem dX9_layHolds_54 : decode cX9_layHolds 54 = .ok (.goto 4, 3) := by decide +kernel
theorem dX9_layHolds_57 : decode cX9_layHolds 57 = .ok (.iconst 0, 1) := by decide +kernel
theorem dX9_layHolds_58 : decode cX9_layHolds 58 = .ok (.bastore, 1) := by decide +kernel
theorem dX9_layHolds_59 : decode cX9_layHolds 59 = .ok (.iinc 1 1, 3) := by decide +kernel
theorem dX9_layHolds_62 : decode cX9_layHolds 62 = .ok (.goto (-60), 3) := by decide +kernel
theorem dX9_layHolds_65 : decode cX9_layHolds 65 = .ok (.return_, 1) := by decide +kernel
theorem dX9_tenthsBy_0 : decode cX9_tenthsBy 0 = .ok (.bipush 10, 2) := by decide +kernel
theorem dX9_tenthsBy_2 : decode cX9_tenthsBy 2 = .ok (.aload_n 0, 1) := by decide +kernel
theorem dX9_tenthsBy_3 : decode cX9_tenthsBy 3 = .ok (.getfield 35, 3) := by decide +kernel
theorem dX9_tenthsBy_6 : decode cX9_tenthsBy 6 = .ok (.imul, 1) := by decide +kernel
theorem dX9_tenthsBy_7 : decode cX9_tenthsBy 7 = .ok (.istore_n 3, 1) := by decide +kernel
theorem dX9_tenthsBy_8 : decode cX9_tenthsBy 8 = .ok (.iconst 1, 1) := by decide +kernel
theorem dX9_tenthsBy_9 : decode cX9_tenthsBy 9 = .ok (.istore 4, 2) := by decide +kernel
theorem dX9_tenthsBy_11 : decode cX9_tenthsBy 11 = .ok (.iconst 1, 1) := by decide +kernel
theorem dX9_tenthsBy_12 : decode cX9_tenthsBy 12 = .ok (.istore 5, 2) := by decide +kernel
theorem dX9_tenthsBy_14 : decode cX9_tenthsBy 14 = .ok (.iload 5, 2) := by decide +kernel
theorem dX9_tenthsBy_16 : decode cX9_tenthsBy 16 = .ok (.iload_n 2, 1) := by decide +kernel
theorem dX9_tenthsBy_17 : decode cX9_tenthsBy 17 = .ok (.if_icmp .ge 15, 3) := by decide +kernel
theorem dX9_tenthsBy_20 : decode cX9_tenthsBy 20 = .ok (.iload 4, 2) := by decide +kernel
theorem dX9_tenthsBy_22 : decode cX9_tenthsBy 22 = .ok (.iconst 4, 1) := by decide +kernel
theorem dX9_tenthsBy_23 : decode cX9_tenthsBy 23 = .ok (.imul, 1) := by decide +kernel
theorem dX9_tenthsBy_24 : decode cX9_tenthsBy 24 = .ok (.istore 4, 2) := by decide +kernel
theorem dX9_tenthsBy_26 : decode cX9_tenthsBy 26 = .ok (.iinc 5 1, 3) := by decide +kernel
theorem dX9_tenthsBy_29 : decode cX9_tenthsBy 29 = .ok (.goto (-15), 3) := by decide +kernel
theorem dX9_tenthsBy_32 : decode cX9_tenthsBy 32 = .ok (.iconst 0, 1) := by decide +kernel
theorem dX9_tenthsBy_33 : decode cX9_tenthsBy 33 = .ok (.istore 5, 2) := by decide +kernel
theorem dX9_tenthsBy_35 : decode cX9_tenthsBy 35 = .ok (.iload 5, 2) := by decide +kernel
theorem dX9_tenthsBy_37 : decode cX9_tenthsBy 37 = .ok (.iload_n 2, 1) := by decide +kernel
theorem dX9_tenthsBy_38 : decode cX9_tenthsBy 38 = .ok (.if_icmp .ge 108, 3) := by decide +kernel
theorem dX9_tenthsBy_41 : decode cX9_tenthsBy 41 = .ok (.iload_n 1, 1) := by decide +kernel
theorem dX9_tenthsBy_42 : decode cX9_tenthsBy 42 = .ok (.iload 4, 2) := by decide +kernel
theorem dX9_tenthsBy_44 : decode cX9_tenthsBy 44 = .ok (.idiv, 1) := by decide +kernel
theorem dX9_tenthsBy_45 : decode cX9_tenthsBy 45 = .ok (.iconst 4, 1) := by decide +kernel
theorem dX9_tenthsBy_46 : decode cX9_tenthsBy 46 = .ok (.irem, 1) := by decide +kernel
theorem dX9_tenthsBy_47 : decode cX9_tenthsBy 47 = .ok (.istore 6, 2) := by decide +kernel
theorem dX9_tenthsBy_49 : decode cX9_tenthsBy 49 = .ok (.iload 4, 2) := by decide +kernel
theorem dX9_tenthsBy_51 : decode cX9_tenthsBy 51 = .ok (.iconst 4, 1) := by decide +kernel
theorem dX9_tenthsBy_52 : decode cX9_tenthsBy 52 = .ok (.idiv, 1) := by decide +kernel
theorem dX9_tenthsBy_53 : decode cX9_tenthsBy 53 = .ok (.istore 4, 2) := by decide +kernel
theorem dX9_tenthsBy_55 : decode cX9_tenthsBy 55 = .ok (.aload_n 0, 1) := by decide +kernel
theorem dX9_tenthsBy_56 : decode cX9_tenthsBy 56 = .ok (.getfield 22, 3) := by decide +kernel
theorem dX9_tenthsBy_59 : decode cX9_tenthsBy 59 = .ok (.iload 6, 2) := by decide +kernel
theorem dX9_tenthsBy_61 : decode cX9_tenthsBy 61 = .ok (.iaload, 1) := by decide +kernel
theorem dX9_tenthsBy_62 : decode cX9_tenthsBy 62 = .ok (.ifCond .ne 7, 3) := by decide +kernel
theorem dX9_tenthsBy_65 : decode cX9_tenthsBy 65 = .ok (.ldc_w 311, 3) := by decide +kernel
theorem dX9_tenthsBy_68 : decode cX9_tenthsBy 68 = .ok (.ireturn, 1) := by decide +kernel
theorem dX9_tenthsBy_69 : decode cX9_tenthsBy 69 = .ok (.sipush 200, 3) := by decide +kernel
theorem dX9_tenthsBy_72 : decode cX9_tenthsBy 72 = .ok (.aload_n 0, 1) := by decide +kernel
theorem dX9_tenthsBy_73 : decode cX9_tenthsBy 73 = .ok (.iload 6, 2) := by decide +kernel
theorem dX9_tenthsBy_75 : decode cX9_tenthsBy 75 = .ok (.invokevirtual 195, 3) := by decide +kernel
theorem dX9_tenthsBy_78 : decode cX9_tenthsBy 78 = .ok (.bipush 20, 2) := by decide +kernel
theorem dX9_tenthsBy_80 : decode cX9_tenthsBy 80 = .ok (.iadd, 1) := by decide +kernel
theorem dX9_tenthsBy_81 : decode cX9_tenthsBy 81 = .ok (.idiv, 1) := by decide +kernel
theorem dX9_tenthsBy_82 : decode cX9_tenthsBy 82 = .ok (.istore 7, 2) := by decide +kernel
theorem dX9_tenthsBy_84 : decode cX9_tenthsBy 84 = .ok (.aload_n 0, 1) := by decide +kernel
theorem dX9_tenthsBy_85 : decode cX9_tenthsBy 85 = .ok (.getfield 77, 3) := by decide +kernel
theorem dX9_tenthsBy_88 : decode cX9_tenthsBy 88 = .ok (.bipush 7, 2) := by decide +kernel
theorem dX9_tenthsBy_90 : decode cX9_tenthsBy 90 = .ok (.iload 6, 2) := by decide +kernel
theorem dX9_tenthsBy_92 : decode cX9_tenthsBy 92 = .ok (.imul, 1) := by decide +kernel
theorem dX9_tenthsBy_93 : decode cX9_tenthsBy 93 = .ok (.iload_n 3, 1) := by decide +kernel
theorem dX9_tenthsBy_94 : decode cX9_tenthsBy 94 = .ok (.bipush 10, 2) := by decide +kernel
theorem dX9_tenthsBy_96 : decode cX9_tenthsBy 96 = .ok (.idiv, 1) := by decide +kernel
theorem dX9_tenthsBy_97 : decode cX9_tenthsBy 97 = .ok (.iadd, 1) := by decide +kernel
theorem dX9_tenthsBy_98 : decode cX9_tenthsBy 98 = .ok (.baload, 1) := by decide +kernel
theorem dX9_tenthsBy_99 : decode cX9_tenthsBy 99 = .ok (.ifCond .eq 28, 3) := by decide +kernel
theorem dX9_tenthsBy_102 : decode cX9_tenthsBy 102 = .ok (.iload_n 3, 1) := by decide +kernel
theorem dX9_tenthsBy_103 : decode cX9_tenthsBy 103 = .ok (.iload 7, 2) := by decide +kernel
theorem dX9_tenthsBy_105 : decode cX9_tenthsBy 105 = .ok (.iconst 1, 1) := by decide +kernel
theorem dX9_tenthsBy_106 : decode cX9_tenthsBy 106 = .ok (.if_icmp .le 8, 3) := by decide +kernel
theorem dX9_tenthsBy_109 : decode cX9_tenthsBy 109 = .ok (.iload 7, 2) := by decide +kernel
theorem dX9_tenthsBy_111 : decode cX9_tenthsBy 111 = .ok (.goto 4, 3) := by decide +kernel
theorem dX9_tenthsBy_114 : decode cX9_tenthsBy 114 = .ok (.iconst 1, 1) := by decide +kernel
theorem dX9_tenthsBy_115 : decode cX9_tenthsBy 115 = .ok (.isub, 1) := by decide +kernel
theorem dX9_tenthsBy_116 : decode cX9_tenthsBy 116 = .ok (.istore_n 3, 1) := by decide +kernel
theorem dX9_tenthsBy_117 : decode cX9_tenthsBy 117 = .ok (.iload_n 3, 1) := by decide +kernel
theorem dX9_tenthsBy_118 : decode cX9_tenthsBy 118 = .ok (.ifCond .le 7, 3) := by decide +kernel
theorem dX9_tenthsBy_121 : decode cX9_tenthsBy 121 = .ok (.iload_n 3, 1) := by decide +kernel
theorem dX9_tenthsBy_122 : decode cX9_tenthsBy 122 = .ok (.goto 4, 3) := by decide +kernel
theorem dX9_tenthsBy_125 : decode cX9_tenthsBy 125 = .ok (.iconst 0, 1) := by decide +kernel
theorem dX9_tenthsBy_126 : decode cX9_tenthsBy 126 = .ok (.istore_n 3, 1) := by decide +kernel
theorem dX9_tenthsBy_127 : decode cX9_tenthsBy 127 = .ok (.iload 4, 2) := by decide +kernel
theorem dX9_tenthsBy_129 : decode cX9_tenthsBy 129 = .ok (.ifCond .ne 7, 3) := by decide +kernel
theorem dX9_tenthsBy_132 : decode cX9_tenthsBy 132 = .ok (.iconst 1, 1) := by decide +kernel
theorem dX9_tenthsBy_133 : decode cX9_tenthsBy 133 = .ok (.goto 5, 3) := by decide +kernel
theorem dX9_tenthsBy_136 : decode cX9_tenthsBy 136 = .ok (.iload 4, 2) := by decide +kernel
theorem dX9_tenthsBy_138 : decode cX9_tenthsBy 138 = .ok (.istore 4, 2) := by decide +kernel
theorem dX9_tenthsBy_140 : decode cX9_tenthsBy 140 = .ok (.iinc 5 1, 3) := by decide +kernel
theorem dX9_tenthsBy_143 : decode cX9_tenthsBy 143 = .ok (.goto (-108), 3) := by decide +kernel
theorem dX9_tenthsBy_146 : decode cX9_tenthsBy 146 = .ok (.iload_n 3, 1) := by decide +kernel
theorem dX9_tenthsBy_147 : decode cX9_tenthsBy 147 = .ok (.ireturn, 1) := by decide +kernel
theorem dX9_plan_0 : decode cX9_plan 0 = .ok (.iload_n 1, 1) := by decide +kernel
theorem dX9_plan_1 : decode cX9_plan 1 = .ok (.i2l, 1) := by decide +kernel
theorem dX9_plan_2 : decode cX9_plan 2 = .ok (.lconst 1, 1) := by decide +kernel
theorem dX9_plan_3 : decode cX9_plan 3 = .ok (.ldc2_w 291, 3) := by decide +kernel
theorem dX9_plan_6 : decode cX9_plan 6 = .ok (.invokestatic 92, 3) := by decide +kernel
theorem dX9_plan_9 : decode cX9_plan 9 = .ok (.ifCond .eq 18, 3) := by decide +kernel
theorem dX9_plan_12 : decode cX9_plan 12 = .ok (.iload_n 2, 1) := by decide +kernel
theorem dX9_plan_13 : decode cX9_plan 13 = .ok (.i2l, 1) := by decide +kernel
theorem dX9_plan_14 : decode cX9_plan 14 = .ok (.ldc2_w 313, 3) := by decide +kernel
theorem dX9_plan_17 : decode cX9_plan 17 = .ok (.iload_n 1, 1) := by decide +kernel
theorem dX9_plan_18 : decode cX9_plan 18 = .ok (.iconst 1, 1) := by decide +kernel
theorem dX9_plan_19 : decode cX9_plan 19 = .ok (.isub, 1) := by decide +kernel
theorem dX9_plan_20 : decode cX9_plan 20 = .ok (.i2l, 1) := by decide +kernel
theorem dX9_plan_21 : decode cX9_plan 21 = .ok (.invokestatic 92, 3) := by decide +kernel
theorem dX9_plan_24 : decode cX9_plan 24 = .ok (.ifCond .ne 6, 3) := by decide +kernel
theorem dX9_plan_27 : decode cX9_plan 27 = .ok (.bipush (-3), 2) := by decide +kernel
theorem dX9_plan_29 : decode cX9_plan 29 = .ok (.ireturn, 1) := by decide +kernel
theorem dX9_plan_30 : decode cX9_plan 30 = .ok (.aload_n 0, 1) := by decide +kernel
theorem dX9_plan_31 : decode cX9_plan 31 = .ok (.invokevirtual 315, 3) := by decide +kernel
theorem dX9_plan_34 : decode cX9_plan 34 = .ok (.iconst 1, 1) := by decide +kernel
theorem dX9_plan_35 : decode cX9_plan 35 = .ok (.istore_n 3, 1) := by decide +kernel
theorem dX9_plan_36 : decode cX9_plan 36 = .ok (.iconst 0, 1) := by decide +kernel
theorem dX9_plan_37 : decode cX9_plan 37 = .ok (.istore 4, 2) := by decide +kernel
theorem dX9_plan_39 : decode cX9_plan 39 = .ok (.iload 4, 2) := by decide +kernel
theorem dX9_plan_41 : decode cX9_plan 41 = .ok (.iload_n 1, 1) := by decide +kernel
theorem dX9_plan_42 : decode cX9_plan 42 = .ok (.if_icmp .ge 13, 3) := by decide +kernel
theorem dX9_plan_45 : decode cX9_plan 45 = .ok (.iload_n 3, 1) := by decide +kernel
theorem dX9_plan_46 : decode cX9_plan 46 = .ok (.iconst 4, 1) := by decide +kernel
theorem dX9_plan_47 : decode cX9_plan 47 = .ok (.imul, 1) := by decide +kernel
theorem dX9_plan_48 : decode cX9_plan 48 = .ok (.istore_n 3, 1) := by decide +kernel
theorem dX9_plan_49 : decode cX9_plan 49 = .ok (.iinc 4 1, 3) := by decide +kernel
theorem dX9_plan_52 : decode cX9_plan 52 = .ok (.goto (-13), 3) := by decide +kernel
theorem dX9_plan_55 : decode cX9_plan 55 = .ok (.iconst (-1), 1) := by decide +kernel
theorem dX9_plan_56 : decode cX9_plan 56 = .ok (.istore 4, 2) := by decide +kernel
theorem dX9_plan_58 : decode cX9_plan 58 = .ok (.ldc_w 311, 3) := by decide +kernel
theorem dX9_plan_61 : decode cX9_plan 61 = .ok (.istore 5, 2) := by decide +kernel
theorem dX9_plan_63 : decode cX9_plan 63 = .ok (.iconst 0, 1) := by decide +kernel
theorem dX9_plan_64 : decode cX9_plan 64 = .ok (.istore 6, 2) := by decide +kernel
theorem dX9_plan_66 : decode cX9_plan 66 = .ok (.iload 6, 2) := by decide +kernel
theorem dX9_plan_68 : decode cX9_plan 68 = .ok (.iload_n 3, 1) := by decide +kernel
theorem dX9_plan_69 : decode cX9_plan 69 = .ok (.if_icmp .ge 50, 3) := by decide +kernel
theorem dX9_plan_72 : decode cX9_plan 72 = .ok (.aload_n 0, 1) := by decide +kernel
theorem dX9_plan_73 : decode cX9_plan 73 = .ok (.iload 6, 2) := by decide +kernel
theorem dX9_plan_75 : decode cX9_plan 75 = .ok (.iload_n 1, 1) := by decide +kernel
theorem dX9_plan_76 : decode cX9_plan 76 = .ok (.invokevirtual 318, 3) := by decide +kernel
theorem dX9_plan_79 : decode cX9_plan 79 = .ok (.istore 7, 2) := by decide +kernel
theorem dX9_plan_81 : decode cX9_plan 81 = .ok (.iload 7, 2) := by decide +kernel
theorem dX9_plan_83 : decode cX9_plan 83 = .ok (.iload 5, 2) := by decide +kernel
theorem dX9_plan_85 : decode cX9_plan 85 = .ok (.if_icmp .ge 8, 3) := by decide +kernel
theorem dX9_plan_88 : decode cX9_plan 88 = .ok (.iload 6, 2) := by decide +kernel
theorem dX9_plan_90 : decode cX9_plan 90 = .ok (.goto 5, 3) := by decide +kernel
theorem dX9_plan_93 : decode cX9_plan 93 = .ok (.iload 4, 2) := by decide +kernel
theorem dX9_plan_95 : decode cX9_plan 95 = .ok (.istore 4, 2) := by decide +kernel
theorem dX9_plan_97 : decode cX9_plan 97 = .ok (.iload 7, 2) := by decide +kernel
theorem dX9_plan_99 : decode cX9_plan 99 = .ok (.iload 5, 2) := by decide +kernel
theorem dX9_plan_101 : decode cX9_plan 101 = .ok (.if_icmp .ge 8, 3) := by decide +kernel
theorem dX9_plan_104 : decode cX9_plan 104 = .ok (.iload 7, 2) := by decide +kernel
theorem dX9_plan_106 : decode cX9_plan 106 = .ok (.goto 5, 3) := by decide +kernel
theorem dX9_plan_109 : decode cX9_plan 109 = .ok (.iload 5, 2) := by decide +kernel
theorem dX9_plan_111 : decode cX9_plan 111 = .ok (.istore 5, 2) := by decide +kernel
theorem dX9_plan_113 : decode cX9_plan 113 = .ok (.iinc 6 1, 3) := by decide +kernel
theorem dX9_plan_116 : decode cX9_plan 116 = .ok (.goto (-50), 3) := by decide +kernel
theorem dX9_plan_119 : decode cX9_plan 119 = .ok (.iload 4, 2) := by decide +kernel
theorem dX9_plan_121 : decode cX9_plan 121 = .ok (.iconst (-1), 1) := by decide +kernel
theorem dX9_plan_122 : decode cX9_plan 122 = .ok (.if_icmp .ne 5, 3) := by decide +kernel
theorem dX9_plan_125 : decode cX9_plan 125 = .ok (.iconst (-1), 1) := by decide +kernel
theorem dX9_plan_126 : decode cX9_plan 126 = .ok (.ireturn, 1) := by decide +kernel
theorem dX9_plan_127 : decode cX9_plan 127 = .ok (.iload 4, 2) := by decide +kernel
theorem dX9_plan_129 : decode cX9_plan 129 = .ok (.istore 6, 2) := by decide +kernel
theorem dX9_plan_131 : decode cX9_plan 131 = .ok (.iload_n 1, 1) := by decide +kernel
theorem dX9_plan_132 : decode cX9_plan 132 = .ok (.iconst 1, 1) := by decide +kernel
theorem dX9_plan_133 : decode cX9_plan 133 = .ok (.isub, 1) := by decide +kernel
theorem dX9_plan_134 : decode cX9_plan 134 = .ok (.istore 7, 2) := by decide +kernel
theorem dX9_plan_136 : decode cX9_plan 136 = .ok (.iload 7, 2) := by decide +kernel
theorem dX9_plan_138 : decode cX9_plan 138 = .ok (.iload_n 2, 1) := by decide +kernel
theorem dX9_plan_139 : decode cX9_plan 139 = .ok (.if_icmp .le 20, 3) := by decide +kernel
theorem dX9_plan_142 : decode cX9_plan 142 = .ok (.iload_n 2, 1) := by decide +kernel
theorem dX9_plan_143 : decode cX9_plan 143 = .ok (.iconst (-1), 1) := by decide +kernel
theorem dX9_plan_144 : decode cX9_plan 144 = .ok (.if_icmp .eq 15, 3) := by decide +kernel
theorem dX9_plan_147 : decode cX9_plan 147 = .ok (.iload 6, 2) := by decide +kernel
theorem dX9_plan_149 : decode cX9_plan 149 = .ok (.iconst 4, 1) := by decide +kernel
theorem dX9_plan_150 : decode cX9_plan 150 = .ok (.idiv, 1) := by decide +kernel
theorem dX9_plan_151 : decode cX9_plan 151 = .ok (.istore 6, 2) := by decide +kernel
theorem dX9_plan_153 : decode cX9_plan 153 = .ok (.iinc 7 (-1), 3) := by decide +kernel
theorem dX9_plan_156 : decode cX9_plan 156 = .ok (.goto (-20), 3) := by decide +kernel
theorem dX9_plan_159 : decode cX9_plan 159 = .ok (.iload_n 2, 1) := by decide +kernel
theorem dX9_plan_160 : decode cX9_plan 160 = .ok (.iconst (-1), 1) := by decide +kernel
theorem dX9_plan_161 : decode cX9_plan 161 = .ok (.if_icmp .ne 8, 3) := by decide +kernel
theorem dX9_plan_164 : decode cX9_plan 164 = .ok (.iload 5, 2) := by decide +kernel
theorem dX9_plan_166 : decode cX9_plan 166 = .ok (.goto 7, 3) := by decide +kernel
theorem dX9_plan_169 : decode cX9_plan 169 = .ok (.iload 6, 2) := by decide +kernel
theorem dX9_plan_171 : decode cX9_plan 171 = .ok (.iconst 4, 1) := by decide +kernel
theorem dX9_plan_172 : decode cX9_plan 172 = .ok (.irem, 1) := by decide +kernel
theorem dX9_plan_173 : decode cX9_plan 173 = .ok (.ireturn, 1) := by decide +kernel
theorem dX9_isCell_0 : decode cX9_isCell 0 = .ok (.iload_n 0, 1) := by decide +kernel
theorem dX9_isCell_1 : decode cX9_isCell 1 = .ok (.i2l, 1) := by decide +kernel
theorem dX9_isCell_2 : decode cX9_isCell 2 = .ok (.lconst 0, 1) := by decide +kernel
theorem dX9_isCell_3 : decode cX9_isCell 3 = .ok (.ldc2_w 321, 3) := by decide +kernel
theorem dX9_isCell_6 : decode cX9_isCell 6 = .ok (.invokestatic 92, 3) := by decide +kernel
theorem dX9_isCell_9 : decode cX9_isCell 9 = .ok (.ireturn, 1) := by decide +kernel
theorem dX9_room_0 : decode cX9_room 0 = .ok (.iload_n 1, 1) := by decide +kernel
theorem dX9_room_1 : decode cX9_room 1 = .ok (.invokestatic 323, 3) := by decide +kernel
theorem dX9_room_4 : decode cX9_room 4 = .ok (.ifCond .ne 6, 3) := by decide +kernel
theorem dX9_room_7 : decode cX9_room 7 = .ok (.bipush (-2), 2) := by decide +kernel
theorem dX9_room_9 : decode cX9_room 9 = .ok (.ireturn, 1) := by decide +kernel
theorem dX9_room_10 : decode cX9_room 10 = .ok (.iload_n 2, 1) := by decide +kernel
theorem dX9_room_11 : decode cX9_room 11 = .ok (.i2l, 1) := by decide +kernel
theorem dX9_room_12 : decode cX9_room 12 = .ok (.lconst 0, 1) := by decide +kernel
theorem dX9_room_13 : decode cX9_room 13 = .ok (.ldc2_w 241, 3) := by decide +kernel
theorem dX9_room_16 : decode cX9_room 16 = .ok (.invokestatic 92, 3) := by decide +kernel
theorem dX9_room_19 : decode cX9_room 19 = .ok (.ifCond .eq 15, 3) := by decide +kernel
theorem dX9_room_22 : decode cX9_room 22 = .ok (.iload_n 3, 1) := by decide +kernel
theorem dX9_room_23 : decode cX9_room 23 = .ok (.i2l, 1) := by decide +kernel
theorem dX9_room_24 : decode cX9_room 24 = .ok (.lconst 0, 1) := by decide +kernel
theorem dX9_room_25 : decode cX9_room 25 = .ok (.ldc2_w 326, 3) := by decide +kernel
theorem dX9_room_28 : decode cX9_room 28 = .ok (.invokestatic 92, 3) := by decide +kernel
theorem dX9_room_31 : decode cX9_room 31 = .ok (.ifCond .ne 6, 3) := by decide +kernel
theorem dX9_room_34 : decode cX9_room 34 = .ok (.bipush (-3), 2) := by decide +kernel
theorem dX9_room_36 : decode cX9_room 36 = .ok (.ireturn, 1) := by decide +kernel
theorem dX9_room_37 : decode cX9_room 37 = .ok (.aload_n 0, 1) := by decide +kernel
theorem dX9_room_38 : decode cX9_room 38 = .ok (.getfield 81, 3) := by decide +kernel
theorem dX9_room_41 : decode cX9_room 41 = .ok (.iload_n 1, 1) := by decide +kernel
theorem dX9_room_42 : decode cX9_room 42 = .ok (.iaload, 1) := by decide +kernel
theorem dX9_room_43 : decode cX9_room 43 = .ok (.istore 4, 2) := by decide +kernel
theorem dX9_room_45 : decode cX9_room 45 = .ok (.aload_n 0, 1) := by decide +kernel
theorem dX9_room_46 : decode cX9_room 46 = .ok (.getfield 81, 3) := by decide +kernel
theorem dX9_room_49 : decode cX9_room 49 = .ok (.iload_n 1, 1) := by decide +kernel
theorem dX9_room_50 : decode cX9_room 50 = .ok (.iload_n 2, 1) := by decide +kernel
theorem dX9_room_51 : decode cX9_room 51 = .ok (.iastore, 1) := by decide +kernel
theorem dX9_room_52 : decode cX9_room 52 = .ok (.aload_n 0, 1) := by decide +kernel
theorem dX9_room_53 : decode cX9_room 53 = .ok (.getfield 84, 3) := by decide +kernel
theorem dX9_room_56 : decode cX9_room 56 = .ok (.iload_n 1, 1) := by decide +kernel
theorem dX9_room_57 : decode cX9_room 57 = .ok (.iload_n 3, 1) := by decide +kernel
theorem dX9_room_58 : decode cX9_room 58 = .ok (.iastore, 1) := by decide +kernel
theorem dX9_room_59 : decode cX9_room 59 = .ok (.iload 4, 2) := by decide +kernel
theorem dX9_room_61 : decode cX9_room 61 = .ok (.ireturn, 1) := by decide +kernel
theorem dX9_areBeside_0 : decode cX9_areBeside 0 = .ok (.iload_n 0, 1) := by decide +kernel
theorem dX9_areBeside_1 : decode cX9_areBeside 1 = .ok (.bipush 6, 2) := by decide +kernel
theorem dX9_areBeside_3 : decode cX9_areBeside 3 = .ok (.irem, 1) := by decide +kernel
theorem dX9_areBeside_4 : decode cX9_areBeside 4 = .ok (.iload_n 1, 1) := by decide +kernel
theorem dX9_areBeside_5 : decode cX9_areBeside 5 = .ok (.bipush 6, 2) := by decide +kernel
theorem dX9_areBeside_7 : decode cX9_areBeside 7 = .ok (.irem, 1) := by decide +kernel
theorem dX9_areBeside_8 : decode cX9_areBeside 8 = .ok (.isub, 1) := by decide +kernel
theorem dX9_areBeside_9 : decode cX9_areBeside 9 = .ok (.istore_n 2, 1) := by decide +kernel
theorem dX9_areBeside_10 : decode cX9_areBeside 10 = .ok (.iload_n 0, 1) := by decide +kernel
theorem dX9_areBeside_11 : decode cX9_areBeside 11 = .ok (.bipush 6, 2) := by decide +kernel
theorem dX9_areBeside_13 : decode cX9_areBeside 13 = .ok (.idiv, 1) := by decide +kernel
theorem dX9_areBeside_14 : decode cX9_areBeside 14 = .ok (.iload_n 1, 1) := by decide +kernel
theorem dX9_areBeside_15 : decode cX9_areBeside 15 = .ok (.bipush 6, 2) := by decide +kernel
theorem dX9_areBeside_17 : decode cX9_areBeside 17 = .ok (.idiv, 1) := by decide +kernel
theorem dX9_areBeside_18 : decode cX9_areBeside 18 = .ok (.isub, 1) := by decide +kernel
theorem dX9_areBeside_19 : decode cX9_areBeside 19 = .ok (.istore_n 3, 1) := by decide +kernel
theorem dX9_areBeside_20 : decode cX9_areBeside 20 = .ok (.iload_n 2, 1) := by decide +kernel
theorem dX9_areBeside_21 : decode cX9_areBeside 21 = .ok (.iload_n 2, 1) := by decide +kernel
theorem dX9_areBeside_22 : decode cX9_areBeside 22 = .ok (.imul, 1) := by decide +kernel
theorem dX9_areBeside_23 : decode cX9_areBeside 23 = .ok (.iload_n 3, 1) := by decide +kernel
theorem dX9_areBeside_24 : decode cX9_areBeside 24 = .ok (.iload_n 3, 1) := by decide +kernel
theorem dX9_areBeside_25 : decode cX9_areBeside 25 = .ok (.imul, 1) := by decide +kernel
theorem dX9_areBeside_26 : decode cX9_areBeside 26 = .ok (.iadd, 1) := by decide +kernel
theorem dX9_areBeside_27 : decode cX9_areBeside 27 = .ok (.iconst 1, 1) := by decide +kernel
theorem dX9_areBeside_28 : decode cX9_areBeside 28 = .ok (.if_icmp .ne 7, 3) := by decide +kernel
theorem dX9_areBeside_31 : decode cX9_areBeside 31 = .ok (.iconst 1, 1) := by decide +kernel
theorem dX9_areBeside_32 : decode cX9_areBeside 32 = .ok (.goto 4, 3) := by decide +kernel
theorem dX9_areBeside_35 : decode cX9_areBeside 35 = .ok (.iconst 0, 1) := by decide +kernel
theorem dX9_areBeside_36 : decode cX9_areBeside 36 = .ok (.ireturn, 1) := by decide +kernel
theorem dX9_way_0 : decode cX9_way 0 = .ok (.iload_n 1, 1) := by decide +kernel
theorem dX9_way_1 : decode cX9_way 1 = .ok (.invokestatic 192, 3) := by decide +kernel
theorem dX9_way_4 : decode cX9_way 4 = .ok (.ifCond .eq 17, 3) := by decide +kernel
theorem dX9_way_7 : decode cX9_way 7 = .ok (.iload_n 2, 1) := by decide +kernel
theorem dX9_way_8 : decode cX9_way 8 = .ok (.invokestatic 323, 3) := by decide +kernel
theorem dX9_way_11 : decode cX9_way 11 = .ok (.ifCond .eq 10, 3) := by decide +kernel
theorem dX9_way_14 : decode cX9_way 14 = .ok (.iload_n 3, 1) := by decide +kernel
theorem dX9_way_15 : decode cX9_way 15 = .ok (.invokestatic 323, 3) := by decide +kernel
theorem dX9_way_18 : decode cX9_way 18 = .ok (.ifCond .ne 6, 3) := by decide +kernel
theorem dX9_way_21 : decode cX9_way 21 = .ok (.bipush (-2), 2) := by decide +kernel
theorem dX9_way_23 : decode cX9_way 23 = .ok (.ireturn, 1) := by decide +kernel
theorem dX9_way_24 : decode cX9_way 24 = .ok (.iload 4, 2) := by decide +kernel
theorem dX9_way_26 : decode cX9_way 26 = .ok (.i2l, 1) := by decide +kernel
theorem dX9_way_27 : decode cX9_way 27 = .ok (.lconst 0, 1) := by decide +kernel
theorem dX9_way_28 : decode cX9_way 28 = .ok (.ldc2_w 241, 3) := by decide +kernel
theorem dX9_way_31 : decode cX9_way 31 = .ok (.invokestatic 92, 3) := by decide +kernel
theorem dX9_way_34 : decode cX9_way 34 = .ok (.ifCond .eq 14, 3) := by decide +kernel
theorem dX9_way_37 : decode cX9_way 37 = .ok (.iload 5, 2) := by decide +kernel
theorem dX9_way_39 : decode cX9_way 39 = .ok (.i2l, 1) := by decide +kernel
theorem dX9_way_40 : decode cX9_way 40 = .ok (.lconst 0, 1) := by decide +kernel
theorem dX9_way_41 : decode cX9_way 41 = .ok (.lconst 1, 1) := by decide +kernel
theorem dX9_way_42 : decode cX9_way 42 = .ok (.invokestatic 92, 3) := by decide +kernel
theorem dX9_way_45 : decode cX9_way 45 = .ok (.ifCond .ne 6, 3) := by decide +kernel
theorem dX9_way_48 : decode cX9_way 48 = .ok (.bipush (-3), 2) := by decide +kernel
theorem dX9_way_50 : decode cX9_way 50 = .ok (.ireturn, 1) := by decide +kernel
theorem dX9_way_51 : decode cX9_way 51 = .ok (.aload_n 0, 1) := by decide +kernel
theorem dX9_way_52 : decode cX9_way 52 = .ok (.getfield 22, 3) := by decide +kernel
theorem dX9_way_55 : decode cX9_way 55 = .ok (.iload_n 1, 1) := by decide +kernel
theorem dX9_way_56 : decode cX9_way 56 = .ok (.iaload, 1) := by decide +kernel
theorem dX9_way_57 : decode cX9_way 57 = .ok (.ifCond .ne 6, 3) := by decide +kernel
theorem dX9_way_60 : decode cX9_way 60 = .ok (.bipush (-4), 2) := by decide +kernel
theorem dX9_way_62 : decode cX9_way 62 = .ok (.ireturn, 1) := by decide +kernel
theorem dX9_way_63 : decode cX9_way 63 = .ok (.aload_n 0, 1) := by decide +kernel
theorem dX9_way_64 : decode cX9_way 64 = .ok (.iload_n 1, 1) := by decide +kernel
theorem dX9_way_65 : decode cX9_way 65 = .ok (.invokevirtual 198, 3) := by decide +kernel
theorem dX9_way_68 : decode cX9_way 68 = .ok (.istore 6, 2) := by decide +kernel
theorem dX9_way_70 : decode cX9_way 70 = .ok (.iconst 0, 1) := by decide +kernel
theorem dX9_way_71 : decode cX9_way 71 = .ok (.istore 7, 2) := by decide +kernel
theorem dX9_way_73 : decode cX9_way 73 = .ok (.iload 7, 2) := by decide +kernel
theorem dX9_way_75 : decode cX9_way 75 = .ok (.bipush 36, 2) := by decide +kernel
theorem dX9_way_77 : decode cX9_way 77 = .ok (.if_icmp .ge 19, 3) := by decide +kernel
theorem dX9_way_80 : decode cX9_way 80 = .ok (.aload_n 0, 1) := by decide +kernel
theorem dX9_way_81 : decode cX9_way 81 = .ok (.getfield 87, 3) := by decide +kernel
theorem dX9_way_84 : decode cX9_way 84 = .ok (.iload 7, 2) := by decide +kernel
theorem dX9_way_86 : decode cX9_way 86 = .ok (.ldc_w 311, 3) := by decide +kernel
theorem dX9_way_89 : decode cX9_way 89 = .ok (.iastore, 1) := by decide +kernel
theorem dX9_way_90 : decode cX9_way 90 = .ok (.iinc 7 1, 3) := by decide +kernel
theorem dX9_way_93 : decode cX9_way 93 = .ok (.goto (-20), 3) := by decide +kernel
theorem dX9_way_96 : decode cX9_way 96 = .ok (.aload_n 0, 1) := by decide +kernel
theorem dX9_way_97 : decode cX9_way 97 = .ok (.getfield 81, 3) := by decide +kernel
theorem dX9_way_100 : decode cX9_way 100 = .ok (.iload_n 2, 1) := by decide +kernel
theorem dX9_way_101 : decode cX9_way 101 = .ok (.iaload, 1) := by decide +kernel
theorem dX9_way_102 : decode cX9_way 102 = .ok (.iload 4, 2) := by decide +kernel
theorem dX9_way_104 : decode cX9_way 104 = .ok (.if_icmp .gt 27, 3) := by decide +kernel
theorem dX9_way_107 : decode cX9_way 107 = .ok (.aload_n 0, 1) := by decide +kernel
theorem dX9_way_108 : decode cX9_way 108 = .ok (.getfield 84, 3) := by decide +kernel
theorem dX9_way_111 : decode cX9_way 111 = .ok (.iload_n 2, 1) := by decide +kernel
theorem dX9_way_112 : decode cX9_way 112 = .ok (.iaload, 1) := by decide +kernel
theorem dX9_way_113 : decode cX9_way 113 = .ok (.ifCond .eq 14, 3) := by decide +kernel
theorem dX9_way_116 : decode cX9_way 116 = .ok (.aload_n 0, 1) := by decide +kernel
theorem dX9_way_117 : decode cX9_way 117 = .ok (.getfield 84, 3) := by decide +kernel
theorem dX9_way_120 : decode cX9_way 120 = .ok (.iload_n 2, 1) := by decide +kernel
theorem dX9_way_121 : decode cX9_way 121 = .ok (.iaload, 1) := by decide +kernel
theorem dX9_way_122 : decode cX9_way 122 = .ok (.iload 6, 2) := by decide +kernel
theorem dX9_way_124 : decode cX9_way 124 = .ok (.if_icmp .le 7, 3) := by decide +kernel
theorem dX9_way_127 : decode cX9_way 127 = .ok (.iconst 1, 1) := by decide +kernel
theorem dX9_way_128 : decode cX9_way 128 = .ok (.goto 4, 3) := by decide +kernel
theorem dX9_way_131 : decode cX9_way 131 = .ok (.iconst 0, 1) := by decide +kernel
theorem dX9_way_132 : decode cX9_way 132 = .ok (.istore 7, 2) := by decide +kernel
theorem dX9_way_134 : decode cX9_way 134 = .ok (.aload_n 0, 1) := by decide +kernel
theorem dX9_way_135 : decode cX9_way 135 = .ok (.getfield 87, 3) := by decide +kernel
theorem dX9_way_138 : decode cX9_way 138 = .ok (.iload_n 2, 1) := by decide +kernel
theorem dX9_way_139 : decode cX9_way 139 = .ok (.iload 7, 2) := by decide +kernel
theorem dX9_way_141 : decode cX9_way 141 = .ok (.ifCond .eq 12, 3) := by decide +kernel
theorem dX9_way_144 : decode cX9_way 144 = .ok (.aload_n 0, 1) := by decide +kernel
theorem dX9_way_145 : decode cX9_way 145 = .ok (.getfield 81, 3) := by decide +kernel
theorem dX9_way_148 : decode cX9_way 148 = .ok (.iload_n 2, 1) := by decide +kernel
theorem dX9_way_149 : decode cX9_way 149 = .ok (.iaload, 1) := by decide +kernel
theorem dX9_way_150 : decode cX9_way 150 = .ok (.goto 6, 3) := by decide +kernel
theorem dX9_way_153 : decode cX9_way 153 = .ok (.ldc_w 311, 3) := by decide +kernel
theorem dX9_way_156 : decode cX9_way 156 = .ok (.iastore, 1) := by decide +kernel
theorem dX9_way_157 : decode cX9_way 157 = .ok (.iload 7, 2) := by decide +kernel
theorem dX9_way_159 : decode cX9_way 159 = .ok (.istore 8, 2) := by decide +kernel
theorem dX9_way_161 : decode cX9_way 161 = .ok (.iload 8, 2) := by decide +kernel
theorem dX9_way_163 : decode cX9_way 163 = .ok (.ifCond .eq 167, 3) := by decide +kernel
theorem dX9_way_166 : decode cX9_way 166 = .ok (.iconst 0, 1) := by decide +kernel
theorem dX9_way_167 : decode cX9_way 167 = .ok (.istore 8, 2) := by decide +kernel
theorem dX9_way_169 : decode cX9_way 169 = .ok (.iconst 0, 1) := by decide +kernel
theorem dX9_way_170 : decode cX9_way 170 = .ok (.istore 9, 2) := by decide +kernel
theorem dX9_way_172 : decode cX9_way 172 = .ok (.iload 9, 2) := by decide +kernel
theorem dX9_way_174 : decode cX9_way 174 = .ok (.sipush 1296, 3) := by decide +kernel
theorem dX9_way_177 : decode cX9_way 177 = .ok (.if_icmp .ge 150, 3) := by decide +kernel
theorem dX9_way_180 : decode cX9_way 180 = .ok (.iload 9, 2) := by decide +kernel
theorem dX9_way_182 : decode cX9_way 182 = .ok (.bipush 36, 2) := by decide +kernel
theorem dX9_way_184 : decode cX9_way 184 = .ok (.idiv, 1) := by decide +kernel
theorem dX9_way_185 : decode cX9_way 185 = .ok (.istore 10, 2) := by decide +kernel
theorem dX9_way_187 : decode cX9_way 187 = .ok (.iload 9, 2) := by decide +kernel
theorem dX9_way_189 : decode cX9_way 189 = .ok (.bipush 36, 2) := by decide +kernel
theorem dX9_way_191 : decode cX9_way 191 = .ok (.irem, 1) := by decide +kernel
theorem dX9_way_192 : decode cX9_way 192 = .ok (.istore 11, 2) := by decide +kernel
theorem dX9_way_194 : decode cX9_way 194 = .ok (.aload_n 0, 1) := by decide +kernel
theorem dX9_way_195 : decode cX9_way 195 = .ok (.getfield 87, 3) := by decide +kernel
theorem dX9_way_198 : decode cX9_way 198 = .ok (.iload 10, 2) := by decide +kernel
theorem dX9_way_200 : decode cX9_way 200 = .ok (.iaload, 1) := by decide +kernel
theorem dX9_way_201 : decode cX9_way 201 = .ok (.ldc_w 311, 3) := by decide +kernel
theorem dX9_way_204 : decode cX9_way 204 = .ok (.if_icmp .ge 51, 3) := by decide +kernel
theorem dX9_way_207 : decode cX9_way 207 = .ok (.iload 10, 2) := by decide +kernel
theorem dX9_way_209 : decode cX9_way 209 = .ok (.iload 11, 2) := by decide +kernel
theorem dX9_way_211 : decode cX9_way 211 = .ok (.invokestatic 328, 3) := by decide +kernel
theorem dX9_way_214 : decode cX9_way 214 = .ok (.ifCond .eq 41, 3) := by decide +kernel
theorem dX9_way_217 : decode cX9_way 217 = .ok (.aload_n 0, 1) := by decide +kernel
theorem dX9_way_218 : decode cX9_way 218 = .ok (.getfield 81, 3) := by decide +kernel
theorem dX9_way_221 : decode cX9_way 221 = .ok (.iload 11, 2) := by decide +kernel
theorem dX9_way_223 : decode cX9_way 223 = .ok (.iaload, 1) := by decide +kernel
theorem dX9_way_224 : decode cX9_way 224 = .ok (.iload 4, 2) := by decide +kernel
theorem dX9_way_226 : decode cX9_way 226 = .ok (.if_icmp .gt 29, 3) := by decide +kernel
theorem dX9_way_229 : decode cX9_way 229 = .ok (.aload_n 0, 1) := by decide +kernel
theorem dX9_way_230 : decode cX9_way 230 = .ok (.getfield 84, 3) := by decide +kernel
theorem dX9_way_233 : decode cX9_way 233 = .ok (.iload 11, 2) := by decide +kernel
theorem dX9_way_235 : decode cX9_way 235 = .ok (.iaload, 1) := by decide +kernel
theorem dX9_way_236 : decode cX9_way 236 = .ok (.ifCond .eq 15, 3) := by decide +kernel
theorem dX9_way_239 : decode cX9_way 239 = .ok (.aload_n 0, 1) := by decide +kernel
theorem dX9_way_240 : decode cX9_way 240 = .ok (.getfield 84, 3) := by decide +kernel
theorem dX9_way_243 : decode cX9_way 243 = .ok (.iload 11, 2) := by decide +kernel
theorem dX9_way_245 : decode cX9_way 245 = .ok (.iaload, 1) := by decide +kernel
theorem dX9_way_246 : decode cX9_way 246 = .ok (.iload 6, 2) := by decide +kernel
theorem dX9_way_248 : decode cX9_way 248 = .ok (.if_icmp .le 7, 3) := by decide +kernel
theorem dX9_way_251 : decode cX9_way 251 = .ok (.iconst 1, 1) := by decide +kernel
theorem dX9_way_252 : decode cX9_way 252 = .ok (.goto 4, 3) := by decide +kernel
theorem dX9_way_255 : decode cX9_way 255 = .ok (.iconst 0, 1) := by decide +kernel
theorem dX9_way_256 : decode cX9_way 256 = .ok (.istore 12, 2) := by decide +kernel
theorem dX9_way_258 : decode cX9_way 258 = .ok (.iload 12, 2) := by decide +kernel
theorem dX9_way_260 : decode cX9_way 260 = .ok (.ifCond .eq 61, 3) := by decide +kernel
theorem dX9_way_263 : decode cX9_way 263 = .ok (.aload_n 0, 1) := by decide +kernel
theorem dX9_way_264 : decode cX9_way 264 = .ok (.getfield 87, 3) := by decide +kernel
theorem dX9_way_267 : decode cX9_way 267 = .ok (.iload 10, 2) := by decide +kernel
theorem dX9_way_269 : decode cX9_way 269 = .ok (.iaload, 1) := by decide +kernel
theorem dX9_way_270 : decode cX9_way 270 = .ok (.sipush 10000, 3) := by decide +kernel
theorem dX9_way_273 : decode cX9_way 273 = .ok (.iadd, 1) := by decide +kernel
theorem dX9_way_274 : decode cX9_way 274 = .ok (.aload_n 0, 1) := by decide +kernel
theorem dX9_way_275 : decode cX9_way 275 = .ok (.getfield 81, 3) := by decide +kernel
theorem dX9_way_278 : decode cX9_way 278 = .ok (.iload 11, 2) := by decide +kernel
theorem dX9_way_280 : decode cX9_way 280 = .ok (.iaload, 1) := by decide +kernel
theorem dX9_way_281 : decode cX9_way 281 = .ok (.iadd, 1) := by decide +kernel
theorem dX9_way_282 : decode cX9_way 282 = .ok (.aload_n 0, 1) := by decide +kernel
theorem dX9_way_283 : decode cX9_way 283 = .ok (.getfield 87, 3) := by decide +kernel
theorem dX9_way_286 : decode cX9_way 286 = .ok (.iload 11, 2) := by decide +kernel
theorem dX9_way_288 : decode cX9_way 288 = .ok (.iaload, 1) := by decide +kernel
theorem dX9_way_289 : decode cX9_way 289 = .ok (.if_icmp .ge 32, 3) := by decide +kernel
theorem dX9_way_292 : decode cX9_way 292 = .ok (.aload_n 0, 1) := by decide +kernel
theorem dX9_way_293 : decode cX9_way 293 = .ok (.getfield 87, 3) := by decide +kernel
theorem dX9_way_296 : decode cX9_way 296 = .ok (.iload 11, 2) := by decide +kernel
theorem dX9_way_298 : decode cX9_way 298 = .ok (.aload_n 0, 1) := by decide +kernel
theorem dX9_way_299 : decode cX9_way 299 = .ok (.getfield 87, 3) := by decide +kernel
theorem dX9_way_302 : decode cX9_way 302 = .ok (.iload 10, 2) := by decide +kernel
theorem dX9_way_304 : decode cX9_way 304 = .ok (.iaload, 1) := by decide +kernel
theorem dX9_way_305 : decode cX9_way 305 = .ok (.sipush 10000, 3) := by decide +kernel
theorem dX9_way_308 : decode cX9_way 308 = .ok (.iadd, 1) := by decide +kernel
theorem dX9_way_309 : decode cX9_way 309 = .ok (.aload_n 0, 1) := by decide +kernel
theorem dX9_way_310 : decode cX9_way 310 = .ok (.getfield 81, 3) := by decide +kernel
theorem dX9_way_313 : decode cX9_way 313 = .ok (.iload 11, 2) := by decide +kernel
theorem dX9_way_315 : decode cX9_way 315 = .ok (.iaload, 1) := by decide +kernel
theorem dX9_way_316 : decode cX9_way 316 = .ok (.iadd, 1) := by decide +kernel
theorem dX9_way_317 : decode cX9_way 317 = .ok (.iastore, 1) := by decide +kernel
theorem dX9_way_318 : decode cX9_way 318 = .ok (.iconst 1, 1) := by decide +kernel
theorem dX9_way_319 : decode cX9_way 319 = .ok (.istore 8, 2) := by decide +kernel
theorem dX9_way_321 : decode cX9_way 321 = .ok (.iinc 9 1, 3) := by decide +kernel
theorem dX9_way_324 : decode cX9_way 324 = .ok (.goto (-152), 3) := by decide +kernel
theorem dX9_way_327 : decode cX9_way 327 = .ok (.goto (-166), 3) := by decide +kernel
theorem dX9_way_330 : decode cX9_way 330 = .ok (.aload_n 0, 1) := by decide +kernel
theorem dX9_way_331 : decode cX9_way 331 = .ok (.getfield 87, 3) := by decide +kernel
theorem dX9_way_334 : decode cX9_way 334 = .ok (.iload_n 3, 1) := by decide +kernel
theorem dX9_way_335 : decode cX9_way 335 = .ok (.iaload, 1) := by decide +kernel
theorem dX9_way_336 : decode cX9_way 336 = .ok (.ldc_w 311, 3) := by decide +kernel
theorem dX9_way_339 : decode cX9_way 339 = .ok (.if_icmp .ne 7, 3) := by decide +kernel
theorem dX9_way_342 : decode cX9_way 342 = .ok (.iconst (-1), 1) := by decide +kernel
theorem dX9_way_343 : decode cX9_way 343 = .ok (.goto 31, 3) := by decide +kernel
theorem dX9_way_346 : decode cX9_way 346 = .ok (.iload 5, 2) := by decide +kernel
theorem dX9_way_348 : decode cX9_way 348 = .ok (.ifCond .ne 16, 3) := by decide +kernel
theorem dX9_way_351 : decode cX9_way 351 = .ok (.aload_n 0, 1) := by decide +kernel
theorem dX9_way_352 : decode cX9_way 352 = .ok (.getfield 87, 3) := by decide +kernel
theorem dX9_way_355 : decode cX9_way 355 = .ok (.iload_n 3, 1) := by decide +kernel
theorem dX9_way_356 : decode cX9_way 356 = .ok (.iaload, 1) := by decide +kernel
theorem dX9_way_357 : decode cX9_way 357 = .ok (.sipush 10000, 3) := by decide +kernel
theorem dX9_way_360 : decode cX9_way 360 = .ok (.idiv, 1) := by decide +kernel
theorem dX9_way_361 : decode cX9_way 361 = .ok (.goto 13, 3) := by decide +kernel
theorem dX9_way_364 : decode cX9_way 364 = .ok (.aload_n 0, 1) := by decide +kernel
theorem dX9_way_365 : decode cX9_way 365 = .ok (.getfield 87, 3) := by decide +kernel
theorem dX9_way_368 : decode cX9_way 368 = .ok (.iload_n 3, 1) := by decide +kernel
theorem dX9_way_369 : decode cX9_way 369 = .ok (.iaload, 1) := by decide +kernel
theorem dX9_way_370 : decode cX9_way 370 = .ok (.sipush 10000, 3) := by decide +kernel
theorem dX9_way_373 : decode cX9_way 373 = .ok (.irem, 1) := by decide +kernel
theorem dX9_way_374 : decode cX9_way 374 = .ok (.ireturn, 1) := by decide +kernel
theorem dX9_count_0 : decode cX9_count 0 = .ok (.iload_n 1, 1) := by decide +kernel
theorem dX9_count_1 : decode cX9_count 1 = .ok (.tableswitch 123 0 11 #[63, 68, 73, 78, 83, 88, 93, 98, 103, 108, 113, 118], 63) := by decide +kernel
theorem dX9_count_64 : decode cX9_count 64 = .ok (.aload_n 0, 1) := by decide +kernel
theorem dX9_count_65 : decode cX9_count 65 = .ok (.getfield 28, 3) := by decide +kernel
theorem dX9_count_68 : decode cX9_count 68 = .ok (.ireturn, 1) := by decide +kernel
theorem dX9_count_69 : decode cX9_count 69 = .ok (.aload_n 0, 1) := by decide +kernel
theorem dX9_count_70 : decode cX9_count 70 = .ok (.getfield 32, 3) := by decide +kernel
theorem dX9_count_73 : decode cX9_count 73 = .ok (.ireturn, 1) := by decide +kernel
theorem dX9_count_74 : decode cX9_count 74 = .ok (.aload_n 0, 1) := by decide +kernel
theorem dX9_count_75 : decode cX9_count 75 = .ok (.getfield 35, 3) := by decide +kernel
theorem dX9_count_78 : decode cX9_count 78 = .ok (.ireturn, 1) := by decide +kernel
theorem dX9_count_79 : decode cX9_count 79 = .ok (.aload_n 0, 1) := by decide +kernel
theorem dX9_count_80 : decode cX9_count 80 = .ok (.getfield 38, 3) := by decide +kernel
theorem dX9_count_83 : decode cX9_count 83 = .ok (.ireturn, 1) := by decide +kernel
theorem dX9_count_84 : decode cX9_count 84 = .ok (.aload_n 0, 1) := by decide +kernel
theorem dX9_count_85 : decode cX9_count 85 = .ok (.getfield 174, 3) := by decide +kernel
theorem dX9_count_88 : decode cX9_count 88 = .ok (.ireturn, 1) := by decide +kernel
theorem dX9_count_89 : decode cX9_count 89 = .ok (.aload_n 0, 1) := by decide +kernel
theorem dX9_count_90 : decode cX9_count 90 = .ok (.getfield 41, 3) := by decide +kernel
theorem dX9_count_93 : decode cX9_count 93 = .ok (.ireturn, 1) := by decide +kernel
theorem dX9_count_94 : decode cX9_count 94 = .ok (.aload_n 0, 1) := by decide +kernel
theorem dX9_count_95 : decode cX9_count 95 = .ok (.getfield 44, 3) := by decide +kernel
theorem dX9_count_98 : decode cX9_count 98 = .ok (.ireturn, 1) := by decide +kernel
theorem dX9_count_99 : decode cX9_count 99 = .ok (.aload_n 0, 1) := by decide +kernel
theorem dX9_count_100 : decode cX9_count 100 = .ok (.getfield 47, 3) := by decide +kernel
theorem dX9_count_103 : decode cX9_count 103 = .ok (.ireturn, 1) := by decide +kernel
theorem dX9_count_104 : decode cX9_count 104 = .ok (.aload_n 0, 1) := by decide +kernel
theorem dX9_count_105 : decode cX9_count 105 = .ok (.getfield 177, 3) := by decide +kernel
theorem dX9_count_108 : decode cX9_count 108 = .ok (.ireturn, 1) := by decide +kernel
theorem dX9_count_109 : decode cX9_count 109 = .ok (.aload_n 0, 1) := by decide +kernel
theorem dX9_count_110 : decode cX9_count 110 = .ok (.getfield 180, 3) := by decide +kernel
theorem dX9_count_113 : decode cX9_count 113 = .ok (.ireturn, 1) := by decide +kernel
theorem dX9_count_114 : decode cX9_count 114 = .ok (.aload_n 0, 1) := by decide +kernel
theorem dX9_count_115 : decode cX9_count 115 = .ok (.getfield 302, 3) := by decide +kernel
theorem dX9_count_118 : decode cX9_count 118 = .ok (.ireturn, 1) := by decide +kernel
theorem dX9_count_119 : decode cX9_count 119 = .ok (.aload_n 0, 1) := by decide +kernel
theorem dX9_count_120 : decode cX9_count 120 = .ok (.getfield 96, 3) := by decide +kernel
theorem dX9_count_123 : decode cX9_count 123 = .ok (.ireturn, 1) := by decide +kernel
theorem dX9_count_124 : decode cX9_count 124 = .ok (.bipush (-3), 2) := by decide +kernel
theorem dX9_count_126 : decode cX9_count 126 = .ok (.ireturn, 1) := by decide +kernel
end
section
theorem dJ9_abs_0f7a4_0 : decode cJ9_abs_0f7a4 0 = .ok (.iload_n 0, 1) := by decide +kernel
theorem dJ9_abs_0f7a4_1 : decode cJ9_abs_0f7a4 1 = .ok (.ifCond .ge 8, 3) := by decide +kernel
theorem dJ9_abs_0f7a4_4 : decode cJ9_abs_0f7a4 4 = .ok (.iload_n 0, 1) := by decide +kernel
theorem dJ9_abs_0f7a4_5 : decode cJ9_abs_0f7a4 5 = .ok (.ineg, 1) := by decide +kernel
theorem dJ9_abs_0f7a4_6 : decode cJ9_abs_0f7a4 6 = .ok (.goto 4, 3) := by decide +kernel
theorem dJ9_abs_0f7a4_9 : decode cJ9_abs_0f7a4 9 = .ok (.iload_n 0, 1) := by decide +kernel
theorem dJ9_abs_0f7a4_10 : decode cJ9_abs_0f7a4 10 = .ok (.ireturn, 1) := by decide +kernel
theorem dJ9_max_7cf53_0 : decode cJ9_max_7cf53 0 = .ok (.iload_n 0, 1) := by decide +kernel
theorem dJ9_max_7cf53_1 : decode cJ9_max_7cf53 1 = .ok (.iload_n 1, 1) := by decide +kernel
theorem dJ9_max_7cf53_2 : decode cJ9_max_7cf53 2 = .ok (.if_icmp .lt 7, 3) := by decide +kernel
theorem dJ9_max_7cf53_5 : decode cJ9_max_7cf53 5 = .ok (.iload_n 0, 1) := by decide +kernel
theorem dJ9_max_7cf53_6 : decode cJ9_max_7cf53 6 = .ok (.goto 4, 3) := by decide +kernel
theorem dJ9_max_7cf53_9 : decode cJ9_max_7cf53 9 = .ok (.iload_n 1, 1) := by decide +kernel
theorem dJ9_max_7cf53_10 : decode cJ9_max_7cf53 10 = .ok (.ireturn, 1) := by decide +kernel
theorem dJ9_min_7cf53_0 : decode cJ9_min_7cf53 0 = .ok (.iload_n 0, 1) := by decide +kernel
theorem dJ9_min_7cf53_1 : decode cJ9_min_7cf53 1 = .ok (.iload_n 1, 1) := by decide +kernel
theorem dJ9_min_7cf53_2 : decode cJ9_min_7cf53 2 = .ok (.if_icmp .gt 7, 3) := by decide +kernel
theorem dJ9_min_7cf53_5 : decode cJ9_min_7cf53 5 = .ok (.iload_n 0, 1) := by decide +kernel
theorem dJ9_min_7cf53_6 : decode cJ9_min_7cf53 6 = .ok (.goto 4, 3) := by decide +kernel
theorem dJ9_min_7cf53_9 : decode cJ9_min_7cf53 9 = .ok (.iload_n 1, 1) := by decide +kernel
theorem dJ9_min_7cf53_10 : decode cJ9_min_7cf53 10 = .ok (.ireturn, 1) := by decide +kernel
theorem dJ0_length_8abf5_0 : decode cJ0_length_8abf5 0 = .ok (.aload_n 0, 1) := by decide +kernel
theorem dJ0_length_8abf5_1 : decode cJ0_length_8abf5 1 = .ok (.getfield 9, 3) := by decide +kernel
theorem dJ0_length_8abf5_4 : decode cJ0_length_8abf5 4 = .ok (.arraylength, 1) := by decide +kernel
theorem dJ0_length_8abf5_5 : decode cJ0_length_8abf5 5 = .ok (.aload_n 0, 1) := by decide +kernel
theorem dJ0_length_8abf5_6 : decode cJ0_length_8abf5 6 = .ok (.invokevirtual 335, 3) := by decide +kernel
theorem dJ0_length_8abf5_9 : decode cJ0_length_8abf5 9 = .ok (.ishr, 1) := by decide +kernel
theorem dJ0_length_8abf5_10 : decode cJ0_length_8abf5 10 = .ok (.ireturn, 1) := by decide +kernel
theorem dJ0_charAt_5068e_0 : decode cJ0_charAt_5068e 0 = .ok (.aload_n 0, 1) := by decide +kernel
theorem dJ0_charAt_5068e_1 : decode cJ0_charAt_5068e 1 = .ok (.invokevirtual 492, 3) := by decide +kernel
theorem dJ0_charAt_5068e_4 : decode cJ0_charAt_5068e 4 = .ok (.ifCond .eq 12, 3) := by decide +kernel
theorem dJ0_charAt_5068e_7 : decode cJ0_charAt_5068e 7 = .ok (.aload_n 0, 1) := by decide +kernel
theorem dJ0_charAt_5068e_8 : decode cJ0_charAt_5068e 8 = .ok (.getfield 9, 3) := by decide +kernel
theorem dJ0_charAt_5068e_11 : decode cJ0_charAt_5068e 11 = .ok (.iload_n 1, 1) := by decide +kernel
theorem dJ0_charAt_5068e_12 : decode cJ0_charAt_5068e 12 = .ok (.invokestatic 495, 3) := by decide +kernel
theorem dJ0_charAt_5068e_15 : decode cJ0_charAt_5068e 15 = .ok (.ireturn, 1) := by decide +kernel
theorem dJ0_charAt_5068e_16 : decode cJ0_charAt_5068e 16 = .ok (.aload_n 0, 1) := by decide +kernel
theorem dJ0_charAt_5068e_17 : decode cJ0_charAt_5068e 17 = .ok (.getfield 9, 3) := by decide +kernel
theorem dJ0_charAt_5068e_20 : decode cJ0_charAt_5068e 20 = .ok (.iload_n 1, 1) := by decide +kernel
theorem dJ0_charAt_5068e_21 : decode cJ0_charAt_5068e 21 = .ok (.invokestatic 498, 3) := by decide +kernel
theorem dJ0_charAt_5068e_24 : decode cJ0_charAt_5068e 24 = .ok (.ireturn, 1) := by decide +kernel
theorem dJ0_coder_7d493_0 : decode cJ0_coder_7d493 0 = .ok (.getstatic 38, 3) := by decide +kernel
theorem dJ0_coder_7d493_3 : decode cJ0_coder_7d493 3 = .ok (.ifCond .eq 10, 3) := by decide +kernel
theorem dJ0_coder_7d493_6 : decode cJ0_coder_7d493 6 = .ok (.aload_n 0, 1) := by decide +kernel
theorem dJ0_coder_7d493_7 : decode cJ0_coder_7d493 7 = .ok (.getfield 15, 3) := by decide +kernel
theorem dJ0_coder_7d493_10 : decode cJ0_coder_7d493 10 = .ok (.goto 4, 3) := by decide +kernel
theorem dJ0_coder_7d493_13 : decode cJ0_coder_7d493 13 = .ok (.iconst 1, 1) := by decide +kernel
theorem dJ0_coder_7d493_14 : decode cJ0_coder_7d493 14 = .ok (.ireturn, 1) := by decide +kernel
theorem dJ0_isLatin1_aae02_0 : decode cJ0_isLatin1_aae02 0 = .ok (.getstatic 38, 3) := by decide +kernel
theorem dJ0_isLatin1_aae02_3 : decode cJ0_isLatin1_aae02 3 = .ok (.ifCond .eq 14, 3) := by decide +kernel
theorem dJ0_isLatin1_aae02_6 : decode cJ0_isLatin1_aae02 6 = .ok (.aload_n 0, 1) := by decide +kernel
theorem dJ0_isLatin1_aae02_7 : decode cJ0_isLatin1_aae02 7 = .ok (.getfield 15, 3) := by decide +kernel
theorem dJ0_isLatin1_aae02_10 : decode cJ0_isLatin1_aae02 10 = .ok (.ifCond .ne 7, 3) := by decide +kernel
theorem dJ0_isLatin1_aae02_13 : decode cJ0_isLatin1_aae02 13 = .ok (.iconst 1, 1) := by decide +kernel
theorem dJ0_isLatin1_aae02_14 : decode cJ0_isLatin1_aae02 14 = .ok (.goto 4, 3) := by decide +kernel
theorem dJ0_isLatin1_aae02_17 : decode cJ0_isLatin1_aae02 17 = .ok (.iconst 0, 1) := by decide +kernel
theorem dJ0_isLatin1_aae02_18 : decode cJ0_isLatin1_aae02 18 = .ok (.ireturn, 1) := by decide +kernel
theorem dJ0_checkIndex_df160_0 : decode cJ0_checkIndex_df160 0 = .ok (.iload_n 0, 1) := by decide +kernel
theorem dJ0_checkIndex_df160_1 : decode cJ0_checkIndex_df160 1 = .ok (.iload_n 1, 1) := by decide +kernel
theorem dJ0_checkIndex_df160_2 : decode cJ0_checkIndex_df160 2 = .ok (.getstatic 1053, 3) := by decide +kernel
theorem dJ0_checkIndex_df160_5 : decode cJ0_checkIndex_df160 5 = .ok (.invokestatic 1059, 3) := by decide +kernel
theorem dJ0_checkIndex_df160_8 : decode cJ0_checkIndex_df160 8 = .ok (.pop, 1) := by decide +kernel
theorem dJ0_checkIndex_df160_9 : decode cJ0_checkIndex_df160 9 = .ok (.return_, 1) := by decide +kernel
theorem dJ1_charAt_3b067_0 : decode cJ1_charAt_3b067 0 = .ok (.iload_n 1, 1) := by decide +kernel
theorem dJ1_charAt_3b067_1 : decode cJ1_charAt_3b067 1 = .ok (.aload_n 0, 1) := by decide +kernel
theorem dJ1_charAt_3b067_2 : decode cJ1_charAt_3b067 2 = .ok (.arraylength, 1) := by decide +kernel
theorem dJ1_charAt_3b067_3 : decode cJ1_charAt_3b067 3 = .ok (.invokestatic 9, 3) := by decide +kernel
theorem dJ1_charAt_3b067_6 : decode cJ1_charAt_3b067 6 = .ok (.aload_n 0, 1) := by decide +kernel
theorem dJ1_charAt_3b067_7 : decode cJ1_charAt_3b067 7 = .ok (.iload_n 1, 1) := by decide +kernel
theorem dJ1_charAt_3b067_8 : decode cJ1_charAt_3b067 8 = .ok (.baload, 1) := by decide +kernel
theorem dJ1_charAt_3b067_9 : decode cJ1_charAt_3b067 9 = .ok (.sipush 255, 3) := by decide +kernel
theorem dJ1_charAt_3b067_12 : decode cJ1_charAt_3b067 12 = .ok (.iand, 1) := by decide +kernel
theorem dJ1_charAt_3b067_13 : decode cJ1_charAt_3b067 13 = .ok (.i2c, 1) := by decide +kernel
theorem dJ1_charAt_3b067_14 : decode cJ1_charAt_3b067 14 = .ok (.ireturn, 1) := by decide +kernel
theorem dJ2_getChar_3b067_0 : decode cJ2_getChar_3b067 0 = .ok (.getstatic 44, 3) := by decide +kernel
theorem dJ2_getChar_3b067_3 : decode cJ2_getChar_3b067 3 = .ok (.ifCond .ne 25, 3) := by decide +kernel
theorem dJ2_getChar_3b067_6 : decode cJ2_getChar_3b067 6 = .ok (.iload_n 1, 1) := by decide +kernel
theorem dJ2_getChar_3b067_7 : decode cJ2_getChar_3b067 7 = .ok (.ifCond .lt 11, 3) := by decide +kernel
theorem dJ2_getChar_3b067_10 : decode cJ2_getChar_3b067 10 = .ok (.iload_n 1, 1) := by decide +kernel
theorem dJ2_getChar_3b067_11 : decode cJ2_getChar_3b067 11 = .ok (.aload_n 0, 1) := by decide +kernel
theorem dJ2_getChar_3b067_12 : decode cJ2_getChar_3b067 12 = .ok (.invokestatic 48, 3) := by decide +kernel
theorem dJ2_getChar_3b067_15 : decode cJ2_getChar_3b067 15 = .ok (.if_icmp .lt 13, 3) := by decide +kernel
theorem dJ2_getChar_3b067_18 : decode cJ2_getChar_3b067 18 = .ok (.new 52, 3) := by decide +kernel
theorem dJ2_getChar_3b067_21 : decode cJ2_getChar_3b067 21 = .ok (.dup, 1) := by decide +kernel
theorem dJ2_getChar_3b067_22 : decode cJ2_getChar_3b067 22 = .ok (.ldc 54, 2) := by decide +kernel
theorem dJ2_getChar_3b067_24 : decode cJ2_getChar_3b067 24 = .ok (.invokespecial 56, 3) := by decide +kernel
theorem dJ2_getChar_3b067_27 : decode cJ2_getChar_3b067 27 = .ok (.athrow, 1) := by decide +kernel
theorem dJ2_getChar_3b067_28 : decode cJ2_getChar_3b067 28 = .ok (.iload_n 1, 1) := by decide +kernel
theorem dJ2_getChar_3b067_29 : decode cJ2_getChar_3b067 29 = .ok (.iconst 1, 1) := by decide +kernel
theorem dJ2_getChar_3b067_30 : decode cJ2_getChar_3b067 30 = .ok (.ishl, 1) := by decide +kernel
theorem dJ2_getChar_3b067_31 : decode cJ2_getChar_3b067 31 = .ok (.istore_n 1, 1) := by decide +kernel
theorem dJ2_getChar_3b067_32 : decode cJ2_getChar_3b067 32 = .ok (.aload_n 0, 1) := by decide +kernel
theorem dJ2_getChar_3b067_33 : decode cJ2_getChar_3b067 33 = .ok (.iload_n 1, 1) := by decide +kernel
theorem dJ2_getChar_3b067_34 : decode cJ2_getChar_3b067 34 = .ok (.iinc 1 1, 3) := by decide +kernel
theorem dJ2_getChar_3b067_37 : decode cJ2_getChar_3b067 37 = .ok (.baload, 1) := by decide +kernel
theorem dJ2_getChar_3b067_38 : decode cJ2_getChar_3b067 38 = .ok (.sipush 255, 3) := by decide +kernel
theorem dJ2_getChar_3b067_41 : decode cJ2_getChar_3b067 41 = .ok (.iand, 1) := by decide +kernel
theorem dJ2_getChar_3b067_42 : decode cJ2_getChar_3b067 42 = .ok (.getstatic 59, 3) := by decide +kernel
theorem dJ2_getChar_3b067_45 : decode cJ2_getChar_3b067 45 = .ok (.ishl, 1) := by decide +kernel
theorem dJ2_getChar_3b067_46 : decode cJ2_getChar_3b067 46 = .ok (.aload_n 0, 1) := by decide +kernel
theorem dJ2_getChar_3b067_47 : decode cJ2_getChar_3b067 47 = .ok (.iload_n 1, 1) := by decide +kernel
theorem dJ2_getChar_3b067_48 : decode cJ2_getChar_3b067 48 = .ok (.baload, 1) := by decide +kernel
theorem dJ2_getChar_3b067_49 : decode cJ2_getChar_3b067 49 = .ok (.sipush 255, 3) := by decide +kernel
theorem dJ2_getChar_3b067_52 : decode cJ2_getChar_3b067 52 = .ok (.iand, 1) := by decide +kernel
theorem dJ2_getChar_3b067_53 : decode cJ2_getChar_3b067 53 = .ok (.getstatic 63, 3) := by decide +kernel
theorem dJ2_getChar_3b067_56 : decode cJ2_getChar_3b067 56 = .ok (.ishl, 1) := by decide +kernel
theorem dJ2_getChar_3b067_57 : decode cJ2_getChar_3b067 57 = .ok (.ior, 1) := by decide +kernel
theorem dJ2_getChar_3b067_58 : decode cJ2_getChar_3b067 58 = .ok (.i2c, 1) := by decide +kernel
theorem dJ2_getChar_3b067_59 : decode cJ2_getChar_3b067 59 = .ok (.ireturn, 1) := by decide +kernel
theorem dJ2_length_9d52b_0 : decode cJ2_length_9d52b 0 = .ok (.aload_n 0, 1) := by decide +kernel
theorem dJ2_length_9d52b_1 : decode cJ2_length_9d52b 1 = .ok (.arraylength, 1) := by decide +kernel
theorem dJ2_length_9d52b_2 : decode cJ2_length_9d52b 2 = .ok (.iconst 1, 1) := by decide +kernel
theorem dJ2_length_9d52b_3 : decode cJ2_length_9d52b 3 = .ok (.ishr, 1) := by decide +kernel
theorem dJ2_length_9d52b_4 : decode cJ2_length_9d52b 4 = .ok (.ireturn, 1) := by decide +kernel
theorem dJ2_charAt_3b067_0 : decode cJ2_charAt_3b067 0 = .ok (.iload_n 1, 1) := by decide +kernel
theorem dJ2_charAt_3b067_1 : decode cJ2_charAt_3b067 1 = .ok (.aload_n 0, 1) := by decide +kernel
theorem dJ2_charAt_3b067_2 : decode cJ2_charAt_3b067 2 = .ok (.invokestatic 67, 3) := by decide +kernel
theorem dJ2_charAt_3b067_5 : decode cJ2_charAt_3b067 5 = .ok (.aload_n 0, 1) := by decide +kernel
theorem dJ2_charAt_3b067_6 : decode cJ2_charAt_3b067 6 = .ok (.iload_n 1, 1) := by decide +kernel
theorem dJ2_charAt_3b067_7 : decode cJ2_charAt_3b067 7 = .ok (.invokestatic 71, 3) := by decide +kernel
theorem dJ2_charAt_3b067_10 : decode cJ2_charAt_3b067 10 = .ok (.ireturn, 1) := by decide +kernel
theorem dJ2_checkIndex_2214a_0 : decode cJ2_checkIndex_2214a 0 = .ok (.iload_n 0, 1) := by decide +kernel
theorem dJ2_checkIndex_2214a_1 : decode cJ2_checkIndex_2214a 1 = .ok (.aload_n 1, 1) := by decide +kernel
theorem dJ2_checkIndex_2214a_2 : decode cJ2_checkIndex_2214a 2 = .ok (.invokestatic 48, 3) := by decide +kernel
theorem dJ2_checkIndex_2214a_5 : decode cJ2_checkIndex_2214a 5 = .ok (.invokestatic 414, 3) := by decide +kernel
theorem dJ2_checkIndex_2214a_8 : decode cJ2_checkIndex_2214a 8 = .ok (.return_, 1) := by decide +kernel
theorem dJ3_checkIndex_8e157_0 : decode cJ3_checkIndex_8e157 0 = .ok (.iload_n 0, 1) := by decide +kernel
theorem dJ3_checkIndex_8e157_1 : decode cJ3_checkIndex_8e157 1 = .ok (.ifCond .lt 8, 3) := by decide +kernel
theorem dJ3_checkIndex_8e157_4 : decode cJ3_checkIndex_8e157 4 = .ok (.iload_n 0, 1) := by decide +kernel
theorem dJ3_checkIndex_8e157_5 : decode cJ3_checkIndex_8e157 5 = .ok (.iload_n 1, 1) := by decide +kernel
theorem dJ3_checkIndex_8e157_6 : decode cJ3_checkIndex_8e157 6 = .ok (.if_icmp .lt 10, 3) := by decide +kernel
theorem dJ3_checkIndex_8e157_9 : decode cJ3_checkIndex_8e157 9 = .ok (.aload_n 2, 1) := by decide +kernel
theorem dJ3_checkIndex_8e157_10 : decode cJ3_checkIndex_8e157 10 = .ok (.iload_n 0, 1) := by decide +kernel
theorem dJ3_checkIndex_8e157_11 : decode cJ3_checkIndex_8e157 11 = .ok (.iload_n 1, 1) := by decide +kernel
theorem dJ3_checkIndex_8e157_12 : decode cJ3_checkIndex_8e157 12 = .ok (.invokestatic 95, 3) := by decide +kernel
theorem dJ3_checkIndex_8e157_15 : decode cJ3_checkIndex_8e157 15 = .ok (.athrow, 1) := by decide +kernel
theorem dJ3_checkIndex_8e157_16 : decode cJ3_checkIndex_8e157 16 = .ok (.iload_n 0, 1) := by decide +kernel
theorem dJ3_checkIndex_8e157_17 : decode cJ3_checkIndex_8e157 17 = .ok (.ireturn, 1) := by decide +kernel
theorem dL_law_0 : decode cL_law 0 = .ok (.new 7, 3) := by decide +kernel
theorem dL_law_3 : decode cL_law 3 = .ok (.dup, 1) := by decide +kernel
theorem dL_law_4 : decode cL_law 4 = .ok (.invokespecial 9, 3) := by decide +kernel
theorem dL_law_7 : decode cL_law 7 = .ok (.astore_n 1, 1) := by decide +kernel
theorem dL_law_8 : decode cL_law 8 = .ok (.new 10, 3) := by decide +kernel
theorem dL_law_11 : decode cL_law 11 = .ok (.dup, 1) := by decide +kernel
theorem dL_law_12 : decode cL_law 12 = .ok (.invokespecial 12, 3) := by decide +kernel
theorem dL_law_15 : decode cL_law 15 = .ok (.astore_n 2, 1) := by decide +kernel
theorem dL_law_16 : decode cL_law 16 = .ok (.iconst 0, 1) := by decide +kernel
theorem dL_law_17 : decode cL_law 17 = .ok (.istore_n 3, 1) := by decide +kernel
theorem dL_law_18 : decode cL_law 18 = .ok (.iload_n 3, 1) := by decide +kernel
theorem dL_law_19 : decode cL_law 19 = .ok (.aload_n 0, 1) := by decide +kernel
theorem dL_law_20 : decode cL_law 20 = .ok (.arraylength, 1) := by decide +kernel
theorem dL_law_21 : decode cL_law 21 = .ok (.bipush 7, 2) := by decide +kernel
theorem dL_law_23 : decode cL_law 23 = .ok (.isub, 1) := by decide +kernel
theorem dL_law_24 : decode cL_law 24 = .ok (.if_icmp .gt 1036, 3) := by decide +kernel
theorem dL_law_27 : decode cL_law 27 = .ok (.aload_n 0, 1) := by decide +kernel
theorem dL_law_28 : decode cL_law 28 = .ok (.iload_n 3, 1) := by decide +kernel
theorem dL_law_29 : decode cL_law 29 = .ok (.iaload, 1) := by decide +kernel
theorem dL_law_30 : decode cL_law 30 = .ok (.bipush 31, 2) := by decide +kernel
theorem dL_law_32 : decode cL_law 32 = .ok (.iand, 1) := by decide +kernel
theorem dL_law_33 : decode cL_law 33 = .ok (.tableswitch 1021 0 25 #[119, 182, 195, 208, 221, 254, 297, 340, 363, 386, 409, 432, 475, 508, 531, 574, 649, 682, 757, 790, 803, 826, 859, 892, 935, 998], 119) := by decide +kernel
theorem dL_law_152 : decode cL_law 152 = .ok (.aload_n 1, 1) := by decide +kernel
theorem dL_law_153 : decode cL_law 153 = .ok (.aload_n 0, 1) := by decide +kernel
theorem dL_law_154 : decode cL_law 154 = .ok (.iload_n 3, 1) := by decide +kernel
theorem dL_law_155 : decode cL_law 155 = .ok (.iconst 1, 1) := by decide +kernel
theorem dL_law_156 : decode cL_law 156 = .ok (.iadd, 1) := by decide +kernel
theorem dL_law_157 : decode cL_law 157 = .ok (.iaload, 1) := by decide +kernel
theorem dL_law_158 : decode cL_law 158 = .ok (.i2l, 1) := by decide +kernel
theorem dL_law_159 : decode cL_law 159 = .ok (.bipush 32, 2) := by decide +kernel
theorem dL_law_161 : decode cL_law 161 = .ok (.lshl, 1) := by decide +kernel
theorem dL_law_162 : decode cL_law 162 = .ok (.aload_n 0, 1) := by decide +kernel
theorem dL_law_163 : decode cL_law 163 = .ok (.iload_n 3, 1) := by decide +kernel
theorem dL_law_164 : decode cL_law 164 = .ok (.iconst 2, 1) := by decide +kernel
theorem dL_law_165 : decode cL_law 165 = .ok (.iadd, 1) := by decide +kernel
theorem dL_law_166 : decode cL_law 166 = .ok (.iaload, 1) := by decide +kernel
theorem dL_law_167 : decode cL_law 167 = .ok (.i2l, 1) := by decide +kernel
theorem dL_law_168 : decode cL_law 168 = .ok (.ldc2_w 13, 3) := by decide +kernel
theorem dL_law_171 : decode cL_law 171 = .ok (.land, 1) := by decide +kernel
theorem dL_law_172 : decode cL_law 172 = .ok (.lor, 1) := by decide +kernel
theorem dL_law_173 : decode cL_law 173 = .ok (.aload_n 0, 1) := by decide +kernel
theorem dL_law_174 : decode cL_law 174 = .ok (.iload_n 3, 1) := by decide +kernel
theorem dL_law_175 : decode cL_law 175 = .ok (.iconst 3, 1) := by decide +kernel
theorem dL_law_176 : decode cL_law 176 = .ok (.iadd, 1) := by decide +kernel
theorem dL_law_177 : decode cL_law 177 = .ok (.iaload, 1) := by decide +kernel
theorem dL_law_178 : decode cL_law 178 = .ok (.invokevirtual 15, 3) := by decide +kernel
theorem dL_law_181 : decode cL_law 181 = .ok (.aload_n 2, 1) := by decide +kernel
theorem dL_law_182 : decode cL_law 182 = .ok (.aload_n 0, 1) := by decide +kernel
theorem dL_law_183 : decode cL_law 183 = .ok (.iload_n 3, 1) := by decide +kernel
theorem dL_law_184 : decode cL_law 184 = .ok (.iconst 1, 1) := by decide +kernel
theorem dL_law_185 : decode cL_law 185 = .ok (.iadd, 1) := by decide +kernel
theorem dL_law_186 : decode cL_law 186 = .ok (.iaload, 1) := by decide +kernel
theorem dL_law_187 : decode cL_law 187 = .ok (.i2l, 1) := by decide +kernel
theorem dL_law_188 : decode cL_law 188 = .ok (.bipush 32, 2) := by decide +kernel
theorem dL_law_190 : decode cL_law 190 = .ok (.lshl, 1) := by decide +kernel
theorem dL_law_191 : decode cL_law 191 = .ok (.aload_n 0, 1) := by decide +kernel
theorem dL_law_192 : decode cL_law 192 = .ok (.iload_n 3, 1) := by decide +kernel
theorem dL_law_193 : decode cL_law 193 = .ok (.iconst 2, 1) := by decide +kernel
theorem dL_law_194 : decode cL_law 194 = .ok (.iadd, 1) := by decide +kernel
theorem dL_law_195 : decode cL_law 195 = .ok (.iaload, 1) := by decide +kernel
theorem dL_law_196 : decode cL_law 196 = .ok (.i2l, 1) := by decide +kernel
theorem dL_law_197 : decode cL_law 197 = .ok (.ldc2_w 13, 3) := by decide +kernel
theorem dL_law_200 : decode cL_law 200 = .ok (.land, 1) := by decide +kernel
theorem dL_law_201 : decode cL_law 201 = .ok (.lor, 1) := by decide +kernel
theorem dL_law_202 : decode cL_law 202 = .ok (.aload_n 0, 1) := by decide +kernel
theorem dL_law_203 : decode cL_law 203 = .ok (.iload_n 3, 1) := by decide +kernel
theorem dL_law_204 : decode cL_law 204 = .ok (.iconst 3, 1) := by decide +kernel
theorem dL_law_205 : decode cL_law 205 = .ok (.iadd, 1) := by decide +kernel
theorem dL_law_206 : decode cL_law 206 = .ok (.iaload, 1) := by decide +kernel
theorem dL_law_207 : decode cL_law 207 = .ok (.invokevirtual 19, 3) := by decide +kernel
theorem dL_law_210 : decode cL_law 210 = .ok (.if_icmp .eq 844, 3) := by decide +kernel
theorem dL_law_213 : decode cL_law 213 = .ok (.iconst 0, 1) := by decide +kernel
theorem dL_law_214 : decode cL_law 214 = .ok (.ireturn, 1) := by decide +kernel
theorem dL_law_215 : decode cL_law 215 = .ok (.aload_n 1, 1) := by decide +kernel
theorem dL_law_216 : decode cL_law 216 = .ok (.invokevirtual 20, 3) := by decide +kernel
theorem dL_law_219 : decode cL_law 219 = .ok (.aload_n 2, 1) := by decide +kernel
theorem dL_law_220 : decode cL_law 220 = .ok (.invokevirtual 24, 3) := by decide +kernel
theorem dL_law_223 : decode cL_law 223 = .ok (.if_icmp .eq 831, 3) := by decide +kernel
theorem dL_law_226 : decode cL_law 226 = .ok (.iconst 0, 1) := by decide +kernel
theorem dL_law_227 : decode cL_law 227 = .ok (.ireturn, 1) := by decide +kernel
theorem dL_law_228 : decode cL_law 228 = .ok (.aload_n 1, 1) := by decide +kernel
theorem dL_law_229 : decode cL_law 229 = .ok (.invokevirtual 25, 3) := by decide +kernel
theorem dL_law_232 : decode cL_law 232 = .ok (.aload_n 2, 1) := by decide +kernel
theorem dL_law_233 : decode cL_law 233 = .ok (.invokevirtual 28, 3) := by decide +kernel
theorem dL_law_236 : decode cL_law 236 = .ok (.if_icmp .eq 818, 3) := by decide +kernel
theorem dL_law_239 : decode cL_law 239 = .ok (.iconst 0, 1) := by decide +kernel
theorem dL_law_240 : decode cL_law 240 = .ok (.ireturn, 1) := by decide +kernel
theorem dL_law_241 : decode cL_law 241 = .ok (.aload_n 1, 1) := by decide +kernel
theorem dL_law_242 : decode cL_law 242 = .ok (.invokevirtual 29, 3) := by decide +kernel
theorem dL_law_245 : decode cL_law 245 = .ok (.aload_n 2, 1) := by decide +kernel
theorem dL_law_246 : decode cL_law 246 = .ok (.invokevirtual 32, 3) := by decide +kernel
theorem dL_law_249 : decode cL_law 249 = .ok (.if_icmp .eq 805, 3) := by decide +kernel
theorem dL_law_252 : decode cL_law 252 = .ok (.iconst 0, 1) := by decide +kernel
theorem dL_law_253 : decode cL_law 253 = .ok (.ireturn, 1) := by decide +kernel
theorem dL_law_254 : decode cL_law 254 = .ok (.aload_n 1, 1) := by decide +kernel
theorem dL_law_255 : decode cL_law 255 = .ok (.aload_n 0, 1) := by decide +kernel
theorem dL_law_256 : decode cL_law 256 = .ok (.iload_n 3, 1) := by decide +kernel
theorem dL_law_257 : decode cL_law 257 = .ok (.iconst 1, 1) := by decide +kernel
theorem dL_law_258 : decode cL_law 258 = .ok (.iadd, 1) := by decide +kernel
theorem dL_law_259 : decode cL_law 259 = .ok (.iaload, 1) := by decide +kernel
theorem dL_law_260 : decode cL_law 260 = .ok (.aload_n 0, 1) := by decide +kernel
theorem dL_law_261 : decode cL_law 261 = .ok (.iload_n 3, 1) := by decide +kernel
theorem dL_law_262 : decode cL_law 262 = .ok (.iconst 2, 1) := by decide +kernel
theorem dL_law_263 : decode cL_law 263 = .ok (.iadd, 1) := by decide +kernel
theorem dL_law_264 : decode cL_law 264 = .ok (.iaload, 1) := by decide +kernel
theorem dL_law_265 : decode cL_law 265 = .ok (.invokevirtual 33, 3) := by decide +kernel
theorem dL_law_268 : decode cL_law 268 = .ok (.aload_n 2, 1) := by decide +kernel
theorem dL_law_269 : decode cL_law 269 = .ok (.aload_n 0, 1) := by decide +kernel
theorem dL_law_270 : decode cL_law 270 = .ok (.iload_n 3, 1) := by decide +kernel
theorem dL_law_271 : decode cL_law 271 = .ok (.iconst 1, 1) := by decide +kernel
theorem dL_law_272 : decode cL_law 272 = .ok (.iadd, 1) := by decide +kernel
theorem dL_law_273 : decode cL_law 273 = .ok (.iaload, 1) := by decide +kernel
theorem dL_law_274 : decode cL_law 274 = .ok (.aload_n 0, 1) := by decide +kernel
theorem dL_law_275 : decode cL_law 275 = .ok (.iload_n 3, 1) := by decide +kernel
theorem dL_law_276 : decode cL_law 276 = .ok (.iconst 2, 1) := by decide +kernel
theorem dL_law_277 : decode cL_law 277 = .ok (.iadd, 1) := by decide +kernel
theorem dL_law_278 : decode cL_law 278 = .ok (.iaload, 1) := by decide +kernel
theorem dL_law_279 : decode cL_law 279 = .ok (.invokevirtual 37, 3) := by decide +kernel
theorem dL_law_282 : decode cL_law 282 = .ok (.if_icmp .eq 772, 3) := by decide +kernel
theorem dL_law_285 : decode cL_law 285 = .ok (.iconst 0, 1) := by decide +kernel
theorem dL_law_286 : decode cL_law 286 = .ok (.ireturn, 1) := by decide +kernel
theorem dL_law_287 : decode cL_law 287 = .ok (.aload_n 1, 1) := by decide +kernel
theorem dL_law_288 : decode cL_law 288 = .ok (.aload_n 0, 1) := by decide +kernel
theorem dL_law_289 : decode cL_law 289 = .ok (.iload_n 3, 1) := by decide +kernel
theorem dL_law_290 : decode cL_law 290 = .ok (.iconst 1, 1) := by decide +kernel
theorem dL_law_291 : decode cL_law 291 = .ok (.iadd, 1) := by decide +kernel
theorem dL_law_292 : decode cL_law 292 = .ok (.iaload, 1) := by decide +kernel
theorem dL_law_293 : decode cL_law 293 = .ok (.aload_n 0, 1) := by decide +kernel
theorem dL_law_294 : decode cL_law 294 = .ok (.iload_n 3, 1) := by decide +kernel
theorem dL_law_295 : decode cL_law 295 = .ok (.iconst 2, 1) := by decide +kernel
theorem dL_law_296 : decode cL_law 296 = .ok (.iadd, 1) := by decide +kernel
theorem dL_law_297 : decode cL_law 297 = .ok (.iaload, 1) := by decide +kernel
theorem dL_law_298 : decode cL_law 298 = .ok (.aload_n 0, 1) := by decide +kernel
theorem dL_law_299 : decode cL_law 299 = .ok (.iload_n 3, 1) := by decide +kernel
theorem dL_law_300 : decode cL_law 300 = .ok (.iconst 3, 1) := by decide +kernel
theorem dL_law_301 : decode cL_law 301 = .ok (.iadd, 1) := by decide +kernel
theorem dL_law_302 : decode cL_law 302 = .ok (.iaload, 1) := by decide +kernel
theorem dL_law_303 : decode cL_law 303 = .ok (.invokevirtual 38, 3) := by decide +kernel
theorem dL_law_306 : decode cL_law 306 = .ok (.aload_n 2, 1) := by decide +kernel
theorem dL_law_307 : decode cL_law 307 = .ok (.aload_n 0, 1) := by decide +kernel
theorem dL_law_308 : decode cL_law 308 = .ok (.iload_n 3, 1) := by decide +kernel
theorem dL_law_309 : decode cL_law 309 = .ok (.iconst 1, 1) := by decide +kernel
theorem dL_law_310 : decode cL_law 310 = .ok (.iadd, 1) := by decide +kernel
theorem dL_law_311 : decode cL_law 311 = .ok (.iaload, 1) := by decide +kernel
theorem dL_law_312 : decode cL_law 312 = .ok (.aload_n 0, 1) := by decide +kernel
theorem dL_law_313 : decode cL_law 313 = .ok (.iload_n 3, 1) := by decide +kernel
theorem dL_law_314 : decode cL_law 314 = .ok (.iconst 2, 1) := by decide +kernel
theorem dL_law_315 : decode cL_law 315 = .ok (.iadd, 1) := by decide +kernel
theorem dL_law_316 : decode cL_law 316 = .ok (.iaload, 1) := by decide +kernel
theorem dL_law_317 : decode cL_law 317 = .ok (.aload_n 0, 1) := by decide +kernel
theorem dL_law_318 : decode cL_law 318 = .ok (.iload_n 3, 1) := by decide +kernel
theorem dL_law_319 : decode cL_law 319 = .ok (.iconst 3, 1) := by decide +kernel
theorem dL_law_320 : decode cL_law 320 = .ok (.iadd, 1) := by decide +kernel
theorem dL_law_321 : decode cL_law 321 = .ok (.iaload, 1) := by decide +kernel
theorem dL_law_322 : decode cL_law 322 = .ok (.invokevirtual 42, 3) := by decide +kernel
theorem dL_law_325 : decode cL_law 325 = .ok (.if_icmp .eq 729, 3) := by decide +kernel
theorem dL_law_328 : decode cL_law 328 = .ok (.iconst 0, 1) := by decide +kernel
theorem dL_law_329 : decode cL_law 329 = .ok (.ireturn, 1) := by decide +kernel
theorem dL_law_330 : decode cL_law 330 = .ok (.aload_n 1, 1) := by decide +kernel
theorem dL_law_331 : decode cL_law 331 = .ok (.aload_n 0, 1) := by decide +kernel
theorem dL_law_332 : decode cL_law 332 = .ok (.iload_n 3, 1) := by decide +kernel
theorem dL_law_333 : decode cL_law 333 = .ok (.iconst 1, 1) := by decide +kernel
theorem dL_law_334 : decode cL_law 334 = .ok (.iadd, 1) := by decide +kernel
theorem dL_law_335 : decode cL_law 335 = .ok (.iaload, 1) := by decide +kernel
theorem dL_law_336 : decode cL_law 336 = .ok (.aload_n 0, 1) := by decide +kernel
theorem dL_law_337 : decode cL_law 337 = .ok (.iload_n 3, 1) := by decide +kernel
theorem dL_law_338 : decode cL_law 338 = .ok (.iconst 2, 1) := by decide +kernel
theorem dL_law_339 : decode cL_law 339 = .ok (.iadd, 1) := by decide +kernel
theorem dL_law_340 : decode cL_law 340 = .ok (.iaload, 1) := by decide +kernel
theorem dL_law_341 : decode cL_law 341 = .ok (.aload_n 0, 1) := by decide +kernel
theorem dL_law_342 : decode cL_law 342 = .ok (.iload_n 3, 1) := by decide +kernel
theorem dL_law_343 : decode cL_law 343 = .ok (.iconst 3, 1) := by decide +kernel
theorem dL_law_344 : decode cL_law 344 = .ok (.iadd, 1) := by decide +kernel
theorem dL_law_345 : decode cL_law 345 = .ok (.iaload, 1) := by decide +kernel
theorem dL_law_346 : decode cL_law 346 = .ok (.invokevirtual 43, 3) := by decide +kernel
theorem dL_law_349 : decode cL_law 349 = .ok (.aload_n 2, 1) := by decide +kernel
theorem dL_law_350 : decode cL_law 350 = .ok (.aload_n 0, 1) := by decide +kernel
theorem dL_law_351 : decode cL_law 351 = .ok (.iload_n 3, 1) := by decide +kernel
theorem dL_law_352 : decode cL_law 352 = .ok (.iconst 1, 1) := by decide +kernel
theorem dL_law_353 : decode cL_law 353 = .ok (.iadd, 1) := by decide +kernel
theorem dL_law_354 : decode cL_law 354 = .ok (.iaload, 1) := by decide +kernel
theorem dL_law_355 : decode cL_law 355 = .ok (.aload_n 0, 1) := by decide +kernel
theorem dL_law_356 : decode cL_law 356 = .ok (.iload_n 3, 1) := by decide +kernel
theorem dL_law_357 : decode cL_law 357 = .ok (.iconst 2, 1) := by decide +kernel
theorem dL_law_358 : decode cL_law 358 = .ok (.iadd, 1) := by decide +kernel
theorem dL_law_359 : decode cL_law 359 = .ok (.iaload, 1) := by decide +kernel
theorem dL_law_360 : decode cL_law 360 = .ok (.aload_n 0, 1) := by decide +kernel
theorem dL_law_361 : decode cL_law 361 = .ok (.iload_n 3, 1) := by decide +kernel
theorem dL_law_362 : decode cL_law 362 = .ok (.iconst 3, 1) := by decide +kernel
theorem dL_law_363 : decode cL_law 363 = .ok (.iadd, 1) := by decide +kernel
theorem dL_law_364 : decode cL_law 364 = .ok (.iaload, 1) := by decide +kernel
theorem dL_law_365 : decode cL_law 365 = .ok (.invokevirtual 46, 3) := by decide +kernel
theorem dL_law_368 : decode cL_law 368 = .ok (.if_icmp .eq 686, 3) := by decide +kernel
theorem dL_law_371 : decode cL_law 371 = .ok (.iconst 0, 1) := by decide +kernel
theorem dL_law_372 : decode cL_law 372 = .ok (.ireturn, 1) := by decide +kernel
theorem dL_law_373 : decode cL_law 373 = .ok (.aload_n 1, 1) := by decide +kernel
theorem dL_law_374 : decode cL_law 374 = .ok (.aload_n 0, 1) := by decide +kernel
theorem dL_law_375 : decode cL_law 375 = .ok (.iload_n 3, 1) := by decide +kernel
theorem dL_law_376 : decode cL_law 376 = .ok (.iconst 1, 1) := by decide +kernel
theorem dL_law_377 : decode cL_law 377 = .ok (.iadd, 1) := by decide +kernel
theorem dL_law_378 : decode cL_law 378 = .ok (.iaload, 1) := by decide +kernel
theorem dL_law_379 : decode cL_law 379 = .ok (.invokevirtual 47, 3) := by decide +kernel
theorem dL_law_382 : decode cL_law 382 = .ok (.aload_n 2, 1) := by decide +kernel
theorem dL_law_383 : decode cL_law 383 = .ok (.aload_n 0, 1) := by decide +kernel
theorem dL_law_384 : decode cL_law 384 = .ok (.iload_n 3, 1) := by decide +kernel
theorem dL_law_385 : decode cL_law 385 = .ok (.iconst 1, 1) := by decide +kernel
theorem dL_law_386 : decode cL_law 386 = .ok (.iadd, 1) := by decide +kernel
theorem dL_law_387 : decode cL_law 387 = .ok (.iaload, 1) := by decide +kernel
theorem dL_law_388 : decode cL_law 388 = .ok (.invokevirtual 51, 3) := by decide +kernel
theorem dL_law_391 : decode cL_law 391 = .ok (.if_icmp .eq 663, 3) := by decide +kernel
theorem dL_law_394 : decode cL_law 394 = .ok (.iconst 0, 1) := by decide +kernel
theorem dL_law_395 : decode cL_law 395 = .ok (.ireturn, 1) := by decide +kernel
theorem dL_law_396 : decode cL_law 396 = .ok (.aload_n 1, 1) := by decide +kernel
theorem dL_law_397 : decode cL_law 397 = .ok (.aload_n 0, 1) := by decide +kernel
theorem dL_law_398 : decode cL_law 398 = .ok (.iload_n 3, 1) := by decide +kernel
theorem dL_law_399 : decode cL_law 399 = .ok (.iconst 1, 1) := by decide +kernel
theorem dL_law_400 : decode cL_law 400 = .ok (.iadd, 1) := by decide +kernel
theorem dL_law_401 : decode cL_law 401 = .ok (.iaload, 1) := by decide +kernel
theorem dL_law_402 : decode cL_law 402 = .ok (.invokevirtual 52, 3) := by decide +kernel
theorem dL_law_405 : decode cL_law 405 = .ok (.aload_n 2, 1) := by decide +kernel
theorem dL_law_406 : decode cL_law 406 = .ok (.aload_n 0, 1) := by decide +kernel
theorem dL_law_407 : decode cL_law 407 = .ok (.iload_n 3, 1) := by decide +kernel
theorem dL_law_408 : decode cL_law 408 = .ok (.iconst 1, 1) := by decide +kernel
theorem dL_law_409 : decode cL_law 409 = .ok (.iadd, 1) := by decide +kernel
theorem dL_law_410 : decode cL_law 410 = .ok (.iaload, 1) := by decide +kernel
theorem dL_law_411 : decode cL_law 411 = .ok (.invokevirtual 55, 3) := by decide +kernel
theorem dL_law_414 : decode cL_law 414 = .ok (.if_icmp .eq 640, 3) := by decide +kernel
theorem dL_law_417 : decode cL_law 417 = .ok (.iconst 0, 1) := by decide +kernel
theorem dL_law_418 : decode cL_law 418 = .ok (.ireturn, 1) := by decide +kernel
theorem dL_law_419 : decode cL_law 419 = .ok (.aload_n 1, 1) := by decide +kernel
theorem dL_law_420 : decode cL_law 420 = .ok (.aload_n 0, 1) := by decide +kernel
theorem dL_law_421 : decode cL_law 421 = .ok (.iload_n 3, 1) := by decide +kernel
theorem dL_law_422 : decode cL_law 422 = .ok (.iconst 1, 1) := by decide +kernel
theorem dL_law_423 : decode cL_law 423 = .ok (.iadd, 1) := by decide +kernel
theorem dL_law_424 : decode cL_law 424 = .ok (.iaload, 1) := by decide +kernel
theorem dL_law_425 : decode cL_law 425 = .ok (.invokevirtual 56, 3) := by decide +kernel
theorem dL_law_428 : decode cL_law 428 = .ok (.aload_n 2, 1) := by decide +kernel
theorem dL_law_429 : decode cL_law 429 = .ok (.aload_n 0, 1) := by decide +kernel
theorem dL_law_430 : decode cL_law 430 = .ok (.iload_n 3, 1) := by decide +kernel
theorem dL_law_431 : decode cL_law 431 = .ok (.iconst 1, 1) := by decide +kernel
theorem dL_law_432 : decode cL_law 432 = .ok (.iadd, 1) := by decide +kernel
theorem dL_law_433 : decode cL_law 433 = .ok (.iaload, 1) := by decide +kernel
theorem dL_law_434 : decode cL_law 434 = .ok (.invokevirtual 59, 3) := by decide +kernel
theorem dL_law_437 : decode cL_law 437 = .ok (.if_icmp .eq 617, 3) := by decide +kernel
theorem dL_law_440 : decode cL_law 440 = .ok (.iconst 0, 1) := by decide +kernel
theorem dL_law_441 : decode cL_law 441 = .ok (.ireturn, 1) := by decide +kernel
theorem dL_law_442 : decode cL_law 442 = .ok (.aload_n 1, 1) := by decide +kernel
theorem dL_law_443 : decode cL_law 443 = .ok (.aload_n 0, 1) := by decide +kernel
theorem dL_law_444 : decode cL_law 444 = .ok (.iload_n 3, 1) := by decide +kernel
theorem dL_law_445 : decode cL_law 445 = .ok (.iconst 1, 1) := by decide +kernel
theorem dL_law_446 : decode cL_law 446 = .ok (.iadd, 1) := by decide +kernel
theorem dL_law_447 : decode cL_law 447 = .ok (.iaload, 1) := by decide +kernel
theorem dL_law_448 : decode cL_law 448 = .ok (.invokevirtual 60, 3) := by decide +kernel
theorem dL_law_451 : decode cL_law 451 = .ok (.aload_n 2, 1) := by decide +kernel
theorem dL_law_452 : decode cL_law 452 = .ok (.aload_n 0, 1) := by decide +kernel
theorem dL_law_453 : decode cL_law 453 = .ok (.iload_n 3, 1) := by decide +kernel
theorem dL_law_454 : decode cL_law 454 = .ok (.iconst 1, 1) := by decide +kernel
theorem dL_law_455 : decode cL_law 455 = .ok (.iadd, 1) := by decide +kernel
theorem dL_law_456 : decode cL_law 456 = .ok (.iaload, 1) := by decide +kernel
theorem dL_law_457 : decode cL_law 457 = .ok (.invokevirtual 63, 3) := by decide +kernel
theorem dL_law_460 : decode cL_law 460 = .ok (.if_icmp .eq 594, 3) := by decide +kernel
theorem dL_law_463 : decode cL_law 463 = .ok (.iconst 0, 1) := by decide +kernel
theorem dL_law_464 : decode cL_law 464 = .ok (.ireturn, 1) := by decide +kernel
theorem dL_law_465 : decode cL_law 465 = .ok (.aload_n 1, 1) := by decide +kernel
theorem dL_law_466 : decode cL_law 466 = .ok (.aload_n 0, 1) := by decide +kernel
theorem dL_law_467 : decode cL_law 467 = .ok (.iload_n 3, 1) := by decide +kernel
theorem dL_law_468 : decode cL_law 468 = .ok (.iconst 1, 1) := by decide +kernel
theorem dL_law_469 : decode cL_law 469 = .ok (.iadd, 1) := by decide +kernel
theorem dL_law_470 : decode cL_law 470 = .ok (.iaload, 1) := by decide +kernel
theorem dL_law_471 : decode cL_law 471 = .ok (.aload_n 0, 1) := by decide +kernel
theorem dL_law_472 : decode cL_law 472 = .ok (.iload_n 3, 1) := by decide +kernel
theorem dL_law_473 : decode cL_law 473 = .ok (.iconst 2, 1) := by decide +kernel
theorem dL_law_474 : decode cL_law 474 = .ok (.iadd, 1) := by decide +kernel
theorem dL_law_475 : decode cL_law 475 = .ok (.iaload, 1) := by decide +kernel
theorem dL_law_476 : decode cL_law 476 = .ok (.aload_n 0, 1) := by decide +kernel
theorem dL_law_477 : decode cL_law 477 = .ok (.iload_n 3, 1) := by decide +kernel
theorem dL_law_478 : decode cL_law 478 = .ok (.iconst 3, 1) := by decide +kernel
theorem dL_law_479 : decode cL_law 479 = .ok (.iadd, 1) := by decide +kernel
theorem dL_law_480 : decode cL_law 480 = .ok (.iaload, 1) := by decide +kernel
theorem dL_law_481 : decode cL_law 481 = .ok (.invokevirtual 64, 3) := by decide +kernel
theorem dL_law_484 : decode cL_law 484 = .ok (.aload_n 2, 1) := by decide +kernel
theorem dL_law_485 : decode cL_law 485 = .ok (.aload_n 0, 1) := by decide +kernel
theorem dL_law_486 : decode cL_law 486 = .ok (.iload_n 3, 1) := by decide +kernel
theorem dL_law_487 : decode cL_law 487 = .ok (.iconst 1, 1) := by decide +kernel
theorem dL_law_488 : decode cL_law 488 = .ok (.iadd, 1) := by decide +kernel
theorem dL_law_489 : decode cL_law 489 = .ok (.iaload, 1) := by decide +kernel
theorem dL_law_490 : decode cL_law 490 = .ok (.aload_n 0, 1) := by decide +kernel
theorem dL_law_491 : decode cL_law 491 = .ok (.iload_n 3, 1) := by decide +kernel
theorem dL_law_492 : decode cL_law 492 = .ok (.iconst 2, 1) := by decide +kernel
theorem dL_law_493 : decode cL_law 493 = .ok (.iadd, 1) := by decide +kernel
theorem dL_law_494 : decode cL_law 494 = .ok (.iaload, 1) := by decide +kernel
theorem dL_law_495 : decode cL_law 495 = .ok (.aload_n 0, 1) := by decide +kernel
theorem dL_law_496 : decode cL_law 496 = .ok (.iload_n 3, 1) := by decide +kernel
theorem dL_law_497 : decode cL_law 497 = .ok (.iconst 3, 1) := by decide +kernel
theorem dL_law_498 : decode cL_law 498 = .ok (.iadd, 1) := by decide +kernel
theorem dL_law_499 : decode cL_law 499 = .ok (.iaload, 1) := by decide +kernel
theorem dL_law_500 : decode cL_law 500 = .ok (.invokevirtual 67, 3) := by decide +kernel
theorem dL_law_503 : decode cL_law 503 = .ok (.if_icmp .eq 551, 3) := by decide +kernel
theorem dL_law_506 : decode cL_law 506 = .ok (.iconst 0, 1) := by decide +kernel
theorem dL_law_507 : decode cL_law 507 = .ok (.ireturn, 1) := by decide +kernel
theorem dL_law_508 : decode cL_law 508 = .ok (.aload_n 1, 1) := by decide +kernel
theorem dL_law_509 : decode cL_law 509 = .ok (.aload_n 0, 1) := by decide +kernel
theorem dL_law_510 : decode cL_law 510 = .ok (.iload_n 3, 1) := by decide +kernel
theorem dL_law_511 : decode cL_law 511 = .ok (.iconst 1, 1) := by decide +kernel
theorem dL_law_512 : decode cL_law 512 = .ok (.iadd, 1) := by decide +kernel
theorem dL_law_513 : decode cL_law 513 = .ok (.iaload, 1) := by decide +kernel
theorem dL_law_514 : decode cL_law 514 = .ok (.aload_n 0, 1) := by decide +kernel
theorem dL_law_515 : decode cL_law 515 = .ok (.iload_n 3, 1) := by decide +kernel
theorem dL_law_516 : decode cL_law 516 = .ok (.iconst 2, 1) := by decide +kernel
theorem dL_law_517 : decode cL_law 517 = .ok (.iadd, 1) := by decide +kernel
theorem dL_law_518 : decode cL_law 518 = .ok (.iaload, 1) := by decide +kernel
theorem dL_law_519 : decode cL_law 519 = .ok (.invokevirtual 68, 3) := by decide +kernel
theorem dL_law_522 : decode cL_law 522 = .ok (.aload_n 2, 1) := by decide +kernel
theorem dL_law_523 : decode cL_law 523 = .ok (.aload_n 0, 1) := by decide +kernel
theorem dL_law_524 : decode cL_law 524 = .ok (.iload_n 3, 1) := by decide +kernel
theorem dL_law_525 : decode cL_law 525 = .ok (.iconst 1, 1) := by decide +kernel
theorem dL_law_526 : decode cL_law 526 = .ok (.iadd, 1) := by decide +kernel
theorem dL_law_527 : decode cL_law 527 = .ok (.iaload, 1) := by decide +kernel
theorem dL_law_528 : decode cL_law 528 = .ok (.aload_n 0, 1) := by decide +kernel
theorem dL_law_529 : decode cL_law 529 = .ok (.iload_n 3, 1) := by decide +kernel
theorem dL_law_530 : decode cL_law 530 = .ok (.iconst 2, 1) := by decide +kernel
theorem dL_law_531 : decode cL_law 531 = .ok (.iadd, 1) := by decide +kernel
theorem dL_law_532 : decode cL_law 532 = .ok (.iaload, 1) := by decide +kernel
theorem dL_law_533 : decode cL_law 533 = .ok (.invokevirtual 71, 3) := by decide +kernel
theorem dL_law_536 : decode cL_law 536 = .ok (.if_icmp .eq 518, 3) := by decide +kernel
theorem dL_law_539 : decode cL_law 539 = .ok (.iconst 0, 1) := by decide +kernel
theorem dL_law_540 : decode cL_law 540 = .ok (.ireturn, 1) := by decide +kernel
theorem dL_law_541 : decode cL_law 541 = .ok (.aload_n 1, 1) := by decide +kernel
theorem dL_law_542 : decode cL_law 542 = .ok (.aload_n 0, 1) := by decide +kernel
theorem dL_law_543 : decode cL_law 543 = .ok (.iload_n 3, 1) := by decide +kernel
theorem dL_law_544 : decode cL_law 544 = .ok (.iconst 1, 1) := by decide +kernel
theorem dL_law_545 : decode cL_law 545 = .ok (.iadd, 1) := by decide +kernel
theorem dL_law_546 : decode cL_law 546 = .ok (.iaload, 1) := by decide +kernel
theorem dL_law_547 : decode cL_law 547 = .ok (.invokevirtual 72, 3) := by decide +kernel
theorem dL_law_550 : decode cL_law 550 = .ok (.aload_n 2, 1) := by decide +kernel
theorem dL_law_551 : decode cL_law 551 = .ok (.aload_n 0, 1) := by decide +kernel
theorem dL_law_552 : decode cL_law 552 = .ok (.iload_n 3, 1) := by decide +kernel
theorem dL_law_553 : decode cL_law 553 = .ok (.iconst 1, 1) := by decide +kernel
theorem dL_law_554 : decode cL_law 554 = .ok (.iadd, 1) := by decide +kernel
theorem dL_law_555 : decode cL_law 555 = .ok (.iaload, 1) := by decide +kernel
theorem dL_law_556 : decode cL_law 556 = .ok (.invokevirtual 75, 3) := by decide +kernel
theorem dL_law_559 : decode cL_law 559 = .ok (.if_icmp .eq 495, 3) := by decide +kernel
theorem dL_law_562 : decode cL_law 562 = .ok (.iconst 0, 1) := by decide +kernel
theorem dL_law_563 : decode cL_law 563 = .ok (.ireturn, 1) := by decide +kernel
theorem dL_law_564 : decode cL_law 564 = .ok (.aload_n 1, 1) := by decide +kernel
theorem dL_law_565 : decode cL_law 565 = .ok (.aload_n 0, 1) := by decide +kernel
theorem dL_law_566 : decode cL_law 566 = .ok (.iload_n 3, 1) := by decide +kernel
theorem dL_law_567 : decode cL_law 567 = .ok (.iconst 1, 1) := by decide +kernel
theorem dL_law_568 : decode cL_law 568 = .ok (.iadd, 1) := by decide +kernel
theorem dL_law_569 : decode cL_law 569 = .ok (.iaload, 1) := by decide +kernel
theorem dL_law_570 : decode cL_law 570 = .ok (.aload_n 0, 1) := by decide +kernel
theorem dL_law_571 : decode cL_law 571 = .ok (.iload_n 3, 1) := by decide +kernel
theorem dL_law_572 : decode cL_law 572 = .ok (.iconst 2, 1) := by decide +kernel
theorem dL_law_573 : decode cL_law 573 = .ok (.iadd, 1) := by decide +kernel
theorem dL_law_574 : decode cL_law 574 = .ok (.iaload, 1) := by decide +kernel
theorem dL_law_575 : decode cL_law 575 = .ok (.aload_n 0, 1) := by decide +kernel
theorem dL_law_576 : decode cL_law 576 = .ok (.iload_n 3, 1) := by decide +kernel
theorem dL_law_577 : decode cL_law 577 = .ok (.iconst 3, 1) := by decide +kernel
theorem dL_law_578 : decode cL_law 578 = .ok (.iadd, 1) := by decide +kernel
theorem dL_law_579 : decode cL_law 579 = .ok (.iaload, 1) := by decide +kernel
theorem dL_law_580 : decode cL_law 580 = .ok (.invokevirtual 76, 3) := by decide +kernel
theorem dL_law_583 : decode cL_law 583 = .ok (.aload_n 2, 1) := by decide +kernel
theorem dL_law_584 : decode cL_law 584 = .ok (.aload_n 0, 1) := by decide +kernel
theorem dL_law_585 : decode cL_law 585 = .ok (.iload_n 3, 1) := by decide +kernel
theorem dL_law_586 : decode cL_law 586 = .ok (.iconst 1, 1) := by decide +kernel
theorem dL_law_587 : decode cL_law 587 = .ok (.iadd, 1) := by decide +kernel
theorem dL_law_588 : decode cL_law 588 = .ok (.iaload, 1) := by decide +kernel
theorem dL_law_589 : decode cL_law 589 = .ok (.aload_n 0, 1) := by decide +kernel
theorem dL_law_590 : decode cL_law 590 = .ok (.iload_n 3, 1) := by decide +kernel
theorem dL_law_591 : decode cL_law 591 = .ok (.iconst 2, 1) := by decide +kernel
theorem dL_law_592 : decode cL_law 592 = .ok (.iadd, 1) := by decide +kernel
theorem dL_law_593 : decode cL_law 593 = .ok (.iaload, 1) := by decide +kernel
theorem dL_law_594 : decode cL_law 594 = .ok (.aload_n 0, 1) := by decide +kernel
theorem dL_law_595 : decode cL_law 595 = .ok (.iload_n 3, 1) := by decide +kernel
theorem dL_law_596 : decode cL_law 596 = .ok (.iconst 3, 1) := by decide +kernel
theorem dL_law_597 : decode cL_law 597 = .ok (.iadd, 1) := by decide +kernel
theorem dL_law_598 : decode cL_law 598 = .ok (.iaload, 1) := by decide +kernel
theorem dL_law_599 : decode cL_law 599 = .ok (.invokevirtual 79, 3) := by decide +kernel
theorem dL_law_602 : decode cL_law 602 = .ok (.if_icmp .eq 452, 3) := by decide +kernel
theorem dL_law_605 : decode cL_law 605 = .ok (.iconst 0, 1) := by decide +kernel
theorem dL_law_606 : decode cL_law 606 = .ok (.ireturn, 1) := by decide +kernel
theorem dL_law_607 : decode cL_law 607 = .ok (.aload_n 1, 1) := by decide +kernel
theorem dL_law_608 : decode cL_law 608 = .ok (.aload_n 0, 1) := by decide +kernel
theorem dL_law_609 : decode cL_law 609 = .ok (.iload_n 3, 1) := by decide +kernel
theorem dL_law_610 : decode cL_law 610 = .ok (.iconst 1, 1) := by decide +kernel
theorem dL_law_611 : decode cL_law 611 = .ok (.iadd, 1) := by decide +kernel
theorem dL_law_612 : decode cL_law 612 = .ok (.iaload, 1) := by decide +kernel
theorem dL_law_613 : decode cL_law 613 = .ok (.aload_n 0, 1) := by decide +kernel
theorem dL_law_614 : decode cL_law 614 = .ok (.iload_n 3, 1) := by decide +kernel
theorem dL_law_615 : decode cL_law 615 = .ok (.iconst 2, 1) := by decide +kernel
theorem dL_law_616 : decode cL_law 616 = .ok (.iadd, 1) := by decide +kernel
theorem dL_law_617 : decode cL_law 617 = .ok (.iaload, 1) := by decide +kernel
theorem dL_law_618 : decode cL_law 618 = .ok (.aload_n 0, 1) := by decide +kernel
theorem dL_law_619 : decode cL_law 619 = .ok (.iload_n 3, 1) := by decide +kernel
theorem dL_law_620 : decode cL_law 620 = .ok (.iconst 3, 1) := by decide +kernel
theorem dL_law_621 : decode cL_law 621 = .ok (.iadd, 1) := by decide +kernel
theorem dL_law_622 : decode cL_law 622 = .ok (.iaload, 1) := by decide +kernel
theorem dL_law_623 : decode cL_law 623 = .ok (.aload_n 0, 1) := by decide +kernel
theorem dL_law_624 : decode cL_law 624 = .ok (.iload_n 3, 1) := by decide +kernel
theorem dL_law_625 : decode cL_law 625 = .ok (.iconst 4, 1) := by decide +kernel
theorem dL_law_626 : decode cL_law 626 = .ok (.iadd, 1) := by decide +kernel
theorem dL_law_627 : decode cL_law 627 = .ok (.iaload, 1) := by decide +kernel
theorem dL_law_628 : decode cL_law 628 = .ok (.aload_n 0, 1) := by decide +kernel
theorem dL_law_629 : decode cL_law 629 = .ok (.iload_n 3, 1) := by decide +kernel
theorem dL_law_630 : decode cL_law 630 = .ok (.iconst 5, 1) := by decide +kernel
theorem dL_law_631 : decode cL_law 631 = .ok (.iadd, 1) := by decide +kernel
theorem dL_law_632 : decode cL_law 632 = .ok (.iaload, 1) := by decide +kernel
theorem dL_law_633 : decode cL_law 633 = .ok (.aload_n 0, 1) := by decide +kernel
theorem dL_law_634 : decode cL_law 634 = .ok (.iload_n 3, 1) := by decide +kernel
theorem dL_law_635 : decode cL_law 635 = .ok (.bipush 6, 2) := by decide +kernel
theorem dL_law_637 : decode cL_law 637 = .ok (.iadd, 1) := by decide +kernel
theorem dL_law_638 : decode cL_law 638 = .ok (.iaload, 1) := by decide +kernel
theorem dL_law_639 : decode cL_law 639 = .ok (.invokevirtual 80, 3) := by decide +kernel
theorem dL_law_642 : decode cL_law 642 = .ok (.aload_n 2, 1) := by decide +kernel
theorem dL_law_643 : decode cL_law 643 = .ok (.aload_n 0, 1) := by decide +kernel
theorem dL_law_644 : decode cL_law 644 = .ok (.iload_n 3, 1) := by decide +kernel
theorem dL_law_645 : decode cL_law 645 = .ok (.iconst 1, 1) := by decide +kernel
theorem dL_law_646 : decode cL_law 646 = .ok (.iadd, 1) := by decide +kernel
theorem dL_law_647 : decode cL_law 647 = .ok (.iaload, 1) := by decide +kernel
theorem dL_law_648 : decode cL_law 648 = .ok (.aload_n 0, 1) := by decide +kernel
theorem dL_law_649 : decode cL_law 649 = .ok (.iload_n 3, 1) := by decide +kernel
theorem dL_law_650 : decode cL_law 650 = .ok (.iconst 2, 1) := by decide +kernel
theorem dL_law_651 : decode cL_law 651 = .ok (.iadd, 1) := by decide +kernel
theorem dL_law_652 : decode cL_law 652 = .ok (.iaload, 1) := by decide +kernel
theorem dL_law_653 : decode cL_law 653 = .ok (.aload_n 0, 1) := by decide +kernel
theorem dL_law_654 : decode cL_law 654 = .ok (.iload_n 3, 1) := by decide +kernel
theorem dL_law_655 : decode cL_law 655 = .ok (.iconst 3, 1) := by decide +kernel
theorem dL_law_656 : decode cL_law 656 = .ok (.iadd, 1) := by decide +kernel
theorem dL_law_657 : decode cL_law 657 = .ok (.iaload, 1) := by decide +kernel
theorem dL_law_658 : decode cL_law 658 = .ok (.aload_n 0, 1) := by decide +kernel
theorem dL_law_659 : decode cL_law 659 = .ok (.iload_n 3, 1) := by decide +kernel
theorem dL_law_660 : decode cL_law 660 = .ok (.iconst 4, 1) := by decide +kernel
theorem dL_law_661 : decode cL_law 661 = .ok (.iadd, 1) := by decide +kernel
theorem dL_law_662 : decode cL_law 662 = .ok (.iaload, 1) := by decide +kernel
theorem dL_law_663 : decode cL_law 663 = .ok (.aload_n 0, 1) := by decide +kernel
theorem dL_law_664 : decode cL_law 664 = .ok (.iload_n 3, 1) := by decide +kernel
theorem dL_law_665 : decode cL_law 665 = .ok (.iconst 5, 1) := by decide +kernel
theorem dL_law_666 : decode cL_law 666 = .ok (.iadd, 1) := by decide +kernel
theorem dL_law_667 : decode cL_law 667 = .ok (.iaload, 1) := by decide +kernel
theorem dL_law_668 : decode cL_law 668 = .ok (.aload_n 0, 1) := by decide +kernel
theorem dL_law_669 : decode cL_law 669 = .ok (.iload_n 3, 1) := by decide +kernel
theorem dL_law_670 : decode cL_law 670 = .ok (.bipush 6, 2) := by decide +kernel
theorem dL_law_672 : decode cL_law 672 = .ok (.iadd, 1) := by decide +kernel
theorem dL_law_673 : decode cL_law 673 = .ok (.iaload, 1) := by decide +kernel
theorem dL_law_674 : decode cL_law 674 = .ok (.invokevirtual 84, 3) := by decide +kernel
theorem dL_law_677 : decode cL_law 677 = .ok (.if_icmp .eq 377, 3) := by decide +kernel
theorem dL_law_680 : decode cL_law 680 = .ok (.iconst 0, 1) := by decide +kernel
theorem dL_law_681 : decode cL_law 681 = .ok (.ireturn, 1) := by decide +kernel
theorem dL_law_682 : decode cL_law 682 = .ok (.aload_n 1, 1) := by decide +kernel
theorem dL_law_683 : decode cL_law 683 = .ok (.aload_n 0, 1) := by decide +kernel
theorem dL_law_684 : decode cL_law 684 = .ok (.iload_n 3, 1) := by decide +kernel
theorem dL_law_685 : decode cL_law 685 = .ok (.iconst 1, 1) := by decide +kernel
theorem dL_law_686 : decode cL_law 686 = .ok (.iadd, 1) := by decide +kernel
theorem dL_law_687 : decode cL_law 687 = .ok (.iaload, 1) := by decide +kernel
theorem dL_law_688 : decode cL_law 688 = .ok (.aload_n 0, 1) := by decide +kernel
theorem dL_law_689 : decode cL_law 689 = .ok (.iload_n 3, 1) := by decide +kernel
theorem dL_law_690 : decode cL_law 690 = .ok (.iconst 2, 1) := by decide +kernel
theorem dL_law_691 : decode cL_law 691 = .ok (.iadd, 1) := by decide +kernel
theorem dL_law_692 : decode cL_law 692 = .ok (.iaload, 1) := by decide +kernel
theorem dL_law_693 : decode cL_law 693 = .ok (.invokevirtual 85, 3) := by decide +kernel
theorem dL_law_696 : decode cL_law 696 = .ok (.aload_n 2, 1) := by decide +kernel
theorem dL_law_697 : decode cL_law 697 = .ok (.aload_n 0, 1) := by decide +kernel
theorem dL_law_698 : decode cL_law 698 = .ok (.iload_n 3, 1) := by decide +kernel
theorem dL_law_699 : decode cL_law 699 = .ok (.iconst 1, 1) := by decide +kernel
theorem dL_law_700 : decode cL_law 700 = .ok (.iadd, 1) := by decide +kernel
theorem dL_law_701 : decode cL_law 701 = .ok (.iaload, 1) := by decide +kernel
theorem dL_law_702 : decode cL_law 702 = .ok (.aload_n 0, 1) := by decide +kernel
theorem dL_law_703 : decode cL_law 703 = .ok (.iload_n 3, 1) := by decide +kernel
theorem dL_law_704 : decode cL_law 704 = .ok (.iconst 2, 1) := by decide +kernel
theorem dL_law_705 : decode cL_law 705 = .ok (.iadd, 1) := by decide +kernel
theorem dL_law_706 : decode cL_law 706 = .ok (.iaload, 1) := by decide +kernel
theorem dL_law_707 : decode cL_law 707 = .ok (.invokevirtual 88, 3) := by decide +kernel
theorem dL_law_710 : decode cL_law 710 = .ok (.if_icmp .eq 344, 3) := by decide +kernel
theorem dL_law_713 : decode cL_law 713 = .ok (.iconst 0, 1) := by decide +kernel
theorem dL_law_714 : decode cL_law 714 = .ok (.ireturn, 1) := by decide +kernel
theorem dL_law_715 : decode cL_law 715 = .ok (.aload_n 1, 1) := by decide +kernel
theorem dL_law_716 : decode cL_law 716 = .ok (.aload_n 0, 1) := by decide +kernel
theorem dL_law_717 : decode cL_law 717 = .ok (.iload_n 3, 1) := by decide +kernel
theorem dL_law_718 : decode cL_law 718 = .ok (.iconst 1, 1) := by decide +kernel
theorem dL_law_719 : decode cL_law 719 = .ok (.iadd, 1) := by decide +kernel
theorem dL_law_720 : decode cL_law 720 = .ok (.iaload, 1) := by decide +kernel
theorem dL_law_721 : decode cL_law 721 = .ok (.aload_n 0, 1) := by decide +kernel
theorem dL_law_722 : decode cL_law 722 = .ok (.iload_n 3, 1) := by decide +kernel
theorem dL_law_723 : decode cL_law 723 = .ok (.iconst 2, 1) := by decide +kernel
theorem dL_law_724 : decode cL_law 724 = .ok (.iadd, 1) := by decide +kernel
theorem dL_law_725 : decode cL_law 725 = .ok (.iaload, 1) := by decide +kernel
theorem dL_law_726 : decode cL_law 726 = .ok (.aload_n 0, 1) := by decide +kernel
theorem dL_law_727 : decode cL_law 727 = .ok (.iload_n 3, 1) := by decide +kernel
theorem dL_law_728 : decode cL_law 728 = .ok (.iconst 3, 1) := by decide +kernel
theorem dL_law_729 : decode cL_law 729 = .ok (.iadd, 1) := by decide +kernel
theorem dL_law_730 : decode cL_law 730 = .ok (.iaload, 1) := by decide +kernel
theorem dL_law_731 : decode cL_law 731 = .ok (.aload_n 0, 1) := by decide +kernel
theorem dL_law_732 : decode cL_law 732 = .ok (.iload_n 3, 1) := by decide +kernel
theorem dL_law_733 : decode cL_law 733 = .ok (.iconst 4, 1) := by decide +kernel
theorem dL_law_734 : decode cL_law 734 = .ok (.iadd, 1) := by decide +kernel
theorem dL_law_735 : decode cL_law 735 = .ok (.iaload, 1) := by decide +kernel
theorem dL_law_736 : decode cL_law 736 = .ok (.aload_n 0, 1) := by decide +kernel
theorem dL_law_737 : decode cL_law 737 = .ok (.iload_n 3, 1) := by decide +kernel
theorem dL_law_738 : decode cL_law 738 = .ok (.iconst 5, 1) := by decide +kernel
theorem dL_law_739 : decode cL_law 739 = .ok (.iadd, 1) := by decide +kernel
theorem dL_law_740 : decode cL_law 740 = .ok (.iaload, 1) := by decide +kernel
theorem dL_law_741 : decode cL_law 741 = .ok (.aload_n 0, 1) := by decide +kernel
theorem dL_law_742 : decode cL_law 742 = .ok (.iload_n 3, 1) := by decide +kernel
theorem dL_law_743 : decode cL_law 743 = .ok (.bipush 6, 2) := by decide +kernel
theorem dL_law_745 : decode cL_law 745 = .ok (.iadd, 1) := by decide +kernel
theorem dL_law_746 : decode cL_law 746 = .ok (.iaload, 1) := by decide +kernel
theorem dL_law_747 : decode cL_law 747 = .ok (.invokevirtual 89, 3) := by decide +kernel
theorem dL_law_750 : decode cL_law 750 = .ok (.aload_n 2, 1) := by decide +kernel
theorem dL_law_751 : decode cL_law 751 = .ok (.aload_n 0, 1) := by decide +kernel
theorem dL_law_752 : decode cL_law 752 = .ok (.iload_n 3, 1) := by decide +kernel
theorem dL_law_753 : decode cL_law 753 = .ok (.iconst 1, 1) := by decide +kernel
theorem dL_law_754 : decode cL_law 754 = .ok (.iadd, 1) := by decide +kernel
theorem dL_law_755 : decode cL_law 755 = .ok (.iaload, 1) := by decide +kernel
theorem dL_law_756 : decode cL_law 756 = .ok (.aload_n 0, 1) := by decide +kernel
theorem dL_law_757 : decode cL_law 757 = .ok (.iload_n 3, 1) := by decide +kernel
theorem dL_law_758 : decode cL_law 758 = .ok (.iconst 2, 1) := by decide +kernel
theorem dL_law_759 : decode cL_law 759 = .ok (.iadd, 1) := by decide +kernel
theorem dL_law_760 : decode cL_law 760 = .ok (.iaload, 1) := by decide +kernel
theorem dL_law_761 : decode cL_law 761 = .ok (.aload_n 0, 1) := by decide +kernel
theorem dL_law_762 : decode cL_law 762 = .ok (.iload_n 3, 1) := by decide +kernel
theorem dL_law_763 : decode cL_law 763 = .ok (.iconst 3, 1) := by decide +kernel
theorem dL_law_764 : decode cL_law 764 = .ok (.iadd, 1) := by decide +kernel
theorem dL_law_765 : decode cL_law 765 = .ok (.iaload, 1) := by decide +kernel
theorem dL_law_766 : decode cL_law 766 = .ok (.aload_n 0, 1) := by decide +kernel
theorem dL_law_767 : decode cL_law 767 = .ok (.iload_n 3, 1) := by decide +kernel
theorem dL_law_768 : decode cL_law 768 = .ok (.iconst 4, 1) := by decide +kernel
theorem dL_law_769 : decode cL_law 769 = .ok (.iadd, 1) := by decide +kernel
theorem dL_law_770 : decode cL_law 770 = .ok (.iaload, 1) := by decide +kernel
theorem dL_law_771 : decode cL_law 771 = .ok (.aload_n 0, 1) := by decide +kernel
theorem dL_law_772 : decode cL_law 772 = .ok (.iload_n 3, 1) := by decide +kernel
theorem dL_law_773 : decode cL_law 773 = .ok (.iconst 5, 1) := by decide +kernel
theorem dL_law_774 : decode cL_law 774 = .ok (.iadd, 1) := by decide +kernel
theorem dL_law_775 : decode cL_law 775 = .ok (.iaload, 1) := by decide +kernel
theorem dL_law_776 : decode cL_law 776 = .ok (.aload_n 0, 1) := by decide +kernel
theorem dL_law_777 : decode cL_law 777 = .ok (.iload_n 3, 1) := by decide +kernel
theorem dL_law_778 : decode cL_law 778 = .ok (.bipush 6, 2) := by decide +kernel
theorem dL_law_780 : decode cL_law 780 = .ok (.iadd, 1) := by decide +kernel
theorem dL_law_781 : decode cL_law 781 = .ok (.iaload, 1) := by decide +kernel
theorem dL_law_782 : decode cL_law 782 = .ok (.invokevirtual 92, 3) := by decide +kernel
theorem dL_law_785 : decode cL_law 785 = .ok (.if_icmp .eq 269, 3) := by decide +kernel
theorem dL_law_788 : decode cL_law 788 = .ok (.iconst 0, 1) := by decide +kernel
theorem dL_law_789 : decode cL_law 789 = .ok (.ireturn, 1) := by decide +kernel
theorem dL_law_790 : decode cL_law 790 = .ok (.aload_n 1, 1) := by decide +kernel
theorem dL_law_791 : decode cL_law 791 = .ok (.aload_n 0, 1) := by decide +kernel
theorem dL_law_792 : decode cL_law 792 = .ok (.iload_n 3, 1) := by decide +kernel
theorem dL_law_793 : decode cL_law 793 = .ok (.iconst 1, 1) := by decide +kernel
theorem dL_law_794 : decode cL_law 794 = .ok (.iadd, 1) := by decide +kernel
theorem dL_law_795 : decode cL_law 795 = .ok (.iaload, 1) := by decide +kernel
theorem dL_law_796 : decode cL_law 796 = .ok (.aload_n 0, 1) := by decide +kernel
theorem dL_law_797 : decode cL_law 797 = .ok (.iload_n 3, 1) := by decide +kernel
theorem dL_law_798 : decode cL_law 798 = .ok (.iconst 2, 1) := by decide +kernel
theorem dL_law_799 : decode cL_law 799 = .ok (.iadd, 1) := by decide +kernel
theorem dL_law_800 : decode cL_law 800 = .ok (.iaload, 1) := by decide +kernel
theorem dL_law_801 : decode cL_law 801 = .ok (.invokevirtual 93, 3) := by decide +kernel
theorem dL_law_804 : decode cL_law 804 = .ok (.aload_n 2, 1) := by decide +kernel
theorem dL_law_805 : decode cL_law 805 = .ok (.aload_n 0, 1) := by decide +kernel
theorem dL_law_806 : decode cL_law 806 = .ok (.iload_n 3, 1) := by decide +kernel
theorem dL_law_807 : decode cL_law 807 = .ok (.iconst 1, 1) := by decide +kernel
theorem dL_law_808 : decode cL_law 808 = .ok (.iadd, 1) := by decide +kernel
theorem dL_law_809 : decode cL_law 809 = .ok (.iaload, 1) := by decide +kernel
theorem dL_law_810 : decode cL_law 810 = .ok (.aload_n 0, 1) := by decide +kernel
theorem dL_law_811 : decode cL_law 811 = .ok (.iload_n 3, 1) := by decide +kernel
theorem dL_law_812 : decode cL_law 812 = .ok (.iconst 2, 1) := by decide +kernel
theorem dL_law_813 : decode cL_law 813 = .ok (.iadd, 1) := by decide +kernel
theorem dL_law_814 : decode cL_law 814 = .ok (.iaload, 1) := by decide +kernel
theorem dL_law_815 : decode cL_law 815 = .ok (.invokevirtual 96, 3) := by decide +kernel
theorem dL_law_818 : decode cL_law 818 = .ok (.if_icmp .eq 236, 3) := by decide +kernel
theorem dL_law_821 : decode cL_law 821 = .ok (.iconst 0, 1) := by decide +kernel
theorem dL_law_822 : decode cL_law 822 = .ok (.ireturn, 1) := by decide +kernel
theorem dL_law_823 : decode cL_law 823 = .ok (.aload_n 1, 1) := by decide +kernel
theorem dL_law_824 : decode cL_law 824 = .ok (.invokevirtual 97, 3) := by decide +kernel
theorem dL_law_827 : decode cL_law 827 = .ok (.aload_n 2, 1) := by decide +kernel
theorem dL_law_828 : decode cL_law 828 = .ok (.invokevirtual 100, 3) := by decide +kernel
theorem dL_law_831 : decode cL_law 831 = .ok (.if_icmp .eq 223, 3) := by decide +kernel
theorem dL_law_834 : decode cL_law 834 = .ok (.iconst 0, 1) := by decide +kernel
theorem dL_law_835 : decode cL_law 835 = .ok (.ireturn, 1) := by decide +kernel
theorem dL_law_836 : decode cL_law 836 = .ok (.aload_n 1, 1) := by decide +kernel
theorem dL_law_837 : decode cL_law 837 = .ok (.aload_n 0, 1) := by decide +kernel
theorem dL_law_838 : decode cL_law 838 = .ok (.iload_n 3, 1) := by decide +kernel
theorem dL_law_839 : decode cL_law 839 = .ok (.iconst 1, 1) := by decide +kernel
theorem dL_law_840 : decode cL_law 840 = .ok (.iadd, 1) := by decide +kernel
theorem dL_law_841 : decode cL_law 841 = .ok (.iaload, 1) := by decide +kernel
theorem dL_law_842 : decode cL_law 842 = .ok (.invokevirtual 101, 3) := by decide +kernel
theorem dL_law_845 : decode cL_law 845 = .ok (.aload_n 2, 1) := by decide +kernel
theorem dL_law_846 : decode cL_law 846 = .ok (.aload_n 0, 1) := by decide +kernel
theorem dL_law_847 : decode cL_law 847 = .ok (.iload_n 3, 1) := by decide +kernel
theorem dL_law_848 : decode cL_law 848 = .ok (.iconst 1, 1) := by decide +kernel
theorem dL_law_849 : decode cL_law 849 = .ok (.iadd, 1) := by decide +kernel
theorem dL_law_850 : decode cL_law 850 = .ok (.iaload, 1) := by decide +kernel
theorem dL_law_851 : decode cL_law 851 = .ok (.invokevirtual 104, 3) := by decide +kernel
theorem dL_law_854 : decode cL_law 854 = .ok (.if_icmp .eq 200, 3) := by decide +kernel
theorem dL_law_857 : decode cL_law 857 = .ok (.iconst 0, 1) := by decide +kernel
theorem dL_law_858 : decode cL_law 858 = .ok (.ireturn, 1) := by decide +kernel
theorem dL_law_859 : decode cL_law 859 = .ok (.aload_n 1, 1) := by decide +kernel
theorem dL_law_860 : decode cL_law 860 = .ok (.aload_n 0, 1) := by decide +kernel
theorem dL_law_861 : decode cL_law 861 = .ok (.iload_n 3, 1) := by decide +kernel
theorem dL_law_862 : decode cL_law 862 = .ok (.iconst 1, 1) := by decide +kernel
theorem dL_law_863 : decode cL_law 863 = .ok (.iadd, 1) := by decide +kernel
theorem dL_law_864 : decode cL_law 864 = .ok (.iaload, 1) := by decide +kernel
theorem dL_law_865 : decode cL_law 865 = .ok (.aload_n 0, 1) := by decide +kernel
theorem dL_law_866 : decode cL_law 866 = .ok (.iload_n 3, 1) := by decide +kernel
theorem dL_law_867 : decode cL_law 867 = .ok (.iconst 2, 1) := by decide +kernel
theorem dL_law_868 : decode cL_law 868 = .ok (.iadd, 1) := by decide +kernel
theorem dL_law_869 : decode cL_law 869 = .ok (.iaload, 1) := by decide +kernel
theorem dL_law_870 : decode cL_law 870 = .ok (.invokevirtual 105, 3) := by decide +kernel
theorem dL_law_873 : decode cL_law 873 = .ok (.aload_n 2, 1) := by decide +kernel
theorem dL_law_874 : decode cL_law 874 = .ok (.aload_n 0, 1) := by decide +kernel
theorem dL_law_875 : decode cL_law 875 = .ok (.iload_n 3, 1) := by decide +kernel
theorem dL_law_876 : decode cL_law 876 = .ok (.iconst 1, 1) := by decide +kernel
theorem dL_law_877 : decode cL_law 877 = .ok (.iadd, 1) := by decide +kernel
theorem dL_law_878 : decode cL_law 878 = .ok (.iaload, 1) := by decide +kernel
theorem dL_law_879 : decode cL_law 879 = .ok (.aload_n 0, 1) := by decide +kernel
theorem dL_law_880 : decode cL_law 880 = .ok (.iload_n 3, 1) := by decide +kernel
theorem dL_law_881 : decode cL_law 881 = .ok (.iconst 2, 1) := by decide +kernel
theorem dL_law_882 : decode cL_law 882 = .ok (.iadd, 1) := by decide +kernel
theorem dL_law_883 : decode cL_law 883 = .ok (.iaload, 1) := by decide +kernel
theorem dL_law_884 : decode cL_law 884 = .ok (.invokevirtual 108, 3) := by decide +kernel
theorem dL_law_887 : decode cL_law 887 = .ok (.if_icmp .eq 167, 3) := by decide +kernel
theorem dL_law_890 : decode cL_law 890 = .ok (.iconst 0, 1) := by decide +kernel
theorem dL_law_891 : decode cL_law 891 = .ok (.ireturn, 1) := by decide +kernel
theorem dL_law_892 : decode cL_law 892 = .ok (.aload_n 1, 1) := by decide +kernel
theorem dL_law_893 : decode cL_law 893 = .ok (.aload_n 0, 1) := by decide +kernel
theorem dL_law_894 : decode cL_law 894 = .ok (.iload_n 3, 1) := by decide +kernel
theorem dL_law_895 : decode cL_law 895 = .ok (.iconst 1, 1) := by decide +kernel
theorem dL_law_896 : decode cL_law 896 = .ok (.iadd, 1) := by decide +kernel
theorem dL_law_897 : decode cL_law 897 = .ok (.iaload, 1) := by decide +kernel
theorem dL_law_898 : decode cL_law 898 = .ok (.aload_n 0, 1) := by decide +kernel
theorem dL_law_899 : decode cL_law 899 = .ok (.iload_n 3, 1) := by decide +kernel
theorem dL_law_900 : decode cL_law 900 = .ok (.iconst 2, 1) := by decide +kernel
theorem dL_law_901 : decode cL_law 901 = .ok (.iadd, 1) := by decide +kernel
theorem dL_law_902 : decode cL_law 902 = .ok (.iaload, 1) := by decide +kernel
theorem dL_law_903 : decode cL_law 903 = .ok (.invokevirtual 109, 3) := by decide +kernel
theorem dL_law_906 : decode cL_law 906 = .ok (.aload_n 2, 1) := by decide +kernel
theorem dL_law_907 : decode cL_law 907 = .ok (.aload_n 0, 1) := by decide +kernel
theorem dL_law_908 : decode cL_law 908 = .ok (.iload_n 3, 1) := by decide +kernel
theorem dL_law_909 : decode cL_law 909 = .ok (.iconst 1, 1) := by decide +kernel
theorem dL_law_910 : decode cL_law 910 = .ok (.iadd, 1) := by decide +kernel
theorem dL_law_911 : decode cL_law 911 = .ok (.iaload, 1) := by decide +kernel
theorem dL_law_912 : decode cL_law 912 = .ok (.aload_n 0, 1) := by decide +kernel
theorem dL_law_913 : decode cL_law 913 = .ok (.iload_n 3, 1) := by decide +kernel
theorem dL_law_914 : decode cL_law 914 = .ok (.iconst 2, 1) := by decide +kernel
theorem dL_law_915 : decode cL_law 915 = .ok (.iadd, 1) := by decide +kernel
theorem dL_law_916 : decode cL_law 916 = .ok (.iaload, 1) := by decide +kernel
theorem dL_law_917 : decode cL_law 917 = .ok (.invokevirtual 112, 3) := by decide +kernel
theorem dL_law_920 : decode cL_law 920 = .ok (.if_icmp .eq 134, 3) := by decide +kernel
theorem dL_law_923 : decode cL_law 923 = .ok (.iconst 0, 1) := by decide +kernel
theorem dL_law_924 : decode cL_law 924 = .ok (.ireturn, 1) := by decide +kernel
theorem dL_law_925 : decode cL_law 925 = .ok (.aload_n 1, 1) := by decide +kernel
theorem dL_law_926 : decode cL_law 926 = .ok (.aload_n 0, 1) := by decide +kernel
theorem dL_law_927 : decode cL_law 927 = .ok (.iload_n 3, 1) := by decide +kernel
theorem dL_law_928 : decode cL_law 928 = .ok (.iconst 1, 1) := by decide +kernel
theorem dL_law_929 : decode cL_law 929 = .ok (.iadd, 1) := by decide +kernel
theorem dL_law_930 : decode cL_law 930 = .ok (.iaload, 1) := by decide +kernel
theorem dL_law_931 : decode cL_law 931 = .ok (.aload_n 0, 1) := by decide +kernel
theorem dL_law_932 : decode cL_law 932 = .ok (.iload_n 3, 1) := by decide +kernel
theorem dL_law_933 : decode cL_law 933 = .ok (.iconst 2, 1) := by decide +kernel
theorem dL_law_934 : decode cL_law 934 = .ok (.iadd, 1) := by decide +kernel
theorem dL_law_935 : decode cL_law 935 = .ok (.iaload, 1) := by decide +kernel
theorem dL_law_936 : decode cL_law 936 = .ok (.aload_n 0, 1) := by decide +kernel
theorem dL_law_937 : decode cL_law 937 = .ok (.iload_n 3, 1) := by decide +kernel
theorem dL_law_938 : decode cL_law 938 = .ok (.iconst 3, 1) := by decide +kernel
theorem dL_law_939 : decode cL_law 939 = .ok (.iadd, 1) := by decide +kernel
theorem dL_law_940 : decode cL_law 940 = .ok (.iaload, 1) := by decide +kernel
theorem dL_law_941 : decode cL_law 941 = .ok (.invokevirtual 113, 3) := by decide +kernel
theorem dL_law_944 : decode cL_law 944 = .ok (.aload_n 2, 1) := by decide +kernel
theorem dL_law_945 : decode cL_law 945 = .ok (.aload_n 0, 1) := by decide +kernel
theorem dL_law_946 : decode cL_law 946 = .ok (.iload_n 3, 1) := by decide +kernel
theorem dL_law_947 : decode cL_law 947 = .ok (.iconst 1, 1) := by decide +kernel
theorem dL_law_948 : decode cL_law 948 = .ok (.iadd, 1) := by decide +kernel
theorem dL_law_949 : decode cL_law 949 = .ok (.iaload, 1) := by decide +kernel
theorem dL_law_950 : decode cL_law 950 = .ok (.aload_n 0, 1) := by decide +kernel
theorem dL_law_951 : decode cL_law 951 = .ok (.iload_n 3, 1) := by decide +kernel
theorem dL_law_952 : decode cL_law 952 = .ok (.iconst 2, 1) := by decide +kernel
theorem dL_law_953 : decode cL_law 953 = .ok (.iadd, 1) := by decide +kernel
theorem dL_law_954 : decode cL_law 954 = .ok (.iaload, 1) := by decide +kernel
theorem dL_law_955 : decode cL_law 955 = .ok (.aload_n 0, 1) := by decide +kernel
theorem dL_law_956 : decode cL_law 956 = .ok (.iload_n 3, 1) := by decide +kernel
theorem dL_law_957 : decode cL_law 957 = .ok (.iconst 3, 1) := by decide +kernel
theorem dL_law_958 : decode cL_law 958 = .ok (.iadd, 1) := by decide +kernel
theorem dL_law_959 : decode cL_law 959 = .ok (.iaload, 1) := by decide +kernel
theorem dL_law_960 : decode cL_law 960 = .ok (.invokevirtual 116, 3) := by decide +kernel
theorem dL_law_963 : decode cL_law 963 = .ok (.if_icmp .eq 91, 3) := by decide +kernel
theorem dL_law_966 : decode cL_law 966 = .ok (.iconst 0, 1) := by decide +kernel
theorem dL_law_967 : decode cL_law 967 = .ok (.ireturn, 1) := by decide +kernel
theorem dL_law_968 : decode cL_law 968 = .ok (.aload_n 1, 1) := by decide +kernel
theorem dL_law_969 : decode cL_law 969 = .ok (.aload_n 0, 1) := by decide +kernel
theorem dL_law_970 : decode cL_law 970 = .ok (.iload_n 3, 1) := by decide +kernel
theorem dL_law_971 : decode cL_law 971 = .ok (.iconst 1, 1) := by decide +kernel
theorem dL_law_972 : decode cL_law 972 = .ok (.iadd, 1) := by decide +kernel
theorem dL_law_973 : decode cL_law 973 = .ok (.iaload, 1) := by decide +kernel
theorem dL_law_974 : decode cL_law 974 = .ok (.aload_n 0, 1) := by decide +kernel
theorem dL_law_975 : decode cL_law 975 = .ok (.iload_n 3, 1) := by decide +kernel
theorem dL_law_976 : decode cL_law 976 = .ok (.iconst 2, 1) := by decide +kernel
theorem dL_law_977 : decode cL_law 977 = .ok (.iadd, 1) := by decide +kernel
theorem dL_law_978 : decode cL_law 978 = .ok (.iaload, 1) := by decide +kernel
theorem dL_law_979 : decode cL_law 979 = .ok (.aload_n 0, 1) := by decide +kernel
theorem dL_law_980 : decode cL_law 980 = .ok (.iload_n 3, 1) := by decide +kernel
theorem dL_law_981 : decode cL_law 981 = .ok (.iconst 3, 1) := by decide +kernel
theorem dL_law_982 : decode cL_law 982 = .ok (.iadd, 1) := by decide +kernel
theorem dL_law_983 : decode cL_law 983 = .ok (.iaload, 1) := by decide +kernel
theorem dL_law_984 : decode cL_law 984 = .ok (.aload_n 0, 1) := by decide +kernel
theorem dL_law_985 : decode cL_law 985 = .ok (.iload_n 3, 1) := by decide +kernel
theorem dL_law_986 : decode cL_law 986 = .ok (.iconst 4, 1) := by decide +kernel
theorem dL_law_987 : decode cL_law 987 = .ok (.iadd, 1) := by decide +kernel
theorem dL_law_988 : decode cL_law 988 = .ok (.iaload, 1) := by decide +kernel
theorem dL_law_989 : decode cL_law 989 = .ok (.aload_n 0, 1) := by decide +kernel
theorem dL_law_990 : decode cL_law 990 = .ok (.iload_n 3, 1) := by decide +kernel
theorem dL_law_991 : decode cL_law 991 = .ok (.iconst 5, 1) := by decide +kernel
theorem dL_law_992 : decode cL_law 992 = .ok (.iadd, 1) := by decide +kernel
theorem dL_law_993 : decode cL_law 993 = .ok (.iaload, 1) := by decide +kernel
theorem dL_law_994 : decode cL_law 994 = .ok (.invokevirtual 117, 3) := by decide +kernel
theorem dL_law_997 : decode cL_law 997 = .ok (.aload_n 2, 1) := by decide +kernel
theorem dL_law_998 : decode cL_law 998 = .ok (.aload_n 0, 1) := by decide +kernel
theorem dL_law_999 : decode cL_law 999 = .ok (.iload_n 3, 1) := by decide +kernel
theorem dL_law_1000 : decode cL_law 1000 = .ok (.iconst 1, 1) := by decide +kernel
theorem dL_law_1001 : decode cL_law 1001 = .ok (.iadd, 1) := by decide +kernel
theorem dL_law_1002 : decode cL_law 1002 = .ok (.iaload, 1) := by decide +kernel
theorem dL_law_1003 : decode cL_law 1003 = .ok (.aload_n 0, 1) := by decide +kernel
theorem dL_law_1004 : decode cL_law 1004 = .ok (.iload_n 3, 1) := by decide +kernel
theorem dL_law_1005 : decode cL_law 1005 = .ok (.iconst 2, 1) := by decide +kernel
theorem dL_law_1006 : decode cL_law 1006 = .ok (.iadd, 1) := by decide +kernel
theorem dL_law_1007 : decode cL_law 1007 = .ok (.iaload, 1) := by decide +kernel
theorem dL_law_1008 : decode cL_law 1008 = .ok (.aload_n 0, 1) := by decide +kernel
theorem dL_law_1009 : decode cL_law 1009 = .ok (.iload_n 3, 1) := by decide +kernel
theorem dL_law_1010 : decode cL_law 1010 = .ok (.iconst 3, 1) := by decide +kernel
theorem dL_law_1011 : decode cL_law 1011 = .ok (.iadd, 1) := by decide +kernel
theorem dL_law_1012 : decode cL_law 1012 = .ok (.iaload, 1) := by decide +kernel
theorem dL_law_1013 : decode cL_law 1013 = .ok (.aload_n 0, 1) := by decide +kernel
theorem dL_law_1014 : decode cL_law 1014 = .ok (.iload_n 3, 1) := by decide +kernel
theorem dL_law_1015 : decode cL_law 1015 = .ok (.iconst 4, 1) := by decide +kernel
theorem dL_law_1016 : decode cL_law 1016 = .ok (.iadd, 1) := by decide +kernel
theorem dL_law_1017 : decode cL_law 1017 = .ok (.iaload, 1) := by decide +kernel
theorem dL_law_1018 : decode cL_law 1018 = .ok (.aload_n 0, 1) := by decide +kernel
theorem dL_law_1019 : decode cL_law 1019 = .ok (.iload_n 3, 1) := by decide +kernel
theorem dL_law_1020 : decode cL_law 1020 = .ok (.iconst 5, 1) := by decide +kernel
theorem dL_law_1021 : decode cL_law 1021 = .ok (.iadd, 1) := by decide +kernel
theorem dL_law_1022 : decode cL_law 1022 = .ok (.iaload, 1) := by decide +kernel
theorem dL_law_1023 : decode cL_law 1023 = .ok (.invokevirtual 121, 3) := by decide +kernel
theorem dL_law_1026 : decode cL_law 1026 = .ok (.if_icmp .eq 28, 3) := by decide +kernel
theorem dL_law_1029 : decode cL_law 1029 = .ok (.iconst 0, 1) := by decide +kernel
theorem dL_law_1030 : decode cL_law 1030 = .ok (.ireturn, 1) := by decide +kernel
theorem dL_law_1031 : decode cL_law 1031 = .ok (.aload_n 1, 1) := by decide +kernel
theorem dL_law_1032 : decode cL_law 1032 = .ok (.aload_n 0, 1) := by decide +kernel
theorem dL_law_1033 : decode cL_law 1033 = .ok (.iload_n 3, 1) := by decide +kernel
theorem dL_law_1034 : decode cL_law 1034 = .ok (.iconst 1, 1) := by decide +kernel
theorem dL_law_1035 : decode cL_law 1035 = .ok (.iadd, 1) := by decide +kernel
theorem dL_law_1036 : decode cL_law 1036 = .ok (.iaload, 1) := by decide +kernel
theorem dL_law_1037 : decode cL_law 1037 = .ok (.invokevirtual 122, 3) := by decide +kernel
theorem dL_law_1040 : decode cL_law 1040 = .ok (.aload_n 2, 1) := by decide +kernel
theorem dL_law_1041 : decode cL_law 1041 = .ok (.aload_n 0, 1) := by decide +kernel
theorem dL_law_1042 : decode cL_law 1042 = .ok (.iload_n 3, 1) := by decide +kernel
theorem dL_law_1043 : decode cL_law 1043 = .ok (.iconst 1, 1) := by decide +kernel
theorem dL_law_1044 : decode cL_law 1044 = .ok (.iadd, 1) := by decide +kernel
theorem dL_law_1045 : decode cL_law 1045 = .ok (.iaload, 1) := by decide +kernel
theorem dL_law_1046 : decode cL_law 1046 = .ok (.invokevirtual 125, 3) := by decide +kernel
theorem dL_law_1049 : decode cL_law 1049 = .ok (.if_icmp .eq 5, 3) := by decide +kernel
theorem dL_law_1052 : decode cL_law 1052 = .ok (.iconst 0, 1) := by decide +kernel
theorem dL_law_1053 : decode cL_law 1053 = .ok (.ireturn, 1) := by decide +kernel
theorem dL_law_1054 : decode cL_law 1054 = .ok (.iinc 3 7, 3) := by decide +kernel
theorem dL_law_1057 : decode cL_law 1057 = .ok (.goto (-1039), 3) := by decide +kernel
theorem dL_law_1060 : decode cL_law 1060 = .ok (.iconst 1, 1) := by decide +kernel
theorem dL_law_1061 : decode cL_law 1061 = .ok (.ireturn, 1) := by decide +kernel
end
section
/-! BASE: one state function for all cells of a world: (kind, object, place) ↦ number; a world is a list of keys (kind, object) with an address and a cell each -/
abbrev St : Type := Nat → Nat → Nat → Int32
def su (σ : St) (c o k : Nat) (v : Int32) : St := fun c' o' k' => if c' = c ∧ k' = k ∧ o' = o then v else σ c' o' k'
def sr (σ : St) (c o : Nat) (f : Nat → Int32) : St := fun c' o' k' => if c' = c ∧ o' = o then f k' else σ c' o' k'
theorem su_eq {σ : St} {c o k : Nat} {v : Int32} : su σ c o k v c o k = v := by simp [su]
theorem su_nc {σ : St} {c o k c' o' k' : Nat} {v : Int32} (h : Nat.beq c' c = false) : su σ c o k v c' o' k' = σ c' o' k' := by
  have h1 : ¬ c' = c := fun e => by rw [e, Nat.beq_refl] at h; cases h
  simp [su, h1]
theorem su_nk {σ : St} {c o k c' o' k' : Nat} {v : Int32} (h : Nat.beq k' k = false) : su σ c o k v c' o' k' = σ c' o' k' := by
  have h1 : ¬ k' = k := fun e => by rw [e, Nat.beq_refl] at h; cases h
  simp [su, h1]
theorem su_no {σ : St} {c o k c' o' k' : Nat} {v : Int32} (h : Nat.beq o' o = false) : su σ c o k v c' o' k' = σ c' o' k' := by
  have h1 : ¬ o' = o := fun e => by rw [e, Nat.beq_refl] at h; cases h
  simp [su, h1]
theorem su_ne {σ : St} {c o k c' o' : Nat} {v : Int32} (h : ¬ (c' = c ∧ o' = o)) (k' : Nat) : su σ c o k v c' o' k' = σ c' o' k' := by
  unfold su
  rw [if_neg]
  intro e
  exact h ⟨e.1, e.2.2⟩
theorem sr_eq {σ : St} {c o k : Nat} {f : Nat → Int32} : sr σ c o f c o k = f k := by simp [sr]
theorem sr_nc {σ : St} {c o c' o' k' : Nat} {f : Nat → Int32} (h : Nat.beq c' c = false) : sr σ c o f c' o' k' = σ c' o' k' := by
  have h1 : ¬ c' = c := fun e => by rw [e, Nat.beq_refl] at h; cases h
  simp [sr, h1]
theorem sr_no {σ : St} {c o c' o' k' : Nat} {f : Nat → Int32} (h : Nat.beq o' o = false) : sr σ c o f c' o' k' = σ c' o' k' := by
  have h1 : ¬ o' = o := fun e => by rw [e, Nat.beq_refl] at h; cases h
  simp [sr, h1]
theorem sr_ne {σ : St} {c o c' o' : Nat} {f : Nat → Int32} (h : ¬ (c' = c ∧ o' = o)) (k' : Nat) : sr σ c o f c' o' k' = σ c' o' k' := by
  unfold sr
  rw [if_neg h]
theorem su_row {σ : St} {c o k : Nat} {v : Int32} : (fun i => su σ c o k v c o i) = upd (fun i => σ c o i) k v := by
  funext i
  by_cases h : i = k <;> simp [su, upd, h]
theorem sr_row {σ : St} {c o : Nat} {f : Nat → Int32} : (fun i => sr σ c o f c o i) = f := by
  funext i
  simp [sr]
/-! worlds by keys -/
def wz (L : List (Nat × Nat)) (ad : Nat → Nat → Nat) (e : Nat → Nat → va_E) : va_W := L.map (fun q => (ad q.1 q.2, e q.1 q.2))
theorem wz_get {L : List (Nat × Nat)} {ad : Nat → Nat → Nat} {e : Nat → Nat → va_E} {c o : Nat} (h : (c, o) ∈ L) : ∃ k : Nat, (wz L ad e)[k]? = some (ad c o, e c o) := by
  obtain ⟨k, hk⟩ := List.getElem?_of_mem h
  exact ⟨k, by simp [wz, hk]⟩
theorem wz_set {A : Nat → Prop} {L : List (Nat × Nat)} {ad : Nat → Nat → Nat} {e e' : Nat → Nat → va_E} {c o k : Nat} (hD : va_D A (wz L ad e)) (h : (c, o) ∈ L) (hk : (wz L ad e)[k]? = some (ad c o, e c o)) (he : ∀ c' o', ¬ (c' = c ∧ o' = o) → e' c' o' = e c' o') : (wz L ad e).set k (ad c o, e' c o) = wz L ad e' := by
  apply List.ext_getElem?
  intro j
  by_cases hj : j = k
  · subst hj
    rw [List.getElem?_set_self (List.getElem?_eq_some_iff.mp hk).1]
    obtain ⟨k0, hk0⟩ := List.getElem?_of_mem h
    have h0 : (wz L ad e)[k0]? = some (ad c o, e c o) := by simp [wz, hk0]
    have e0 := hD.1 _ _ _ _ hk h0 rfl
    subst e0
    simp [wz, hk0]
  · rw [List.getElem?_set_ne (Ne.symm hj)]
    cases hq : L[j]? with
    | none => simp [wz, hq]
    | some q =>
      have h1 : (wz L ad e)[j]? = some (ad q.1 q.2, e q.1 q.2) := by simp [wz, hq]
      have h2 : (wz L ad e')[j]? = some (ad q.1 q.2, e' q.1 q.2) := by simp [wz, hq]
      rw [h1, h2, he]
      intro z
      exact hj (hD.1 j k _ _ h1 hk (by rw [z.1, z.2]))
theorem wz_D {A : Nat → Prop} {L : List (Nat × Nat)} {ad : Nat → Nat → Nat} {e : Nat → Nat → va_E} (hD : va_D A (wz L ad e)) (e' : Nat → Nat → va_E) : va_D A (wz L ad e') := by
  have key : ∀ (k : Nat) (q : Nat × va_E), (wz L ad e')[k]? = some q → ∃ q0, (wz L ad e)[k]? = some q0 ∧ q0.1 = q.1 := by
    intro k q hk
    cases hq : L[k]? with
    | none => simp [wz, hq] at hk
    | some x =>
      have h1 : (wz L ad e)[k]? = some (ad x.1 x.2, e x.1 x.2) := by simp [wz, hq]
      have h2 : (wz L ad e')[k]? = some (ad x.1 x.2, e' x.1 x.2) := by simp [wz, hq]
      rw [h2] at hk
      cases hk
      exact ⟨_, h1, rfl⟩
  refine ⟨fun i j p q hp hq hpq => ?_, fun k q hk => ?_⟩
  · obtain ⟨p0, a1, a2⟩ := key i p hp
    obtain ⟨q0, b1, b2⟩ := key j q hq
    exact hD.1 i j p0 q0 a1 b1 (by rw [a2, b2, hpq])
  · obtain ⟨q0, b1, b2⟩ := key k q hk
    rw [← b2]
    exact hD.2 k q0 b1
def zJ (L : List (Nat × Nat)) (ad : Nat → Nat → Nat) (A : Nat → Prop) : Prop := va_D A (wz L ad (fun _ _ => .inr (0, [])))
theorem zJ.D {L : List (Nat × Nat)} {ad : Nat → Nat → Nat} {A : Nat → Prop} (h : zJ L ad A) (e : Nat → Nat → va_E) : va_D A (wz L ad e) := wz_D h e
/-- the cells that a world may change -/
def zA (L : List (Nat × Nat)) (ad : Nat → Nat → Nat) : Nat → Prop := fun q => ∃ x ∈ L, q = ad x.1 x.2
def wo (D : va_G) (cl : List vw_C) (L : List (Nat × Nat)) (ad : Nat → Nat → Nat) (H0 H : Heap) (locs : List Loc) (e : Nat → Nat → va_E) : Prop := va_P D cl (wz L ad e) H ∧ va_S (zA L ad) H0 H locs
/-! the tables' words that a contract may carry -/
def GW : List Cond := lw_tbl.filter goodWord
theorem gw_good {w : Cond} (h : w ∈ GW) : (w.onTables && w.keeps) = true ∨ ∃ ty, w = .arrayClass ty := good_of_word (List.mem_filter.mp h).2
theorem gw_of {w : Cond} (h : w ∈ tables_1) (g : goodWord w = true) : w ∈ GW := List.mem_filter.mpr ⟨List.mem_append_right _ h, g⟩
theorem gw_sel {w : Cond} (h : w ∈ k2_sels lw_privs) (g : goodWord w = true) : w ∈ GW := List.mem_filter.mpr ⟨List.mem_append_left _ h, g⟩
theorem gw_GI {big : List Cond} (hb : ∀ w ∈ GW, w ∈ big) : GoodIn big GW := fun w h => ⟨hb w h, gw_good h⟩
section XB
variable {p : Program} {l : Launch} {e : Env} {R : Room} {s : State} {m : MethodId} {args : Array Value} {below : List Frame} {meth : Method} {c : Code} {H : Heap} {locs : List Loc} {Q : State → Prop}
variable {cc : ByteArray} {pc nL : Nat} {ls : Array Slot} {rest : List Value} {D : va_G} {cl : List vw_C} {tys : List (ClassId × FieldType)} {L : List (Nat × Nat)} {ad : Nat → Nat → Nat} {own : String} {f : Nat → Nat → va_E}
theorem x_get (S : CallFix p m c cc nL s args GW own) (hK : va_K D cl tys s) (hw : wo D cl L ad s.heap H locs f) {ck o : Nat} (ho : (ck, o) ∈ L) {ci : Nat} {fs : List Value} (he : f ck o = .inr (ci, fs)) {C : String} {T : u_T} {N : Nat} (hcl : cl[ci]? = some (C, T, N)) (hin : ∀ w ∈ u_ws C T N, w ∈ GW) (k : Nat) (hk : k < N) {index : Nat} {v : Value} (hlink : Cond.fieldLink own index (T k).1 (T k).2.1 (T k).2.2.1 ∈ GW) (hv : fs[k]? = some v) (hdg : decode cc pc = .ok (.getfield index, 3))
    (kk : W p l e R s m args below meth c H locs 0 0 Q (F0 m (pc + 3) ls (v :: rest))) : W p l e R s m args below meth c H locs 0 0 Q (F0 m pc ls (.ref (ad ck o) :: rest)) := by
  obtain ⟨q0, hq⟩ := wz_get (ad := ad) (e := f) ho
  exact va_get S.1 S.2.1 S.2.2.2.2 hin S.2.2.2.1 hK hw.1 q0 (by rw [hq, he]) hcl k hk (S.2.2.2.2 _ hlink) (fun _ h => h) hv hdg kk
theorem x_put (S : CallFix p m c cc nL s args GW own) (hK : va_K D cl tys s) (hJ : zJ L ad (zA L ad)) (hw : wo D cl L ad s.heap H locs f) {ck o : Nat} (ho : (ck, o) ∈ L) {ci : Nat} {fs : List Value} (he : f ck o = .inr (ci, fs)) {C : String} {T : u_T} {N : Nat} (hcl : cl[ci]? = some (C, T, N)) (hin : ∀ w ∈ u_ws C T N, w ∈ GW) (ty0 : Nat → FieldType) (hty : ∀ k, k < N → parseFieldDescriptor (T k).2.2.1 = some (ty0 k)) (hnm : ∀ a, a < N → ∀ b, b < N → a ≠ b → (T a).2.1 ≠ (T b).2.1) (k : Nat) (hk : k < N) {index : Nat} {x : Int32} (hlink : Cond.fieldLink own index (T k).1 (T k).2.1 (T k).2.2.1 ∈ GW) (hfin : (T k).2.2.2 = false) (hd : parseFieldDescriptor (T k).2.2.1 = some .int) (hl : k < fs.length) (hdg : decode cc pc = .ok (.putfield index, 3))
    {f' : Nat → Nat → va_E} (he1 : f' ck o = .inr (ci, fs.set k (.int x))) (he2 : ∀ c' o', ¬ (c' = ck ∧ o' = o) → f' c' o' = f c' o')
    (kk : ∀ (H1 : Heap) (locs1 : List Loc), wo D cl L ad s.heap H1 locs1 f' → W p l e R s m args below meth c H1 locs1 0 0 Q (F0 m (pc + 3) ls rest)) : W p l e R s m args below meth c H locs 0 0 Q (F0 m pc ls (.int x :: .ref (ad ck o) :: rest)) := by
  obtain ⟨q0, hq⟩ := wz_get (ad := ad) (e := f) ho
  refine va_put S.1 S.2.1 S.2.2.2.2 hin ty0 hty hnm S.2.2.2.1 hK hw.1 (hJ.D f) hw.2 q0 (by rw [hq, he]) hcl k hk (S.2.2.2.2 _ hlink) (fun _ h => h) hfin hd rfl rfl hl hdg (fun H1 locs1 hP _ hS => ?_)
  refine kk H1 locs1 ⟨?_, hS⟩
  rw [← he1, wz_set (hJ.D f) ho hq he2] at hP
  exact hP
theorem x_iald (S : CallFix p m c cc nL s args GW own) (hK : va_K D cl tys s) (hw : wo D cl L ad s.heap H locs f) {ck o : Nat} (ho : (ck, o) ∈ L) {cA : ClassId} {n : Nat} {g : Nat → Int32} (he : f ck o = .inl (cA, n, .inl g)) (t0 : Nat) (ht : tys[t0]? = some (cA, .int)) {i : Int32} (hi : vp_in i n) {z : Int32} (hz : g i.toNatClampNeg = z) (hdg : decode cc pc = .ok (.iaload, 1))
    (kk : W p l e R s m args below meth c H locs 0 0 Q (F0 m (pc + 1) ls (.int z :: rest))) : W p l e R s m args below meth c H locs 0 0 Q (F0 m pc ls (.int i :: .ref (ad ck o) :: rest)) := by
  obtain ⟨q0, hq⟩ := wz_get (ad := ad) (e := f) ho
  subst hz
  exact va_iald S.1 S.2.1 hK hw.1 q0 t0 (by rw [hq, he]) ht hi hdg kk
theorem x_zald (S : CallFix p m c cc nL s args GW own) (hK : va_K D cl tys s) (hw : wo D cl L ad s.heap H locs f) {ck o : Nat} (ho : (ck, o) ∈ L) {cA : ClassId} {n : Nat} {g : Nat → Int32} (he : f ck o = .inl (cA, n, .inl g)) (t0 : Nat) (ht : tys[t0]? = some (cA, .boolean)) {i : Int32} (hi : vp_in i n) {z : Int32} (hz : g i.toNatClampNeg = z) (hdg : decode cc pc = .ok (.baload, 1))
    (kk : W p l e R s m args below meth c H locs 0 0 Q (F0 m (pc + 1) ls (.int z :: rest))) : W p l e R s m args below meth c H locs 0 0 Q (F0 m pc ls (.int i :: .ref (ad ck o) :: rest)) := by
  obtain ⟨q0, hq⟩ := wz_get (ad := ad) (e := f) ho
  subst hz
  exact va_zald S.1 S.2.1 hK hw.1 q0 t0 (by rw [hq, he]) ht hi hdg kk
theorem x_aald (S : CallFix p m c cc nL s args GW own) (hK : va_K D cl tys s) (hw : wo D cl L ad s.heap H locs f) {ck o : Nat} (ho : (ck, o) ∈ L) {cA : ClassId} {n : Nat} {g : Nat → Option Nat} (he : f ck o = .inl (cA, n, .inr (.inr (.inr (.inr g))))) (t0 : Nat) {C : String} (ht : tys[t0]? = some (cA, .object C)) {i : Int32} (hi : vp_in i n) {a : Nat} (hz : g i.toNatClampNeg = some a) (hdg : decode cc pc = .ok (.aaload, 1))
    (kk : W p l e R s m args below meth c H locs 0 0 Q (F0 m (pc + 1) ls (.ref a :: rest))) : W p l e R s m args below meth c H locs 0 0 Q (F0 m pc ls (.int i :: .ref (ad ck o) :: rest)) := by
  obtain ⟨q0, hq⟩ := wz_get (ad := ad) (e := f) ho
  refine va_aldq S.1 S.2.1 hK hw.1 q0 t0 (by rw [hq, he]) ht hi hdg ?_
  rw [hz]
  exact kk
theorem x_alen (S : CallFix p m c cc nL s args GW own) (hK : va_K D cl tys s) (hw : wo D cl L ad s.heap H locs f) {ck o : Nat} (ho : (ck, o) ∈ L) {cA : ClassId} {x : vp_A} (he : f ck o = .inl (cA, x)) (t0 : Nat) {ty : FieldType} (ht : tys[t0]? = some (cA, ty)) {v : Int32} (hv : Int32.ofNat x.1 = v) (hdg : decode cc pc = .ok (.arraylength, 1))
    (kk : W p l e R s m args below meth c H locs 0 0 Q (F0 m (pc + 1) ls (.int v :: rest))) : W p l e R s m args below meth c H locs 0 0 Q (F0 m pc ls (.ref (ad ck o) :: rest)) := by
  obtain ⟨q0, hq⟩ := wz_get (ad := ad) (e := f) ho
  exact va_alen S.1 S.2.1 hK hw.1 q0 t0 (by rw [hq, he]) ht hv hdg kk
theorem x_iast (S : CallFix p m c cc nL s args GW own) (hK : va_K D cl tys s) (hJ : zJ L ad (zA L ad)) (hw : wo D cl L ad s.heap H locs f) {ck o : Nat} (ho : (ck, o) ∈ L) {cA : ClassId} {n : Nat} {g : Nat → Int32} (he : f ck o = .inl (cA, n, .inl g)) (t0 : Nat) (ht : tys[t0]? = some (cA, .int)) {i x : Int32} (hi : vp_in i n) (hdg : decode cc pc = .ok (.iastore, 1))
    {f' : Nat → Nat → va_E} (he1 : f' ck o = .inl (cA, n, .inl (upd g i.toNatClampNeg x))) (he2 : ∀ c' o', ¬ (c' = ck ∧ o' = o) → f' c' o' = f c' o')
    (kk : ∀ (H1 : Heap) (locs1 : List Loc), wo D cl L ad s.heap H1 locs1 f' → W p l e R s m args below meth c H1 locs1 0 0 Q (F0 m (pc + 1) ls rest)) : W p l e R s m args below meth c H locs 0 0 Q (F0 m pc ls (.int x :: .int i :: .ref (ad ck o) :: rest)) := by
  obtain ⟨q0, hq⟩ := wz_get (ad := ad) (e := f) ho
  refine va_iast S.1 S.2.1 hK hw.1 (hJ.D f) hw.2 q0 t0 (by rw [hq, he]) ht hi hdg (fun H1 locs1 hP _ hS => ?_)
  refine kk H1 locs1 ⟨?_, hS⟩
  rw [← he1, wz_set (hJ.D f) ho hq he2] at hP
  exact hP
theorem x_zast (S : CallFix p m c cc nL s args GW own) (hK : va_K D cl tys s) (hJ : zJ L ad (zA L ad)) (hw : wo D cl L ad s.heap H locs f) {ck o : Nat} (ho : (ck, o) ∈ L) {cA : ClassId} {n : Nat} {g : Nat → Int32} (he : f ck o = .inl (cA, n, .inl g)) (t0 : Nat) (ht : tys[t0]? = some (cA, .boolean)) {i x : Int32} (hi : vp_in i n) (hdg : decode cc pc = .ok (.bastore, 1))
    {f' : Nat → Nat → va_E} (he1 : f' ck o = .inl (cA, n, .inl (upd g i.toNatClampNeg (vp_nar .boolean x)))) (he2 : ∀ c' o', ¬ (c' = ck ∧ o' = o) → f' c' o' = f c' o')
    (kk : ∀ (H1 : Heap) (locs1 : List Loc), wo D cl L ad s.heap H1 locs1 f' → W p l e R s m args below meth c H1 locs1 0 0 Q (F0 m (pc + 1) ls rest)) : W p l e R s m args below meth c H locs 0 0 Q (F0 m pc ls (.int x :: .int i :: .ref (ad ck o) :: rest)) := by
  obtain ⟨q0, hq⟩ := wz_get (ad := ad) (e := f) ho
  refine va_zast S.1 S.2.1 hK hw.1 (hJ.D f) hw.2 q0 t0 (by rw [hq, he]) ht hi hdg (fun H1 locs1 hP _ hS => ?_)
  refine kk H1 locs1 ⟨?_, hS⟩
  rw [← he1, wz_set (hJ.D f) ho hq he2] at hP
  exact hP
theorem x_copy (S : CallFix p m c cc nL s args GW own) (hK : va_K D cl tys s) (hJ : zJ L ad (zA L ad)) (hw : wo D cl L ad s.heap H locs f) (hsz : ls.size = nL) {index : Nat} (hlink : Cond.methodLink own index arraycopyName ∈ GW) (hnat : Cond.native arraycopyName ∈ GW) (hstat : Cond.static arraycopyName ∈ GW) (hini : Cond.initialized "java/lang/System" ∈ GW) {c0 o0 c1 o1 : Nat} (ho0 : (c0, o0) ∈ L) (ho1 : (c1, o1) ∈ L) {cA : ClassId} {n0 n1 : Nat} {g0 g1 : Nat → Int32} (he0 : f c0 o0 = .inl (cA, n0, .inl g0)) (he1 : f c1 o1 = .inl (cA, n1, .inl g1)) (t0 : Nat) (ht : tys[t0]? = some (cA, .int)) {sp dp n : Int32} (h1 : ¬ sp < 0) (h2 : ¬ dp < 0) (h3 : ¬ n < 0) (h4 : sp.toNatClampNeg + n.toNatClampNeg ≤ n0) (h5 : dp.toNatClampNeg + n.toNatClampNeg ≤ n1) (hfr : 1 ≤ R.frames) (hlo : (rest.map fun v => v.category).sum + (nativeFrameWords "java/lang/System" "arraycopy" 5 + 11) ≤ R.locals) (hdg : decode cc pc = .ok (.invokestatic index, 3))
    {f' : Nat → Nat → va_E} (hf1 : f' c1 o1 = .inl (cA, n1, .inl (va_cpy g0 g1 sp.toNatClampNeg dp.toNatClampNeg n.toNatClampNeg))) (hf2 : ∀ c' o', ¬ (c' = c1 ∧ o' = o1) → f' c' o' = f c' o')
    (kk : ∀ (H1 : Heap) (locs1 : List Loc), wo D cl L ad s.heap H1 locs1 f' → W p l e R s m args below meth c H1 locs1 0 0 Q (F0 m (pc + 3) ls rest)) : W p l e R s m args below meth c H locs 0 0 Q (F0 m pc ls (.int n :: .int dp :: .ref (ad c1 o1) :: .int sp :: .ref (ad c0 o0) :: rest)) := by
  obtain ⟨q0, hq0⟩ := wz_get (ad := ad) (e := f) ho0
  obtain ⟨q1, hq1⟩ := wz_get (ad := ad) (e := f) ho1
  refine va_copyi S.1 S.2.1 (by rw [S.2.2.1, hsz]) S.2.2.2.1 (S.2.2.2.2 _ hlink) (S.2.2.2.2 _ hnat) (S.2.2.2.2 _ hstat) (S.2.2.2.2 _ hini) hK hw.1 (hJ.D f) hw.2 q0 q1 t0 t0 (by rw [hq0, he0]) (by rw [hq1, he1]) ht ht rfl h1 h2 h3 h4 h5 (fun _ _ => rfl) hfr hlo hdg (fun H1 locs1 hP _ hS => ?_)
  refine kk H1 locs1 ⟨?_, hS⟩
  rw [← hf1, wz_set (hJ.D f) ho1 hq1 hf2] at hP
  exact hP
theorem x_max (S : CallFix p m c cc nL s args GW own) (hsz : ls.size = nL) {index : Nat} (hlink : Cond.methodLink own index Lib.Math.max.name ∈ GW) (hstat : Cond.static Lib.Math.max.name ∈ GW) (hini : Cond.initialized "java/lang/Math" ∈ GW) (hcode : Cond.code Lib.Math.max.name Lib.Math.max.code 2 (some .int) ∈ GW) (hfr : 1 ≤ R.frames) (hlo : (rest.map fun v => v.category).sum + 13 ≤ R.locals) {x y : Int32} (hdg : decode cc pc = .ok (.invokestatic index, 3))
    (kk : W p l e R s m args below meth c H locs 0 0 Q (F0 m (pc + 3) ls (.int (if x < y then y else x) :: rest))) : W p l e R s m args below meth c H locs 0 0 Q (F0 m pc ls (.int y :: .int x :: rest)) :=
  va_mmax S.1 S.2.1 (by rw [S.2.2.1, hsz]) S.2.2.2.1 (S.2.2.2.2 _ hlink) (S.2.2.2.2 _ hstat) (S.2.2.2.2 _ hini) (S.2.2.2.2 _ hcode) hfr hlo (Nat.zero_le _) (Nat.zero_le _) hdg kk
theorem x_min (S : CallFix p m c cc nL s args GW own) (hsz : ls.size = nL) {index : Nat} (hlink : Cond.methodLink own index Lib.Math.min.name ∈ GW) (hstat : Cond.static Lib.Math.min.name ∈ GW) (hini : Cond.initialized "java/lang/Math" ∈ GW) (hcode : Cond.code Lib.Math.min.name Lib.Math.min.code 2 (some .int) ∈ GW) (hfr : 1 ≤ R.frames) (hlo : (rest.map fun v => v.category).sum + 13 ≤ R.locals) {x y : Int32} (hdg : decode cc pc = .ok (.invokestatic index, 3))
    (kk : W p l e R s m args below meth c H locs 0 0 Q (F0 m (pc + 3) ls (.int (if y < x then y else x) :: rest))) : W p l e R s m args below meth c H locs 0 0 Q (F0 m pc ls (.int y :: .int x :: rest)) :=
  va_mmin S.1 S.2.1 (by rw [S.2.2.1, hsz]) S.2.2.2.1 (S.2.2.2.2 _ hlink) (S.2.2.2.2 _ hstat) (S.2.2.2.2 _ hini) (S.2.2.2.2 _ hcode) hfr hlo (Nat.zero_le _) (Nat.zero_le _) hdg kk
theorem x_abs (S : CallFix p m c cc nL s args GW own) (hsz : ls.size = nL) {index : Nat} (hlink : Cond.methodLink own index Lib.Math.abs.name ∈ GW) (hstat : Cond.static Lib.Math.abs.name ∈ GW) (hini : Cond.initialized "java/lang/Math" ∈ GW) (hcode : Cond.code Lib.Math.abs.name Lib.Math.abs.code 1 (some .int) ∈ GW) (hfr : 1 ≤ R.frames) (hlo : (rest.map fun v => v.category).sum + 13 ≤ R.locals) {x : Int32} (hdg : decode cc pc = .ok (.invokestatic index, 3))
    (kk : W p l e R s m args below meth c H locs 0 0 Q (F0 m (pc + 3) ls (.int (if 0 ≤ x then x else 0 - x) :: rest))) : W p l e R s m args below meth c H locs 0 0 Q (F0 m pc ls (.int x :: rest)) :=
  va_mabs S.1 S.2.1 (by rw [S.2.2.1, hsz]) S.2.2.2.1 (S.2.2.2.2 _ hlink) (S.2.2.2.2 _ hstat) (S.2.2.2.2 _ hini) (S.2.2.2.2 _ hcode) hfr hlo (Nat.zero_le _) (Nat.zero_le _) hdg kk
end XB
end
section
/-! CONTRACTS over a world by keys: start, end, calls; Ev: what else holds (tables, nest mates, statics, texts) -/
def EvOK (Ev : State → Prop) (L : List (Nat × Nat)) (ad : Nat → Nat → Nat) : Prop := (∀ (U : State) (g : JFrame) (mk : MethodId) (a : Array Value), Ev U → Ev (U.calling g mk a)) ∧ ∀ (s U : State) (H : Heap) (locs : List Loc), Ev s → va_S (zA L ad) s.heap H locs → U.heap = H → s.WarmedH U.vm → Ev U
abbrev zQi (D : va_G) (cl : List vw_C) (L : List (Nat × Nat)) (ad : Nat → Nat → Nat) (F : St → Nat → Nat → va_E) (post : Int32 → St → Prop) : Array Value → State → Outcome → State → Prop := va_Qi post (fun σ' t => va_P D cl (wz L ad (F σ')) t.heap) (zA L ad)
abbrev zQv (D : va_G) (cl : List vw_C) (L : List (Nat × Nat)) (ad : Nat → Nat → Nat) (F : St → Nat → Nat → va_E) (post : St → Prop) : Array Value → State → Outcome → State → Prop := va_Qv post (fun σ' t => va_P D cl (wz L ad (F σ')) t.heap) (zA L ad)
abbrev zPc (D : va_G) (cl : List vw_C) (L : List (Nat × Nat)) (ad : Nat → Nat → Nat) (F : St → Nat → Nat → va_E) (Ev : State → Prop) (avs : List Value) (σ : St) : Array Value → State → Prop := va_Pc avs (fun U => va_P D cl (wz L ad (F σ)) U.heap ∧ Ev U)
def cI (l : Launch) (D : va_G) (cl : List vw_C) (L : List (Nat × Nat)) (ad : Nat → Nat → Nat) (F : St → Nat → Nat → va_E) (Ev : State → Prop) (y : MethodName) (cc : ByteArray) (nL : Nat) (ret : Option FieldType) (rm : Room) (avs : List Value) (σ : St) (post : Int32 → St → Prop) : Prop :=
  Met l y (Cond.code y cc nL ret :: GW) rm (zPc D cl L ad F Ev avs σ) (zQi D cl L ad F post) 0 0 (zA L ad)
def cV (l : Launch) (D : va_G) (cl : List vw_C) (L : List (Nat × Nat)) (ad : Nat → Nat → Nat) (F : St → Nat → Nat → va_E) (Ev : State → Prop) (y : MethodName) (cc : ByteArray) (nL : Nat) (ret : Option FieldType) (rm : Room) (avs : List Value) (σ : St) (post : St → Prop) : Prop :=
  Met l y (Cond.code y cc nL ret :: GW) rm (zPc D cl L ad F Ev avs σ) (zQv D cl L ad F post) 0 0 (zA L ad)
/-- what an instance method's caller wants of the tables, but for the link -/
def okV (C : String) (y : MethodName) (cc : ByteArray) (nL : Nat) (ret : Option FieldType) (n : Nat) : Prop := (Cond.instanceMethod y ∈ GW ∧ Cond.selects C y y ∈ GW ∧ Cond.initialized C ∈ GW ∧ Cond.code y cc nL ret ∈ GW) ∧ (y.cls = C ∧ y.cls ≠ "java/lang/invoke/MethodHandle" ∧ y.cls ≠ "java/lang/invoke/VarHandle" ∧ (parseMethodDescriptor y.desc).map (fun d => d.parameters.length) = some n)
def okS (y : MethodName) (cc : ByteArray) (nL : Nat) (ret : Option FieldType) (n : Nat) : Prop := (Cond.static y ∈ GW ∧ Cond.initialized y.cls ∈ GW ∧ Cond.code y cc nL ret ∈ GW) ∧ (y.cls ≠ "java/lang/invoke/MethodHandle" ∧ y.cls ≠ "java/lang/invoke/VarHandle" ∧ (parseMethodDescriptor y.desc).map (fun d => d.parameters.length) = some n)
section XC
variable {p : Program} {l : Launch} {e : Env} {R : Room} {s : State} {m : MethodId} {args : Array Value} {below : List Frame} {meth : Method} {c : Code} {H : Heap} {locs : List Loc} {Q : State → Prop}
variable {cc bytes : ByteArray} {pc nL maxL n : Nat} {ls : Array Slot} {rest st0 As avs : List Value} {D : va_G} {cl : List vw_C} {L : List (Nat × Nat)} {ad : Nat → Nat → Nat} {own C : String} {F : St → Nat → Nat → va_E} {Ev : State → Prop} {σ : St} {y : MethodName} {ret : Option FieldType} {rm : Room} {b index : Nat}
theorem ent_i {post : Int32 → St → Prop} (hy : plainName y.cls = true) (hle : (lg_sl avs).length ≤ nL) (body : ∀ (p : Program) (e : Env) (s : State) (m : MethodId) (below : List Frame) (meth : Method) (c : Code), CallFix p m c cc nL s avs.toArray GW y.cls → Ev s → meth.sig.returnType = ret → meth.locks = false → wo D cl L ad s.heap s.heap [] (F σ) → ∀ ls : Array Slot, lv_has ls nL (lv_args 0 avs) → W p l e rm s m avs.toArray below meth c s.heap [] 0 0 (MQ below (zQi D cl L ad F post) avs.toArray s 0 0 (zA L ad)) (F0 m 0 ls [])) : cI l D cl L ad F Ev y cc nL ret rm avs σ post := by
  refine Met.ofW (cc := cc) (maxL := nL) (ret := ret) hy rfl ?_
  intro p e s m args below meth c s₁ B hml hv
  obtain ⟨rfl, hP, hE⟩ := hv
  have hts := atoms_spec (ws := Cond.code y cc nL ret :: GW) B.pre
  have hown : s.vm.findClass y.cls = some m.cls := findClass_of_methodNamed B.named
  have hl := lv_entry avs (n := nL) hle
  rw [lg_entry_eq]
  generalize (lg_sl avs ++ List.replicate (nL - (lg_sl avs).length) Slot.unset).toArray = ls at hl ⊢
  exact body p e s m below meth c ⟨B.exec, B.bytes, hml, hown, fun w h => hts w (List.mem_cons_of_mem _ h)⟩ hE B.returns B.notSynchronized ⟨hP, va_S.rf⟩ ls hl
theorem ent_v {post : St → Prop} (hy : plainName y.cls = true) (hle : (lg_sl avs).length ≤ nL) (body : ∀ (p : Program) (e : Env) (s : State) (m : MethodId) (below : List Frame) (meth : Method) (c : Code), CallFix p m c cc nL s avs.toArray GW y.cls → Ev s → meth.sig.returnType = ret → meth.locks = false → wo D cl L ad s.heap s.heap [] (F σ) → ∀ ls : Array Slot, lv_has ls nL (lv_args 0 avs) → W p l e rm s m avs.toArray below meth c s.heap [] 0 0 (MQ below (zQv D cl L ad F post) avs.toArray s 0 0 (zA L ad)) (F0 m 0 ls [])) : cV l D cl L ad F Ev y cc nL ret rm avs σ post := by
  refine Met.ofW (cc := cc) (maxL := nL) (ret := ret) hy rfl ?_
  intro p e s m args below meth c s₁ B hml hv
  obtain ⟨rfl, hP, hE⟩ := hv
  have hts := atoms_spec (ws := Cond.code y cc nL ret :: GW) B.pre
  have hown : s.vm.findClass y.cls = some m.cls := findClass_of_methodNamed B.named
  have hl := lv_entry avs (n := nL) hle
  rw [lg_entry_eq]
  generalize (lg_sl avs ++ List.replicate (nL - (lg_sl avs).length) Slot.unset).toArray = ls at hl ⊢
  exact body p e s m below meth c ⟨B.exec, B.bytes, hml, hown, fun w h => hts w (List.mem_cons_of_mem _ h)⟩ hE B.returns B.notSynchronized ⟨hP, va_S.rf⟩ ls hl
theorem ret_i {post : Int32 → St → Prop} (S : CallFix p m c cc nL s args GW own) (hr : meth.sig.returnType = some .int) (hlocks : meth.locks = false) (hw : wo D cl L ad s.heap H locs (F σ)) {v : Int32} (h : post v σ) (hdg : decode cc pc = .ok (.ireturn, 1)) : W p l e R s m args below meth c H locs 0 0 (MQ below (zQi D cl L ad F post) args s 0 0 (zA L ad)) (F0 m pc ls [.int v]) :=
  W.iret (v := v) S.1 S.2.1 hr (fun t ht _ => ⟨⟨v, σ, rfl, h, by show va_P D cl (wz L ad (F σ)) t.heap; rw [ht]; exact hw.1⟩, hw.2.F ht⟩) hw.2.2.2 hdg hlocks
theorem ret_z {post : Int32 → St → Prop} (S : CallFix p m c cc nL s args GW own) (hr : meth.sig.returnType = some .boolean) (hlocks : meth.locks = false) (hw : wo D cl L ad s.heap H locs (F σ)) {v : Int32} (hn : narrow .boolean (.int v) = .int v) (h : post v σ) (hdg : decode cc pc = .ok (.ireturn, 1)) : W p l e R s m args below meth c H locs 0 0 (MQ below (zQi D cl L ad F post) args s 0 0 (zA L ad)) (F0 m pc ls [.int v]) :=
  W.zret (v := v) S.1 S.2.1 hr hn (fun t ht _ => ⟨⟨v, σ, rfl, h, by show va_P D cl (wz L ad (F σ)) t.heap; rw [ht]; exact hw.1⟩, hw.2.F ht⟩) hw.2.2.2 hdg hlocks
theorem ret_v {post : St → Prop} (S : CallFix p m c cc nL s args GW own) (hr : meth.sig.returnType = none) (hlocks : meth.locks = false) (hw : wo D cl L ad s.heap H locs (F σ)) (h : post σ) (hdg : decode cc pc = .ok (.return_, 1)) : W p l e R s m args below meth c H locs 0 0 (MQ below (zQv D cl L ad F post) args s 0 0 (zA L ad)) (F0 m pc ls []) :=
  W.vret S.1 S.2.1 hr (fun t ht _ => ⟨⟨σ, rfl, h, by show va_P D cl (wz L ad (F σ)) t.heap; rw [ht]; exact hw.1⟩, hw.2.F ht⟩) hw.2.2.2 hdg hlocks
theorem gw_S (S : CallFix p m c cc nL s args GW own) : ∀ w ∈ GW, w.before args s = true := S.2.2.2.2
theorem gi_V (ok : okV C y bytes maxL ret n) (hl : Cond.methodLink own index y ∈ GW) : GoodIn GW (wsV own index C y (Cond.code y bytes maxL ret :: GW)) := by
  obtain ⟨⟨h1, h2, h3, h4⟩, -⟩ := ok
  intro w hw
  have : w ∈ GW := by
    unfold wsV at hw
    rcases List.mem_append.mp hw with h | h
    · simp only [List.mem_cons, List.mem_nil_iff, or_false] at h
      rcases h with rfl | rfl | rfl | rfl
      · exact hl
      · exact h1
      · exact h2
      · exact h3
    · rcases List.mem_cons.mp h with rfl | h
      · exact h4
      · exact h
  exact ⟨this, gw_good this⟩
theorem gi_C (h : Cond.code y bytes maxL ret ∈ GW) : GoodIn GW (Cond.code y bytes maxL ret :: GW) := by
  intro w hw
  have : w ∈ GW := by
    rcases List.mem_cons.mp hw with rfl | h'
    · exact h
    · exact h'
  exact ⟨this, gw_good this⟩
theorem gi_S (ok : okS y bytes maxL ret n) (hl : Cond.methodLink own index y ∈ GW) : GoodIn GW (va_wsS own index y (Cond.code y bytes maxL ret :: GW)) := by
  obtain ⟨⟨h1, h2, h3⟩, -⟩ := ok
  intro w hw
  have : w ∈ GW := by
    unfold va_wsS at hw
    rcases List.mem_append.mp hw with h | h
    · simp only [List.mem_cons, List.mem_nil_iff, or_false] at h
      rcases h with rfl | rfl | rfl
      · exact hl
      · exact h1
      · exact h2
    · rcases List.mem_cons.mp h with rfl | h
      · exact h3
      · exact h
  exact ⟨this, gw_good this⟩
theorem blind_z (hE : EvOK Ev L ad) : FrameBlind (zPc D cl L ad F Ev avs σ) := fun a U g mk q => ⟨q.1, q.2.1, hE.1 U g mk a q.2.2⟩
theorem pre_z (hE : EvOK Ev L ad) (V : Ev s) (hw : wo D cl L ad s.heap H locs (F σ)) : ∀ U : State, U.heap = H → s.WarmedH U.vm → zPc D cl L ad F Ev avs σ avs.toArray U := fun U hU hW => ⟨rfl, by rw [hU]; exact hw.1, hE.2 s U H locs V hw.2 hU hW⟩
/-- calls: an instance method (V), a static one (S), private ones of a nest mate (VN, SN); that answer an int (i), nothing (v) -/
theorem call_Vi {post : Int32 → St → Prop} (hE : EvOK Ev L ad) (S : CallFix p m c cc nL s args GW own) (V : Ev s) (hw : wo D cl L ad s.heap H locs (F σ)) (hM : cI l D cl L ad F Ev y bytes maxL ret rm (.ref b :: As) σ post) (ok : okV C y bytes maxL ret n) (hlink : Cond.methodLink own index y ∈ GW) (recv : ∃ cell : Cell, H[b]? = some cell ∧ cell.vm.isStatics = false ∧ s.vm.findClass C = some cell.cls) (hR : rm.frames + 1 ≤ R.frames ∧ 8 + (maxL + 11) + rm.locals ≤ R.locals) (hz : rm.cells = 0 ∧ rm.slots = 0) (hn : As.length = n) (hsz : ls.size = nL) (hst : st0 = As.reverse ++ .ref b :: rest) (hrm : (rest.map fun v => v.category).sum ≤ 8) (hdg : decode cc pc = .ok (.invokevirtual index, 3))
    (kk : ∀ (r : Int32) (σ' : St) (H1 : Heap) (locs1 : List Loc), post r σ' → wo D cl L ad s.heap H1 locs1 (F σ') → W p l e R s m args below meth c H1 locs1 0 0 Q (F0 m (pc + 3) ls (.int r :: rest))) : W p l e R s m args below meth c H locs 0 0 Q (F0 m pc ls st0) :=
  va_calli (va_runV (As := As) (rest := rest) S hM (cwV n (gw_S S) (gi_V ok hlink) rfl hz.1 hz.2 ok.2 hR) ⟨blind_z hE, recv, pre_z hE V hw⟩ rfl hn hsz hst (lv_room hrm) hdg ⟨Nat.zero_le _, Nat.zero_le _⟩) hw.2 (fun _ _ h => h) (fun _ h => h) (fun r u t H1 locs1 ht _ hp hB _ _ hS => kk r u H1 locs1 hp ⟨by rw [← ht]; exact hB, hS⟩)
theorem call_Vv {post : St → Prop} (hE : EvOK Ev L ad) (S : CallFix p m c cc nL s args GW own) (V : Ev s) (hw : wo D cl L ad s.heap H locs (F σ)) (hM : cV l D cl L ad F Ev y bytes maxL ret rm (.ref b :: As) σ post) (ok : okV C y bytes maxL ret n) (hlink : Cond.methodLink own index y ∈ GW) (recv : ∃ cell : Cell, H[b]? = some cell ∧ cell.vm.isStatics = false ∧ s.vm.findClass C = some cell.cls) (hR : rm.frames + 1 ≤ R.frames ∧ 8 + (maxL + 11) + rm.locals ≤ R.locals) (hz : rm.cells = 0 ∧ rm.slots = 0) (hn : As.length = n) (hsz : ls.size = nL) (hst : st0 = As.reverse ++ .ref b :: rest) (hrm : (rest.map fun v => v.category).sum ≤ 8) (hdg : decode cc pc = .ok (.invokevirtual index, 3))
    (kk : ∀ (σ' : St) (H1 : Heap) (locs1 : List Loc), post σ' → wo D cl L ad s.heap H1 locs1 (F σ') → W p l e R s m args below meth c H1 locs1 0 0 Q (F0 m (pc + 3) ls rest)) : W p l e R s m args below meth c H locs 0 0 Q (F0 m pc ls st0) :=
  va_callv (va_runV (As := As) (rest := rest) S hM (cwV n (gw_S S) (gi_V ok hlink) rfl hz.1 hz.2 ok.2 hR) ⟨blind_z hE, recv, pre_z hE V hw⟩ rfl hn hsz hst (lv_room hrm) hdg ⟨Nat.zero_le _, Nat.zero_le _⟩) hw.2 (fun _ _ h => h) (fun _ h => h) (fun u t H1 locs1 ht _ hp hB _ _ hS => kk u H1 locs1 hp ⟨by rw [← ht]; exact hB, hS⟩)
theorem call_Si {post : Int32 → St → Prop} (hE : EvOK Ev L ad) (S : CallFix p m c cc nL s args GW own) (V : Ev s) (hw : wo D cl L ad s.heap H locs (F σ)) (hM : cI l D cl L ad F Ev y bytes maxL ret rm As σ post) (ok : okS y bytes maxL ret n) (hlink : Cond.methodLink own index y ∈ GW) (hR : rm.frames + 1 ≤ R.frames ∧ 8 + (maxL + 11) + rm.locals ≤ R.locals) (hz : rm.cells = 0 ∧ rm.slots = 0) (hn : As.length = n) (hsz : ls.size = nL) (hst : st0 = As.reverse ++ rest) (hrm : (rest.map fun v => v.category).sum ≤ 8) (hdg : decode cc pc = .ok (.invokestatic index, 3))
    (kk : ∀ (r : Int32) (σ' : St) (H1 : Heap) (locs1 : List Loc), post r σ' → wo D cl L ad s.heap H1 locs1 (F σ') → W p l e R s m args below meth c H1 locs1 0 0 Q (F0 m (pc + 3) ls (.int r :: rest))) : W p l e R s m args below meth c H locs 0 0 Q (F0 m pc ls st0) :=
  va_calli (va_runS (As := As) (rest := rest) S hM (va_cwS n (gw_S S) (gi_S ok hlink) rfl hz.1 hz.2 ok.2 hR) ⟨blind_z hE, pre_z hE V hw⟩ rfl hn hsz hst (lv_room hrm) hdg ⟨Nat.zero_le _, Nat.zero_le _⟩) hw.2 (fun _ _ h => h) (fun _ h => h) (fun r u t H1 locs1 ht _ hp hB _ _ hS => kk r u H1 locs1 hp ⟨by rw [← ht]; exact hB, hS⟩)
theorem call_SNi {post : Int32 → St → Prop} {host : String} (hE : EvOK Ev L ad) (S : CallFix p m c cc nL s args GW own) (V : Ev s) (hw : wo D cl L ad s.heap H locs (F σ)) (hM : cI l D cl L ad F Ev y bytes maxL ret rm As σ post) (ok : okS y bytes maxL ret n) (hlink : va_Nw (.methodLinkNest own index y host) s) (hR : rm.frames + 1 ≤ R.frames ∧ 8 + (maxL + 11) + rm.locals ≤ R.locals) (hz : rm.cells = 0 ∧ rm.slots = 0) (hn : As.length = n) (hsz : ls.size = nL) (hst : st0 = As.reverse ++ rest) (hrm : (rest.map fun v => v.category).sum ≤ 8) (hdg : decode cc pc = .ok (.invokestatic index, 3))
    (kk : ∀ (r : Int32) (σ' : St) (H1 : Heap) (locs1 : List Loc), post r σ' → wo D cl L ad s.heap H1 locs1 (F σ') → W p l e R s m args below meth c H1 locs1 0 0 Q (F0 m (pc + 3) ls (.int r :: rest))) : W p l e R s m args below meth c H locs 0 0 Q (F0 m pc ls st0) :=
  va_calli (va_runSN (As := As) (rest := rest) S hM ⟨va_cnB n (gw_S S) (gi_C ok.1.2.2) rfl hz.1 hz.2 hlink (gw_S S _ ok.1.2.1) ok.2 hR, gw_S S _ ok.1.1, trivial⟩ ⟨blind_z hE, pre_z hE V hw⟩ rfl hn hsz hst (lv_room hrm) hdg ⟨Nat.zero_le _, Nat.zero_le _⟩) hw.2 (fun _ _ h => h) (fun _ h => h) (fun r u t H1 locs1 ht _ hp hB _ _ hS => kk r u H1 locs1 hp ⟨by rw [← ht]; exact hB, hS⟩)
theorem x_recv {tys : List (ClassId × FieldType)} {f : Nat → Nat → va_E} {ci : Nat} {q : vw_C} {fs : List Value} {ck o : Nat} (hK : va_K D cl tys s) (hw : wo D cl L ad s.heap H locs f) (ho : (ck, o) ∈ L) (hc : cl[ci]? = some q) (he : f ck o = .inr (ci, fs)) : ∃ cell : Cell, H[ad ck o]? = some cell ∧ cell.vm.isStatics = false ∧ s.vm.findClass q.1 = some cell.cls := by
  obtain ⟨q0, hq⟩ := wz_get (ad := ad) (e := f) ho
  exact va_recv (q0 := q0) hK hw.1 hc (by rw [hq, he])
end XC
end
section
/-! words of the tables that the rows use, each by its place -/
theorem fl_X6_9 : Cond.fieldLink "OnChin$Thing" 9 "OnChin$Thing" "kind" "I" ∈ GW := gw_of (List.mem_of_getElem? (i := 38) (by decide +kernel)) rfl
theorem fl_X8_95 : Cond.fieldLink "OnChin" 95 "OnChin$Thing" "kind" "I" ∈ GW := gw_of (List.mem_of_getElem? (i := 39) (by decide +kernel)) rfl
theorem fl_X6_15 : Cond.fieldLink "OnChin$Thing" 15 "OnChin$Thing" "by" "I" ∈ GW := gw_of (List.mem_of_getElem? (i := 40) (by decide +kernel)) rfl
theorem fl_X8_100 : Cond.fieldLink "OnChin" 100 "OnChin$Thing" "by" "I" ∈ GW := gw_of (List.mem_of_getElem? (i := 41) (by decide +kernel)) rfl
theorem fl_X6_18 : Cond.fieldLink "OnChin$Thing" 18 "OnChin$Thing" "lumps" "I" ∈ GW := gw_of (List.mem_of_getElem? (i := 42) (by decide +kernel)) rfl
theorem fl_X5_52 : Cond.fieldLink "OnChin$Text" 52 "OnChin$Thing" "lumps" "I" ∈ GW := gw_of (List.mem_of_getElem? (i := 43) (by decide +kernel)) rfl
theorem fl_X8_103 : Cond.fieldLink "OnChin" 103 "OnChin$Thing" "lumps" "I" ∈ GW := gw_of (List.mem_of_getElem? (i := 44) (by decide +kernel)) rfl
theorem fl_X6_21 : Cond.fieldLink "OnChin$Thing" 21 "OnChin$Thing" "longness" "I" ∈ GW := gw_of (List.mem_of_getElem? (i := 45) (by decide +kernel)) rfl
theorem fl_X1_34 : Cond.fieldLink "OnChin$Evenings" 34 "OnChin$Thing" "longness" "I" ∈ GW := gw_of (List.mem_of_getElem? (i := 46) (by decide +kernel)) rfl
theorem fl_X8_106 : Cond.fieldLink "OnChin" 106 "OnChin$Thing" "longness" "I" ∈ GW := gw_of (List.mem_of_getElem? (i := 47) (by decide +kernel)) rfl
theorem fl_X6_24 : Cond.fieldLink "OnChin$Thing" 24 "OnChin$Thing" "tallest" "I" ∈ GW := gw_of (List.mem_of_getElem? (i := 48) (by decide +kernel)) rfl
theorem fl_X8_109 : Cond.fieldLink "OnChin" 109 "OnChin$Thing" "tallest" "I" ∈ GW := gw_of (List.mem_of_getElem? (i := 49) (by decide +kernel)) rfl
theorem fl_X6_27 : Cond.fieldLink "OnChin$Thing" 27 "OnChin$Thing" "heights" "[I" ∈ GW := gw_of (List.mem_of_getElem? (i := 50) (by decide +kernel)) rfl
theorem fl_X8_112 : Cond.fieldLink "OnChin" 112 "OnChin$Thing" "heights" "[I" ∈ GW := gw_of (List.mem_of_getElem? (i := 51) (by decide +kernel)) rfl
theorem fl_X6_31 : Cond.fieldLink "OnChin$Thing" 31 "OnChin$Thing" "weights" "[I" ∈ GW := gw_of (List.mem_of_getElem? (i := 52) (by decide +kernel)) rfl
theorem fl_X8_116 : Cond.fieldLink "OnChin" 116 "OnChin$Thing" "weights" "[I" ∈ GW := gw_of (List.mem_of_getElem? (i := 53) (by decide +kernel)) rfl
theorem fl_X7_11 : Cond.fieldLink "OnChin$Told" 11 "OnChin$Told" "things" "[LOnChin$Thing;" ∈ GW := gw_of (List.mem_of_getElem? (i := 75) (by decide +kernel)) rfl
theorem fl_X1_24 : Cond.fieldLink "OnChin$Evenings" 24 "OnChin$Told" "things" "[LOnChin$Thing;" ∈ GW := gw_of (List.mem_of_getElem? (i := 76) (by decide +kernel)) rfl
theorem fl_X5_46 : Cond.fieldLink "OnChin$Text" 46 "OnChin$Told" "things" "[LOnChin$Thing;" ∈ GW := gw_of (List.mem_of_getElem? (i := 77) (by decide +kernel)) rfl
theorem fl_X8_91 : Cond.fieldLink "OnChin" 91 "OnChin$Told" "things" "[LOnChin$Thing;" ∈ GW := gw_of (List.mem_of_getElem? (i := 78) (by decide +kernel)) rfl
theorem fl_X7_17 : Cond.fieldLink "OnChin$Told" 17 "OnChin$Told" "numbers" "[I" ∈ GW := gw_of (List.mem_of_getElem? (i := 79) (by decide +kernel)) rfl
theorem fl_X8_130 : Cond.fieldLink "OnChin" 130 "OnChin$Told" "numbers" "[I" ∈ GW := gw_of (List.mem_of_getElem? (i := 80) (by decide +kernel)) rfl
theorem fl_X5_155 : Cond.fieldLink "OnChin$Text" 155 "OnChin$Told" "numbers" "[I" ∈ GW := gw_of (List.mem_of_getElem? (i := 81) (by decide +kernel)) rfl
theorem fl_X5_9 : Cond.fieldLink "OnChin$Text" 9 "OnChin$Text" "bytes" "[I" ∈ GW := gw_of (List.mem_of_getElem? (i := 93) (by decide +kernel)) rfl
theorem fl_X5_15 : Cond.fieldLink "OnChin$Text" 15 "OnChin$Text" "length" "I" ∈ GW := gw_of (List.mem_of_getElem? (i := 94) (by decide +kernel)) rfl
theorem fl_X8_66 : Cond.fieldLink "OnChin" 66 "OnChin$Text" "length" "I" ∈ GW := gw_of (List.mem_of_getElem? (i := 95) (by decide +kernel)) rfl
theorem fl_X5_19 : Cond.fieldLink "OnChin$Text" 19 "OnChin$Text" "lines" "I" ∈ GW := gw_of (List.mem_of_getElem? (i := 96) (by decide +kernel)) rfl
theorem fl_X8_84 : Cond.fieldLink "OnChin" 84 "OnChin$Text" "lines" "I" ∈ GW := gw_of (List.mem_of_getElem? (i := 97) (by decide +kernel)) rfl
theorem fl_X5_22 : Cond.fieldLink "OnChin$Text" 22 "OnChin$Text" "kinds" "[I" ∈ GW := gw_of (List.mem_of_getElem? (i := 98) (by decide +kernel)) rfl
theorem fl_X5_25 : Cond.fieldLink "OnChin$Text" 25 "OnChin$Text" "numbers" "[I" ∈ GW := gw_of (List.mem_of_getElem? (i := 99) (by decide +kernel)) rfl
theorem fl_X5_28 : Cond.fieldLink "OnChin$Text" 28 "OnChin$Text" "filled" "I" ∈ GW := gw_of (List.mem_of_getElem? (i := 100) (by decide +kernel)) rfl
theorem fl_X5_31 : Cond.fieldLink "OnChin$Text" 31 "OnChin$Text" "places" "[I" ∈ GW := gw_of (List.mem_of_getElem? (i := 101) (by decide +kernel)) rfl
theorem fl_X5_34 : Cond.fieldLink "OnChin$Text" 34 "OnChin$Text" "lumps" "[I" ∈ GW := gw_of (List.mem_of_getElem? (i := 102) (by decide +kernel)) rfl
theorem fl_X5_37 : Cond.fieldLink "OnChin$Text" 37 "OnChin$Text" "token" "I" ∈ GW := gw_of (List.mem_of_getElem? (i := 103) (by decide +kernel)) rfl
theorem fl_X5_40 : Cond.fieldLink "OnChin$Text" 40 "OnChin$Text" "from" "I" ∈ GW := gw_of (List.mem_of_getElem? (i := 104) (by decide +kernel)) rfl
theorem fl_X5_43 : Cond.fieldLink "OnChin$Text" 43 "OnChin$Text" "behind" "I" ∈ GW := gw_of (List.mem_of_getElem? (i := 105) (by decide +kernel)) rfl
theorem fl_X0_9 : Cond.fieldLink "OnChin$Balance" 9 "OnChin$Balance" "thing" "I" ∈ GW := gw_of (List.mem_of_getElem? (i := 135) (by decide +kernel)) rfl
theorem fl_X8_127 : Cond.fieldLink "OnChin" 127 "OnChin$Balance" "thing" "I" ∈ GW := gw_of (List.mem_of_getElem? (i := 136) (by decide +kernel)) rfl
theorem fl_X0_15 : Cond.fieldLink "OnChin$Balance" 15 "OnChin$Balance" "x" "I" ∈ GW := gw_of (List.mem_of_getElem? (i := 137) (by decide +kernel)) rfl
theorem fl_X8_147 : Cond.fieldLink "OnChin" 147 "OnChin$Balance" "x" "I" ∈ GW := gw_of (List.mem_of_getElem? (i := 138) (by decide +kernel)) rfl
theorem fl_X0_18 : Cond.fieldLink "OnChin$Balance" 18 "OnChin$Balance" "v" "I" ∈ GW := gw_of (List.mem_of_getElem? (i := 139) (by decide +kernel)) rfl
theorem fl_X8_151 : Cond.fieldLink "OnChin" 151 "OnChin$Balance" "v" "I" ∈ GW := gw_of (List.mem_of_getElem? (i := 140) (by decide +kernel)) rfl
theorem fl_X0_21 : Cond.fieldLink "OnChin$Balance" 21 "OnChin$Balance" "f" "I" ∈ GW := gw_of (List.mem_of_getElem? (i := 141) (by decide +kernel)) rfl
theorem fl_X8_154 : Cond.fieldLink "OnChin" 154 "OnChin$Balance" "f" "I" ∈ GW := gw_of (List.mem_of_getElem? (i := 142) (by decide +kernel)) rfl
theorem fl_X0_24 : Cond.fieldLink "OnChin$Balance" 24 "OnChin$Balance" "t" "I" ∈ GW := gw_of (List.mem_of_getElem? (i := 143) (by decide +kernel)) rfl
theorem fl_X4_62 : Cond.fieldLink "OnChin$Keeper" 62 "OnChin$Balance" "t" "I" ∈ GW := gw_of (List.mem_of_getElem? (i := 144) (by decide +kernel)) rfl
theorem fl_X8_140 : Cond.fieldLink "OnChin" 140 "OnChin$Balance" "t" "I" ∈ GW := gw_of (List.mem_of_getElem? (i := 145) (by decide +kernel)) rfl
theorem fl_X0_27 : Cond.fieldLink "OnChin$Balance" 27 "OnChin$Balance" "m" "I" ∈ GW := gw_of (List.mem_of_getElem? (i := 146) (by decide +kernel)) rfl
theorem fl_X8_157 : Cond.fieldLink "OnChin" 157 "OnChin$Balance" "m" "I" ∈ GW := gw_of (List.mem_of_getElem? (i := 147) (by decide +kernel)) rfl
theorem fl_X0_30 : Cond.fieldLink "OnChin$Balance" 30 "OnChin$Balance" "trail" "[I" ∈ GW := gw_of (List.mem_of_getElem? (i := 148) (by decide +kernel)) rfl
theorem fl_X4_9 : Cond.fieldLink "OnChin$Keeper" 9 "OnChin$Keeper" "rule" "[I" ∈ GW := gw_of (List.mem_of_getElem? (i := 175) (by decide +kernel)) rfl
theorem fl_X1_19 : Cond.fieldLink "OnChin$Evenings" 19 "OnChin$Keeper" "rule" "[I" ∈ GW := gw_of (List.mem_of_getElem? (i := 176) (by decide +kernel)) rfl
theorem fl_X4_18 : Cond.fieldLink "OnChin$Keeper" 18 "OnChin$Keeper" "first" "LOnChin$Balance;" ∈ GW := gw_of (List.mem_of_getElem? (i := 177) (by decide +kernel)) rfl
theorem fl_X8_195 : Cond.fieldLink "OnChin" 195 "OnChin$Keeper" "first" "LOnChin$Balance;" ∈ GW := gw_of (List.mem_of_getElem? (i := 178) (by decide +kernel)) rfl
theorem fl_X4_22 : Cond.fieldLink "OnChin$Keeper" 22 "OnChin$Keeper" "second" "LOnChin$Balance;" ∈ GW := gw_of (List.mem_of_getElem? (i := 179) (by decide +kernel)) rfl
theorem fl_X8_198 : Cond.fieldLink "OnChin" 198 "OnChin$Keeper" "second" "LOnChin$Balance;" ∈ GW := gw_of (List.mem_of_getElem? (i := 180) (by decide +kernel)) rfl
theorem fl_X4_28 : Cond.fieldLink "OnChin$Keeper" 28 "OnChin$Keeper" "pole" "LOnChin$Thing;" ∈ GW := gw_of (List.mem_of_getElem? (i := 181) (by decide +kernel)) rfl
theorem fl_X1_9 : Cond.fieldLink "OnChin$Evenings" 9 "OnChin$Evenings" "leastTenths" "I" ∈ GW := gw_of (List.mem_of_getElem? (i := 197) (by decide +kernel)) rfl
theorem fl_X8_241 : Cond.fieldLink "OnChin" 241 "OnChin$Evenings" "leastTenths" "I" ∈ GW := gw_of (List.mem_of_getElem? (i := 198) (by decide +kernel)) rfl
theorem fl_X1_15 : Cond.fieldLink "OnChin$Evenings" 15 "OnChin$Evenings" "learned" "[I" ∈ GW := gw_of (List.mem_of_getElem? (i := 199) (by decide +kernel)) rfl
theorem fl_X2_9 : Cond.fieldLink "OnChin$Film" 9 "OnChin$Film" "count" "I" ∈ GW := gw_of (List.mem_of_getElem? (i := 211) (by decide +kernel)) rfl
theorem fl_X8_205 : Cond.fieldLink "OnChin" 205 "OnChin$Film" "count" "I" ∈ GW := gw_of (List.mem_of_getElem? (i := 212) (by decide +kernel)) rfl
theorem fl_X2_15 : Cond.fieldLink "OnChin$Film" 15 "OnChin$Film" "fitting" "I" ∈ GW := gw_of (List.mem_of_getElem? (i := 213) (by decide +kernel)) rfl
theorem fl_X8_215 : Cond.fieldLink "OnChin" 215 "OnChin$Film" "fitting" "I" ∈ GW := gw_of (List.mem_of_getElem? (i := 214) (by decide +kernel)) rfl
theorem fl_X2_18 : Cond.fieldLink "OnChin$Film" 18 "OnChin$Film" "firstLate" "I" ∈ GW := gw_of (List.mem_of_getElem? (i := 215) (by decide +kernel)) rfl
theorem fl_X8_218 : Cond.fieldLink "OnChin" 218 "OnChin$Film" "firstLate" "I" ∈ GW := gw_of (List.mem_of_getElem? (i := 216) (by decide +kernel)) rfl
theorem fl_X2_21 : Cond.fieldLink "OnChin$Film" 21 "OnChin$Film" "firstA" "I" ∈ GW := gw_of (List.mem_of_getElem? (i := 217) (by decide +kernel)) rfl
theorem fl_X8_221 : Cond.fieldLink "OnChin" 221 "OnChin$Film" "firstA" "I" ∈ GW := gw_of (List.mem_of_getElem? (i := 218) (by decide +kernel)) rfl
theorem fl_X2_24 : Cond.fieldLink "OnChin$Film" 24 "OnChin$Film" "firstB" "I" ∈ GW := gw_of (List.mem_of_getElem? (i := 219) (by decide +kernel)) rfl
theorem fl_X8_224 : Cond.fieldLink "OnChin" 224 "OnChin$Film" "firstB" "I" ∈ GW := gw_of (List.mem_of_getElem? (i := 220) (by decide +kernel)) rfl
theorem fl_X2_27 : Cond.fieldLink "OnChin$Film" 27 "OnChin$Film" "leastNext" "I" ∈ GW := gw_of (List.mem_of_getElem? (i := 221) (by decide +kernel)) rfl
theorem fl_X8_227 : Cond.fieldLink "OnChin" 227 "OnChin$Film" "leastNext" "I" ∈ GW := gw_of (List.mem_of_getElem? (i := 222) (by decide +kernel)) rfl
theorem fl_X2_30 : Cond.fieldLink "OnChin$Film" 30 "OnChin$Film" "mostNext" "I" ∈ GW := gw_of (List.mem_of_getElem? (i := 223) (by decide +kernel)) rfl
theorem fl_X8_230 : Cond.fieldLink "OnChin" 230 "OnChin$Film" "mostNext" "I" ∈ GW := gw_of (List.mem_of_getElem? (i := 224) (by decide +kernel)) rfl
theorem fl_X2_33 : Cond.fieldLink "OnChin$Film" 33 "OnChin$Film" "xs" "[I" ∈ GW := gw_of (List.mem_of_getElem? (i := 225) (by decide +kernel)) rfl
theorem fl_X2_37 : Cond.fieldLink "OnChin$Film" 37 "OnChin$Film" "ms" "[I" ∈ GW := gw_of (List.mem_of_getElem? (i := 226) (by decide +kernel)) rfl
theorem fl_X2_40 : Cond.fieldLink "OnChin$Film" 40 "OnChin$Film" "rule" "[I" ∈ GW := gw_of (List.mem_of_getElem? (i := 227) (by decide +kernel)) rfl
theorem fl_X3_9 : Cond.fieldLink "OnChin$House" 9 "OnChin$House" "draughts" "[I" ∈ GW := gw_of (List.mem_of_getElem? (i := 255) (by decide +kernel)) rfl
theorem fl_X8_247 : Cond.fieldLink "OnChin" 247 "OnChin$House" "draughts" "[I" ∈ GW := gw_of (List.mem_of_getElem? (i := 256) (by decide +kernel)) rfl
theorem fl_X3_15 : Cond.fieldLink "OnChin$House" 15 "OnChin$House" "lamps" "[I" ∈ GW := gw_of (List.mem_of_getElem? (i := 257) (by decide +kernel)) rfl
theorem fl_X8_250 : Cond.fieldLink "OnChin" 250 "OnChin$House" "lamps" "[I" ∈ GW := gw_of (List.mem_of_getElem? (i := 258) (by decide +kernel)) rfl
theorem fl_X3_18 : Cond.fieldLink "OnChin$House" 18 "OnChin$House" "steps" "[I" ∈ GW := gw_of (List.mem_of_getElem? (i := 259) (by decide +kernel)) rfl
theorem fl_X8_256 : Cond.fieldLink "OnChin" 256 "OnChin$House" "steps" "[I" ∈ GW := gw_of (List.mem_of_getElem? (i := 260) (by decide +kernel)) rfl
theorem fl_X3_21 : Cond.fieldLink "OnChin$House" 21 "OnChin$House" "together" "[I" ∈ GW := gw_of (List.mem_of_getElem? (i := 261) (by decide +kernel)) rfl
theorem fl_X8_259 : Cond.fieldLink "OnChin" 259 "OnChin$House" "together" "[I" ∈ GW := gw_of (List.mem_of_getElem? (i := 262) (by decide +kernel)) rfl
theorem fl_X3_24 : Cond.fieldLink "OnChin$House" 24 "OnChin$House" "reached" "[I" ∈ GW := gw_of (List.mem_of_getElem? (i := 263) (by decide +kernel)) rfl
theorem fl_X3_27 : Cond.fieldLink "OnChin$House" 27 "OnChin$House" "known" "I" ∈ GW := gw_of (List.mem_of_getElem? (i := 264) (by decide +kernel)) rfl
theorem fl_X8_12 : Cond.fieldLink "OnChin" 12 "OnChin" "told" "LOnChin$Told;" ∈ GW := gw_of (List.mem_of_getElem? (i := 278) (by decide +kernel)) rfl
theorem fl_X8_19 : Cond.fieldLink "OnChin" 19 "OnChin" "text" "LOnChin$Text;" ∈ GW := gw_of (List.mem_of_getElem? (i := 279) (by decide +kernel)) rfl
theorem fl_X8_26 : Cond.fieldLink "OnChin" 26 "OnChin" "up" "LOnChin$Balance;" ∈ GW := gw_of (List.mem_of_getElem? (i := 280) (by decide +kernel)) rfl
theorem fl_X8_30 : Cond.fieldLink "OnChin" 30 "OnChin" "images" "[LOnChin$Balance;" ∈ GW := gw_of (List.mem_of_getElem? (i := 281) (by decide +kernel)) rfl
theorem fl_X8_37 : Cond.fieldLink "OnChin" 37 "OnChin" "keeper" "LOnChin$Keeper;" ∈ GW := gw_of (List.mem_of_getElem? (i := 282) (by decide +kernel)) rfl
theorem fl_X8_44 : Cond.fieldLink "OnChin" 44 "OnChin" "evenings" "LOnChin$Evenings;" ∈ GW := gw_of (List.mem_of_getElem? (i := 283) (by decide +kernel)) rfl
theorem fl_X8_51 : Cond.fieldLink "OnChin" 51 "OnChin" "rows" "LOnChin$Film;" ∈ GW := gw_of (List.mem_of_getElem? (i := 284) (by decide +kernel)) rfl
theorem fl_X8_58 : Cond.fieldLink "OnChin" 58 "OnChin" "house" "LOnChin$House;" ∈ GW := gw_of (List.mem_of_getElem? (i := 285) (by decide +kernel)) rfl
theorem fl_J0_38 : Cond.fieldLink "java/lang/String" 38 "java/lang/String" "COMPACT_STRINGS" "Z" ∈ GW := gw_of (List.mem_of_getElem? (i := 354) (by decide +kernel)) rfl
theorem fl_J0_1053 : Cond.fieldLink "java/lang/String" 1053 "jdk/internal/util/Preconditions" "SIOOBE_FORMATTER" "Ljava/util/function/BiFunction;" ∈ GW := gw_of (List.mem_of_getElem? (i := 370) (by decide +kernel)) rfl
theorem fl_J2_44 : Cond.fieldLink "java/lang/StringUTF16" 44 "java/lang/StringUTF16" "$assertionsDisabled" "Z" ∈ GW := gw_of (List.mem_of_getElem? (i := 388) (by decide +kernel)) rfl
theorem fl_J2_59 : Cond.fieldLink "java/lang/StringUTF16" 59 "java/lang/StringUTF16" "HI_BYTE_SHIFT" "I" ∈ GW := gw_of (List.mem_of_getElem? (i := 390) (by decide +kernel)) rfl
theorem fl_J2_63 : Cond.fieldLink "java/lang/StringUTF16" 63 "java/lang/StringUTF16" "LO_BYTE_SHIFT" "I" ∈ GW := gw_of (List.mem_of_getElem? (i := 392) (by decide +kernel)) rfl
theorem fl_X9_7 : Cond.fieldLink "OnChinModel" 7 "OnChinModel" "text" "[I" ∈ GW := gw_of (List.mem_of_getElem? (i := 764) (by decide +kernel)) rfl
theorem fl_X9_96 : Cond.fieldLink "OnChinModel" 96 "OnChinModel" "length" "I" ∈ GW := gw_of (List.mem_of_getElem? (i := 765) (by decide +kernel)) rfl
theorem fl_X9_13 : Cond.fieldLink "OnChinModel" 13 "OnChinModel" "read" "[I" ∈ GW := gw_of (List.mem_of_getElem? (i := 766) (by decide +kernel)) rfl
theorem fl_X9_138 : Cond.fieldLink "OnChinModel" 138 "OnChinModel" "readMany" "I" ∈ GW := gw_of (List.mem_of_getElem? (i := 767) (by decide +kernel)) rfl
theorem fl_X9_16 : Cond.fieldLink "OnChinModel" 16 "OnChinModel" "kinds" "[I" ∈ GW := gw_of (List.mem_of_getElem? (i := 768) (by decide +kernel)) rfl
theorem fl_X9_19 : Cond.fieldLink "OnChinModel" 19 "OnChinModel" "much" "[I" ∈ GW := gw_of (List.mem_of_getElem? (i := 769) (by decide +kernel)) rfl
theorem fl_X9_22 : Cond.fieldLink "OnChinModel" 22 "OnChinModel" "lumpMany" "[I" ∈ GW := gw_of (List.mem_of_getElem? (i := 770) (by decide +kernel)) rfl
theorem fl_X9_25 : Cond.fieldLink "OnChinModel" 25 "OnChinModel" "lumps" "[I" ∈ GW := gw_of (List.mem_of_getElem? (i := 771) (by decide +kernel)) rfl
theorem fl_X9_28 : Cond.fieldLink "OnChinModel" 28 "OnChinModel" "a" "I" ∈ GW := gw_of (List.mem_of_getElem? (i := 772) (by decide +kernel)) rfl
theorem fl_X9_32 : Cond.fieldLink "OnChinModel" 32 "OnChinModel" "b" "I" ∈ GW := gw_of (List.mem_of_getElem? (i := 773) (by decide +kernel)) rfl
theorem fl_X9_35 : Cond.fieldLink "OnChinModel" 35 "OnChinModel" "late" "I" ∈ GW := gw_of (List.mem_of_getElem? (i := 774) (by decide +kernel)) rfl
theorem fl_X9_38 : Cond.fieldLink "OnChinModel" 38 "OnChinModel" "reach" "I" ∈ GW := gw_of (List.mem_of_getElem? (i := 775) (by decide +kernel)) rfl
theorem fl_X9_174 : Cond.fieldLink "OnChinModel" 174 "OnChinModel" "dead" "I" ∈ GW := gw_of (List.mem_of_getElem? (i := 776) (by decide +kernel)) rfl
theorem fl_X9_41 : Cond.fieldLink "OnChinModel" 41 "OnChinModel" "floor" "I" ∈ GW := gw_of (List.mem_of_getElem? (i := 777) (by decide +kernel)) rfl
theorem fl_X9_44 : Cond.fieldLink "OnChinModel" 44 "OnChinModel" "pull" "I" ∈ GW := gw_of (List.mem_of_getElem? (i := 778) (by decide +kernel)) rfl
theorem fl_X9_47 : Cond.fieldLink "OnChinModel" 47 "OnChinModel" "bound" "I" ∈ GW := gw_of (List.mem_of_getElem? (i := 779) (by decide +kernel)) rfl
theorem fl_X9_177 : Cond.fieldLink "OnChinModel" 177 "OnChinModel" "wind" "I" ∈ GW := gw_of (List.mem_of_getElem? (i := 780) (by decide +kernel)) rfl
theorem fl_X9_180 : Cond.fieldLink "OnChinModel" 180 "OnChinModel" "shake" "I" ∈ GW := gw_of (List.mem_of_getElem? (i := 781) (by decide +kernel)) rfl
theorem fl_X9_101 : Cond.fieldLink "OnChinModel" 101 "OnChinModel" "at" "I" ∈ GW := gw_of (List.mem_of_getElem? (i := 782) (by decide +kernel)) rfl
theorem fl_X9_104 : Cond.fieldLink "OnChinModel" 104 "OnChinModel" "place" "I" ∈ GW := gw_of (List.mem_of_getElem? (i := 783) (by decide +kernel)) rfl
theorem fl_X9_111 : Cond.fieldLink "OnChinModel" 111 "OnChinModel" "end" "I" ∈ GW := gw_of (List.mem_of_getElem? (i := 784) (by decide +kernel)) rfl
theorem fl_X9_50 : Cond.fieldLink "OnChinModel" 50 "OnChinModel" "readLumps" "[I" ∈ GW := gw_of (List.mem_of_getElem? (i := 785) (by decide +kernel)) rfl
theorem fl_X9_53 : Cond.fieldLink "OnChinModel" 53 "OnChinModel" "leant" "[I" ∈ GW := gw_of (List.mem_of_getElem? (i := 786) (by decide +kernel)) rfl
theorem fl_X9_56 : Cond.fieldLink "OnChinModel" 56 "OnChinModel" "going" "[I" ∈ GW := gw_of (List.mem_of_getElem? (i := 787) (by decide +kernel)) rfl
theorem fl_X9_59 : Cond.fieldLink "OnChinModel" 59 "OnChinModel" "foot" "[I" ∈ GW := gw_of (List.mem_of_getElem? (i := 788) (by decide +kernel)) rfl
theorem fl_X9_62 : Cond.fieldLink "OnChinModel" 62 "OnChinModel" "gone" "[I" ∈ GW := gw_of (List.mem_of_getElem? (i := 789) (by decide +kernel)) rfl
theorem fl_X9_65 : Cond.fieldLink "OnChinModel" 65 "OnChinModel" "moved" "[I" ∈ GW := gw_of (List.mem_of_getElem? (i := 790) (by decide +kernel)) rfl
theorem fl_X9_68 : Cond.fieldLink "OnChinModel" 68 "OnChinModel" "thingOf" "[I" ∈ GW := gw_of (List.mem_of_getElem? (i := 791) (by decide +kernel)) rfl
theorem fl_X9_201 : Cond.fieldLink "OnChinModel" 201 "OnChinModel" "ruleA" "I" ∈ GW := gw_of (List.mem_of_getElem? (i := 792) (by decide +kernel)) rfl
theorem fl_X9_204 : Cond.fieldLink "OnChinModel" 204 "OnChinModel" "ruleB" "I" ∈ GW := gw_of (List.mem_of_getElem? (i := 793) (by decide +kernel)) rfl
theorem fl_X9_207 : Cond.fieldLink "OnChinModel" 207 "OnChinModel" "ruleLate" "I" ∈ GW := gw_of (List.mem_of_getElem? (i := 794) (by decide +kernel)) rfl
theorem fl_X9_210 : Cond.fieldLink "OnChinModel" 210 "OnChinModel" "ruleShake" "I" ∈ GW := gw_of (List.mem_of_getElem? (i := 795) (by decide +kernel)) rfl
theorem fl_X9_216 : Cond.fieldLink "OnChinModel" 216 "OnChinModel" "kind" "I" ∈ GW := gw_of (List.mem_of_getElem? (i := 796) (by decide +kernel)) rfl
theorem fl_X9_219 : Cond.fieldLink "OnChinModel" 219 "OnChinModel" "own" "I" ∈ GW := gw_of (List.mem_of_getElem? (i := 797) (by decide +kernel)) rfl
theorem fl_X9_222 : Cond.fieldLink "OnChinModel" 222 "OnChinModel" "lengthNow" "I" ∈ GW := gw_of (List.mem_of_getElem? (i := 798) (by decide +kernel)) rfl
theorem fl_X9_71 : Cond.fieldLink "OnChinModel" 71 "OnChinModel" "filmX" "[I" ∈ GW := gw_of (List.mem_of_getElem? (i := 799) (by decide +kernel)) rfl
theorem fl_X9_74 : Cond.fieldLink "OnChinModel" 74 "OnChinModel" "filmM" "[I" ∈ GW := gw_of (List.mem_of_getElem? (i := 800) (by decide +kernel)) rfl
theorem fl_X9_302 : Cond.fieldLink "OnChinModel" 302 "OnChinModel" "filmMany" "I" ∈ GW := gw_of (List.mem_of_getElem? (i := 801) (by decide +kernel)) rfl
theorem fl_X9_77 : Cond.fieldLink "OnChinModel" 77 "OnChinModel" "holds" "[Z" ∈ GW := gw_of (List.mem_of_getElem? (i := 802) (by decide +kernel)) rfl
theorem fl_X9_81 : Cond.fieldLink "OnChinModel" 81 "OnChinModel" "draughts" "[I" ∈ GW := gw_of (List.mem_of_getElem? (i := 803) (by decide +kernel)) rfl
theorem fl_X9_84 : Cond.fieldLink "OnChinModel" 84 "OnChinModel" "lamps" "[I" ∈ GW := gw_of (List.mem_of_getElem? (i := 804) (by decide +kernel)) rfl
theorem fl_X9_87 : Cond.fieldLink "OnChinModel" 87 "OnChinModel" "costs" "[I" ∈ GW := gw_of (List.mem_of_getElem? (i := 805) (by decide +kernel)) rfl
theorem fl_J0_9 : Cond.fieldLink "java/lang/String" 9 "java/lang/String" "value" "[B" ∈ GW := gw_of (List.mem_of_getElem? (i := 1171) (by decide +kernel)) rfl
theorem fl_J0_15 : Cond.fieldLink "java/lang/String" 15 "java/lang/String" "coder" "B" ∈ GW := gw_of (List.mem_of_getElem? (i := 1172) (by decide +kernel)) rfl
theorem ml_L_9 : Cond.methodLink "OnChinLaw" 9 yX8_init ∈ GW := gw_of (List.mem_of_getElem? (i := 19) (by decide +kernel)) rfl
theorem ml_X8_3 : Cond.methodLink "OnChin" 3 objectInit ∈ GW := gw_of (List.mem_of_getElem? (i := 22) (by decide +kernel)) rfl
theorem ml_X8_11 : Cond.methodLink "OnChin" 11 yX7_init ∈ GW := gw_of (List.mem_of_getElem? (i := 27) (by decide +kernel)) rfl
theorem ml_X7_3 : Cond.methodLink "OnChin$Told" 3 objectInit ∈ GW := gw_of (List.mem_of_getElem? (i := 30) (by decide +kernel)) rfl
theorem ml_X6_3 : Cond.methodLink "OnChin$Thing" 3 objectInit ∈ GW := gw_of (List.mem_of_getElem? (i := 37) (by decide +kernel)) rfl
theorem ml_X7_25 : Cond.methodLink "OnChin$Told" 25 arraycopyName ∈ GW := gw_of (List.mem_of_getElem? (i := 72) (by decide +kernel)) rfl
theorem ml_X5_3 : Cond.methodLink "OnChin$Text" 3 objectInit ∈ GW := gw_of (List.mem_of_getElem? (i := 92) (by decide +kernel)) rfl
theorem ml_X0_3 : Cond.methodLink "OnChin$Balance" 3 objectInit ∈ GW := gw_of (List.mem_of_getElem? (i := 134) (by decide +kernel)) rfl
theorem ml_X4_3 : Cond.methodLink "OnChin$Keeper" 3 objectInit ∈ GW := gw_of (List.mem_of_getElem? (i := 170) (by decide +kernel)) rfl
theorem ml_X1_3 : Cond.methodLink "OnChin$Evenings" 3 objectInit ∈ GW := gw_of (List.mem_of_getElem? (i := 196) (by decide +kernel)) rfl
theorem ml_X2_3 : Cond.methodLink "OnChin$Film" 3 objectInit ∈ GW := gw_of (List.mem_of_getElem? (i := 210) (by decide +kernel)) rfl
theorem ml_X3_3 : Cond.methodLink "OnChin$House" 3 objectInit ∈ GW := gw_of (List.mem_of_getElem? (i := 254) (by decide +kernel)) rfl
theorem ml_L_15 : Cond.methodLink "OnChinLaw" 15 yX8_write ∈ GW := gw_of (List.mem_of_getElem? (i := 303) (by decide +kernel)) rfl
theorem ml_X8_62 : Cond.methodLink "OnChin" 62 yX8_within ∈ GW := gw_of (List.mem_of_getElem? (i := 307) (by decide +kernel)) rfl
theorem ml_X8_72 : Cond.methodLink "OnChin" 72 yX5_append ∈ GW := gw_of (List.mem_of_getElem? (i := 311) (by decide +kernel)) rfl
theorem ml_L_20 : Cond.methodLink "OnChinLaw" 20 yX8_erase ∈ GW := gw_of (List.mem_of_getElem? (i := 315) (by decide +kernel)) rfl
theorem ml_L_25 : Cond.methodLink "OnChinLaw" 25 yX8_fault ∈ GW := gw_of (List.mem_of_getElem? (i := 319) (by decide +kernel)) rfl
theorem ml_X8_76 : Cond.methodLink "OnChin" 76 yX5_firstFault ∈ GW := gw_of (List.mem_of_getElem? (i := 323) (by decide +kernel)) rfl
theorem ml_X5_56 : Cond.methodLink "OnChin$Text" 56 yX5_readToken ∈ GW := gw_of (List.mem_of_getElem? (i := 327) (by decide +kernel)) rfl
theorem ml_X5_63 : Cond.methodLink "OnChin$Text" 63 yX5_sort ∈ GW := gw_of (List.mem_of_getElem? (i := 331) (by decide +kernel)) rfl
theorem ml_X5_67 : Cond.methodLink "OnChin$Text" 67 Lib.Math.min.name ∈ GW := gw_of (List.mem_of_getElem? (i := 334) (by decide +kernel)) rfl
theorem ml_X5_59 : Cond.methodLink "OnChin$Text" 59 yX5_readLine ∈ GW := gw_of (List.mem_of_getElem? (i := 337) (by decide +kernel)) rfl
theorem ml_X5_84 : Cond.methodLink "OnChin$Text" 84 yX5_says ∈ GW := gw_of (List.mem_of_getElem? (i := 342) (by decide +kernel)) rfl
theorem ml_X5_73 : Cond.methodLink "OnChin$Text" 73 yJ0_length_8abf5 ∈ GW := gw_of (List.mem_of_getElem? (i := 346) (by decide +kernel)) rfl
theorem ml_J0_335 : Cond.methodLink "java/lang/String" 335 yJ0_coder_7d493 ∈ GW := gw_of (List.mem_of_getElem? (i := 350) (by decide +kernel)) rfl
theorem ml_X5_78 : Cond.methodLink "OnChin$Text" 78 yJ0_charAt_5068e ∈ GW := gw_of (List.mem_of_getElem? (i := 356) (by decide +kernel)) rfl
theorem ml_J0_492 : Cond.methodLink "java/lang/String" 492 yJ0_isLatin1_aae02 ∈ GW := gw_of (List.mem_of_getElem? (i := 360) (by decide +kernel)) rfl
theorem ml_J0_495 : Cond.methodLink "java/lang/String" 495 yJ1_charAt_3b067 ∈ GW := gw_of (List.mem_of_getElem? (i := 364) (by decide +kernel)) rfl
theorem ml_J1_9 : Cond.methodLink "java/lang/StringLatin1" 9 yJ0_checkIndex_df160 ∈ GW := gw_of (List.mem_of_getElem? (i := 367) (by decide +kernel)) rfl
theorem ml_J0_1059 : Cond.methodLink "java/lang/String" 1059 yJ3_checkIndex_8e157 ∈ GW := gw_of (List.mem_of_getElem? (i := 372) (by decide +kernel)) rfl
theorem ml_J0_498 : Cond.methodLink "java/lang/String" 498 yJ2_charAt_3b067 ∈ GW := gw_of (List.mem_of_getElem? (i := 375) (by decide +kernel)) rfl
theorem ml_J2_67 : Cond.methodLink "java/lang/StringUTF16" 67 yJ2_checkIndex_2214a ∈ GW := gw_of (List.mem_of_getElem? (i := 378) (by decide +kernel)) rfl
theorem ml_J2_48 : Cond.methodLink "java/lang/StringUTF16" 48 yJ2_length_9d52b ∈ GW := gw_of (List.mem_of_getElem? (i := 381) (by decide +kernel)) rfl
theorem ml_J2_414 : Cond.methodLink "java/lang/StringUTF16" 414 yJ0_checkIndex_df160 ∈ GW := gw_of (List.mem_of_getElem? (i := 384) (by decide +kernel)) rfl
theorem ml_J2_71 : Cond.methodLink "java/lang/StringUTF16" 71 yJ2_getChar_3b067 ∈ GW := gw_of (List.mem_of_getElem? (i := 385) (by decide +kernel)) rfl
theorem ml_X5_88 : Cond.methodLink "OnChin$Text" 88 yX5_readThing ∈ GW := gw_of (List.mem_of_getElem? (i := 394) (by decide +kernel)) rfl
theorem ml_X5_120 : Cond.methodLink "OnChin$Text" 120 yX5_readNumber ∈ GW := gw_of (List.mem_of_getElem? (i := 398) (by decide +kernel)) rfl
theorem ml_X5_138 : Cond.methodLink "OnChin$Text" 138 yX5_number ∈ GW := gw_of (List.mem_of_getElem? (i := 402) (by decide +kernel)) rfl
theorem ml_X5_126 : Cond.methodLink "OnChin$Text" 126 yX5_store ∈ GW := gw_of (List.mem_of_getElem? (i := 407) (by decide +kernel)) rfl
theorem ml_X5_123 : Cond.methodLink "OnChin$Text" 123 yX5_kindNamed ∈ GW := gw_of (List.mem_of_getElem? (i := 411) (by decide +kernel)) rfl
theorem ml_X5_93 : Cond.methodLink "OnChin$Text" 93 yX5_readLump ∈ GW := gw_of (List.mem_of_getElem? (i := 420) (by decide +kernel)) rfl
theorem ml_X5_98 : Cond.methodLink "OnChin$Text" 98 yX5_readBare ∈ GW := gw_of (List.mem_of_getElem? (i := 428) (by decide +kernel)) rfl
theorem ml_X5_103 : Cond.methodLink "OnChin$Text" 103 yX5_readNumbers ∈ GW := gw_of (List.mem_of_getElem? (i := 433) (by decide +kernel)) rfl
theorem ml_X5_107 : Cond.methodLink "OnChin$Text" 107 yX5_placeNamed ∈ GW := gw_of (List.mem_of_getElem? (i := 441) (by decide +kernel)) rfl
theorem ml_L_29 : Cond.methodLink "OnChinLaw" 29 yX8_chin ∈ GW := gw_of (List.mem_of_getElem? (i := 451) (by decide +kernel)) rfl
theorem ml_X8_80 : Cond.methodLink "OnChin" 80 yX5_tell ∈ GW := gw_of (List.mem_of_getElem? (i := 455) (by decide +kernel)) rfl
theorem ml_X5_156 : Cond.methodLink "OnChin$Text" 156 arraycopyName ∈ GW := gw_of (List.mem_of_getElem? (i := 459) (by decide +kernel)) rfl
theorem ml_X5_162 : Cond.methodLink "OnChin$Text" 162 yX5_tellThing ∈ GW := gw_of (List.mem_of_getElem? (i := 460) (by decide +kernel)) rfl
theorem ml_X5_166 : Cond.methodLink "OnChin$Text" 166 yX6_become ∈ GW := gw_of (List.mem_of_getElem? (i := 464) (by decide +kernel)) rfl
theorem ml_X5_170 : Cond.methodLink "OnChin$Text" 170 yX6_addLump ∈ GW := gw_of (List.mem_of_getElem? (i := 468) (by decide +kernel)) rfl
theorem ml_X6_34 : Cond.methodLink "OnChin$Thing" 34 yX6_measure ∈ GW := gw_of (List.mem_of_getElem? (i := 472) (by decide +kernel)) rfl
theorem ml_X6_37 : Cond.methodLink "OnChin$Thing" 37 Lib.Math.max.name ∈ GW := gw_of (List.mem_of_getElem? (i := 476) (by decide +kernel)) rfl
theorem ml_X5_173 : Cond.methodLink "OnChin$Text" 173 yX6_strip ∈ GW := gw_of (List.mem_of_getElem? (i := 479) (by decide +kernel)) rfl
theorem ml_L_33 : Cond.methodLink "OnChinLaw" 33 yX8_thing ∈ GW := gw_of (List.mem_of_getElem? (i := 483) (by decide +kernel)) rfl
theorem ml_X8_87 : Cond.methodLink "OnChin" 87 yX8_isThing ∈ GW := gw_of (List.mem_of_getElem? (i := 487) (by decide +kernel)) rfl
theorem ml_L_38 : Cond.methodLink "OnChinLaw" 38 yX8_lump ∈ GW := gw_of (List.mem_of_getElem? (i := 488) (by decide +kernel)) rfl
theorem ml_L_43 : Cond.methodLink "OnChinLaw" 43 yX8_begin ∈ GW := gw_of (List.mem_of_getElem? (i := 492) (by decide +kernel)) rfl
theorem ml_X8_119 : Cond.methodLink "OnChin" 119 yX8_refusal ∈ GW := gw_of (List.mem_of_getElem? (i := 496) (by decide +kernel)) rfl
theorem ml_X8_137 : Cond.methodLink "OnChin" 137 yX8_hasLumps ∈ GW := gw_of (List.mem_of_getElem? (i := 500) (by decide +kernel)) rfl
theorem ml_X8_123 : Cond.methodLink "OnChin" 123 yX0_start ∈ GW := gw_of (List.mem_of_getElem? (i := 504) (by decide +kernel)) rfl
theorem ml_L_47 : Cond.methodLink "OnChinLaw" 47 yX8_ticks ∈ GW := gw_of (List.mem_of_getElem? (i := 508) (by decide +kernel)) rfl
theorem ml_X8_133 : Cond.methodLink "OnChin" 133 yX0_fell ∈ GW := gw_of (List.mem_of_getElem? (i := 512) (by decide +kernel)) rfl
theorem ml_X8_143 : Cond.methodLink "OnChin" 143 yX0_tick ∈ GW := gw_of (List.mem_of_getElem? (i := 516) (by decide +kernel)) rfl
theorem ml_X0_40 : Cond.methodLink "OnChin$Balance" 40 yX0_move ∈ GW := gw_of (List.mem_of_getElem? (i := 520) (by decide +kernel)) rfl
theorem ml_X0_50 : Cond.methodLink "OnChin$Balance" 50 yX6_seenLater ∈ GW := gw_of (List.mem_of_getElem? (i := 524) (by decide +kernel)) rfl
theorem ml_X0_54 : Cond.methodLink "OnChin$Balance" 54 yX0_was ∈ GW := gw_of (List.mem_of_getElem? (i := 528) (by decide +kernel)) rfl
theorem ml_X8_262 : Cond.methodLink "OnChin" 262 Lib.Math.abs.name ∈ GW := gw_of (List.mem_of_getElem? (i := 535) (by decide +kernel)) rfl
theorem ml_X8_267 : Cond.methodLink "OnChin" 267 yX8_limited ∈ GW := gw_of (List.mem_of_getElem? (i := 538) (by decide +kernel)) rfl
theorem ml_X0_44 : Cond.methodLink "OnChin$Balance" 44 yX6_leaning ∈ GW := gw_of (List.mem_of_getElem? (i := 542) (by decide +kernel)) rfl
theorem ml_L_52 : Cond.methodLink "OnChinLaw" 52 yX8_now ∈ GW := gw_of (List.mem_of_getElem? (i := 546) (by decide +kernel)) rfl
theorem ml_L_56 : Cond.methodLink "OnChinLaw" 56 yX8_keep ∈ GW := gw_of (List.mem_of_getElem? (i := 551) (by decide +kernel)) rfl
theorem ml_X8_160 : Cond.methodLink "OnChin" 160 yX0_copy ∈ GW := gw_of (List.mem_of_getElem? (i := 555) (by decide +kernel)) rfl
theorem ml_X0_34 : Cond.methodLink "OnChin$Balance" 34 arraycopyName ∈ GW := gw_of (List.mem_of_getElem? (i := 559) (by decide +kernel)) rfl
theorem ml_L_60 : Cond.methodLink "OnChinLaw" 60 yX8_back ∈ GW := gw_of (List.mem_of_getElem? (i := 560) (by decide +kernel)) rfl
theorem ml_L_64 : Cond.methodLink "OnChinLaw" 64 yX8_kept ∈ GW := gw_of (List.mem_of_getElem? (i := 564) (by decide +kernel)) rfl
theorem ml_X8_164 : Cond.methodLink "OnChin" 164 yX4_takeRule ∈ GW := gw_of (List.mem_of_getElem? (i := 568) (by decide +kernel)) rfl
theorem ml_X4_32 : Cond.methodLink "OnChin$Keeper" 32 arraycopyName ∈ GW := gw_of (List.mem_of_getElem? (i := 572) (by decide +kernel)) rfl
theorem ml_X8_168 : Cond.methodLink "OnChin" 168 yX4_lasts ∈ GW := gw_of (List.mem_of_getElem? (i := 573) (by decide +kernel)) rfl
theorem ml_X4_38 : Cond.methodLink "OnChin$Keeper" 38 yX6_seenLater ∈ GW := gw_of (List.mem_of_getElem? (i := 577) (by decide +kernel)) rfl
theorem ml_X4_42 : Cond.methodLink "OnChin$Keeper" 42 yX0_start ∈ GW := gw_of (List.mem_of_getElem? (i := 578) (by decide +kernel)) rfl
theorem ml_X4_46 : Cond.methodLink "OnChin$Keeper" 46 yX0_fell ∈ GW := gw_of (List.mem_of_getElem? (i := 579) (by decide +kernel)) rfl
theorem ml_X4_50 : Cond.methodLink "OnChin$Keeper" 50 yX0_isAgain ∈ GW := gw_of (List.mem_of_getElem? (i := 580) (by decide +kernel)) rfl
theorem ml_X4_54 : Cond.methodLink "OnChin$Keeper" 54 yX0_copy ∈ GW := gw_of (List.mem_of_getElem? (i := 584) (by decide +kernel)) rfl
theorem ml_X4_58 : Cond.methodLink "OnChin$Keeper" 58 yX0_tick ∈ GW := gw_of (List.mem_of_getElem? (i := 585) (by decide +kernel)) rfl
theorem ml_L_68 : Cond.methodLink "OnChinLaw" 68 yX8_steady ∈ GW := gw_of (List.mem_of_getElem? (i := 586) (by decide +kernel)) rfl
theorem ml_X8_172 : Cond.methodLink "OnChin" 172 yX4_leastFrom ∈ GW := gw_of (List.mem_of_getElem? (i := 590) (by decide +kernel)) rfl
theorem ml_X4_66 : Cond.methodLink "OnChin$Keeper" 66 yX4_leftmost ∈ GW := gw_of (List.mem_of_getElem? (i := 594) (by decide +kernel)) rfl
theorem ml_X4_70 : Cond.methodLink "OnChin$Keeper" 70 yX4_lasts ∈ GW := gw_of (List.mem_of_getElem? (i := 598) (by decide +kernel)) rfl
theorem ml_X4_74 : Cond.methodLink "OnChin$Keeper" 74 Lib.Math.min.name ∈ GW := gw_of (List.mem_of_getElem? (i := 599) (by decide +kernel)) rfl
theorem ml_L_72 : Cond.methodLink "OnChinLaw" 72 yX8_line ∈ GW := gw_of (List.mem_of_getElem? (i := 600) (by decide +kernel)) rfl
theorem ml_X8_176 : Cond.methodLink "OnChin" 176 yX4_shortestSteady ∈ GW := gw_of (List.mem_of_getElem? (i := 604) (by decide +kernel)) rfl
theorem ml_X4_80 : Cond.methodLink "OnChin$Keeper" 80 yX6_strip ∈ GW := gw_of (List.mem_of_getElem? (i := 608) (by decide +kernel)) rfl
theorem ml_X4_83 : Cond.methodLink "OnChin$Keeper" 83 yX6_addLump ∈ GW := gw_of (List.mem_of_getElem? (i := 609) (by decide +kernel)) rfl
theorem ml_X4_87 : Cond.methodLink "OnChin$Keeper" 87 yX4_isSteady ∈ GW := gw_of (List.mem_of_getElem? (i := 610) (by decide +kernel)) rfl
theorem ml_L_76 : Cond.methodLink "OnChinLaw" 76 yX8_best ∈ GW := gw_of (List.mem_of_getElem? (i := 614) (by decide +kernel)) rfl
theorem ml_X8_180 : Cond.methodLink "OnChin" 180 yX4_bestRule ∈ GW := gw_of (List.mem_of_getElem? (i := 618) (by decide +kernel)) rfl
theorem ml_X4_91 : Cond.methodLink "OnChin$Keeper" 91 yX4_together ∈ GW := gw_of (List.mem_of_getElem? (i := 622) (by decide +kernel)) rfl
theorem ml_L_80 : Cond.methodLink "OnChinLaw" 80 yX8_odds ∈ GW := gw_of (List.mem_of_getElem? (i := 626) (by decide +kernel)) rfl
theorem ml_X8_184 : Cond.methodLink "OnChin" 184 yX4_chances ∈ GW := gw_of (List.mem_of_getElem? (i := 630) (by decide +kernel)) rfl
theorem ml_X8_188 : Cond.methodLink "OnChin" 188 yX8_lowestTerms ∈ GW := gw_of (List.mem_of_getElem? (i := 637) (by decide +kernel)) rfl
theorem ml_X8_270 : Cond.methodLink "OnChin" 270 yX8_power ∈ GW := gw_of (List.mem_of_getElem? (i := 640) (by decide +kernel)) rfl
theorem ml_L_85 : Cond.methodLink "OnChinLaw" 85 yX8_stands ∈ GW := gw_of (List.mem_of_getElem? (i := 641) (by decide +kernel)) rfl
theorem ml_X8_192 : Cond.methodLink "OnChin" 192 yX4_leastShake ∈ GW := gw_of (List.mem_of_getElem? (i := 645) (by decide +kernel)) rfl
theorem ml_X4_101 : Cond.methodLink "OnChin$Keeper" 101 yX4_standsAlone ∈ GW := gw_of (List.mem_of_getElem? (i := 650) (by decide +kernel)) rfl
theorem ml_L_89 : Cond.methodLink "OnChinLaw" 89 yX8_two ∈ GW := gw_of (List.mem_of_getElem? (i := 654) (by decide +kernel)) rfl
theorem ml_X8_201 : Cond.methodLink "OnChin" 201 yX4_bothLast ∈ GW := gw_of (List.mem_of_getElem? (i := 658) (by decide +kernel)) rfl
theorem ml_X4_104 : Cond.methodLink "OnChin$Keeper" 104 Lib.Math.max.name ∈ GW := gw_of (List.mem_of_getElem? (i := 662) (by decide +kernel)) rfl
theorem ml_L_93 : Cond.methodLink "OnChinLaw" 93 yX8_film ∈ GW := gw_of (List.mem_of_getElem? (i := 663) (by decide +kernel)) rfl
theorem ml_X8_208 : Cond.methodLink "OnChin" 208 yX2_append ∈ GW := gw_of (List.mem_of_getElem? (i := 667) (by decide +kernel)) rfl
theorem ml_L_97 : Cond.methodLink "OnChinLaw" 97 yX8_wind ∈ GW := gw_of (List.mem_of_getElem? (i := 671) (by decide +kernel)) rfl
theorem ml_L_101 : Cond.methodLink "OnChinLaw" 101 yX8_fits ∈ GW := gw_of (List.mem_of_getElem? (i := 675) (by decide +kernel)) rfl
theorem ml_X8_211 : Cond.methodLink "OnChin" 211 yX2_seek ∈ GW := gw_of (List.mem_of_getElem? (i := 679) (by decide +kernel)) rfl
theorem ml_X2_43 : Cond.methodLink "OnChin$Film" 43 arraycopyName ∈ GW := gw_of (List.mem_of_getElem? (i := 683) (by decide +kernel)) rfl
theorem ml_X2_49 : Cond.methodLink "OnChin$Film" 49 yX2_isFit ∈ GW := gw_of (List.mem_of_getElem? (i := 684) (by decide +kernel)) rfl
theorem ml_X2_56 : Cond.methodLink "OnChin$Film" 56 yX2_moveIn ∈ GW := gw_of (List.mem_of_getElem? (i := 688) (by decide +kernel)) rfl
theorem ml_X2_60 : Cond.methodLink "OnChin$Film" 60 Lib.Math.max.name ∈ GW := gw_of (List.mem_of_getElem? (i := 692) (by decide +kernel)) rfl
theorem ml_X2_53 : Cond.methodLink "OnChin$Film" 53 yX2_noteFit ∈ GW := gw_of (List.mem_of_getElem? (i := 694) (by decide +kernel)) rfl
theorem ml_X2_70 : Cond.methodLink "OnChin$Film" 70 Lib.Math.min.name ∈ GW := gw_of (List.mem_of_getElem? (i := 698) (by decide +kernel)) rfl
theorem ml_L_105 : Cond.methodLink "OnChinLaw" 105 yX8_next ∈ GW := gw_of (List.mem_of_getElem? (i := 699) (by decide +kernel)) rfl
theorem ml_L_109 : Cond.methodLink "OnChinLaw" 109 yX8_plan ∈ GW := gw_of (List.mem_of_getElem? (i := 703) (by decide +kernel)) rfl
theorem ml_X8_233 : Cond.methodLink "OnChin" 233 yX1_tryAll ∈ GW := gw_of (List.mem_of_getElem? (i := 707) (by decide +kernel)) rfl
theorem ml_X1_30 : Cond.methodLink "OnChin$Evenings" 30 yX1_lesson ∈ GW := gw_of (List.mem_of_getElem? (i := 711) (by decide +kernel)) rfl
theorem ml_X1_39 : Cond.methodLink "OnChin$Evenings" 39 yX4_lasts ∈ GW := gw_of (List.mem_of_getElem? (i := 714) (by decide +kernel)) rfl
theorem ml_X1_43 : Cond.methodLink "OnChin$Evenings" 43 Lib.Math.max.name ∈ GW := gw_of (List.mem_of_getElem? (i := 715) (by decide +kernel)) rfl
theorem ml_X8_237 : Cond.methodLink "OnChin" 237 yX1_firstBest ∈ GW := gw_of (List.mem_of_getElem? (i := 716) (by decide +kernel)) rfl
theorem ml_X1_52 : Cond.methodLink "OnChin$Evenings" 52 yX1_tenthsBehind ∈ GW := gw_of (List.mem_of_getElem? (i := 721) (by decide +kernel)) rfl
theorem ml_X1_56 : Cond.methodLink "OnChin$Evenings" 56 yX1_thingOf ∈ GW := gw_of (List.mem_of_getElem? (i := 725) (by decide +kernel)) rfl
theorem ml_X1_59 : Cond.methodLink "OnChin$Evenings" 59 Lib.Math.min.name ∈ GW := gw_of (List.mem_of_getElem? (i := 728) (by decide +kernel)) rfl
theorem ml_X8_244 : Cond.methodLink "OnChin" 244 yX1_thingOf ∈ GW := gw_of (List.mem_of_getElem? (i := 729) (by decide +kernel)) rfl
theorem ml_L_113 : Cond.methodLink "OnChinLaw" 113 yX8_room ∈ GW := gw_of (List.mem_of_getElem? (i := 730) (by decide +kernel)) rfl
theorem ml_L_117 : Cond.methodLink "OnChinLaw" 117 yX8_way ∈ GW := gw_of (List.mem_of_getElem? (i := 734) (by decide +kernel)) rfl
theorem ml_X8_253 : Cond.methodLink "OnChin" 253 yX3_walk ∈ GW := gw_of (List.mem_of_getElem? (i := 738) (by decide +kernel)) rfl
theorem ml_X3_31 : Cond.methodLink "OnChin$House" 31 yX3_isOpen ∈ GW := gw_of (List.mem_of_getElem? (i := 742) (by decide +kernel)) rfl
theorem ml_X3_35 : Cond.methodLink "OnChin$House" 35 yX3_enter ∈ GW := gw_of (List.mem_of_getElem? (i := 746) (by decide +kernel)) rfl
theorem ml_X3_43 : Cond.methodLink "OnChin$House" 43 Lib.Math.min.name ∈ GW := gw_of (List.mem_of_getElem? (i := 750) (by decide +kernel)) rfl
theorem ml_X3_39 : Cond.methodLink "OnChin$House" 39 yX3_beside ∈ GW := gw_of (List.mem_of_getElem? (i := 751) (by decide +kernel)) rfl
theorem ml_L_122 : Cond.methodLink "OnChinLaw" 122 yX8_count ∈ GW := gw_of (List.mem_of_getElem? (i := 754) (by decide +kernel)) rfl
theorem ml_L_12 : Cond.methodLink "OnChinLaw" 12 yX9_init ∈ GW := gw_of (List.mem_of_getElem? (i := 760) (by decide +kernel)) rfl
theorem ml_X9_1 : Cond.methodLink "OnChinModel" 1 objectInit ∈ GW := gw_of (List.mem_of_getElem? (i := 763) (by decide +kernel)) rfl
theorem ml_L_19 : Cond.methodLink "OnChinLaw" 19 yX9_write ∈ GW := gw_of (List.mem_of_getElem? (i := 892) (by decide +kernel)) rfl
theorem ml_X9_92 : Cond.methodLink "OnChinModel" 92 yX9_in ∈ GW := gw_of (List.mem_of_getElem? (i := 897) (by decide +kernel)) rfl
theorem ml_L_24 : Cond.methodLink "OnChinLaw" 24 yX9_erase ∈ GW := gw_of (List.mem_of_getElem? (i := 901) (by decide +kernel)) rfl
theorem ml_L_28 : Cond.methodLink "OnChinLaw" 28 yX9_fault ∈ GW := gw_of (List.mem_of_getElem? (i := 905) (by decide +kernel)) rfl
theorem ml_X9_141 : Cond.methodLink "OnChinModel" 141 yX9_token ∈ GW := gw_of (List.mem_of_getElem? (i := 909) (by decide +kernel)) rfl
theorem ml_X9_107 : Cond.methodLink "OnChinModel" 107 yX9_sort ∈ GW := gw_of (List.mem_of_getElem? (i := 913) (by decide +kernel)) rfl
theorem ml_X9_171 : Cond.methodLink "OnChinModel" 171 yX9_readsLine ∈ GW := gw_of (List.mem_of_getElem? (i := 916) (by decide +kernel)) rfl
theorem ml_X9_163 : Cond.methodLink "OnChinModel" 163 yX9_wordOf ∈ GW := gw_of (List.mem_of_getElem? (i := 920) (by decide +kernel)) rfl
theorem ml_X9_118 : Cond.methodLink "OnChinModel" 118 yX9_isWord ∈ GW := gw_of (List.mem_of_getElem? (i := 925) (by decide +kernel)) rfl
theorem ml_X9_167 : Cond.methodLink "OnChinModel" 167 yX9_readsRest ∈ GW := gw_of (List.mem_of_getElem? (i := 938) (by decide +kernel)) rfl
theorem ml_X9_152 : Cond.methodLink "OnChinModel" 152 yX9_reads ∈ GW := gw_of (List.mem_of_getElem? (i := 942) (by decide +kernel)) rfl
theorem ml_X9_156 : Cond.methodLink "OnChinModel" 156 yX9_readsKind ∈ GW := gw_of (List.mem_of_getElem? (i := 946) (by decide +kernel)) rfl
theorem ml_X9_160 : Cond.methodLink "OnChinModel" 160 yX9_readsLump ∈ GW := gw_of (List.mem_of_getElem? (i := 954) (by decide +kernel)) rfl
theorem ml_L_32 : Cond.methodLink "OnChinLaw" 32 yX9_chin ∈ GW := gw_of (List.mem_of_getElem? (i := 958) (by decide +kernel)) rfl
theorem ml_X9_183 : Cond.methodLink "OnChinModel" 183 yX9_fault ∈ GW := gw_of (List.mem_of_getElem? (i := 962) (by decide +kernel)) rfl
theorem ml_X9_186 : Cond.methodLink "OnChinModel" 186 yX9_tell ∈ GW := gw_of (List.mem_of_getElem? (i := 963) (by decide +kernel)) rfl
theorem ml_L_37 : Cond.methodLink "OnChinLaw" 37 yX9_thing ∈ GW := gw_of (List.mem_of_getElem? (i := 967) (by decide +kernel)) rfl
theorem ml_X9_192 : Cond.methodLink "OnChinModel" 192 yX9_isThing ∈ GW := gw_of (List.mem_of_getElem? (i := 971) (by decide +kernel)) rfl
theorem ml_X9_195 : Cond.methodLink "OnChinModel" 195 yX9_longOf ∈ GW := gw_of (List.mem_of_getElem? (i := 975) (by decide +kernel)) rfl
theorem ml_X9_198 : Cond.methodLink "OnChinModel" 198 yX9_greatest ∈ GW := gw_of (List.mem_of_getElem? (i := 979) (by decide +kernel)) rfl
theorem ml_L_42 : Cond.methodLink "OnChinLaw" 42 yX9_lump ∈ GW := gw_of (List.mem_of_getElem? (i := 983) (by decide +kernel)) rfl
theorem ml_L_46 : Cond.methodLink "OnChinLaw" 46 yX9_begin ∈ GW := gw_of (List.mem_of_getElem? (i := 987) (by decide +kernel)) rfl
theorem ml_X9_243 : Cond.methodLink "OnChinModel" 243 yX9_isX ∈ GW := gw_of (List.mem_of_getElem? (i := 991) (by decide +kernel)) rfl
theorem ml_X9_246 : Cond.methodLink "OnChinModel" 246 yX9_isV ∈ GW := gw_of (List.mem_of_getElem? (i := 996) (by decide +kernel)) rfl
theorem ml_X9_249 : Cond.methodLink "OnChinModel" 249 yX9_start ∈ GW := gw_of (List.mem_of_getElem? (i := 1001) (by decide +kernel)) rfl
theorem ml_L_51 : Cond.methodLink "OnChinLaw" 51 yX9_ticks ∈ GW := gw_of (List.mem_of_getElem? (i := 1005) (by decide +kernel)) rfl
theorem ml_X9_255 : Cond.methodLink "OnChinModel" 255 yX9_fell ∈ GW := gw_of (List.mem_of_getElem? (i := 1010) (by decide +kernel)) rfl
theorem ml_X9_225 : Cond.methodLink "OnChinModel" 225 yX9_leansAt ∈ GW := gw_of (List.mem_of_getElem? (i := 1014) (by decide +kernel)) rfl
theorem ml_X9_258 : Cond.methodLink "OnChinModel" 258 yX9_asTold ∈ GW := gw_of (List.mem_of_getElem? (i := 1018) (by decide +kernel)) rfl
theorem ml_X9_213 : Cond.methodLink "OnChinModel" 213 yX9_look ∈ GW := gw_of (List.mem_of_getElem? (i := 1022) (by decide +kernel)) rfl
theorem ml_X9_261 : Cond.methodLink "OnChinModel" 261 yX9_tick ∈ GW := gw_of (List.mem_of_getElem? (i := 1026) (by decide +kernel)) rfl
theorem ml_X9_232 : Cond.methodLink "OnChinModel" 232 yX9_moves ∈ GW := gw_of (List.mem_of_getElem? (i := 1030) (by decide +kernel)) rfl
theorem ml_X9_228 : Cond.methodLink "OnChinModel" 228 yX9_minds ∈ GW := gw_of (List.mem_of_getElem? (i := 1034) (by decide +kernel)) rfl
theorem ml_L_55 : Cond.methodLink "OnChinLaw" 55 yX9_now ∈ GW := gw_of (List.mem_of_getElem? (i := 1038) (by decide +kernel)) rfl
theorem ml_L_59 : Cond.methodLink "OnChinLaw" 59 yX9_keep ∈ GW := gw_of (List.mem_of_getElem? (i := 1044) (by decide +kernel)) rfl
theorem ml_X9_268 : Cond.methodLink "OnChinModel" 268 yX9_copy ∈ GW := gw_of (List.mem_of_getElem? (i := 1048) (by decide +kernel)) rfl
theorem ml_L_63 : Cond.methodLink "OnChinLaw" 63 yX9_back ∈ GW := gw_of (List.mem_of_getElem? (i := 1052) (by decide +kernel)) rfl
theorem ml_L_67 : Cond.methodLink "OnChinLaw" 67 yX9_kept ∈ GW := gw_of (List.mem_of_getElem? (i := 1056) (by decide +kernel)) rfl
theorem ml_X9_272 : Cond.methodLink "OnChinModel" 272 yX9_lasts ∈ GW := gw_of (List.mem_of_getElem? (i := 1060) (by decide +kernel)) rfl
theorem ml_L_71 : Cond.methodLink "OnChinLaw" 71 yX9_steady ∈ GW := gw_of (List.mem_of_getElem? (i := 1064) (by decide +kernel)) rfl
theorem ml_X9_278 : Cond.methodLink "OnChinModel" 278 yX9_isK ∈ GW := gw_of (List.mem_of_getElem? (i := 1068) (by decide +kernel)) rfl
theorem ml_X9_281 : Cond.methodLink "OnChinModel" 281 yX9_least ∈ GW := gw_of (List.mem_of_getElem? (i := 1072) (by decide +kernel)) rfl
theorem ml_L_75 : Cond.methodLink "OnChinLaw" 75 yX9_line ∈ GW := gw_of (List.mem_of_getElem? (i := 1076) (by decide +kernel)) rfl
theorem ml_X9_284 : Cond.methodLink "OnChinModel" 284 yX9_stays ∈ GW := gw_of (List.mem_of_getElem? (i := 1080) (by decide +kernel)) rfl
theorem ml_L_79 : Cond.methodLink "OnChinLaw" 79 yX9_best ∈ GW := gw_of (List.mem_of_getElem? (i := 1084) (by decide +kernel)) rfl
theorem ml_L_84 : Cond.methodLink "OnChinLaw" 84 yX9_odds ∈ GW := gw_of (List.mem_of_getElem? (i := 1090) (by decide +kernel)) rfl
theorem ml_X9_293 : Cond.methodLink "OnChinModel" 293 yX9_weightOf ∈ GW := gw_of (List.mem_of_getElem? (i := 1095) (by decide +kernel)) rfl
theorem ml_X9_297 : Cond.methodLink "OnChinModel" 297 yX9_divisor ∈ GW := gw_of (List.mem_of_getElem? (i := 1099) (by decide +kernel)) rfl
theorem ml_L_88 : Cond.methodLink "OnChinLaw" 88 yX9_stands ∈ GW := gw_of (List.mem_of_getElem? (i := 1102) (by decide +kernel)) rfl
theorem ml_L_92 : Cond.methodLink "OnChinLaw" 92 yX9_two ∈ GW := gw_of (List.mem_of_getElem? (i := 1106) (by decide +kernel)) rfl
theorem ml_L_96 : Cond.methodLink "OnChinLaw" 96 yX9_film ∈ GW := gw_of (List.mem_of_getElem? (i := 1111) (by decide +kernel)) rfl
theorem ml_L_100 : Cond.methodLink "OnChinLaw" 100 yX9_wind ∈ GW := gw_of (List.mem_of_getElem? (i := 1115) (by decide +kernel)) rfl
theorem ml_L_104 : Cond.methodLink "OnChinLaw" 104 yX9_fits ∈ GW := gw_of (List.mem_of_getElem? (i := 1119) (by decide +kernel)) rfl
theorem ml_X9_308 : Cond.methodLink "OnChinModel" 308 yX9_fitsBy ∈ GW := gw_of (List.mem_of_getElem? (i := 1123) (by decide +kernel)) rfl
theorem ml_X9_305 : Cond.methodLink "OnChinModel" 305 yX9_mindsAt ∈ GW := gw_of (List.mem_of_getElem? (i := 1127) (by decide +kernel)) rfl
theorem ml_L_108 : Cond.methodLink "OnChinLaw" 108 yX9_next ∈ GW := gw_of (List.mem_of_getElem? (i := 1131) (by decide +kernel)) rfl
theorem ml_L_112 : Cond.methodLink "OnChinLaw" 112 yX9_plan ∈ GW := gw_of (List.mem_of_getElem? (i := 1137) (by decide +kernel)) rfl
theorem ml_X9_315 : Cond.methodLink "OnChinModel" 315 yX9_layHolds ∈ GW := gw_of (List.mem_of_getElem? (i := 1142) (by decide +kernel)) rfl
theorem ml_X9_318 : Cond.methodLink "OnChinModel" 318 yX9_tenthsBy ∈ GW := gw_of (List.mem_of_getElem? (i := 1146) (by decide +kernel)) rfl
theorem ml_L_116 : Cond.methodLink "OnChinLaw" 116 yX9_room ∈ GW := gw_of (List.mem_of_getElem? (i := 1150) (by decide +kernel)) rfl
theorem ml_X9_323 : Cond.methodLink "OnChinModel" 323 yX9_isCell ∈ GW := gw_of (List.mem_of_getElem? (i := 1154) (by decide +kernel)) rfl
theorem ml_L_121 : Cond.methodLink "OnChinLaw" 121 yX9_way ∈ GW := gw_of (List.mem_of_getElem? (i := 1159) (by decide +kernel)) rfl
theorem ml_X9_328 : Cond.methodLink "OnChinModel" 328 yX9_areBeside ∈ GW := gw_of (List.mem_of_getElem? (i := 1163) (by decide +kernel)) rfl
theorem ml_L_125 : Cond.methodLink "OnChinLaw" 125 yX9_count ∈ GW := gw_of (List.mem_of_getElem? (i := 1166) (by decide +kernel)) rfl
theorem kc_X8_150 : Cond.constant "OnChin" 150 (1000000) ∈ GW := gw_of (List.mem_of_getElem? (i := 550) (by decide +kernel)) rfl
theorem kc_X9_267 : Cond.constant "OnChinModel" 267 (1000000) ∈ GW := gw_of (List.mem_of_getElem? (i := 1043) (by decide +kernel)) rfl
theorem kc_X9_311 : Cond.constant "OnChinModel" 311 (268435456) ∈ GW := gw_of (List.mem_of_getElem? (i := 1135) (by decide +kernel)) rfl
theorem kc_X9_312 : Cond.constant "OnChinModel" 312 (-268435456) ∈ GW := gw_of (List.mem_of_getElem? (i := 1136) (by decide +kernel)) rfl
theorem kc_X8_70 : Cond.constantLong "OnChin" 70 (255) ∈ GW := gw_of (List.mem_of_getElem? (i := 310) (by decide +kernel)) rfl
theorem kc_X9_90 : Cond.constantLong "OnChinModel" 90 (8) ∈ GW := gw_of (List.mem_of_getElem? (i := 896) (by decide +kernel)) rfl
theorem kc_X9_99 : Cond.constantLong "OnChinModel" 99 (255) ∈ GW := gw_of (List.mem_of_getElem? (i := 900) (by decide +kernel)) rfl
theorem kc_X9_116 : Cond.constantLong "OnChinModel" 116 (7808276) ∈ GW := gw_of (List.mem_of_getElem? (i := 924) (by decide +kernel)) rfl
theorem kc_X9_114 : Cond.constantLong "OnChinModel" 114 (31) ∈ GW := gw_of (List.mem_of_getElem? (i := 929) (by decide +kernel)) rfl
theorem kc_X9_122 : Cond.constantLong "OnChinModel" 122 (538284) ∈ GW := gw_of (List.mem_of_getElem? (i := 930) (by decide +kernel)) rfl
theorem kc_X9_124 : Cond.constantLong "OnChinModel" 124 (182306) ∈ GW := gw_of (List.mem_of_getElem? (i := 931) (by decide +kernel)) rfl
theorem kc_X9_126 : Cond.constantLong "OnChinModel" 126 (14381) ∈ GW := gw_of (List.mem_of_getElem? (i := 932) (by decide +kernel)) rfl
theorem kc_X9_128 : Cond.constantLong "OnChinModel" 128 (19381638) ∈ GW := gw_of (List.mem_of_getElem? (i := 933) (by decide +kernel)) rfl
theorem kc_X9_130 : Cond.constantLong "OnChinModel" 130 (406192) ∈ GW := gw_of (List.mem_of_getElem? (i := 934) (by decide +kernel)) rfl
theorem kc_X9_132 : Cond.constantLong "OnChinModel" 132 (4675042) ∈ GW := gw_of (List.mem_of_getElem? (i := 935) (by decide +kernel)) rfl
theorem kc_X9_134 : Cond.constantLong "OnChinModel" 134 (145719) ∈ GW := gw_of (List.mem_of_getElem? (i := 936) (by decide +kernel)) rfl
theorem kc_X9_136 : Cond.constantLong "OnChinModel" 136 (5604627) ∈ GW := gw_of (List.mem_of_getElem? (i := 937) (by decide +kernel)) rfl
theorem kc_X9_144 : Cond.constantLong "OnChinModel" 144 (14976400) ∈ GW := gw_of (List.mem_of_getElem? (i := 950) (by decide +kernel)) rfl
theorem kc_X9_146 : Cond.constantLong "OnChinModel" 146 (7995869876) ∈ GW := gw_of (List.mem_of_getElem? (i := 951) (by decide +kernel)) rfl
theorem kc_X9_148 : Cond.constantLong "OnChinModel" 148 (20663) ∈ GW := gw_of (List.mem_of_getElem? (i := 952) (by decide +kernel)) rfl
theorem kc_X9_150 : Cond.constantLong "OnChinModel" 150 (4484179434) ∈ GW := gw_of (List.mem_of_getElem? (i := 953) (by decide +kernel)) rfl
theorem kc_X9_190 : Cond.constantLong "OnChinModel" 190 (3) ∈ GW := gw_of (List.mem_of_getElem? (i := 974) (by decide +kernel)) rfl
theorem kc_X9_235 : Cond.constantLong "OnChinModel" 235 (-999) ∈ GW := gw_of (List.mem_of_getElem? (i := 994) (by decide +kernel)) rfl
theorem kc_X9_237 : Cond.constantLong "OnChinModel" 237 (999) ∈ GW := gw_of (List.mem_of_getElem? (i := 995) (by decide +kernel)) rfl
theorem kc_X9_239 : Cond.constantLong "OnChinModel" 239 (-99) ∈ GW := gw_of (List.mem_of_getElem? (i := 999) (by decide +kernel)) rfl
theorem kc_X9_241 : Cond.constantLong "OnChinModel" 241 (99) ∈ GW := gw_of (List.mem_of_getElem? (i := 1000) (by decide +kernel)) rfl
theorem kc_X9_253 : Cond.constantLong "OnChinModel" 253 (100) ∈ GW := gw_of (List.mem_of_getElem? (i := 1009) (by decide +kernel)) rfl
theorem kc_X9_265 : Cond.constantLong "OnChinModel" 265 (6) ∈ GW := gw_of (List.mem_of_getElem? (i := 1042) (by decide +kernel)) rfl
theorem kc_X9_276 : Cond.constantLong "OnChinModel" 276 (20) ∈ GW := gw_of (List.mem_of_getElem? (i := 1071) (by decide +kernel)) rfl
theorem kc_X9_287 : Cond.constantLong "OnChinModel" 287 (4) ∈ GW := gw_of (List.mem_of_getElem? (i := 1088) (by decide +kernel)) rfl
theorem kc_X9_289 : Cond.constantLong "OnChinModel" 289 (2) ∈ GW := gw_of (List.mem_of_getElem? (i := 1089) (by decide +kernel)) rfl
theorem kc_X9_291 : Cond.constantLong "OnChinModel" 291 (5) ∈ GW := gw_of (List.mem_of_getElem? (i := 1094) (by decide +kernel)) rfl
theorem kc_X9_300 : Cond.constantLong "OnChinModel" 300 (9) ∈ GW := gw_of (List.mem_of_getElem? (i := 1110) (by decide +kernel)) rfl
theorem kc_X9_313 : Cond.constantLong "OnChinModel" 313 (-1) ∈ GW := gw_of (List.mem_of_getElem? (i := 1141) (by decide +kernel)) rfl
theorem kc_X9_321 : Cond.constantLong "OnChinModel" 321 (35) ∈ GW := gw_of (List.mem_of_getElem? (i := 1157) (by decide +kernel)) rfl
theorem kc_X9_326 : Cond.constantLong "OnChinModel" 326 (300) ∈ GW := gw_of (List.mem_of_getElem? (i := 1158) (by decide +kernel)) rfl
theorem kc_L_13 : Cond.constantLong "OnChinLaw" 13 (4294967295) ∈ GW := gw_of (List.mem_of_getElem? (i := 1170) (by decide +kernel)) rfl
theorem wi_L : Cond.initialized "OnChinLaw" ∈ GW := gw_of (List.mem_of_getElem? (i := 0) (by decide +kernel)) rfl
theorem wi_X8 : Cond.initialized "OnChin" ∈ GW := gw_of (List.mem_of_getElem? (i := 1) (by decide +kernel)) rfl
theorem wi_X7 : Cond.initialized "OnChin$Told" ∈ GW := gw_of (List.mem_of_getElem? (i := 2) (by decide +kernel)) rfl
theorem wi_X6 : Cond.initialized "OnChin$Thing" ∈ GW := gw_of (List.mem_of_getElem? (i := 3) (by decide +kernel)) rfl
theorem wi_J10 : Cond.initialized "java/lang/System" ∈ GW := gw_of (List.mem_of_getElem? (i := 4) (by decide +kernel)) rfl
theorem wi_X5 : Cond.initialized "OnChin$Text" ∈ GW := gw_of (List.mem_of_getElem? (i := 5) (by decide +kernel)) rfl
theorem wi_X0 : Cond.initialized "OnChin$Balance" ∈ GW := gw_of (List.mem_of_getElem? (i := 6) (by decide +kernel)) rfl
theorem wi_X4 : Cond.initialized "OnChin$Keeper" ∈ GW := gw_of (List.mem_of_getElem? (i := 7) (by decide +kernel)) rfl
theorem wi_X1 : Cond.initialized "OnChin$Evenings" ∈ GW := gw_of (List.mem_of_getElem? (i := 8) (by decide +kernel)) rfl
theorem wi_X2 : Cond.initialized "OnChin$Film" ∈ GW := gw_of (List.mem_of_getElem? (i := 9) (by decide +kernel)) rfl
theorem wi_X3 : Cond.initialized "OnChin$House" ∈ GW := gw_of (List.mem_of_getElem? (i := 10) (by decide +kernel)) rfl
theorem wi_X9 : Cond.initialized "OnChinModel" ∈ GW := gw_of (List.mem_of_getElem? (i := 11) (by decide +kernel)) rfl
theorem wi_J9 : Cond.initialized "java/lang/Math" ∈ GW := gw_of (List.mem_of_getElem? (i := 12) (by decide +kernel)) rfl
theorem wi_J0 : Cond.initialized "java/lang/String" ∈ GW := gw_of (List.mem_of_getElem? (i := 13) (by decide +kernel)) rfl
theorem wi_J1 : Cond.initialized "java/lang/StringLatin1" ∈ GW := gw_of (List.mem_of_getElem? (i := 14) (by decide +kernel)) rfl
theorem wi_J3 : Cond.initialized "jdk/internal/util/Preconditions" ∈ GW := gw_of (List.mem_of_getElem? (i := 15) (by decide +kernel)) rfl
theorem wi_J2 : Cond.initialized "java/lang/StringUTF16" ∈ GW := gw_of (List.mem_of_getElem? (i := 16) (by decide +kernel)) rfl
theorem ws_max : Cond.static Lib.Math.max.name ∈ GW := gw_of (List.mem_of_getElem? (i := 477) (by decide +kernel)) rfl
theorem wc_max : Cond.code Lib.Math.max.name Lib.Math.max.code 2 (some .int) ∈ GW := gw_of (List.mem_of_getElem? (i := 478) (by decide +kernel)) rfl
theorem ws_min : Cond.static Lib.Math.min.name ∈ GW := gw_of (List.mem_of_getElem? (i := 335) (by decide +kernel)) rfl
theorem wc_min : Cond.code Lib.Math.min.name Lib.Math.min.code 2 (some .int) ∈ GW := gw_of (List.mem_of_getElem? (i := 336) (by decide +kernel)) rfl
theorem ws_abs : Cond.static Lib.Math.abs.name ∈ GW := gw_of (List.mem_of_getElem? (i := 536) (by decide +kernel)) rfl
theorem wc_abs : Cond.code Lib.Math.abs.name Lib.Math.abs.code 1 (some .int) ∈ GW := gw_of (List.mem_of_getElem? (i := 537) (by decide +kernel)) rfl
theorem ws_arraycopy : Cond.static arraycopyName ∈ GW := gw_of (List.mem_of_getElem? (i := 73) (by decide +kernel)) rfl
theorem wn_arraycopy : Cond.native arraycopyName ∈ GW := gw_of (List.mem_of_getElem? (i := 74) (by decide +kernel)) rfl
theorem ok_X0_start : okV "OnChin$Balance" yX0_start cX0_start 4 none 3 := ⟨⟨gw_of (List.mem_of_getElem? (i := 505) (by decide +kernel)) rfl, gw_of (List.mem_of_getElem? (i := 506) (by decide +kernel)) rfl, wi_X0, gw_of (List.mem_of_getElem? (i := 507) (by decide +kernel)) rfl⟩, by decide +kernel⟩
theorem ok_X0_copy : okV "OnChin$Balance" yX0_copy cX0_copy 2 none 1 := ⟨⟨gw_of (List.mem_of_getElem? (i := 556) (by decide +kernel)) rfl, gw_of (List.mem_of_getElem? (i := 557) (by decide +kernel)) rfl, wi_X0, gw_of (List.mem_of_getElem? (i := 558) (by decide +kernel)) rfl⟩, by decide +kernel⟩
theorem ok_X0_fell : okV "OnChin$Balance" yX0_fell cX0_fell 2 (some .boolean) 1 := ⟨⟨gw_of (List.mem_of_getElem? (i := 513) (by decide +kernel)) rfl, gw_of (List.mem_of_getElem? (i := 514) (by decide +kernel)) rfl, wi_X0, gw_of (List.mem_of_getElem? (i := 515) (by decide +kernel)) rfl⟩, by decide +kernel⟩
theorem ok_X0_tick : okV "OnChin$Balance" yX0_tick cX0_tick 6 none 4 := ⟨⟨gw_of (List.mem_of_getElem? (i := 517) (by decide +kernel)) rfl, gw_of (List.mem_of_getElem? (i := 518) (by decide +kernel)) rfl, wi_X0, gw_of (List.mem_of_getElem? (i := 519) (by decide +kernel)) rfl⟩, by decide +kernel⟩
theorem ok_X0_move : okV "OnChin$Balance" yX0_move cX0_move 5 (some .int) 2 := ⟨⟨gw_of (List.mem_of_getElem? (i := 522) (by decide +kernel)) rfl, gw_sel (List.mem_of_getElem? (i := 16) (by decide +kernel)) rfl, wi_X0, gw_of (List.mem_of_getElem? (i := 523) (by decide +kernel)) rfl⟩, by decide +kernel⟩
theorem ok_X0_was : okV "OnChin$Balance" yX0_was cX0_was 2 (some .int) 1 := ⟨⟨gw_of (List.mem_of_getElem? (i := 530) (by decide +kernel)) rfl, gw_sel (List.mem_of_getElem? (i := 17) (by decide +kernel)) rfl, wi_X0, gw_of (List.mem_of_getElem? (i := 531) (by decide +kernel)) rfl⟩, by decide +kernel⟩
theorem ok_X0_isAgain : okV "OnChin$Balance" yX0_isAgain cX0_isAgain 4 (some .boolean) 2 := ⟨⟨gw_of (List.mem_of_getElem? (i := 581) (by decide +kernel)) rfl, gw_of (List.mem_of_getElem? (i := 582) (by decide +kernel)) rfl, wi_X0, gw_of (List.mem_of_getElem? (i := 583) (by decide +kernel)) rfl⟩, by decide +kernel⟩
theorem ok_X1_tryAll : okV "OnChin$Evenings" yX1_tryAll cX1_tryAll 5 none 2 := ⟨⟨gw_of (List.mem_of_getElem? (i := 708) (by decide +kernel)) rfl, gw_of (List.mem_of_getElem? (i := 709) (by decide +kernel)) rfl, wi_X1, gw_of (List.mem_of_getElem? (i := 710) (by decide +kernel)) rfl⟩, by decide +kernel⟩
theorem ok_X1_lesson : okS yX1_lesson cX1_lesson 2 (some .int) 2 := ⟨⟨gw_of (List.mem_of_getElem? (i := 712) (by decide +kernel)) rfl, wi_X1, gw_of (List.mem_of_getElem? (i := 713) (by decide +kernel)) rfl⟩, by decide +kernel⟩
theorem ok_X1_firstBest : okV "OnChin$Evenings" yX1_firstBest cX1_firstBest 7 (some .int) 2 := ⟨⟨gw_of (List.mem_of_getElem? (i := 717) (by decide +kernel)) rfl, gw_of (List.mem_of_getElem? (i := 718) (by decide +kernel)) rfl, wi_X1, gw_of (List.mem_of_getElem? (i := 719) (by decide +kernel)) rfl⟩, by decide +kernel⟩
theorem ok_X1_tenthsBehind : okV "OnChin$Evenings" yX1_tenthsBehind cX1_tenthsBehind 7 (some .int) 3 := ⟨⟨gw_of (List.mem_of_getElem? (i := 723) (by decide +kernel)) rfl, gw_sel (List.mem_of_getElem? (i := 25) (by decide +kernel)) rfl, wi_X1, gw_of (List.mem_of_getElem? (i := 724) (by decide +kernel)) rfl⟩, by decide +kernel⟩
theorem ok_X1_thingOf : okS yX1_thingOf cX1_thingOf 5 (some .int) 3 := ⟨⟨gw_of (List.mem_of_getElem? (i := 726) (by decide +kernel)) rfl, wi_X1, gw_of (List.mem_of_getElem? (i := 727) (by decide +kernel)) rfl⟩, by decide +kernel⟩
theorem ok_X2_append : okV "OnChin$Film" yX2_append cX2_append 3 none 2 := ⟨⟨gw_of (List.mem_of_getElem? (i := 668) (by decide +kernel)) rfl, gw_of (List.mem_of_getElem? (i := 669) (by decide +kernel)) rfl, wi_X2, gw_of (List.mem_of_getElem? (i := 670) (by decide +kernel)) rfl⟩, by decide +kernel⟩
theorem ok_X2_seek : okV "OnChin$Film" yX2_seek cX2_seek 6 none 2 := ⟨⟨gw_of (List.mem_of_getElem? (i := 680) (by decide +kernel)) rfl, gw_of (List.mem_of_getElem? (i := 681) (by decide +kernel)) rfl, wi_X2, gw_of (List.mem_of_getElem? (i := 682) (by decide +kernel)) rfl⟩, by decide +kernel⟩
theorem ok_X2_isFit : okV "OnChin$Film" yX2_isFit cX2_isFit 2 (some .boolean) 0 := ⟨⟨gw_of (List.mem_of_getElem? (i := 686) (by decide +kernel)) rfl, gw_sel (List.mem_of_getElem? (i := 22) (by decide +kernel)) rfl, wi_X2, gw_of (List.mem_of_getElem? (i := 687) (by decide +kernel)) rfl⟩, by decide +kernel⟩
theorem ok_X2_moveIn : okV "OnChin$Film" yX2_moveIn cX2_moveIn 3 (some .int) 1 := ⟨⟨gw_of (List.mem_of_getElem? (i := 690) (by decide +kernel)) rfl, gw_sel (List.mem_of_getElem? (i := 23) (by decide +kernel)) rfl, wi_X2, gw_of (List.mem_of_getElem? (i := 691) (by decide +kernel)) rfl⟩, by decide +kernel⟩
theorem ok_X2_noteFit : okV "OnChin$Film" yX2_noteFit cX2_noteFit 2 none 0 := ⟨⟨gw_of (List.mem_of_getElem? (i := 696) (by decide +kernel)) rfl, gw_sel (List.mem_of_getElem? (i := 24) (by decide +kernel)) rfl, wi_X2, gw_of (List.mem_of_getElem? (i := 697) (by decide +kernel)) rfl⟩, by decide +kernel⟩
theorem ok_X3_walk : okV "OnChin$House" yX3_walk cX3_walk 7 none 3 := ⟨⟨gw_of (List.mem_of_getElem? (i := 739) (by decide +kernel)) rfl, gw_of (List.mem_of_getElem? (i := 740) (by decide +kernel)) rfl, wi_X3, gw_of (List.mem_of_getElem? (i := 741) (by decide +kernel)) rfl⟩, by decide +kernel⟩
theorem ok_X3_isOpen : okV "OnChin$House" yX3_isOpen cX3_isOpen 5 (some .boolean) 3 := ⟨⟨gw_of (List.mem_of_getElem? (i := 744) (by decide +kernel)) rfl, gw_sel (List.mem_of_getElem? (i := 26) (by decide +kernel)) rfl, wi_X3, gw_of (List.mem_of_getElem? (i := 745) (by decide +kernel)) rfl⟩, by decide +kernel⟩
theorem ok_X3_enter : okV "OnChin$House" yX3_enter cX3_enter 5 none 3 := ⟨⟨gw_of (List.mem_of_getElem? (i := 748) (by decide +kernel)) rfl, gw_sel (List.mem_of_getElem? (i := 27) (by decide +kernel)) rfl, wi_X3, gw_of (List.mem_of_getElem? (i := 749) (by decide +kernel)) rfl⟩, by decide +kernel⟩
theorem ok_X3_beside : okS yX3_beside cX3_beside 3 (some .int) 2 := ⟨⟨gw_of (List.mem_of_getElem? (i := 752) (by decide +kernel)) rfl, wi_X3, gw_of (List.mem_of_getElem? (i := 753) (by decide +kernel)) rfl⟩, by decide +kernel⟩
theorem ok_X4_takeRule : okV "OnChin$Keeper" yX4_takeRule cX4_takeRule 2 none 1 := ⟨⟨gw_of (List.mem_of_getElem? (i := 569) (by decide +kernel)) rfl, gw_of (List.mem_of_getElem? (i := 570) (by decide +kernel)) rfl, wi_X4, gw_of (List.mem_of_getElem? (i := 571) (by decide +kernel)) rfl⟩, by decide +kernel⟩
theorem ok_X4_lasts : okV "OnChin$Keeper" yX4_lasts cX4_lasts 8 (some .int) 4 := ⟨⟨gw_of (List.mem_of_getElem? (i := 574) (by decide +kernel)) rfl, gw_of (List.mem_of_getElem? (i := 575) (by decide +kernel)) rfl, wi_X4, gw_of (List.mem_of_getElem? (i := 576) (by decide +kernel)) rfl⟩, by decide +kernel⟩
theorem ok_X4_leastFrom : okV "OnChin$Keeper" yX4_leastFrom cX4_leastFrom 5 (some .int) 2 := ⟨⟨gw_of (List.mem_of_getElem? (i := 591) (by decide +kernel)) rfl, gw_of (List.mem_of_getElem? (i := 592) (by decide +kernel)) rfl, wi_X4, gw_of (List.mem_of_getElem? (i := 593) (by decide +kernel)) rfl⟩, by decide +kernel⟩
theorem ok_X4_leftmost : okV "OnChin$Keeper" yX4_leftmost cX4_leftmost 2 (some .int) 1 := ⟨⟨gw_of (List.mem_of_getElem? (i := 596) (by decide +kernel)) rfl, gw_sel (List.mem_of_getElem? (i := 18) (by decide +kernel)) rfl, wi_X4, gw_of (List.mem_of_getElem? (i := 597) (by decide +kernel)) rfl⟩, by decide +kernel⟩
theorem ok_X4_shortestSteady : okV "OnChin$Keeper" yX4_shortestSteady cX4_shortestSteady 4 (some .int) 1 := ⟨⟨gw_of (List.mem_of_getElem? (i := 605) (by decide +kernel)) rfl, gw_of (List.mem_of_getElem? (i := 606) (by decide +kernel)) rfl, wi_X4, gw_of (List.mem_of_getElem? (i := 607) (by decide +kernel)) rfl⟩, by decide +kernel⟩
theorem ok_X4_isSteady : okV "OnChin$Keeper" yX4_isSteady cX4_isSteady 5 (some .boolean) 2 := ⟨⟨gw_of (List.mem_of_getElem? (i := 612) (by decide +kernel)) rfl, gw_sel (List.mem_of_getElem? (i := 19) (by decide +kernel)) rfl, wi_X4, gw_of (List.mem_of_getElem? (i := 613) (by decide +kernel)) rfl⟩, by decide +kernel⟩
theorem ok_X4_bestRule : okV "OnChin$Keeper" yX4_bestRule cX4_bestRule 11 (some .int) 3 := ⟨⟨gw_of (List.mem_of_getElem? (i := 619) (by decide +kernel)) rfl, gw_of (List.mem_of_getElem? (i := 620) (by decide +kernel)) rfl, wi_X4, gw_of (List.mem_of_getElem? (i := 621) (by decide +kernel)) rfl⟩, by decide +kernel⟩
theorem ok_X4_together : okV "OnChin$Keeper" yX4_together cX4_together 6 (some .int) 3 := ⟨⟨gw_of (List.mem_of_getElem? (i := 624) (by decide +kernel)) rfl, gw_sel (List.mem_of_getElem? (i := 20) (by decide +kernel)) rfl, wi_X4, gw_of (List.mem_of_getElem? (i := 625) (by decide +kernel)) rfl⟩, by decide +kernel⟩
theorem ok_X4_chances : okV "OnChin$Keeper" yX4_chances cX4_chances 13 (some .int) 5 := ⟨⟨gw_of (List.mem_of_getElem? (i := 631) (by decide +kernel)) rfl, gw_of (List.mem_of_getElem? (i := 632) (by decide +kernel)) rfl, wi_X4, gw_of (List.mem_of_getElem? (i := 633) (by decide +kernel)) rfl⟩, by decide +kernel⟩
theorem ok_X4_leastShake : okV "OnChin$Keeper" yX4_leastShake cX4_leastShake 4 (some .int) 2 := ⟨⟨gw_of (List.mem_of_getElem? (i := 646) (by decide +kernel)) rfl, gw_of (List.mem_of_getElem? (i := 647) (by decide +kernel)) rfl, wi_X4, gw_of (List.mem_of_getElem? (i := 648) (by decide +kernel)) rfl⟩, by decide +kernel⟩
theorem ok_X4_standsAlone : okV "OnChin$Keeper" yX4_standsAlone cX4_standsAlone 4 (some .boolean) 2 := ⟨⟨gw_of (List.mem_of_getElem? (i := 652) (by decide +kernel)) rfl, gw_sel (List.mem_of_getElem? (i := 21) (by decide +kernel)) rfl, wi_X4, gw_of (List.mem_of_getElem? (i := 653) (by decide +kernel)) rfl⟩, by decide +kernel⟩
theorem ok_X4_bothLast : okV "OnChin$Keeper" yX4_bothLast cX4_bothLast 8 (some .int) 4 := ⟨⟨gw_of (List.mem_of_getElem? (i := 659) (by decide +kernel)) rfl, gw_of (List.mem_of_getElem? (i := 660) (by decide +kernel)) rfl, wi_X4, gw_of (List.mem_of_getElem? (i := 661) (by decide +kernel)) rfl⟩, by decide +kernel⟩
theorem ok_X5_append : okV "OnChin$Text" yX5_append cX5_append 2 none 1 := ⟨⟨gw_of (List.mem_of_getElem? (i := 312) (by decide +kernel)) rfl, gw_of (List.mem_of_getElem? (i := 313) (by decide +kernel)) rfl, wi_X5, gw_of (List.mem_of_getElem? (i := 314) (by decide +kernel)) rfl⟩, by decide +kernel⟩
theorem ok_X5_firstFault : okV "OnChin$Text" yX5_firstFault cX5_firstFault 3 (some .int) 1 := ⟨⟨gw_of (List.mem_of_getElem? (i := 324) (by decide +kernel)) rfl, gw_of (List.mem_of_getElem? (i := 325) (by decide +kernel)) rfl, wi_X5, gw_of (List.mem_of_getElem? (i := 326) (by decide +kernel)) rfl⟩, by decide +kernel⟩
theorem ok_X5_readToken : okV "OnChin$Text" yX5_readToken cX5_readToken 1 none 0 := ⟨⟨gw_of (List.mem_of_getElem? (i := 329) (by decide +kernel)) rfl, gw_sel (List.mem_of_getElem? (i := 0) (by decide +kernel)) rfl, wi_X5, gw_of (List.mem_of_getElem? (i := 330) (by decide +kernel)) rfl⟩, by decide +kernel⟩
theorem ok_X5_sort : okS yX5_sort cX5_sort 1 (some .int) 1 := ⟨⟨gw_of (List.mem_of_getElem? (i := 332) (by decide +kernel)) rfl, wi_X5, gw_of (List.mem_of_getElem? (i := 333) (by decide +kernel)) rfl⟩, by decide +kernel⟩
theorem ok_X5_says : okV "OnChin$Text" yX5_says cX5_says 3 (some .boolean) 1 := ⟨⟨gw_of (List.mem_of_getElem? (i := 344) (by decide +kernel)) rfl, gw_sel (List.mem_of_getElem? (i := 2) (by decide +kernel)) rfl, wi_X5, gw_of (List.mem_of_getElem? (i := 345) (by decide +kernel)) rfl⟩, by decide +kernel⟩
theorem ok_X5_readLine : okV "OnChin$Text" yX5_readLine cX5_readLine 2 (some .boolean) 0 := ⟨⟨gw_of (List.mem_of_getElem? (i := 339) (by decide +kernel)) rfl, gw_sel (List.mem_of_getElem? (i := 1) (by decide +kernel)) rfl, wi_X5, gw_of (List.mem_of_getElem? (i := 340) (by decide +kernel)) rfl⟩, by decide +kernel⟩
theorem ok_X5_placeNamed : okV "OnChin$Text" yX5_placeNamed cX5_placeNamed 1 (some .int) 0 := ⟨⟨gw_of (List.mem_of_getElem? (i := 443) (by decide +kernel)) rfl, gw_sel (List.mem_of_getElem? (i := 11) (by decide +kernel)) rfl, wi_X5, gw_of (List.mem_of_getElem? (i := 444) (by decide +kernel)) rfl⟩, by decide +kernel⟩
theorem ok_X5_readThing : okV "OnChin$Text" yX5_readThing cX5_readThing 2 (some .boolean) 0 := ⟨⟨gw_of (List.mem_of_getElem? (i := 396) (by decide +kernel)) rfl, gw_sel (List.mem_of_getElem? (i := 3) (by decide +kernel)) rfl, wi_X5, gw_of (List.mem_of_getElem? (i := 397) (by decide +kernel)) rfl⟩, by decide +kernel⟩
theorem ok_X5_kindNamed : okV "OnChin$Text" yX5_kindNamed cX5_kindNamed 1 (some .int) 0 := ⟨⟨gw_of (List.mem_of_getElem? (i := 413) (by decide +kernel)) rfl, gw_sel (List.mem_of_getElem? (i := 7) (by decide +kernel)) rfl, wi_X5, gw_of (List.mem_of_getElem? (i := 414) (by decide +kernel)) rfl⟩, by decide +kernel⟩
theorem ok_X5_readLump : okV "OnChin$Text" yX5_readLump cX5_readLump 2 (some .boolean) 0 := ⟨⟨gw_of (List.mem_of_getElem? (i := 422) (by decide +kernel)) rfl, gw_sel (List.mem_of_getElem? (i := 8) (by decide +kernel)) rfl, wi_X5, gw_of (List.mem_of_getElem? (i := 423) (by decide +kernel)) rfl⟩, by decide +kernel⟩
theorem ok_X5_readBare : okV "OnChin$Text" yX5_readBare cX5_readBare 2 (some .boolean) 0 := ⟨⟨gw_of (List.mem_of_getElem? (i := 430) (by decide +kernel)) rfl, gw_sel (List.mem_of_getElem? (i := 9) (by decide +kernel)) rfl, wi_X5, gw_of (List.mem_of_getElem? (i := 431) (by decide +kernel)) rfl⟩, by decide +kernel⟩
theorem ok_X5_readNumbers : okV "OnChin$Text" yX5_readNumbers cX5_readNumbers 4 (some .boolean) 2 := ⟨⟨gw_of (List.mem_of_getElem? (i := 435) (by decide +kernel)) rfl, gw_sel (List.mem_of_getElem? (i := 10) (by decide +kernel)) rfl, wi_X5, gw_of (List.mem_of_getElem? (i := 436) (by decide +kernel)) rfl⟩, by decide +kernel⟩
theorem ok_X5_readNumber : okV "OnChin$Text" yX5_readNumber cX5_readNumber 4 (some .boolean) 2 := ⟨⟨gw_of (List.mem_of_getElem? (i := 400) (by decide +kernel)) rfl, gw_sel (List.mem_of_getElem? (i := 4) (by decide +kernel)) rfl, wi_X5, gw_of (List.mem_of_getElem? (i := 401) (by decide +kernel)) rfl⟩, by decide +kernel⟩
theorem ok_X5_number : okV "OnChin$Text" yX5_number cX5_number 3 (some .int) 0 := ⟨⟨gw_of (List.mem_of_getElem? (i := 404) (by decide +kernel)) rfl, gw_sel (List.mem_of_getElem? (i := 5) (by decide +kernel)) rfl, wi_X5, gw_of (List.mem_of_getElem? (i := 405) (by decide +kernel)) rfl⟩, by decide +kernel⟩
theorem ok_X5_store : okV "OnChin$Text" yX5_store cX5_store 2 none 1 := ⟨⟨gw_of (List.mem_of_getElem? (i := 409) (by decide +kernel)) rfl, gw_sel (List.mem_of_getElem? (i := 6) (by decide +kernel)) rfl, wi_X5, gw_of (List.mem_of_getElem? (i := 410) (by decide +kernel)) rfl⟩, by decide +kernel⟩
theorem ok_X5_tell : okV "OnChin$Text" yX5_tell cX5_tell 5 none 1 := ⟨⟨gw_of (List.mem_of_getElem? (i := 456) (by decide +kernel)) rfl, gw_of (List.mem_of_getElem? (i := 457) (by decide +kernel)) rfl, wi_X5, gw_of (List.mem_of_getElem? (i := 458) (by decide +kernel)) rfl⟩, by decide +kernel⟩
theorem ok_X5_tellThing : okV "OnChin$Text" yX5_tellThing cX5_tellThing 4 none 3 := ⟨⟨gw_of (List.mem_of_getElem? (i := 462) (by decide +kernel)) rfl, gw_sel (List.mem_of_getElem? (i := 12) (by decide +kernel)) rfl, wi_X5, gw_of (List.mem_of_getElem? (i := 463) (by decide +kernel)) rfl⟩, by decide +kernel⟩
theorem ok_X6_become : okV "OnChin$Thing" yX6_become cX6_become 3 none 2 := ⟨⟨gw_of (List.mem_of_getElem? (i := 465) (by decide +kernel)) rfl, gw_of (List.mem_of_getElem? (i := 466) (by decide +kernel)) rfl, wi_X6, gw_of (List.mem_of_getElem? (i := 467) (by decide +kernel)) rfl⟩, by decide +kernel⟩
theorem ok_X6_addLump : okV "OnChin$Thing" yX6_addLump cX6_addLump 3 none 2 := ⟨⟨gw_of (List.mem_of_getElem? (i := 469) (by decide +kernel)) rfl, gw_of (List.mem_of_getElem? (i := 470) (by decide +kernel)) rfl, wi_X6, gw_of (List.mem_of_getElem? (i := 471) (by decide +kernel)) rfl⟩, by decide +kernel⟩
theorem ok_X6_strip : okV "OnChin$Thing" yX6_strip cX6_strip 1 none 0 := ⟨⟨gw_of (List.mem_of_getElem? (i := 480) (by decide +kernel)) rfl, gw_of (List.mem_of_getElem? (i := 481) (by decide +kernel)) rfl, wi_X6, gw_of (List.mem_of_getElem? (i := 482) (by decide +kernel)) rfl⟩, by decide +kernel⟩
theorem ok_X6_measure : okV "OnChin$Thing" yX6_measure cX6_measure 4 none 0 := ⟨⟨gw_of (List.mem_of_getElem? (i := 474) (by decide +kernel)) rfl, gw_sel (List.mem_of_getElem? (i := 13) (by decide +kernel)) rfl, wi_X6, gw_of (List.mem_of_getElem? (i := 475) (by decide +kernel)) rfl⟩, by decide +kernel⟩
theorem ok_X6_leaning : okV "OnChin$Thing" yX6_leaning cX6_leaning 5 (some .int) 3 := ⟨⟨gw_of (List.mem_of_getElem? (i := 543) (by decide +kernel)) rfl, gw_of (List.mem_of_getElem? (i := 544) (by decide +kernel)) rfl, wi_X6, gw_of (List.mem_of_getElem? (i := 545) (by decide +kernel)) rfl⟩, by decide +kernel⟩
theorem ok_X6_seenLater : okV "OnChin$Thing" yX6_seenLater cX6_seenLater 1 (some .int) 0 := ⟨⟨gw_of (List.mem_of_getElem? (i := 525) (by decide +kernel)) rfl, gw_of (List.mem_of_getElem? (i := 526) (by decide +kernel)) rfl, wi_X6, gw_of (List.mem_of_getElem? (i := 527) (by decide +kernel)) rfl⟩, by decide +kernel⟩
theorem ok_X8_write : okV "OnChin" yX8_write cX8_write 5 (some .int) 2 := ⟨⟨gw_of (List.mem_of_getElem? (i := 304) (by decide +kernel)) rfl, gw_of (List.mem_of_getElem? (i := 305) (by decide +kernel)) rfl, wi_X8, gw_of (List.mem_of_getElem? (i := 306) (by decide +kernel)) rfl⟩, by decide +kernel⟩
theorem ok_X8_erase : okV "OnChin" yX8_erase cX8_erase 2 (some .int) 0 := ⟨⟨gw_of (List.mem_of_getElem? (i := 316) (by decide +kernel)) rfl, gw_of (List.mem_of_getElem? (i := 317) (by decide +kernel)) rfl, wi_X8, gw_of (List.mem_of_getElem? (i := 318) (by decide +kernel)) rfl⟩, by decide +kernel⟩
theorem ok_X8_fault : okV "OnChin" yX8_fault cX8_fault 1 (some .int) 0 := ⟨⟨gw_of (List.mem_of_getElem? (i := 320) (by decide +kernel)) rfl, gw_of (List.mem_of_getElem? (i := 321) (by decide +kernel)) rfl, wi_X8, gw_of (List.mem_of_getElem? (i := 322) (by decide +kernel)) rfl⟩, by decide +kernel⟩
theorem ok_X8_chin : okV "OnChin" yX8_chin cX8_chin 1 (some .int) 0 := ⟨⟨gw_of (List.mem_of_getElem? (i := 452) (by decide +kernel)) rfl, gw_of (List.mem_of_getElem? (i := 453) (by decide +kernel)) rfl, wi_X8, gw_of (List.mem_of_getElem? (i := 454) (by decide +kernel)) rfl⟩, by decide +kernel⟩
theorem ok_X8_thing : okV "OnChin" yX8_thing cX8_thing 4 (some .int) 2 := ⟨⟨gw_of (List.mem_of_getElem? (i := 484) (by decide +kernel)) rfl, gw_of (List.mem_of_getElem? (i := 485) (by decide +kernel)) rfl, wi_X8, gw_of (List.mem_of_getElem? (i := 486) (by decide +kernel)) rfl⟩, by decide +kernel⟩
theorem ok_X8_lump : okV "OnChin" yX8_lump cX8_lump 4 (some .int) 3 := ⟨⟨gw_of (List.mem_of_getElem? (i := 489) (by decide +kernel)) rfl, gw_of (List.mem_of_getElem? (i := 490) (by decide +kernel)) rfl, wi_X8, gw_of (List.mem_of_getElem? (i := 491) (by decide +kernel)) rfl⟩, by decide +kernel⟩
theorem ok_X8_begin : okV "OnChin" yX8_begin cX8_begin 5 (some .int) 3 := ⟨⟨gw_of (List.mem_of_getElem? (i := 493) (by decide +kernel)) rfl, gw_of (List.mem_of_getElem? (i := 494) (by decide +kernel)) rfl, wi_X8, gw_of (List.mem_of_getElem? (i := 495) (by decide +kernel)) rfl⟩, by decide +kernel⟩
theorem ok_X8_ticks : okV "OnChin" yX8_ticks cX8_ticks 3 (some .int) 1 := ⟨⟨gw_of (List.mem_of_getElem? (i := 509) (by decide +kernel)) rfl, gw_of (List.mem_of_getElem? (i := 510) (by decide +kernel)) rfl, wi_X8, gw_of (List.mem_of_getElem? (i := 511) (by decide +kernel)) rfl⟩, by decide +kernel⟩
theorem ok_X8_now : okV "OnChin" yX8_now cX8_now 2 (some .int) 1 := ⟨⟨gw_of (List.mem_of_getElem? (i := 547) (by decide +kernel)) rfl, gw_of (List.mem_of_getElem? (i := 548) (by decide +kernel)) rfl, wi_X8, gw_of (List.mem_of_getElem? (i := 549) (by decide +kernel)) rfl⟩, by decide +kernel⟩
theorem ok_X8_keep : okV "OnChin" yX8_keep cX8_keep 2 (some .int) 1 := ⟨⟨gw_of (List.mem_of_getElem? (i := 552) (by decide +kernel)) rfl, gw_of (List.mem_of_getElem? (i := 553) (by decide +kernel)) rfl, wi_X8, gw_of (List.mem_of_getElem? (i := 554) (by decide +kernel)) rfl⟩, by decide +kernel⟩
theorem ok_X8_back : okV "OnChin" yX8_back cX8_back 2 (some .int) 1 := ⟨⟨gw_of (List.mem_of_getElem? (i := 561) (by decide +kernel)) rfl, gw_of (List.mem_of_getElem? (i := 562) (by decide +kernel)) rfl, wi_X8, gw_of (List.mem_of_getElem? (i := 563) (by decide +kernel)) rfl⟩, by decide +kernel⟩
theorem ok_X8_kept : okV "OnChin" yX8_kept cX8_kept 5 (some .int) 3 := ⟨⟨gw_of (List.mem_of_getElem? (i := 565) (by decide +kernel)) rfl, gw_of (List.mem_of_getElem? (i := 566) (by decide +kernel)) rfl, wi_X8, gw_of (List.mem_of_getElem? (i := 567) (by decide +kernel)) rfl⟩, by decide +kernel⟩
theorem ok_X8_steady : okV "OnChin" yX8_steady cX8_steady 4 (some .int) 2 := ⟨⟨gw_of (List.mem_of_getElem? (i := 587) (by decide +kernel)) rfl, gw_of (List.mem_of_getElem? (i := 588) (by decide +kernel)) rfl, wi_X8, gw_of (List.mem_of_getElem? (i := 589) (by decide +kernel)) rfl⟩, by decide +kernel⟩
theorem ok_X8_line : okV "OnChin" yX8_line cX8_line 2 (some .int) 1 := ⟨⟨gw_of (List.mem_of_getElem? (i := 601) (by decide +kernel)) rfl, gw_of (List.mem_of_getElem? (i := 602) (by decide +kernel)) rfl, wi_X8, gw_of (List.mem_of_getElem? (i := 603) (by decide +kernel)) rfl⟩, by decide +kernel⟩
theorem ok_X8_best : okV "OnChin" yX8_best cX8_best 5 (some .int) 3 := ⟨⟨gw_of (List.mem_of_getElem? (i := 615) (by decide +kernel)) rfl, gw_of (List.mem_of_getElem? (i := 616) (by decide +kernel)) rfl, wi_X8, gw_of (List.mem_of_getElem? (i := 617) (by decide +kernel)) rfl⟩, by decide +kernel⟩
theorem ok_X8_odds : okV "OnChin" yX8_odds cX8_odds 9 (some .int) 6 := ⟨⟨gw_of (List.mem_of_getElem? (i := 627) (by decide +kernel)) rfl, gw_of (List.mem_of_getElem? (i := 628) (by decide +kernel)) rfl, wi_X8, gw_of (List.mem_of_getElem? (i := 629) (by decide +kernel)) rfl⟩, by decide +kernel⟩
theorem ok_X8_stands : okV "OnChin" yX8_stands cX8_stands 4 (some .int) 2 := ⟨⟨gw_of (List.mem_of_getElem? (i := 642) (by decide +kernel)) rfl, gw_of (List.mem_of_getElem? (i := 643) (by decide +kernel)) rfl, wi_X8, gw_of (List.mem_of_getElem? (i := 644) (by decide +kernel)) rfl⟩, by decide +kernel⟩
theorem ok_X8_two : okV "OnChin" yX8_two cX8_two 7 (some .int) 6 := ⟨⟨gw_of (List.mem_of_getElem? (i := 655) (by decide +kernel)) rfl, gw_of (List.mem_of_getElem? (i := 656) (by decide +kernel)) rfl, wi_X8, gw_of (List.mem_of_getElem? (i := 657) (by decide +kernel)) rfl⟩, by decide +kernel⟩
theorem ok_X8_film : okV "OnChin" yX8_film cX8_film 3 (some .int) 2 := ⟨⟨gw_of (List.mem_of_getElem? (i := 664) (by decide +kernel)) rfl, gw_of (List.mem_of_getElem? (i := 665) (by decide +kernel)) rfl, wi_X8, gw_of (List.mem_of_getElem? (i := 666) (by decide +kernel)) rfl⟩, by decide +kernel⟩
theorem ok_X8_wind : okV "OnChin" yX8_wind cX8_wind 2 (some .int) 0 := ⟨⟨gw_of (List.mem_of_getElem? (i := 672) (by decide +kernel)) rfl, gw_of (List.mem_of_getElem? (i := 673) (by decide +kernel)) rfl, wi_X8, gw_of (List.mem_of_getElem? (i := 674) (by decide +kernel)) rfl⟩, by decide +kernel⟩
theorem ok_X8_fits : okV "OnChin" yX8_fits cX8_fits 2 (some .int) 1 := ⟨⟨gw_of (List.mem_of_getElem? (i := 676) (by decide +kernel)) rfl, gw_of (List.mem_of_getElem? (i := 677) (by decide +kernel)) rfl, wi_X8, gw_of (List.mem_of_getElem? (i := 678) (by decide +kernel)) rfl⟩, by decide +kernel⟩
theorem ok_X8_next : okV "OnChin" yX8_next cX8_next 3 (some .int) 2 := ⟨⟨gw_of (List.mem_of_getElem? (i := 700) (by decide +kernel)) rfl, gw_of (List.mem_of_getElem? (i := 701) (by decide +kernel)) rfl, wi_X8, gw_of (List.mem_of_getElem? (i := 702) (by decide +kernel)) rfl⟩, by decide +kernel⟩
theorem ok_X8_plan : okV "OnChin" yX8_plan cX8_plan 4 (some .int) 2 := ⟨⟨gw_of (List.mem_of_getElem? (i := 704) (by decide +kernel)) rfl, gw_of (List.mem_of_getElem? (i := 705) (by decide +kernel)) rfl, wi_X8, gw_of (List.mem_of_getElem? (i := 706) (by decide +kernel)) rfl⟩, by decide +kernel⟩
theorem ok_X8_room : okV "OnChin" yX8_room cX8_room 5 (some .int) 3 := ⟨⟨gw_of (List.mem_of_getElem? (i := 731) (by decide +kernel)) rfl, gw_of (List.mem_of_getElem? (i := 732) (by decide +kernel)) rfl, wi_X8, gw_of (List.mem_of_getElem? (i := 733) (by decide +kernel)) rfl⟩, by decide +kernel⟩
theorem ok_X8_way : okV "OnChin" yX8_way cX8_way 6 (some .int) 5 := ⟨⟨gw_of (List.mem_of_getElem? (i := 735) (by decide +kernel)) rfl, gw_of (List.mem_of_getElem? (i := 736) (by decide +kernel)) rfl, wi_X8, gw_of (List.mem_of_getElem? (i := 737) (by decide +kernel)) rfl⟩, by decide +kernel⟩
theorem ok_X8_count : okV "OnChin" yX8_count cX8_count 2 (some .int) 1 := ⟨⟨gw_of (List.mem_of_getElem? (i := 755) (by decide +kernel)) rfl, gw_of (List.mem_of_getElem? (i := 756) (by decide +kernel)) rfl, wi_X8, gw_of (List.mem_of_getElem? (i := 757) (by decide +kernel)) rfl⟩, by decide +kernel⟩
theorem ok_X8_within : okS yX8_within cX8_within 3 (some .boolean) 3 := ⟨⟨gw_of (List.mem_of_getElem? (i := 308) (by decide +kernel)) rfl, wi_X8, gw_of (List.mem_of_getElem? (i := 309) (by decide +kernel)) rfl⟩, by decide +kernel⟩
theorem ok_X8_isThing : okS yX8_isThing cX8_isThing 1 (some .boolean) 1 := ⟨⟨gw_of (List.mem_of_getElem? (i := 425) (by decide +kernel)) rfl, wi_X8, gw_of (List.mem_of_getElem? (i := 426) (by decide +kernel)) rfl⟩, by decide +kernel⟩
theorem ok_X8_hasLumps : okV "OnChin" yX8_hasLumps cX8_hasLumps 2 (some .boolean) 1 := ⟨⟨gw_of (List.mem_of_getElem? (i := 502) (by decide +kernel)) rfl, gw_sel (List.mem_of_getElem? (i := 15) (by decide +kernel)) rfl, wi_X8, gw_of (List.mem_of_getElem? (i := 503) (by decide +kernel)) rfl⟩, by decide +kernel⟩
theorem ok_X8_refusal : okV "OnChin" yX8_refusal cX8_refusal 3 (some .int) 2 := ⟨⟨gw_of (List.mem_of_getElem? (i := 498) (by decide +kernel)) rfl, gw_sel (List.mem_of_getElem? (i := 14) (by decide +kernel)) rfl, wi_X8, gw_of (List.mem_of_getElem? (i := 499) (by decide +kernel)) rfl⟩, by decide +kernel⟩
theorem ok_X8_limited : okS yX8_limited cX8_limited 2 (some .int) 2 := ⟨⟨gw_of (List.mem_of_getElem? (i := 539) (by decide +kernel)) rfl, wi_X8, gw_of (List.mem_of_getElem? (i := 540) (by decide +kernel)) rfl⟩, by decide +kernel⟩
theorem ok_X8_wish : okS yX8_wish cX8_wish 3 (some .int) 3 := ⟨⟨gw_of (List.mem_of_getElem? (i := 533) (by decide +kernel)) rfl, wi_X8, gw_of (List.mem_of_getElem? (i := 534) (by decide +kernel)) rfl⟩, by decide +kernel⟩
theorem ok_X8_lowestTerms : okS yX8_lowestTerms cX8_lowestTerms 6 (some .int) 3 := ⟨⟨gw_of (List.mem_of_getElem? (i := 638) (by decide +kernel)) rfl, wi_X8, gw_of (List.mem_of_getElem? (i := 639) (by decide +kernel)) rfl⟩, by decide +kernel⟩
theorem ok_X8_power : okS yX8_power cX8_power 4 (some .int) 2 := ⟨⟨gw_of (List.mem_of_getElem? (i := 635) (by decide +kernel)) rfl, wi_X8, gw_of (List.mem_of_getElem? (i := 636) (by decide +kernel)) rfl⟩, by decide +kernel⟩
theorem ok_X9_in : okS yX9_in cX9_in 6 (some .boolean) 3 := ⟨⟨gw_of (List.mem_of_getElem? (i := 898) (by decide +kernel)) rfl, wi_X9, gw_of (List.mem_of_getElem? (i := 899) (by decide +kernel)) rfl⟩, by decide +kernel⟩
theorem ok_X9_write : okV "OnChinModel" yX9_write cX9_write 5 (some .int) 2 := ⟨⟨gw_of (List.mem_of_getElem? (i := 893) (by decide +kernel)) rfl, gw_of (List.mem_of_getElem? (i := 894) (by decide +kernel)) rfl, wi_X9, gw_of (List.mem_of_getElem? (i := 895) (by decide +kernel)) rfl⟩, by decide +kernel⟩
theorem ok_X9_erase : okV "OnChinModel" yX9_erase cX9_erase 2 (some .int) 0 := ⟨⟨gw_of (List.mem_of_getElem? (i := 902) (by decide +kernel)) rfl, gw_of (List.mem_of_getElem? (i := 903) (by decide +kernel)) rfl, wi_X9, gw_of (List.mem_of_getElem? (i := 904) (by decide +kernel)) rfl⟩, by decide +kernel⟩
theorem ok_X9_sort : okS yX9_sort cX9_sort 1 (some .int) 1 := ⟨⟨gw_of (List.mem_of_getElem? (i := 914) (by decide +kernel)) rfl, wi_X9, gw_of (List.mem_of_getElem? (i := 915) (by decide +kernel)) rfl⟩, by decide +kernel⟩
theorem ok_X9_token : okV "OnChinModel" yX9_token cX9_token 1 none 0 := ⟨⟨gw_of (List.mem_of_getElem? (i := 911) (by decide +kernel)) rfl, gw_sel (List.mem_of_getElem? (i := 28) (by decide +kernel)) rfl, wi_X9, gw_of (List.mem_of_getElem? (i := 912) (by decide +kernel)) rfl⟩, by decide +kernel⟩
theorem ok_X9_isWord : okV "OnChinModel" yX9_isWord cX9_isWord 6 (some .boolean) 2 := ⟨⟨gw_of (List.mem_of_getElem? (i := 927) (by decide +kernel)) rfl, gw_sel (List.mem_of_getElem? (i := 31) (by decide +kernel)) rfl, wi_X9, gw_of (List.mem_of_getElem? (i := 928) (by decide +kernel)) rfl⟩, by decide +kernel⟩
theorem ok_X9_wordOf : okV "OnChinModel" yX9_wordOf cX9_wordOf 1 (some .int) 0 := ⟨⟨gw_of (List.mem_of_getElem? (i := 922) (by decide +kernel)) rfl, gw_sel (List.mem_of_getElem? (i := 30) (by decide +kernel)) rfl, wi_X9, gw_of (List.mem_of_getElem? (i := 923) (by decide +kernel)) rfl⟩, by decide +kernel⟩
theorem ok_X9_reads : okV "OnChinModel" yX9_reads cX9_reads 6 (some .boolean) 3 := ⟨⟨gw_of (List.mem_of_getElem? (i := 944) (by decide +kernel)) rfl, gw_sel (List.mem_of_getElem? (i := 33) (by decide +kernel)) rfl, wi_X9, gw_of (List.mem_of_getElem? (i := 945) (by decide +kernel)) rfl⟩, by decide +kernel⟩
theorem ok_X9_readsKind : okV "OnChinModel" yX9_readsKind cX9_readsKind 2 (some .boolean) 0 := ⟨⟨gw_of (List.mem_of_getElem? (i := 948) (by decide +kernel)) rfl, gw_sel (List.mem_of_getElem? (i := 34) (by decide +kernel)) rfl, wi_X9, gw_of (List.mem_of_getElem? (i := 949) (by decide +kernel)) rfl⟩, by decide +kernel⟩
theorem ok_X9_readsLump : okV "OnChinModel" yX9_readsLump cX9_readsLump 2 (some .boolean) 0 := ⟨⟨gw_of (List.mem_of_getElem? (i := 956) (by decide +kernel)) rfl, gw_sel (List.mem_of_getElem? (i := 35) (by decide +kernel)) rfl, wi_X9, gw_of (List.mem_of_getElem? (i := 957) (by decide +kernel)) rfl⟩, by decide +kernel⟩
theorem ok_X9_readsRest : okV "OnChinModel" yX9_readsRest cX9_readsRest 2 (some .boolean) 1 := ⟨⟨gw_of (List.mem_of_getElem? (i := 940) (by decide +kernel)) rfl, gw_sel (List.mem_of_getElem? (i := 32) (by decide +kernel)) rfl, wi_X9, gw_of (List.mem_of_getElem? (i := 941) (by decide +kernel)) rfl⟩, by decide +kernel⟩
theorem ok_X9_readsLine : okV "OnChinModel" yX9_readsLine cX9_readsLine 3 (some .boolean) 0 := ⟨⟨gw_of (List.mem_of_getElem? (i := 918) (by decide +kernel)) rfl, gw_sel (List.mem_of_getElem? (i := 29) (by decide +kernel)) rfl, wi_X9, gw_of (List.mem_of_getElem? (i := 919) (by decide +kernel)) rfl⟩, by decide +kernel⟩
theorem ok_X9_fault : okV "OnChinModel" yX9_fault cX9_fault 2 (some .int) 0 := ⟨⟨gw_of (List.mem_of_getElem? (i := 906) (by decide +kernel)) rfl, gw_of (List.mem_of_getElem? (i := 907) (by decide +kernel)) rfl, wi_X9, gw_of (List.mem_of_getElem? (i := 908) (by decide +kernel)) rfl⟩, by decide +kernel⟩
theorem ok_X9_tell : okV "OnChinModel" yX9_tell cX9_tell 5 none 1 := ⟨⟨gw_of (List.mem_of_getElem? (i := 965) (by decide +kernel)) rfl, gw_sel (List.mem_of_getElem? (i := 36) (by decide +kernel)) rfl, wi_X9, gw_of (List.mem_of_getElem? (i := 966) (by decide +kernel)) rfl⟩, by decide +kernel⟩
theorem ok_X9_chin : okV "OnChinModel" yX9_chin cX9_chin 2 (some .int) 0 := ⟨⟨gw_of (List.mem_of_getElem? (i := 959) (by decide +kernel)) rfl, gw_of (List.mem_of_getElem? (i := 960) (by decide +kernel)) rfl, wi_X9, gw_of (List.mem_of_getElem? (i := 961) (by decide +kernel)) rfl⟩, by decide +kernel⟩
theorem ok_X9_isThing : okS yX9_isThing cX9_isThing 1 (some .boolean) 1 := ⟨⟨gw_of (List.mem_of_getElem? (i := 972) (by decide +kernel)) rfl, wi_X9, gw_of (List.mem_of_getElem? (i := 973) (by decide +kernel)) rfl⟩, by decide +kernel⟩
theorem ok_X9_longOf : okV "OnChinModel" yX9_longOf cX9_longOf 7 (some .int) 1 := ⟨⟨gw_of (List.mem_of_getElem? (i := 977) (by decide +kernel)) rfl, gw_sel (List.mem_of_getElem? (i := 37) (by decide +kernel)) rfl, wi_X9, gw_of (List.mem_of_getElem? (i := 978) (by decide +kernel)) rfl⟩, by decide +kernel⟩
theorem ok_X9_greatest : okV "OnChinModel" yX9_greatest cX9_greatest 4 (some .int) 1 := ⟨⟨gw_of (List.mem_of_getElem? (i := 981) (by decide +kernel)) rfl, gw_sel (List.mem_of_getElem? (i := 38) (by decide +kernel)) rfl, wi_X9, gw_of (List.mem_of_getElem? (i := 982) (by decide +kernel)) rfl⟩, by decide +kernel⟩
theorem ok_X9_thing : okV "OnChinModel" yX9_thing cX9_thing 3 (some .int) 2 := ⟨⟨gw_of (List.mem_of_getElem? (i := 968) (by decide +kernel)) rfl, gw_of (List.mem_of_getElem? (i := 969) (by decide +kernel)) rfl, wi_X9, gw_of (List.mem_of_getElem? (i := 970) (by decide +kernel)) rfl⟩, by decide +kernel⟩
theorem ok_X9_lump : okV "OnChinModel" yX9_lump cX9_lump 4 (some .int) 3 := ⟨⟨gw_of (List.mem_of_getElem? (i := 984) (by decide +kernel)) rfl, gw_of (List.mem_of_getElem? (i := 985) (by decide +kernel)) rfl, wi_X9, gw_of (List.mem_of_getElem? (i := 986) (by decide +kernel)) rfl⟩, by decide +kernel⟩
theorem ok_X9_asTold : okV "OnChinModel" yX9_asTold cX9_asTold 2 none 1 := ⟨⟨gw_of (List.mem_of_getElem? (i := 1020) (by decide +kernel)) rfl, gw_sel (List.mem_of_getElem? (i := 42) (by decide +kernel)) rfl, wi_X9, gw_of (List.mem_of_getElem? (i := 1021) (by decide +kernel)) rfl⟩, by decide +kernel⟩
theorem ok_X9_look : okV "OnChinModel" yX9_look cX9_look 2 none 1 := ⟨⟨gw_of (List.mem_of_getElem? (i := 1024) (by decide +kernel)) rfl, gw_sel (List.mem_of_getElem? (i := 43) (by decide +kernel)) rfl, wi_X9, gw_of (List.mem_of_getElem? (i := 1025) (by decide +kernel)) rfl⟩, by decide +kernel⟩
theorem ok_X9_start : okV "OnChinModel" yX9_start cX9_start 4 none 3 := ⟨⟨gw_of (List.mem_of_getElem? (i := 1003) (by decide +kernel)) rfl, gw_sel (List.mem_of_getElem? (i := 39) (by decide +kernel)) rfl, wi_X9, gw_of (List.mem_of_getElem? (i := 1004) (by decide +kernel)) rfl⟩, by decide +kernel⟩
theorem ok_X9_leansAt : okV "OnChinModel" yX9_leansAt cX9_leansAt 2 (some .int) 1 := ⟨⟨gw_of (List.mem_of_getElem? (i := 1016) (by decide +kernel)) rfl, gw_sel (List.mem_of_getElem? (i := 41) (by decide +kernel)) rfl, wi_X9, gw_of (List.mem_of_getElem? (i := 1017) (by decide +kernel)) rfl⟩, by decide +kernel⟩
theorem ok_X9_fell : okV "OnChinModel" yX9_fell cX9_fell 3 (some .boolean) 1 := ⟨⟨gw_of (List.mem_of_getElem? (i := 1012) (by decide +kernel)) rfl, gw_sel (List.mem_of_getElem? (i := 40) (by decide +kernel)) rfl, wi_X9, gw_of (List.mem_of_getElem? (i := 1013) (by decide +kernel)) rfl⟩, by decide +kernel⟩
theorem ok_X9_minds : okV "OnChinModel" yX9_minds cX9_minds 4 (some .int) 2 := ⟨⟨gw_of (List.mem_of_getElem? (i := 1036) (by decide +kernel)) rfl, gw_sel (List.mem_of_getElem? (i := 46) (by decide +kernel)) rfl, wi_X9, gw_of (List.mem_of_getElem? (i := 1037) (by decide +kernel)) rfl⟩, by decide +kernel⟩
theorem ok_X9_moves : okV "OnChinModel" yX9_moves cX9_moves 8 (some .int) 1 := ⟨⟨gw_of (List.mem_of_getElem? (i := 1032) (by decide +kernel)) rfl, gw_sel (List.mem_of_getElem? (i := 45) (by decide +kernel)) rfl, wi_X9, gw_of (List.mem_of_getElem? (i := 1033) (by decide +kernel)) rfl⟩, by decide +kernel⟩
theorem ok_X9_tick : okV "OnChinModel" yX9_tick cX9_tick 9 none 3 := ⟨⟨gw_of (List.mem_of_getElem? (i := 1028) (by decide +kernel)) rfl, gw_sel (List.mem_of_getElem? (i := 44) (by decide +kernel)) rfl, wi_X9, gw_of (List.mem_of_getElem? (i := 1029) (by decide +kernel)) rfl⟩, by decide +kernel⟩
theorem ok_X9_isX : okS yX9_isX cX9_isX 1 (some .boolean) 1 := ⟨⟨gw_of (List.mem_of_getElem? (i := 992) (by decide +kernel)) rfl, wi_X9, gw_of (List.mem_of_getElem? (i := 993) (by decide +kernel)) rfl⟩, by decide +kernel⟩
theorem ok_X9_isV : okS yX9_isV cX9_isV 1 (some .boolean) 1 := ⟨⟨gw_of (List.mem_of_getElem? (i := 997) (by decide +kernel)) rfl, wi_X9, gw_of (List.mem_of_getElem? (i := 998) (by decide +kernel)) rfl⟩, by decide +kernel⟩
theorem ok_X9_begin : okV "OnChinModel" yX9_begin cX9_begin 4 (some .int) 3 := ⟨⟨gw_of (List.mem_of_getElem? (i := 988) (by decide +kernel)) rfl, gw_of (List.mem_of_getElem? (i := 989) (by decide +kernel)) rfl, wi_X9, gw_of (List.mem_of_getElem? (i := 990) (by decide +kernel)) rfl⟩, by decide +kernel⟩
theorem ok_X9_ticks : okV "OnChinModel" yX9_ticks cX9_ticks 4 (some .int) 1 := ⟨⟨gw_of (List.mem_of_getElem? (i := 1006) (by decide +kernel)) rfl, gw_of (List.mem_of_getElem? (i := 1007) (by decide +kernel)) rfl, wi_X9, gw_of (List.mem_of_getElem? (i := 1008) (by decide +kernel)) rfl⟩, by decide +kernel⟩
theorem ok_X9_now : okV "OnChinModel" yX9_now cX9_now 2 (some .int) 1 := ⟨⟨gw_of (List.mem_of_getElem? (i := 1039) (by decide +kernel)) rfl, gw_of (List.mem_of_getElem? (i := 1040) (by decide +kernel)) rfl, wi_X9, gw_of (List.mem_of_getElem? (i := 1041) (by decide +kernel)) rfl⟩, by decide +kernel⟩
theorem ok_X9_copy : okV "OnChinModel" yX9_copy cX9_copy 4 none 2 := ⟨⟨gw_of (List.mem_of_getElem? (i := 1050) (by decide +kernel)) rfl, gw_sel (List.mem_of_getElem? (i := 47) (by decide +kernel)) rfl, wi_X9, gw_of (List.mem_of_getElem? (i := 1051) (by decide +kernel)) rfl⟩, by decide +kernel⟩
theorem ok_X9_keep : okV "OnChinModel" yX9_keep cX9_keep 2 (some .int) 1 := ⟨⟨gw_of (List.mem_of_getElem? (i := 1045) (by decide +kernel)) rfl, gw_of (List.mem_of_getElem? (i := 1046) (by decide +kernel)) rfl, wi_X9, gw_of (List.mem_of_getElem? (i := 1047) (by decide +kernel)) rfl⟩, by decide +kernel⟩
theorem ok_X9_back : okV "OnChinModel" yX9_back cX9_back 2 (some .int) 1 := ⟨⟨gw_of (List.mem_of_getElem? (i := 1053) (by decide +kernel)) rfl, gw_of (List.mem_of_getElem? (i := 1054) (by decide +kernel)) rfl, wi_X9, gw_of (List.mem_of_getElem? (i := 1055) (by decide +kernel)) rfl⟩, by decide +kernel⟩
theorem ok_X9_lasts : okV "OnChinModel" yX9_lasts cX9_lasts 4 (some .int) 3 := ⟨⟨gw_of (List.mem_of_getElem? (i := 1062) (by decide +kernel)) rfl, gw_sel (List.mem_of_getElem? (i := 48) (by decide +kernel)) rfl, wi_X9, gw_of (List.mem_of_getElem? (i := 1063) (by decide +kernel)) rfl⟩, by decide +kernel⟩
theorem ok_X9_kept : okV "OnChinModel" yX9_kept cX9_kept 4 (some .int) 3 := ⟨⟨gw_of (List.mem_of_getElem? (i := 1057) (by decide +kernel)) rfl, gw_of (List.mem_of_getElem? (i := 1058) (by decide +kernel)) rfl, wi_X9, gw_of (List.mem_of_getElem? (i := 1059) (by decide +kernel)) rfl⟩, by decide +kernel⟩
theorem ok_X9_least : okV "OnChinModel" yX9_least cX9_least 5 (some .int) 1 := ⟨⟨gw_of (List.mem_of_getElem? (i := 1074) (by decide +kernel)) rfl, gw_sel (List.mem_of_getElem? (i := 49) (by decide +kernel)) rfl, wi_X9, gw_of (List.mem_of_getElem? (i := 1075) (by decide +kernel)) rfl⟩, by decide +kernel⟩
theorem ok_X9_isK : okS yX9_isK cX9_isK 1 (some .boolean) 1 := ⟨⟨gw_of (List.mem_of_getElem? (i := 1069) (by decide +kernel)) rfl, wi_X9, gw_of (List.mem_of_getElem? (i := 1070) (by decide +kernel)) rfl⟩, by decide +kernel⟩
theorem ok_X9_steady : okV "OnChinModel" yX9_steady cX9_steady 3 (some .int) 2 := ⟨⟨gw_of (List.mem_of_getElem? (i := 1065) (by decide +kernel)) rfl, gw_of (List.mem_of_getElem? (i := 1066) (by decide +kernel)) rfl, wi_X9, gw_of (List.mem_of_getElem? (i := 1067) (by decide +kernel)) rfl⟩, by decide +kernel⟩
theorem ok_X9_stays : okV "OnChinModel" yX9_stays cX9_stays 4 (some .boolean) 1 := ⟨⟨gw_of (List.mem_of_getElem? (i := 1082) (by decide +kernel)) rfl, gw_sel (List.mem_of_getElem? (i := 50) (by decide +kernel)) rfl, wi_X9, gw_of (List.mem_of_getElem? (i := 1083) (by decide +kernel)) rfl⟩, by decide +kernel⟩
theorem ok_X9_line : okV "OnChinModel" yX9_line cX9_line 5 (some .int) 1 := ⟨⟨gw_of (List.mem_of_getElem? (i := 1077) (by decide +kernel)) rfl, gw_of (List.mem_of_getElem? (i := 1078) (by decide +kernel)) rfl, wi_X9, gw_of (List.mem_of_getElem? (i := 1079) (by decide +kernel)) rfl⟩, by decide +kernel⟩
theorem ok_X9_best : okV "OnChinModel" yX9_best cX9_best 9 (some .int) 3 := ⟨⟨gw_of (List.mem_of_getElem? (i := 1085) (by decide +kernel)) rfl, gw_of (List.mem_of_getElem? (i := 1086) (by decide +kernel)) rfl, wi_X9, gw_of (List.mem_of_getElem? (i := 1087) (by decide +kernel)) rfl⟩, by decide +kernel⟩
theorem ok_X9_divisor : okS yX9_divisor cX9_divisor 5 (some .int) 2 := ⟨⟨gw_of (List.mem_of_getElem? (i := 1100) (by decide +kernel)) rfl, wi_X9, gw_of (List.mem_of_getElem? (i := 1101) (by decide +kernel)) rfl⟩, by decide +kernel⟩
theorem ok_X9_weightOf : okV "OnChinModel" yX9_weightOf cX9_weightOf 10 (some .int) 5 := ⟨⟨gw_of (List.mem_of_getElem? (i := 1097) (by decide +kernel)) rfl, gw_sel (List.mem_of_getElem? (i := 51) (by decide +kernel)) rfl, wi_X9, gw_of (List.mem_of_getElem? (i := 1098) (by decide +kernel)) rfl⟩, by decide +kernel⟩
theorem ok_X9_odds : okV "OnChinModel" yX9_odds cX9_odds 11 (some .int) 6 := ⟨⟨gw_of (List.mem_of_getElem? (i := 1091) (by decide +kernel)) rfl, gw_of (List.mem_of_getElem? (i := 1092) (by decide +kernel)) rfl, wi_X9, gw_of (List.mem_of_getElem? (i := 1093) (by decide +kernel)) rfl⟩, by decide +kernel⟩
theorem ok_X9_stands : okV "OnChinModel" yX9_stands cX9_stands 4 (some .int) 2 := ⟨⟨gw_of (List.mem_of_getElem? (i := 1103) (by decide +kernel)) rfl, gw_of (List.mem_of_getElem? (i := 1104) (by decide +kernel)) rfl, wi_X9, gw_of (List.mem_of_getElem? (i := 1105) (by decide +kernel)) rfl⟩, by decide +kernel⟩
theorem ok_X9_two : okV "OnChinModel" yX9_two cX9_two 9 (some .int) 6 := ⟨⟨gw_of (List.mem_of_getElem? (i := 1107) (by decide +kernel)) rfl, gw_of (List.mem_of_getElem? (i := 1108) (by decide +kernel)) rfl, wi_X9, gw_of (List.mem_of_getElem? (i := 1109) (by decide +kernel)) rfl⟩, by decide +kernel⟩
theorem ok_X9_film : okV "OnChinModel" yX9_film cX9_film 3 (some .int) 2 := ⟨⟨gw_of (List.mem_of_getElem? (i := 1112) (by decide +kernel)) rfl, gw_of (List.mem_of_getElem? (i := 1113) (by decide +kernel)) rfl, wi_X9, gw_of (List.mem_of_getElem? (i := 1114) (by decide +kernel)) rfl⟩, by decide +kernel⟩
theorem ok_X9_wind : okV "OnChinModel" yX9_wind cX9_wind 2 (some .int) 0 := ⟨⟨gw_of (List.mem_of_getElem? (i := 1116) (by decide +kernel)) rfl, gw_of (List.mem_of_getElem? (i := 1117) (by decide +kernel)) rfl, wi_X9, gw_of (List.mem_of_getElem? (i := 1118) (by decide +kernel)) rfl⟩, by decide +kernel⟩
theorem ok_X9_mindsAt : okV "OnChinModel" yX9_mindsAt cX9_mindsAt 4 (some .int) 1 := ⟨⟨gw_of (List.mem_of_getElem? (i := 1129) (by decide +kernel)) rfl, gw_sel (List.mem_of_getElem? (i := 53) (by decide +kernel)) rfl, wi_X9, gw_of (List.mem_of_getElem? (i := 1130) (by decide +kernel)) rfl⟩, by decide +kernel⟩
theorem ok_X9_fitsBy : okV "OnChinModel" yX9_fitsBy cX9_fitsBy 4 (some .boolean) 1 := ⟨⟨gw_of (List.mem_of_getElem? (i := 1125) (by decide +kernel)) rfl, gw_sel (List.mem_of_getElem? (i := 52) (by decide +kernel)) rfl, wi_X9, gw_of (List.mem_of_getElem? (i := 1126) (by decide +kernel)) rfl⟩, by decide +kernel⟩
theorem ok_X9_fits : okV "OnChinModel" yX9_fits cX9_fits 5 (some .int) 1 := ⟨⟨gw_of (List.mem_of_getElem? (i := 1120) (by decide +kernel)) rfl, gw_of (List.mem_of_getElem? (i := 1121) (by decide +kernel)) rfl, wi_X9, gw_of (List.mem_of_getElem? (i := 1122) (by decide +kernel)) rfl⟩, by decide +kernel⟩
theorem ok_X9_next : okV "OnChinModel" yX9_next cX9_next 7 (some .int) 2 := ⟨⟨gw_of (List.mem_of_getElem? (i := 1132) (by decide +kernel)) rfl, gw_of (List.mem_of_getElem? (i := 1133) (by decide +kernel)) rfl, wi_X9, gw_of (List.mem_of_getElem? (i := 1134) (by decide +kernel)) rfl⟩, by decide +kernel⟩
theorem ok_X9_layHolds : okV "OnChinModel" yX9_layHolds cX9_layHolds 3 none 0 := ⟨⟨gw_of (List.mem_of_getElem? (i := 1144) (by decide +kernel)) rfl, gw_sel (List.mem_of_getElem? (i := 54) (by decide +kernel)) rfl, wi_X9, gw_of (List.mem_of_getElem? (i := 1145) (by decide +kernel)) rfl⟩, by decide +kernel⟩
theorem ok_X9_tenthsBy : okV "OnChinModel" yX9_tenthsBy cX9_tenthsBy 8 (some .int) 2 := ⟨⟨gw_of (List.mem_of_getElem? (i := 1148) (by decide +kernel)) rfl, gw_sel (List.mem_of_getElem? (i := 55) (by decide +kernel)) rfl, wi_X9, gw_of (List.mem_of_getElem? (i := 1149) (by decide +kernel)) rfl⟩, by decide +kernel⟩
theorem ok_X9_plan : okV "OnChinModel" yX9_plan cX9_plan 8 (some .int) 2 := ⟨⟨gw_of (List.mem_of_getElem? (i := 1138) (by decide +kernel)) rfl, gw_of (List.mem_of_getElem? (i := 1139) (by decide +kernel)) rfl, wi_X9, gw_of (List.mem_of_getElem? (i := 1140) (by decide +kernel)) rfl⟩, by decide +kernel⟩
theorem ok_X9_isCell : okS yX9_isCell cX9_isCell 1 (some .boolean) 1 := ⟨⟨gw_of (List.mem_of_getElem? (i := 1155) (by decide +kernel)) rfl, wi_X9, gw_of (List.mem_of_getElem? (i := 1156) (by decide +kernel)) rfl⟩, by decide +kernel⟩
theorem ok_X9_room : okV "OnChinModel" yX9_room cX9_room 5 (some .int) 3 := ⟨⟨gw_of (List.mem_of_getElem? (i := 1151) (by decide +kernel)) rfl, gw_of (List.mem_of_getElem? (i := 1152) (by decide +kernel)) rfl, wi_X9, gw_of (List.mem_of_getElem? (i := 1153) (by decide +kernel)) rfl⟩, by decide +kernel⟩
theorem ok_X9_areBeside : okS yX9_areBeside cX9_areBeside 4 (some .boolean) 2 := ⟨⟨gw_of (List.mem_of_getElem? (i := 1164) (by decide +kernel)) rfl, wi_X9, gw_of (List.mem_of_getElem? (i := 1165) (by decide +kernel)) rfl⟩, by decide +kernel⟩
theorem ok_X9_way : okV "OnChinModel" yX9_way cX9_way 13 (some .int) 5 := ⟨⟨gw_of (List.mem_of_getElem? (i := 1160) (by decide +kernel)) rfl, gw_of (List.mem_of_getElem? (i := 1161) (by decide +kernel)) rfl, wi_X9, gw_of (List.mem_of_getElem? (i := 1162) (by decide +kernel)) rfl⟩, by decide +kernel⟩
theorem ok_X9_count : okV "OnChinModel" yX9_count cX9_count 2 (some .int) 1 := ⟨⟨gw_of (List.mem_of_getElem? (i := 1167) (by decide +kernel)) rfl, gw_of (List.mem_of_getElem? (i := 1168) (by decide +kernel)) rfl, wi_X9, gw_of (List.mem_of_getElem? (i := 1169) (by decide +kernel)) rfl⟩, by decide +kernel⟩
theorem ok_J9_abs_0f7a4 : okS yJ9_abs_0f7a4 cJ9_abs_0f7a4 1 (some .int) 1 := ⟨⟨gw_of (List.mem_of_getElem? (i := 536) (by decide +kernel)) rfl, wi_J9, gw_of (List.mem_of_getElem? (i := 537) (by decide +kernel)) rfl⟩, by decide +kernel⟩
theorem ok_J9_max_7cf53 : okS yJ9_max_7cf53 cJ9_max_7cf53 2 (some .int) 2 := ⟨⟨gw_of (List.mem_of_getElem? (i := 477) (by decide +kernel)) rfl, wi_J9, gw_of (List.mem_of_getElem? (i := 478) (by decide +kernel)) rfl⟩, by decide +kernel⟩
theorem ok_J9_min_7cf53 : okS yJ9_min_7cf53 cJ9_min_7cf53 2 (some .int) 2 := ⟨⟨gw_of (List.mem_of_getElem? (i := 335) (by decide +kernel)) rfl, wi_J9, gw_of (List.mem_of_getElem? (i := 336) (by decide +kernel)) rfl⟩, by decide +kernel⟩
theorem ok_J0_length_8abf5 : okV "java/lang/String" yJ0_length_8abf5 cJ0_length_8abf5 1 (some .int) 0 := ⟨⟨gw_of (List.mem_of_getElem? (i := 347) (by decide +kernel)) rfl, gw_of (List.mem_of_getElem? (i := 348) (by decide +kernel)) rfl, wi_J0, gw_of (List.mem_of_getElem? (i := 349) (by decide +kernel)) rfl⟩, by decide +kernel⟩
theorem ok_J0_charAt_5068e : okV "java/lang/String" yJ0_charAt_5068e cJ0_charAt_5068e 2 (some .char) 1 := ⟨⟨gw_of (List.mem_of_getElem? (i := 357) (by decide +kernel)) rfl, gw_of (List.mem_of_getElem? (i := 358) (by decide +kernel)) rfl, wi_J0, gw_of (List.mem_of_getElem? (i := 359) (by decide +kernel)) rfl⟩, by decide +kernel⟩
theorem ok_J0_coder_7d493 : okV "java/lang/String" yJ0_coder_7d493 cJ0_coder_7d493 1 (some .byte) 0 := ⟨⟨gw_of (List.mem_of_getElem? (i := 351) (by decide +kernel)) rfl, gw_of (List.mem_of_getElem? (i := 352) (by decide +kernel)) rfl, wi_J0, gw_of (List.mem_of_getElem? (i := 353) (by decide +kernel)) rfl⟩, by decide +kernel⟩
theorem ok_J0_isLatin1_aae02 : okV "java/lang/String" yJ0_isLatin1_aae02 cJ0_isLatin1_aae02 1 (some .boolean) 0 := ⟨⟨gw_of (List.mem_of_getElem? (i := 361) (by decide +kernel)) rfl, gw_of (List.mem_of_getElem? (i := 362) (by decide +kernel)) rfl, wi_J0, gw_of (List.mem_of_getElem? (i := 363) (by decide +kernel)) rfl⟩, by decide +kernel⟩
theorem ok_J0_checkIndex_df160 : okS yJ0_checkIndex_df160 cJ0_checkIndex_df160 2 none 2 := ⟨⟨gw_of (List.mem_of_getElem? (i := 368) (by decide +kernel)) rfl, wi_J0, gw_of (List.mem_of_getElem? (i := 369) (by decide +kernel)) rfl⟩, by decide +kernel⟩
theorem ok_J1_charAt_3b067 : okS yJ1_charAt_3b067 cJ1_charAt_3b067 2 (some .char) 2 := ⟨⟨gw_of (List.mem_of_getElem? (i := 365) (by decide +kernel)) rfl, wi_J1, gw_of (List.mem_of_getElem? (i := 366) (by decide +kernel)) rfl⟩, by decide +kernel⟩
theorem ok_J2_getChar_3b067 : okS yJ2_getChar_3b067 cJ2_getChar_3b067 2 (some .char) 2 := ⟨⟨gw_of (List.mem_of_getElem? (i := 386) (by decide +kernel)) rfl, wi_J2, gw_of (List.mem_of_getElem? (i := 387) (by decide +kernel)) rfl⟩, by decide +kernel⟩
theorem ok_J2_length_9d52b : okS yJ2_length_9d52b cJ2_length_9d52b 1 (some .int) 1 := ⟨⟨gw_of (List.mem_of_getElem? (i := 382) (by decide +kernel)) rfl, wi_J2, gw_of (List.mem_of_getElem? (i := 383) (by decide +kernel)) rfl⟩, by decide +kernel⟩
theorem ok_J2_charAt_3b067 : okS yJ2_charAt_3b067 cJ2_charAt_3b067 2 (some .char) 2 := ⟨⟨gw_of (List.mem_of_getElem? (i := 376) (by decide +kernel)) rfl, wi_J2, gw_of (List.mem_of_getElem? (i := 377) (by decide +kernel)) rfl⟩, by decide +kernel⟩
theorem ok_J2_checkIndex_2214a : okS yJ2_checkIndex_2214a cJ2_checkIndex_2214a 2 none 2 := ⟨⟨gw_of (List.mem_of_getElem? (i := 379) (by decide +kernel)) rfl, wi_J2, gw_of (List.mem_of_getElem? (i := 380) (by decide +kernel)) rfl⟩, by decide +kernel⟩
theorem ok_J3_checkIndex_8e157 : okS yJ3_checkIndex_8e157 cJ3_checkIndex_8e157 3 (some .int) 3 := ⟨⟨gw_of (List.mem_of_getElem? (i := 373) (by decide +kernel)) rfl, wi_J3, gw_of (List.mem_of_getElem? (i := 374) (by decide +kernel)) rfl⟩, by decide +kernel⟩
theorem ug_X0 : ∀ w ∈ u_ws RX0 TX0 7, w ∈ GW := by
  have h1 : ∀ w ∈ u_ws RX0 TX0 7, w ∈ tables_1 := by decide +kernel
  have h2 : ∀ w ∈ u_ws RX0 TX0 7, goodWord w = true := by decide +kernel
  exact fun w h => gw_of (h1 w h) (h2 w h)
theorem ug_X1 : ∀ w ∈ u_ws RX1 TX1 2, w ∈ GW := by
  have h1 : ∀ w ∈ u_ws RX1 TX1 2, w ∈ tables_1 := by decide +kernel
  have h2 : ∀ w ∈ u_ws RX1 TX1 2, goodWord w = true := by decide +kernel
  exact fun w h => gw_of (h1 w h) (h2 w h)
theorem ug_X2 : ∀ w ∈ u_ws RX2 TX2 10, w ∈ GW := by
  have h1 : ∀ w ∈ u_ws RX2 TX2 10, w ∈ tables_1 := by decide +kernel
  have h2 : ∀ w ∈ u_ws RX2 TX2 10, goodWord w = true := by decide +kernel
  exact fun w h => gw_of (h1 w h) (h2 w h)
theorem ug_X3 : ∀ w ∈ u_ws RX3 TX3 6, w ∈ GW := by
  have h1 : ∀ w ∈ u_ws RX3 TX3 6, w ∈ tables_1 := by decide +kernel
  have h2 : ∀ w ∈ u_ws RX3 TX3 6, goodWord w = true := by decide +kernel
  exact fun w h => gw_of (h1 w h) (h2 w h)
theorem ug_X4 : ∀ w ∈ u_ws RX4 TX4 4, w ∈ GW := by
  have h1 : ∀ w ∈ u_ws RX4 TX4 4, w ∈ tables_1 := by decide +kernel
  have h2 : ∀ w ∈ u_ws RX4 TX4 4, goodWord w = true := by decide +kernel
  exact fun w h => gw_of (h1 w h) (h2 w h)
theorem ug_X5 : ∀ w ∈ u_ws RX5 TX5 11, w ∈ GW := by
  have h1 : ∀ w ∈ u_ws RX5 TX5 11, w ∈ tables_1 := by decide +kernel
  have h2 : ∀ w ∈ u_ws RX5 TX5 11, goodWord w = true := by decide +kernel
  exact fun w h => gw_of (h1 w h) (h2 w h)
theorem ug_X6 : ∀ w ∈ u_ws RX6 TX6 7, w ∈ GW := by
  have h1 : ∀ w ∈ u_ws RX6 TX6 7, w ∈ tables_1 := by decide +kernel
  have h2 : ∀ w ∈ u_ws RX6 TX6 7, goodWord w = true := by decide +kernel
  exact fun w h => gw_of (h1 w h) (h2 w h)
theorem ug_X7 : ∀ w ∈ u_ws RX7 TX7 2, w ∈ GW := by
  have h1 : ∀ w ∈ u_ws RX7 TX7 2, w ∈ tables_1 := by decide +kernel
  have h2 : ∀ w ∈ u_ws RX7 TX7 2, goodWord w = true := by decide +kernel
  exact fun w h => gw_of (h1 w h) (h2 w h)
theorem ug_X8 : ∀ w ∈ u_ws RX8 TX8 8, w ∈ GW := by
  have h1 : ∀ w ∈ u_ws RX8 TX8 8, w ∈ tables_1 := by decide +kernel
  have h2 : ∀ w ∈ u_ws RX8 TX8 8, goodWord w = true := by decide +kernel
  exact fun w h => gw_of (h1 w h) (h2 w h)
theorem ug_X9 : ∀ w ∈ u_ws RX9 TX9 42, w ∈ GW := by
  have h1 : ∀ w ∈ u_ws RX9 TX9 42, w ∈ tables_1 := by decide +kernel
  have h2 : ∀ w ∈ u_ws RX9 TX9 42, goodWord w = true := by decide +kernel
  exact fun w h => gw_of (h1 w h) (h2 w h)
end
