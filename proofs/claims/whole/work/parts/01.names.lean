/-! the tables' words (the kit's starting text), names (the claim's printed text) -/
/-- a private method of a class that the tables say can be made, by its rows of tables_1 -/
def lw_okq (q : MethodName × Nat) : Prop := (q.1.cls ≠ "java/lang/invoke/MethodHandle" ∧ q.1.cls ≠ "java/lang/invoke/VarHandle") ∧ Cond.instantiable q.1.cls q.2 ∈ tables_1 ∧ Cond.privateMethod q.1 ∈ tables_1 ∧ Cond.instanceMethod q.1 ∈ tables_1
theorem lw_p0 : lw_okq (⟨"SearchEngine", "takeTape", "()I"⟩, 15) := ⟨⟨by decide +kernel, by decide +kernel⟩, List.mem_of_getElem? (i := 20) (by decide +kernel), List.mem_of_getElem? (i := 341) (by decide +kernel), List.mem_of_getElem? (i := 342) (by decide +kernel)⟩
theorem lw_p1 : lw_okq (⟨"SearchEngine", "firstZero", "(I)I"⟩, 15) := ⟨⟨by decide +kernel, by decide +kernel⟩, List.mem_of_getElem? (i := 20) (by decide +kernel), List.mem_of_getElem? (i := 345) (by decide +kernel), List.mem_of_getElem? (i := 346) (by decide +kernel)⟩
theorem lw_p2 : lw_okq (⟨"SearchEngine", "drop", "(J)Z"⟩, 15) := ⟨⟨by decide +kernel, by decide +kernel⟩, List.mem_of_getElem? (i := 20) (by decide +kernel), List.mem_of_getElem? (i := 352) (by decide +kernel), List.mem_of_getElem? (i := 353) (by decide +kernel)⟩
theorem lw_p3 : lw_okq (⟨"SearchEngine", "documentAt", "(I)LSearchEngine$Document;"⟩, 15) := ⟨⟨by decide +kernel, by decide +kernel⟩, List.mem_of_getElem? (i := 20) (by decide +kernel), List.mem_of_getElem? (i := 356) (by decide +kernel), List.mem_of_getElem? (i := 357) (by decide +kernel)⟩
theorem lw_p4 : lw_okq (⟨"SearchEngine$Speller", "isStop", "(J)Z"⟩, 3) := ⟨⟨by decide +kernel, by decide +kernel⟩, List.mem_of_getElem? (i := 28) (by decide +kernel), List.mem_of_getElem? (i := 389) (by decide +kernel), List.mem_of_getElem? (i := 390) (by decide +kernel)⟩
theorem lw_p5 : lw_okq (⟨"SearchEngine", "liveInBuffer", "()I"⟩, 15) := ⟨⟨by decide +kernel, by decide +kernel⟩, List.mem_of_getElem? (i := 20) (by decide +kernel), List.mem_of_getElem? (i := 471) (by decide +kernel), List.mem_of_getElem? (i := 472) (by decide +kernel)⟩
theorem lw_p6 : lw_okq (⟨"SearchEngine", "flush", "()V"⟩, 15) := ⟨⟨by decide +kernel, by decide +kernel⟩, List.mem_of_getElem? (i := 20) (by decide +kernel), List.mem_of_getElem? (i := 475) (by decide +kernel), List.mem_of_getElem? (i := 476) (by decide +kernel)⟩
theorem lw_p7 : lw_okq (⟨"SearchEngine", "gather", "(LSearchEngine$Document;)V"⟩, 15) := ⟨⟨by decide +kernel, by decide +kernel⟩, List.mem_of_getElem? (i := 20) (by decide +kernel), List.mem_of_getElem? (i := 479) (by decide +kernel), List.mem_of_getElem? (i := 480) (by decide +kernel)⟩
theorem lw_p8 : lw_okq (⟨"SearchEngine", "leastFullLevel", "()I"⟩, 15) := ⟨⟨by decide +kernel, by decide +kernel⟩, List.mem_of_getElem? (i := 20) (by decide +kernel), List.mem_of_getElem? (i := 528) (by decide +kernel), List.mem_of_getElem? (i := 529) (by decide +kernel)⟩
theorem lw_p9 : lw_okq (⟨"SearchEngine", "segmentAt", "(I)LSearchEngine$Segment;"⟩, 15) := ⟨⟨by decide +kernel, by decide +kernel⟩, List.mem_of_getElem? (i := 20) (by decide +kernel), List.mem_of_getElem? (i := 532) (by decide +kernel), List.mem_of_getElem? (i := 533) (by decide +kernel)⟩
theorem lw_p10 : lw_okq (⟨"SearchEngine", "mergeFirst", "(I)V"⟩, 15) := ⟨⟨by decide +kernel, by decide +kernel⟩, List.mem_of_getElem? (i := 20) (by decide +kernel), List.mem_of_getElem? (i := 536) (by decide +kernel), List.mem_of_getElem? (i := 537) (by decide +kernel)⟩
theorem lw_p11 : lw_okq (⟨"SearchEngine", "gatherAll", "(LSearchEngine$Segment;)V"⟩, 15) := ⟨⟨by decide +kernel, by decide +kernel⟩, List.mem_of_getElem? (i := 20) (by decide +kernel), List.mem_of_getElem? (i := 540) (by decide +kernel), List.mem_of_getElem? (i := 541) (by decide +kernel)⟩
theorem lw_p12 : lw_okq (⟨"SearchEngine", "removeSegment", "(I)V"⟩, 15) := ⟨⟨by decide +kernel, by decide +kernel⟩, List.mem_of_getElem? (i := 20) (by decide +kernel), List.mem_of_getElem? (i := 544) (by decide +kernel), List.mem_of_getElem? (i := 545) (by decide +kernel)⟩
theorem lw_p13 : lw_okq (⟨"SearchEngine$View", "takeDocuments", "([LSearchEngine$Document;)V"⟩, 7) := ⟨⟨by decide +kernel, by decide +kernel⟩, List.mem_of_getElem? (i := 107) (by decide +kernel), List.mem_of_getElem? (i := 565) (by decide +kernel), List.mem_of_getElem? (i := 566) (by decide +kernel)⟩
theorem lw_p14 : lw_okq (⟨"SearchEngine", "viewAt", "(I)LSearchEngine$View;"⟩, 15) := ⟨⟨by decide +kernel, by decide +kernel⟩, List.mem_of_getElem? (i := 20) (by decide +kernel), List.mem_of_getElem? (i := 573) (by decide +kernel), List.mem_of_getElem? (i := 574) (by decide +kernel)⟩
theorem lw_p15 : lw_okq (⟨"SearchEngine$Parser", "advance", "()V"⟩, 7) := ⟨⟨by decide +kernel, by decide +kernel⟩, List.mem_of_getElem? (i := 581) (by decide +kernel), List.mem_of_getElem? (i := 614) (by decide +kernel), List.mem_of_getElem? (i := 615) (by decide +kernel)⟩
def lw_privs_1 : List (MethodName × Nat) := [(⟨"SearchEngine", "takeTape", "()I"⟩, 15), (⟨"SearchEngine", "firstZero", "(I)I"⟩, 15), (⟨"SearchEngine", "drop", "(J)Z"⟩, 15), (⟨"SearchEngine", "documentAt", "(I)LSearchEngine$Document;"⟩, 15), (⟨"SearchEngine$Speller", "isStop", "(J)Z"⟩, 3), (⟨"SearchEngine", "liveInBuffer", "()I"⟩, 15), (⟨"SearchEngine", "flush", "()V"⟩, 15), (⟨"SearchEngine", "gather", "(LSearchEngine$Document;)V"⟩, 15), (⟨"SearchEngine", "leastFullLevel", "()I"⟩, 15), (⟨"SearchEngine", "segmentAt", "(I)LSearchEngine$Segment;"⟩, 15), (⟨"SearchEngine", "mergeFirst", "(I)V"⟩, 15), (⟨"SearchEngine", "gatherAll", "(LSearchEngine$Segment;)V"⟩, 15), (⟨"SearchEngine", "removeSegment", "(I)V"⟩, 15), (⟨"SearchEngine$View", "takeDocuments", "([LSearchEngine$Document;)V"⟩, 7), (⟨"SearchEngine", "viewAt", "(I)LSearchEngine$View;"⟩, 15), (⟨"SearchEngine$Parser", "advance", "()V"⟩, 7)]
theorem lw_r1 : ∀ q ∈ lw_privs_1, lw_okq q := List.forall_mem_cons.mpr ⟨lw_p0, List.forall_mem_cons.mpr ⟨lw_p1, List.forall_mem_cons.mpr ⟨lw_p2, List.forall_mem_cons.mpr ⟨lw_p3, List.forall_mem_cons.mpr ⟨lw_p4, List.forall_mem_cons.mpr ⟨lw_p5, List.forall_mem_cons.mpr ⟨lw_p6, List.forall_mem_cons.mpr ⟨lw_p7, List.forall_mem_cons.mpr ⟨lw_p8, List.forall_mem_cons.mpr ⟨lw_p9, List.forall_mem_cons.mpr ⟨lw_p10, List.forall_mem_cons.mpr ⟨lw_p11, List.forall_mem_cons.mpr ⟨lw_p12, List.forall_mem_cons.mpr ⟨lw_p13, List.forall_mem_cons.mpr ⟨lw_p14, List.forall_mem_cons.mpr ⟨lw_p15, fun _ h => absurd h List.not_mem_nil⟩⟩⟩⟩⟩⟩⟩⟩⟩⟩⟩⟩⟩⟩⟩⟩
theorem lw_p16 : lw_okq (⟨"SearchEngine$Parser", "readAny", "(IZ)Z"⟩, 7) := ⟨⟨by decide +kernel, by decide +kernel⟩, List.mem_of_getElem? (i := 581) (by decide +kernel), List.mem_of_getElem? (i := 619) (by decide +kernel), List.mem_of_getElem? (i := 620) (by decide +kernel)⟩
theorem lw_p17 : lw_okq (⟨"SearchEngine$Parser", "readPart", "(IZZ)Z"⟩, 7) := ⟨⟨by decide +kernel, by decide +kernel⟩, List.mem_of_getElem? (i := 581) (by decide +kernel), List.mem_of_getElem? (i := 623) (by decide +kernel), List.mem_of_getElem? (i := 624) (by decide +kernel)⟩
theorem lw_p18 : lw_okq (⟨"SearchEngine$Parser", "readAtom", "(LSearchEngine$Part;I)Z"⟩, 7) := ⟨⟨by decide +kernel, by decide +kernel⟩, List.mem_of_getElem? (i := 581) (by decide +kernel), List.mem_of_getElem? (i := 635) (by decide +kernel), List.mem_of_getElem? (i := 636) (by decide +kernel)⟩
theorem lw_p19 : lw_okq (⟨"SearchEngine$Parser", "readGroup", "(LSearchEngine$Part;I)Z"⟩, 7) := ⟨⟨by decide +kernel, by decide +kernel⟩, List.mem_of_getElem? (i := 581) (by decide +kernel), List.mem_of_getElem? (i := 639) (by decide +kernel), List.mem_of_getElem? (i := 640) (by decide +kernel)⟩
theorem lw_p20 : lw_okq (⟨"SearchEngine$Parser", "readRange", "(LSearchEngine$Part;)Z"⟩, 7) := ⟨⟨by decide +kernel, by decide +kernel⟩, List.mem_of_getElem? (i := 581) (by decide +kernel), List.mem_of_getElem? (i := 643) (by decide +kernel), List.mem_of_getElem? (i := 644) (by decide +kernel)⟩
theorem lw_p21 : lw_okq (⟨"SearchEngine$Parser", "wordIs", "(IILjava/lang/String;)Z"⟩, 7) := ⟨⟨by decide +kernel, by decide +kernel⟩, List.mem_of_getElem? (i := 581) (by decide +kernel), List.mem_of_getElem? (i := 648) (by decide +kernel), List.mem_of_getElem? (i := 649) (by decide +kernel)⟩
theorem lw_p22 : lw_okq (⟨"SearchEngine$Parser", "number", "(I)I"⟩, 7) := ⟨⟨by decide +kernel, by decide +kernel⟩, List.mem_of_getElem? (i := 581) (by decide +kernel), List.mem_of_getElem? (i := 655) (by decide +kernel), List.mem_of_getElem? (i := 656) (by decide +kernel)⟩
theorem lw_p23 : lw_okq (⟨"SearchEngine$Parser", "readPhrase", "(LSearchEngine$Part;)Z"⟩, 7) := ⟨⟨by decide +kernel, by decide +kernel⟩, List.mem_of_getElem? (i := 581) (by decide +kernel), List.mem_of_getElem? (i := 659) (by decide +kernel), List.mem_of_getElem? (i := 660) (by decide +kernel)⟩
theorem lw_p24 : lw_okq (⟨"SearchEngine$Parser", "readWord", "(LSearchEngine$Part;)Z"⟩, 7) := ⟨⟨by decide +kernel, by decide +kernel⟩, List.mem_of_getElem? (i := 581) (by decide +kernel), List.mem_of_getElem? (i := 668) (by decide +kernel), List.mem_of_getElem? (i := 669) (by decide +kernel)⟩
theorem lw_p25 : lw_okq (⟨"SearchEngine$Parser", "fieldNamed", "(II)I"⟩, 7) := ⟨⟨by decide +kernel, by decide +kernel⟩, List.mem_of_getElem? (i := 581) (by decide +kernel), List.mem_of_getElem? (i := 672) (by decide +kernel), List.mem_of_getElem? (i := 673) (by decide +kernel)⟩
theorem lw_p26 : lw_okq (⟨"SearchEngine$Parser", "beginsPart", "()Z"⟩, 7) := ⟨⟨by decide +kernel, by decide +kernel⟩, List.mem_of_getElem? (i := 581) (by decide +kernel), List.mem_of_getElem? (i := 684) (by decide +kernel), List.mem_of_getElem? (i := 685) (by decide +kernel)⟩
theorem lw_p27 : lw_okq (⟨"SearchEngine$Part", "isFor", "(I)Z"⟩, 15) := ⟨⟨by decide +kernel, by decide +kernel⟩, List.mem_of_getElem? (i := 156) (by decide +kernel), List.mem_of_getElem? (i := 696) (by decide +kernel), List.mem_of_getElem? (i := 697) (by decide +kernel)⟩
theorem lw_p28 : lw_okq (⟨"SearchEngine$Vocabulary", "placeOf", "(J)I"⟩, 2) := ⟨⟨by decide +kernel, by decide +kernel⟩, List.mem_of_getElem? (i := 393) (by decide +kernel), List.mem_of_getElem? (i := 720) (by decide +kernel), List.mem_of_getElem? (i := 721) (by decide +kernel)⟩
theorem lw_p29 : lw_okq (⟨"SearchEngine$Query", "scoreOfAny", "(IILSearchEngine$Document;I)I"⟩, 2) := ⟨⟨by decide +kernel, by decide +kernel⟩, List.mem_of_getElem? (i := 149) (by decide +kernel), List.mem_of_getElem? (i := 733) (by decide +kernel), List.mem_of_getElem? (i := 734) (by decide +kernel)⟩
theorem lw_p30 : lw_okq (⟨"SearchEngine$Query", "scoreOfPart", "(ILSearchEngine$Document;I)I"⟩, 2) := ⟨⟨by decide +kernel, by decide +kernel⟩, List.mem_of_getElem? (i := 149) (by decide +kernel), List.mem_of_getElem? (i := 738) (by decide +kernel), List.mem_of_getElem? (i := 739) (by decide +kernel)⟩
theorem lw_p31 : lw_okq (⟨"SearchEngine$Part", "scoreIn", "(LSearchEngine$Text;I)I"⟩, 15) := ⟨⟨by decide +kernel, by decide +kernel⟩, List.mem_of_getElem? (i := 156) (by decide +kernel), List.mem_of_getElem? (i := 756) (by decide +kernel), List.mem_of_getElem? (i := 757) (by decide +kernel)⟩
def lw_privs_2 : List (MethodName × Nat) := [(⟨"SearchEngine$Parser", "readAny", "(IZ)Z"⟩, 7), (⟨"SearchEngine$Parser", "readPart", "(IZZ)Z"⟩, 7), (⟨"SearchEngine$Parser", "readAtom", "(LSearchEngine$Part;I)Z"⟩, 7), (⟨"SearchEngine$Parser", "readGroup", "(LSearchEngine$Part;I)Z"⟩, 7), (⟨"SearchEngine$Parser", "readRange", "(LSearchEngine$Part;)Z"⟩, 7), (⟨"SearchEngine$Parser", "wordIs", "(IILjava/lang/String;)Z"⟩, 7), (⟨"SearchEngine$Parser", "number", "(I)I"⟩, 7), (⟨"SearchEngine$Parser", "readPhrase", "(LSearchEngine$Part;)Z"⟩, 7), (⟨"SearchEngine$Parser", "readWord", "(LSearchEngine$Part;)Z"⟩, 7), (⟨"SearchEngine$Parser", "fieldNamed", "(II)I"⟩, 7), (⟨"SearchEngine$Parser", "beginsPart", "()Z"⟩, 7), (⟨"SearchEngine$Part", "isFor", "(I)Z"⟩, 15), (⟨"SearchEngine$Vocabulary", "placeOf", "(J)I"⟩, 2), (⟨"SearchEngine$Query", "scoreOfAny", "(IILSearchEngine$Document;I)I"⟩, 2), (⟨"SearchEngine$Query", "scoreOfPart", "(ILSearchEngine$Document;I)I"⟩, 2), (⟨"SearchEngine$Part", "scoreIn", "(LSearchEngine$Text;I)I"⟩, 15)]
theorem lw_r2 : ∀ q ∈ lw_privs_2, lw_okq q := List.forall_mem_cons.mpr ⟨lw_p16, List.forall_mem_cons.mpr ⟨lw_p17, List.forall_mem_cons.mpr ⟨lw_p18, List.forall_mem_cons.mpr ⟨lw_p19, List.forall_mem_cons.mpr ⟨lw_p20, List.forall_mem_cons.mpr ⟨lw_p21, List.forall_mem_cons.mpr ⟨lw_p22, List.forall_mem_cons.mpr ⟨lw_p23, List.forall_mem_cons.mpr ⟨lw_p24, List.forall_mem_cons.mpr ⟨lw_p25, List.forall_mem_cons.mpr ⟨lw_p26, List.forall_mem_cons.mpr ⟨lw_p27, List.forall_mem_cons.mpr ⟨lw_p28, List.forall_mem_cons.mpr ⟨lw_p29, List.forall_mem_cons.mpr ⟨lw_p30, List.forall_mem_cons.mpr ⟨lw_p31, fun _ h => absurd h List.not_mem_nil⟩⟩⟩⟩⟩⟩⟩⟩⟩⟩⟩⟩⟩⟩⟩⟩
theorem lw_p32 : lw_okq (⟨"SearchEngine$Part", "occurrences", "(LSearchEngine$Text;)I"⟩, 15) := ⟨⟨by decide +kernel, by decide +kernel⟩, List.mem_of_getElem? (i := 156) (by decide +kernel), List.mem_of_getElem? (i := 765) (by decide +kernel), List.mem_of_getElem? (i := 766) (by decide +kernel)⟩
theorem lw_p33 : lw_okq (⟨"SearchEngine$Part", "occursAt", "(LSearchEngine$Text;I)Z"⟩, 15) := ⟨⟨by decide +kernel, by decide +kernel⟩, List.mem_of_getElem? (i := 156) (by decide +kernel), List.mem_of_getElem? (i := 777) (by decide +kernel), List.mem_of_getElem? (i := 778) (by decide +kernel)⟩
theorem lw_p34 : lw_okq (⟨"SearchEngine$Answer", "isBefore", "(LSearchEngine$Document;II)Z"⟩, 5) := ⟨⟨by decide +kernel, by decide +kernel⟩, List.mem_of_getElem? (i := 143) (by decide +kernel), List.mem_of_getElem? (i := 810) (by decide +kernel), List.mem_of_getElem? (i := 811) (by decide +kernel)⟩
theorem lw_p35 : lw_okq (⟨"SearchEngine$Neighbour", "compare", "(JLSearchEngine$View;)V"⟩, 8) := ⟨⟨by decide +kernel, by decide +kernel⟩, List.mem_of_getElem? (i := 256) (by decide +kernel), List.mem_of_getElem? (i := 888) (by decide +kernel), List.mem_of_getElem? (i := 889) (by decide +kernel)⟩
theorem lw_p36 : lw_okq (⟨"SearchEngine$Neighbour", "editsTo", "(J)I"⟩, 8) := ⟨⟨by decide +kernel, by decide +kernel⟩, List.mem_of_getElem? (i := 256) (by decide +kernel), List.mem_of_getElem? (i := 892) (by decide +kernel), List.mem_of_getElem? (i := 893) (by decide +kernel)⟩
theorem lw_p37 : lw_okq (⟨"SearchEngine", "openViews", "()I"⟩, 15) := ⟨⟨by decide +kernel, by decide +kernel⟩, List.mem_of_getElem? (i := 20) (by decide +kernel), List.mem_of_getElem? (i := 934) (by decide +kernel), List.mem_of_getElem? (i := 935) (by decide +kernel)⟩
theorem lw_p38 : lw_okq (⟨"SearchEngineModel", "find", "(J)I"⟩, 71) := ⟨⟨by decide +kernel, by decide +kernel⟩, List.mem_of_getElem? (i := 941) (by decide +kernel), List.mem_of_getElem? (i := 1175) (by decide +kernel), List.mem_of_getElem? (i := 1176) (by decide +kernel)⟩
theorem lw_p39 : lw_okq (⟨"SearchEngineModel", "tokens", "(IIII)V"⟩, 71) := ⟨⟨by decide +kernel, by decide +kernel⟩, List.mem_of_getElem? (i := 941) (by decide +kernel), List.mem_of_getElem? (i := 1179) (by decide +kernel), List.mem_of_getElem? (i := 1180) (by decide +kernel)⟩
theorem lw_p40 : lw_okq (⟨"SearchEngineModel", "makeTerm", "(II)V"⟩, 71) := ⟨⟨by decide +kernel, by decide +kernel⟩, List.mem_of_getElem? (i := 941) (by decide +kernel), List.mem_of_getElem? (i := 1189) (by decide +kernel), List.mem_of_getElem? (i := 1190) (by decide +kernel)⟩
theorem lw_p41 : lw_okq (⟨"SearchEngineModel", "small", "(II)V"⟩, 71) := ⟨⟨by decide +kernel, by decide +kernel⟩, List.mem_of_getElem? (i := 941) (by decide +kernel), List.mem_of_getElem? (i := 1193) (by decide +kernel), List.mem_of_getElem? (i := 1194) (by decide +kernel)⟩
theorem lw_p42 : lw_okq (⟨"SearchEngineModel", "isTerm", "(III)Z"⟩, 71) := ⟨⟨by decide +kernel, by decide +kernel⟩, List.mem_of_getElem? (i := 941) (by decide +kernel), List.mem_of_getElem? (i := 1200) (by decide +kernel), List.mem_of_getElem? (i := 1201) (by decide +kernel)⟩
theorem lw_p43 : lw_okq (⟨"SearchEngineModel", "inBuffer", "()I"⟩, 71) := ⟨⟨by decide +kernel, by decide +kernel⟩, List.mem_of_getElem? (i := 941) (by decide +kernel), List.mem_of_getElem? (i := 1204) (by decide +kernel), List.mem_of_getElem? (i := 1205) (by decide +kernel)⟩
theorem lw_p44 : lw_okq (⟨"SearchEngineModel", "put", "(II)V"⟩, 71) := ⟨⟨by decide +kernel, by decide +kernel⟩, List.mem_of_getElem? (i := 941) (by decide +kernel), List.mem_of_getElem? (i := 1212) (by decide +kernel), List.mem_of_getElem? (i := 1213) (by decide +kernel)⟩
theorem lw_p45 : lw_okq (⟨"SearchEngineModel", "fourOf", "()I"⟩, 71) := ⟨⟨by decide +kernel, by decide +kernel⟩, List.mem_of_getElem? (i := 941) (by decide +kernel), List.mem_of_getElem? (i := 1216) (by decide +kernel), List.mem_of_getElem? (i := 1217) (by decide +kernel)⟩
theorem lw_p46 : lw_okq (⟨"SearchEngineModel", "merge", "(I)V"⟩, 71) := ⟨⟨by decide +kernel, by decide +kernel⟩, List.mem_of_getElem? (i := 941) (by decide +kernel), List.mem_of_getElem? (i := 1220) (by decide +kernel), List.mem_of_getElem? (i := 1221) (by decide +kernel)⟩
theorem lw_p47 : lw_okq (⟨"SearchEngineModel", "move", "(II)V"⟩, 71) := ⟨⟨by decide +kernel, by decide +kernel⟩, List.mem_of_getElem? (i := 941) (by decide +kernel), List.mem_of_getElem? (i := 1224) (by decide +kernel), List.mem_of_getElem? (i := 1225) (by decide +kernel)⟩
def lw_privs_3 : List (MethodName × Nat) := [(⟨"SearchEngine$Part", "occurrences", "(LSearchEngine$Text;)I"⟩, 15), (⟨"SearchEngine$Part", "occursAt", "(LSearchEngine$Text;I)Z"⟩, 15), (⟨"SearchEngine$Answer", "isBefore", "(LSearchEngine$Document;II)Z"⟩, 5), (⟨"SearchEngine$Neighbour", "compare", "(JLSearchEngine$View;)V"⟩, 8), (⟨"SearchEngine$Neighbour", "editsTo", "(J)I"⟩, 8), (⟨"SearchEngine", "openViews", "()I"⟩, 15), (⟨"SearchEngineModel", "find", "(J)I"⟩, 71), (⟨"SearchEngineModel", "tokens", "(IIII)V"⟩, 71), (⟨"SearchEngineModel", "makeTerm", "(II)V"⟩, 71), (⟨"SearchEngineModel", "small", "(II)V"⟩, 71), (⟨"SearchEngineModel", "isTerm", "(III)Z"⟩, 71), (⟨"SearchEngineModel", "inBuffer", "()I"⟩, 71), (⟨"SearchEngineModel", "put", "(II)V"⟩, 71), (⟨"SearchEngineModel", "fourOf", "()I"⟩, 71), (⟨"SearchEngineModel", "merge", "(I)V"⟩, 71), (⟨"SearchEngineModel", "move", "(II)V"⟩, 71)]
theorem lw_r3 : ∀ q ∈ lw_privs_3, lw_okq q := List.forall_mem_cons.mpr ⟨lw_p32, List.forall_mem_cons.mpr ⟨lw_p33, List.forall_mem_cons.mpr ⟨lw_p34, List.forall_mem_cons.mpr ⟨lw_p35, List.forall_mem_cons.mpr ⟨lw_p36, List.forall_mem_cons.mpr ⟨lw_p37, List.forall_mem_cons.mpr ⟨lw_p38, List.forall_mem_cons.mpr ⟨lw_p39, List.forall_mem_cons.mpr ⟨lw_p40, List.forall_mem_cons.mpr ⟨lw_p41, List.forall_mem_cons.mpr ⟨lw_p42, List.forall_mem_cons.mpr ⟨lw_p43, List.forall_mem_cons.mpr ⟨lw_p44, List.forall_mem_cons.mpr ⟨lw_p45, List.forall_mem_cons.mpr ⟨lw_p46, List.forall_mem_cons.mpr ⟨lw_p47, fun _ h => absurd h List.not_mem_nil⟩⟩⟩⟩⟩⟩⟩⟩⟩⟩⟩⟩⟩⟩⟩⟩
theorem lw_p48 : lw_okq (⟨"SearchEngineModel", "isView", "(I)Z"⟩, 71) := ⟨⟨by decide +kernel, by decide +kernel⟩, List.mem_of_getElem? (i := 941) (by decide +kernel), List.mem_of_getElem? (i := 1241) (by decide +kernel), List.mem_of_getElem? (i := 1242) (by decide +kernel)⟩
theorem lw_p49 : lw_okq (⟨"SearchEngineModel", "readQuery", "()V"⟩, 71) := ⟨⟨by decide +kernel, by decide +kernel⟩, List.mem_of_getElem? (i := 941) (by decide +kernel), List.mem_of_getElem? (i := 1249) (by decide +kernel), List.mem_of_getElem? (i := 1250) (by decide +kernel)⟩
theorem lw_p50 : lw_okq (⟨"SearchEngineModel", "read", "()V"⟩, 71) := ⟨⟨by decide +kernel, by decide +kernel⟩, List.mem_of_getElem? (i := 941) (by decide +kernel), List.mem_of_getElem? (i := 1253) (by decide +kernel), List.mem_of_getElem? (i := 1254) (by decide +kernel)⟩
theorem lw_p51 : lw_okq (⟨"SearchEngineModel", "beginsPart", "()Z"⟩, 71) := ⟨⟨by decide +kernel, by decide +kernel⟩, List.mem_of_getElem? (i := 941) (by decide +kernel), List.mem_of_getElem? (i := 1257) (by decide +kernel), List.mem_of_getElem? (i := 1258) (by decide +kernel)⟩
theorem lw_p52 : lw_okq (⟨"SearchEngineModel", "part", "()Z"⟩, 71) := ⟨⟨by decide +kernel, by decide +kernel⟩, List.mem_of_getElem? (i := 941) (by decide +kernel), List.mem_of_getElem? (i := 1261) (by decide +kernel), List.mem_of_getElem? (i := 1262) (by decide +kernel)⟩
theorem lw_p53 : lw_okq (⟨"SearchEngineModel", "fails", "()Z"⟩, 71) := ⟨⟨by decide +kernel, by decide +kernel⟩, List.mem_of_getElem? (i := 941) (by decide +kernel), List.mem_of_getElem? (i := 1265) (by decide +kernel), List.mem_of_getElem? (i := 1266) (by decide +kernel)⟩
theorem lw_p54 : lw_okq (⟨"SearchEngineModel", "atom", "()Z"⟩, 71) := ⟨⟨by decide +kernel, by decide +kernel⟩, List.mem_of_getElem? (i := 941) (by decide +kernel), List.mem_of_getElem? (i := 1269) (by decide +kernel), List.mem_of_getElem? (i := 1270) (by decide +kernel)⟩
theorem lw_p55 : lw_okq (⟨"SearchEngineModel", "range", "()Z"⟩, 71) := ⟨⟨by decide +kernel, by decide +kernel⟩, List.mem_of_getElem? (i := 941) (by decide +kernel), List.mem_of_getElem? (i := 1273) (by decide +kernel), List.mem_of_getElem? (i := 1274) (by decide +kernel)⟩
theorem lw_p56 : lw_okq (⟨"SearchEngineModel", "number", "()I"⟩, 71) := ⟨⟨by decide +kernel, by decide +kernel⟩, List.mem_of_getElem? (i := 941) (by decide +kernel), List.mem_of_getElem? (i := 1277) (by decide +kernel), List.mem_of_getElem? (i := 1278) (by decide +kernel)⟩
theorem lw_p57 : lw_okq (⟨"SearchEngineModel", "emit", "(IIII)V"⟩, 71) := ⟨⟨by decide +kernel, by decide +kernel⟩, List.mem_of_getElem? (i := 941) (by decide +kernel), List.mem_of_getElem? (i := 1281) (by decide +kernel), List.mem_of_getElem? (i := 1282) (by decide +kernel)⟩
theorem lw_p58 : lw_okq (⟨"SearchEngineModel", "isField", "()Z"⟩, 71) := ⟨⟨by decide +kernel, by decide +kernel⟩, List.mem_of_getElem? (i := 941) (by decide +kernel), List.mem_of_getElem? (i := 1285) (by decide +kernel), List.mem_of_getElem? (i := 1286) (by decide +kernel)⟩
theorem lw_p59 : lw_okq (⟨"SearchEngineModel", "phrase", "(I)Z"⟩, 71) := ⟨⟨by decide +kernel, by decide +kernel⟩, List.mem_of_getElem? (i := 941) (by decide +kernel), List.mem_of_getElem? (i := 1289) (by decide +kernel), List.mem_of_getElem? (i := 1290) (by decide +kernel)⟩
theorem lw_p60 : lw_okq (⟨"SearchEngineModel", "word", "(IZ)V"⟩, 71) := ⟨⟨by decide +kernel, by decide +kernel⟩, List.mem_of_getElem? (i := 941) (by decide +kernel), List.mem_of_getElem? (i := 1293) (by decide +kernel), List.mem_of_getElem? (i := 1294) (by decide +kernel)⟩
theorem lw_p61 : lw_okq (⟨"SearchEngineModel", "digit", "(I)I"⟩, 71) := ⟨⟨by decide +kernel, by decide +kernel⟩, List.mem_of_getElem? (i := 941) (by decide +kernel), List.mem_of_getElem? (i := 1297) (by decide +kernel), List.mem_of_getElem? (i := 1298) (by decide +kernel)⟩
theorem lw_p62 : lw_okq (⟨"SearchEngineModel", "isWithinMinus", "()Z"⟩, 71) := ⟨⟨by decide +kernel, by decide +kernel⟩, List.mem_of_getElem? (i := 941) (by decide +kernel), List.mem_of_getElem? (i := 1301) (by decide +kernel), List.mem_of_getElem? (i := 1302) (by decide +kernel)⟩
theorem lw_p63 : lw_okq (⟨"SearchEngineModel", "mark", "(I)V"⟩, 71) := ⟨⟨by decide +kernel, by decide +kernel⟩, List.mem_of_getElem? (i := 941) (by decide +kernel), List.mem_of_getElem? (i := 1305) (by decide +kernel), List.mem_of_getElem? (i := 1306) (by decide +kernel)⟩
def lw_privs_4 : List (MethodName × Nat) := [(⟨"SearchEngineModel", "isView", "(I)Z"⟩, 71), (⟨"SearchEngineModel", "readQuery", "()V"⟩, 71), (⟨"SearchEngineModel", "read", "()V"⟩, 71), (⟨"SearchEngineModel", "beginsPart", "()Z"⟩, 71), (⟨"SearchEngineModel", "part", "()Z"⟩, 71), (⟨"SearchEngineModel", "fails", "()Z"⟩, 71), (⟨"SearchEngineModel", "atom", "()Z"⟩, 71), (⟨"SearchEngineModel", "range", "()Z"⟩, 71), (⟨"SearchEngineModel", "number", "()I"⟩, 71), (⟨"SearchEngineModel", "emit", "(IIII)V"⟩, 71), (⟨"SearchEngineModel", "isField", "()Z"⟩, 71), (⟨"SearchEngineModel", "phrase", "(I)Z"⟩, 71), (⟨"SearchEngineModel", "word", "(IZ)V"⟩, 71), (⟨"SearchEngineModel", "digit", "(I)I"⟩, 71), (⟨"SearchEngineModel", "isWithinMinus", "()Z"⟩, 71), (⟨"SearchEngineModel", "mark", "(I)V"⟩, 71)]
theorem lw_r4 : ∀ q ∈ lw_privs_4, lw_okq q := List.forall_mem_cons.mpr ⟨lw_p48, List.forall_mem_cons.mpr ⟨lw_p49, List.forall_mem_cons.mpr ⟨lw_p50, List.forall_mem_cons.mpr ⟨lw_p51, List.forall_mem_cons.mpr ⟨lw_p52, List.forall_mem_cons.mpr ⟨lw_p53, List.forall_mem_cons.mpr ⟨lw_p54, List.forall_mem_cons.mpr ⟨lw_p55, List.forall_mem_cons.mpr ⟨lw_p56, List.forall_mem_cons.mpr ⟨lw_p57, List.forall_mem_cons.mpr ⟨lw_p58, List.forall_mem_cons.mpr ⟨lw_p59, List.forall_mem_cons.mpr ⟨lw_p60, List.forall_mem_cons.mpr ⟨lw_p61, List.forall_mem_cons.mpr ⟨lw_p62, List.forall_mem_cons.mpr ⟨lw_p63, fun _ h => absurd h List.not_mem_nil⟩⟩⟩⟩⟩⟩⟩⟩⟩⟩⟩⟩⟩⟩⟩⟩
theorem lw_p64 : lw_okq (⟨"SearchEngineModel", "endPart", "(Z)V"⟩, 71) := ⟨⟨by decide +kernel, by decide +kernel⟩, List.mem_of_getElem? (i := 941) (by decide +kernel), List.mem_of_getElem? (i := 1309) (by decide +kernel), List.mem_of_getElem? (i := 1310) (by decide +kernel)⟩
theorem lw_p65 : lw_okq (⟨"SearchEngineModel", "endAll", "()V"⟩, 71) := ⟨⟨by decide +kernel, by decide +kernel⟩, List.mem_of_getElem? (i := 941) (by decide +kernel), List.mem_of_getElem? (i := 1313) (by decide +kernel), List.mem_of_getElem? (i := 1314) (by decide +kernel)⟩
theorem lw_p66 : lw_okq (⟨"SearchEngineModel", "work", "(II)V"⟩, 71) := ⟨⟨by decide +kernel, by decide +kernel⟩, List.mem_of_getElem? (i := 941) (by decide +kernel), List.mem_of_getElem? (i := 1317) (by decide +kernel), List.mem_of_getElem? (i := 1318) (by decide +kernel)⟩
theorem lw_p67 : lw_okq (⟨"SearchEngineModel", "matchWord", "(II)V"⟩, 71) := ⟨⟨by decide +kernel, by decide +kernel⟩, List.mem_of_getElem? (i := 941) (by decide +kernel), List.mem_of_getElem? (i := 1321) (by decide +kernel), List.mem_of_getElem? (i := 1322) (by decide +kernel)⟩
theorem lw_p68 : lw_okq (⟨"SearchEngineModel", "tf", "(III)I"⟩, 71) := ⟨⟨by decide +kernel, by decide +kernel⟩, List.mem_of_getElem? (i := 941) (by decide +kernel), List.mem_of_getElem? (i := 1325) (by decide +kernel), List.mem_of_getElem? (i := 1326) (by decide +kernel)⟩
theorem lw_p69 : lw_okq (⟨"SearchEngineModel", "isToken", "(II)Z"⟩, 71) := ⟨⟨by decide +kernel, by decide +kernel⟩, List.mem_of_getElem? (i := 941) (by decide +kernel), List.mem_of_getElem? (i := 1329) (by decide +kernel), List.mem_of_getElem? (i := 1330) (by decide +kernel)⟩
theorem lw_p70 : lw_okq (⟨"SearchEngineModel", "rare", "(II)I"⟩, 71) := ⟨⟨by decide +kernel, by decide +kernel⟩, List.mem_of_getElem? (i := 941) (by decide +kernel), List.mem_of_getElem? (i := 1333) (by decide +kernel), List.mem_of_getElem? (i := 1334) (by decide +kernel)⟩
theorem lw_p71 : lw_okq (⟨"SearchEngineModel", "df", "(III)I"⟩, 71) := ⟨⟨by decide +kernel, by decide +kernel⟩, List.mem_of_getElem? (i := 941) (by decide +kernel), List.mem_of_getElem? (i := 1337) (by decide +kernel), List.mem_of_getElem? (i := 1338) (by decide +kernel)⟩
theorem lw_p72 : lw_okq (⟨"SearchEngineModel", "score", "(IIII)I"⟩, 71) := ⟨⟨by decide +kernel, by decide +kernel⟩, List.mem_of_getElem? (i := 941) (by decide +kernel), List.mem_of_getElem? (i := 1341) (by decide +kernel), List.mem_of_getElem? (i := 1342) (by decide +kernel)⟩
theorem lw_p73 : lw_okq (⟨"SearchEngineModel", "come", "(I)V"⟩, 71) := ⟨⟨by decide +kernel, by decide +kernel⟩, List.mem_of_getElem? (i := 941) (by decide +kernel), List.mem_of_getElem? (i := 1352) (by decide +kernel), List.mem_of_getElem? (i := 1353) (by decide +kernel)⟩
theorem lw_p74 : lw_okq (⟨"SearchEngineModel", "matchStarts", "(II)V"⟩, 71) := ⟨⟨by decide +kernel, by decide +kernel⟩, List.mem_of_getElem? (i := 941) (by decide +kernel), List.mem_of_getElem? (i := 1356) (by decide +kernel), List.mem_of_getElem? (i := 1357) (by decide +kernel)⟩
theorem lw_p75 : lw_okq (⟨"SearchEngineModel", "begins", "(II)Z"⟩, 71) := ⟨⟨by decide +kernel, by decide +kernel⟩, List.mem_of_getElem? (i := 941) (by decide +kernel), List.mem_of_getElem? (i := 1360) (by decide +kernel), List.mem_of_getElem? (i := 1361) (by decide +kernel)⟩
theorem lw_p76 : lw_okq (⟨"SearchEngineModel", "matchPhrase", "(II)V"⟩, 71) := ⟨⟨by decide +kernel, by decide +kernel⟩, List.mem_of_getElem? (i := 941) (by decide +kernel), List.mem_of_getElem? (i := 1364) (by decide +kernel), List.mem_of_getElem? (i := 1365) (by decide +kernel)⟩
theorem lw_p77 : lw_okq (⟨"SearchEngineModel", "goesOn", "(IIIIII)Z"⟩, 71) := ⟨⟨by decide +kernel, by decide +kernel⟩, List.mem_of_getElem? (i := 941) (by decide +kernel), List.mem_of_getElem? (i := 1368) (by decide +kernel), List.mem_of_getElem? (i := 1369) (by decide +kernel)⟩
theorem lw_p78 : lw_okq (⟨"SearchEngineModel", "put", "(ZI)V"⟩, 71) := ⟨⟨by decide +kernel, by decide +kernel⟩, List.mem_of_getElem? (i := 941) (by decide +kernel), List.mem_of_getElem? (i := 1372) (by decide +kernel), List.mem_of_getElem? (i := 1373) (by decide +kernel)⟩
theorem lw_p79 : lw_okq (⟨"SearchEngineModel", "insert", "(II)V"⟩, 71) := ⟨⟨by decide +kernel, by decide +kernel⟩, List.mem_of_getElem? (i := 941) (by decide +kernel), List.mem_of_getElem? (i := 1376) (by decide +kernel), List.mem_of_getElem? (i := 1377) (by decide +kernel)⟩
def lw_privs_5 : List (MethodName × Nat) := [(⟨"SearchEngineModel", "endPart", "(Z)V"⟩, 71), (⟨"SearchEngineModel", "endAll", "()V"⟩, 71), (⟨"SearchEngineModel", "work", "(II)V"⟩, 71), (⟨"SearchEngineModel", "matchWord", "(II)V"⟩, 71), (⟨"SearchEngineModel", "tf", "(III)I"⟩, 71), (⟨"SearchEngineModel", "isToken", "(II)Z"⟩, 71), (⟨"SearchEngineModel", "rare", "(II)I"⟩, 71), (⟨"SearchEngineModel", "df", "(III)I"⟩, 71), (⟨"SearchEngineModel", "score", "(IIII)I"⟩, 71), (⟨"SearchEngineModel", "come", "(I)V"⟩, 71), (⟨"SearchEngineModel", "matchStarts", "(II)V"⟩, 71), (⟨"SearchEngineModel", "begins", "(II)Z"⟩, 71), (⟨"SearchEngineModel", "matchPhrase", "(II)V"⟩, 71), (⟨"SearchEngineModel", "goesOn", "(IIIIII)Z"⟩, 71), (⟨"SearchEngineModel", "put", "(ZI)V"⟩, 71), (⟨"SearchEngineModel", "insert", "(II)V"⟩, 71)]
theorem lw_r5 : ∀ q ∈ lw_privs_5, lw_okq q := List.forall_mem_cons.mpr ⟨lw_p64, List.forall_mem_cons.mpr ⟨lw_p65, List.forall_mem_cons.mpr ⟨lw_p66, List.forall_mem_cons.mpr ⟨lw_p67, List.forall_mem_cons.mpr ⟨lw_p68, List.forall_mem_cons.mpr ⟨lw_p69, List.forall_mem_cons.mpr ⟨lw_p70, List.forall_mem_cons.mpr ⟨lw_p71, List.forall_mem_cons.mpr ⟨lw_p72, List.forall_mem_cons.mpr ⟨lw_p73, List.forall_mem_cons.mpr ⟨lw_p74, List.forall_mem_cons.mpr ⟨lw_p75, List.forall_mem_cons.mpr ⟨lw_p76, List.forall_mem_cons.mpr ⟨lw_p77, List.forall_mem_cons.mpr ⟨lw_p78, List.forall_mem_cons.mpr ⟨lw_p79, fun _ h => absurd h List.not_mem_nil⟩⟩⟩⟩⟩⟩⟩⟩⟩⟩⟩⟩⟩⟩⟩⟩
theorem lw_p80 : lw_okq (⟨"SearchEngineModel", "isBefore", "(III)Z"⟩, 71) := ⟨⟨by decide +kernel, by decide +kernel⟩, List.mem_of_getElem? (i := 941) (by decide +kernel), List.mem_of_getElem? (i := 1380) (by decide +kernel), List.mem_of_getElem? (i := 1381) (by decide +kernel)⟩
theorem lw_p81 : lw_okq (⟨"SearchEngineModel", "isMarked", "(II)Z"⟩, 71) := ⟨⟨by decide +kernel, by decide +kernel⟩, List.mem_of_getElem? (i := 941) (by decide +kernel), List.mem_of_getElem? (i := 1405) (by decide +kernel), List.mem_of_getElem? (i := 1406) (by decide +kernel)⟩
theorem lw_p82 : lw_okq (⟨"SearchEngineModel", "isWord", "(I)Z"⟩, 71) := ⟨⟨by decide +kernel, by decide +kernel⟩, List.mem_of_getElem? (i := 941) (by decide +kernel), List.mem_of_getElem? (i := 1413) (by decide +kernel), List.mem_of_getElem? (i := 1414) (by decide +kernel)⟩
theorem lw_p83 : lw_okq (⟨"SearchEngineModel", "edits", "(I)I"⟩, 71) := ⟨⟨by decide +kernel, by decide +kernel⟩, List.mem_of_getElem? (i := 941) (by decide +kernel), List.mem_of_getElem? (i := 1417) (by decide +kernel), List.mem_of_getElem? (i := 1418) (by decide +kernel)⟩
theorem lw_p84 : lw_okq (⟨"SearchEngineModel", "areAlike", "(II)Z"⟩, 71) := ⟨⟨by decide +kernel, by decide +kernel⟩, List.mem_of_getElem? (i := 941) (by decide +kernel), List.mem_of_getElem? (i := 1421) (by decide +kernel), List.mem_of_getElem? (i := 1422) (by decide +kernel)⟩
theorem lw_p85 : lw_okq (⟨"SearchEngineModel", "dfOf", "(II)I"⟩, 71) := ⟨⟨by decide +kernel, by decide +kernel⟩, List.mem_of_getElem? (i := 941) (by decide +kernel), List.mem_of_getElem? (i := 1425) (by decide +kernel), List.mem_of_getElem? (i := 1426) (by decide +kernel)⟩
theorem lw_p86 : lw_okq (⟨"SearchEngineModel", "hasTerm", "(III)Z"⟩, 71) := ⟨⟨by decide +kernel, by decide +kernel⟩, List.mem_of_getElem? (i := 941) (by decide +kernel), List.mem_of_getElem? (i := 1429) (by decide +kernel), List.mem_of_getElem? (i := 1430) (by decide +kernel)⟩
theorem lw_p87 : lw_okq (⟨"SearchEngineModel", "isLess", "(II)Z"⟩, 71) := ⟨⟨by decide +kernel, by decide +kernel⟩, List.mem_of_getElem? (i := 941) (by decide +kernel), List.mem_of_getElem? (i := 1433) (by decide +kernel), List.mem_of_getElem? (i := 1434) (by decide +kernel)⟩
theorem lw_p88 : lw_okq (⟨"SearchEngineModel", "differentTerms", "(II)I"⟩, 71) := ⟨⟨by decide +kernel, by decide +kernel⟩, List.mem_of_getElem? (i := 941) (by decide +kernel), List.mem_of_getElem? (i := 1445) (by decide +kernel), List.mem_of_getElem? (i := 1446) (by decide +kernel)⟩
theorem lw_p89 : lw_okq (⟨"SearchEngineModel", "isFirst", "(IIII)Z"⟩, 71) := ⟨⟨by decide +kernel, by decide +kernel⟩, List.mem_of_getElem? (i := 941) (by decide +kernel), List.mem_of_getElem? (i := 1449) (by decide +kernel), List.mem_of_getElem? (i := 1450) (by decide +kernel)⟩
def lw_privs_6 : List (MethodName × Nat) := [(⟨"SearchEngineModel", "isBefore", "(III)Z"⟩, 71), (⟨"SearchEngineModel", "isMarked", "(II)Z"⟩, 71), (⟨"SearchEngineModel", "isWord", "(I)Z"⟩, 71), (⟨"SearchEngineModel", "edits", "(I)I"⟩, 71), (⟨"SearchEngineModel", "areAlike", "(II)Z"⟩, 71), (⟨"SearchEngineModel", "dfOf", "(II)I"⟩, 71), (⟨"SearchEngineModel", "hasTerm", "(III)Z"⟩, 71), (⟨"SearchEngineModel", "isLess", "(II)Z"⟩, 71), (⟨"SearchEngineModel", "differentTerms", "(II)I"⟩, 71), (⟨"SearchEngineModel", "isFirst", "(IIII)Z"⟩, 71)]
theorem lw_r6 : ∀ q ∈ lw_privs_6, lw_okq q := List.forall_mem_cons.mpr ⟨lw_p80, List.forall_mem_cons.mpr ⟨lw_p81, List.forall_mem_cons.mpr ⟨lw_p82, List.forall_mem_cons.mpr ⟨lw_p83, List.forall_mem_cons.mpr ⟨lw_p84, List.forall_mem_cons.mpr ⟨lw_p85, List.forall_mem_cons.mpr ⟨lw_p86, List.forall_mem_cons.mpr ⟨lw_p87, List.forall_mem_cons.mpr ⟨lw_p88, List.forall_mem_cons.mpr ⟨lw_p89, fun _ h => absurd h List.not_mem_nil⟩⟩⟩⟩⟩⟩⟩⟩⟩⟩
def lw_privs : List (MethodName × Nat) := lw_privs_1 ++ (lw_privs_2 ++ (lw_privs_3 ++ (lw_privs_4 ++ (lw_privs_5 ++ (lw_privs_6)))))
def lw_tbl : List Cond := k2_sels lw_privs ++ tables_1
theorem lw_privs_ok : ∀ q ∈ lw_privs, lw_okq q := by
  show ∀ q ∈ lw_privs_1 ++ (lw_privs_2 ++ (lw_privs_3 ++ (lw_privs_4 ++ (lw_privs_5 ++ (lw_privs_6))))), lw_okq q
  exact List.forall_mem_append.mpr ⟨lw_r1, List.forall_mem_append.mpr ⟨lw_r2, List.forall_mem_append.mpr ⟨lw_r3, List.forall_mem_append.mpr ⟨lw_r4, List.forall_mem_append.mpr ⟨lw_r5, lw_r6⟩⟩⟩⟩⟩
def RX0 : String := "SearchEngine$Answer"
def TX0 : u_T := fun k => match k with
  | 0 => ("SearchEngine$Answer", "query", "LSearchEngine$Query;", false)
  | 1 => ("SearchEngine$Answer", "view", "I", false)
  | 2 => ("SearchEngine$Answer", "documents", "[LSearchEngine$Document;", true)
  | 3 => ("SearchEngine$Answer", "scores", "[I", true)
  | _ => ("SearchEngine$Answer", "count", "I", false)
def tyX0 : Nat → FieldType := fun k => match k with
  | 0 => .object "SearchEngine$Query"
  | 1 => .int
  | 2 => .array (.object "SearchEngine$Document")
  | 3 => .array .int
  | _ => .int
theorem nmX0 : ∀ a, a < 5 → ∀ b, b < 5 → a ≠ b → (TX0 a).2.1 ≠ (TX0 b).2.1 := by decide +kernel
theorem tyX0_ok : ∀ k, k < 5 → parseFieldDescriptor (TX0 k).2.2.1 = some (tyX0 k) := by decide +kernel
abbrev cX0_init : ByteArray := prog_2_method_1_code
def yX0_init : MethodName := ⟨RX0, "<init>", "()V"⟩
abbrev cX0_begin : ByteArray := prog_2_method_2_code
def yX0_begin : MethodName := ⟨RX0, "begin", "(ILSearchEngine$Query;)V"⟩
abbrev cX0_take : ByteArray := prog_2_method_3_code
def yX0_take : MethodName := ⟨RX0, "take", "(LSearchEngine$Document;I)V"⟩
abbrev cX0_sort : ByteArray := prog_2_method_4_code
def yX0_sort : MethodName := ⟨RX0, "sort", "()V"⟩
abbrev cX0_isBefore : ByteArray := prog_2_method_5_code
def yX0_isBefore : MethodName := ⟨RX0, "isBefore", "(LSearchEngine$Document;II)Z"⟩
abbrev cX0_documentAt : ByteArray := prog_2_method_6_code
def yX0_documentAt : MethodName := ⟨RX0, "documentAt", "(I)LSearchEngine$Document;"⟩
abbrev cX0_scoreAt : ByteArray := prog_2_method_7_code
def yX0_scoreAt : MethodName := ⟨RX0, "scoreAt", "(I)I"⟩
def RX1 : String := "SearchEngine$Document"
def TX1 : u_T := fun k => match k with
  | 0 => ("SearchEngine$Document", "key", "J", true)
  | 1 => ("SearchEngine$Document", "x", "I", true)
  | 2 => ("SearchEngine$Document", "y", "I", true)
  | 3 => ("SearchEngine$Document", "number", "I", true)
  | 4 => ("SearchEngine$Document", "title", "LSearchEngine$Text;", true)
  | 5 => ("SearchEngine$Document", "body", "LSearchEngine$Text;", true)
  | _ => ("SearchEngine$Document", "deleted", "Z", false)
def tyX1 : Nat → FieldType := fun k => match k with
  | 0 => .long
  | 1 => .int
  | 2 => .int
  | 3 => .int
  | 4 => .object "SearchEngine$Text"
  | 5 => .object "SearchEngine$Text"
  | _ => .boolean
theorem nmX1 : ∀ a, a < 7 → ∀ b, b < 7 → a ≠ b → (TX1 a).2.1 ≠ (TX1 b).2.1 := by decide +kernel
theorem tyX1_ok : ∀ k, k < 7 → parseFieldDescriptor (TX1 k).2.2.1 = some (tyX1 k) := by decide +kernel
abbrev cX1_init : ByteArray := prog_3_method_1_code
def yX1_init : MethodName := ⟨RX1, "<init>", "(JIIILSearchEngine$Text;LSearchEngine$Text;)V"⟩
abbrev cX1_textOf : ByteArray := prog_3_method_2_code
def yX1_textOf : MethodName := ⟨RX1, "textOf", "(I)LSearchEngine$Text;"⟩
abbrev cX1_valueOf : ByteArray := prog_3_method_3_code
def yX1_valueOf : MethodName := ⟨RX1, "valueOf", "(I)I"⟩
abbrev cX1_isBetween : ByteArray := prog_3_method_4_code
def yX1_isBetween : MethodName := ⟨RX1, "isBetween", "(IJJ)Z"⟩
def RX2 : String := "SearchEngine$Neighbour"
def TX2 : u_T := fun k => match k with
  | 0 => ("SearchEngine$Neighbour", "found", "J", false)
  | 1 => ("SearchEngine$Neighbour", "bestEdits", "I", false)
  | 2 => ("SearchEngine$Neighbour", "bestHolders", "I", false)
  | 3 => ("SearchEngine$Neighbour", "best", "J", false)
  | 4 => ("SearchEngine$Neighbour", "wanted", "[I", true)
  | 5 => ("SearchEngine$Neighbour", "wantedLength", "I", false)
  | 6 => ("SearchEngine$Neighbour", "signs", "[I", true)
  | _ => ("SearchEngine$Neighbour", "row", "[I", true)
def tyX2 : Nat → FieldType := fun k => match k with
  | 0 => .long
  | 1 => .int
  | 2 => .int
  | 3 => .long
  | 4 => .array .int
  | 5 => .int
  | 6 => .array .int
  | _ => .array .int
theorem nmX2 : ∀ a, a < 8 → ∀ b, b < 8 → a ≠ b → (TX2 a).2.1 ≠ (TX2 b).2.1 := by decide +kernel
theorem tyX2_ok : ∀ k, k < 8 → parseFieldDescriptor (TX2 k).2.2.1 = some (tyX2 k) := by decide +kernel
abbrev cX2_init : ByteArray := prog_4_method_1_code
def yX2_init : MethodName := ⟨RX2, "<init>", "()V"⟩
abbrev cX2_lookIn : ByteArray := prog_4_method_2_code
def yX2_lookIn : MethodName := ⟨RX2, "lookIn", "(LSearchEngine$View;[BI)I"⟩
abbrev cX2_compare : ByteArray := prog_4_method_3_code
def yX2_compare : MethodName := ⟨RX2, "compare", "(JLSearchEngine$View;)V"⟩
abbrev cX2_editsTo : ByteArray := prog_4_method_4_code
def yX2_editsTo : MethodName := ⟨RX2, "editsTo", "(J)I"⟩
abbrev cX2_spell : ByteArray := prog_4_method_5_code
def yX2_spell : MethodName := ⟨RX2, "spell", "(J[I)I"⟩
abbrev cX2_byteAt : ByteArray := prog_4_method_6_code
def yX2_byteAt : MethodName := ⟨RX2, "byteAt", "(I)I"⟩
def RX3 : String := "SearchEngine$Parser"
def TX3 : u_T := fun k => match k with
  | 0 => ("SearchEngine$Parser", "tape", "[B", true)
  | 1 => ("SearchEngine$Parser", "length", "I", true)
  | 2 => ("SearchEngine$Parser", "speller", "LSearchEngine$Speller;", true)
  | 3 => ("SearchEngine$Parser", "query", "LSearchEngine$Query;", true)
  | 4 => ("SearchEngine$Parser", "kind", "I", false)
  | 5 => ("SearchEngine$Parser", "start", "I", false)
  | _ => ("SearchEngine$Parser", "end", "I", false)
def tyX3 : Nat → FieldType := fun k => match k with
  | 0 => .array .byte
  | 1 => .int
  | 2 => .object "SearchEngine$Speller"
  | 3 => .object "SearchEngine$Query"
  | 4 => .int
  | 5 => .int
  | _ => .int
theorem nmX3 : ∀ a, a < 7 → ∀ b, b < 7 → a ≠ b → (TX3 a).2.1 ≠ (TX3 b).2.1 := by decide +kernel
theorem tyX3_ok : ∀ k, k < 7 → parseFieldDescriptor (TX3 k).2.2.1 = some (tyX3 k) := by decide +kernel
abbrev cX3_init : ByteArray := prog_5_method_1_code
def yX3_init : MethodName := ⟨RX3, "<init>", "([BILSearchEngine$Speller;LSearchEngine$Query;)V"⟩
abbrev cX3_wrongPlace : ByteArray := prog_5_method_2_code
def yX3_wrongPlace : MethodName := ⟨RX3, "wrongPlace", "()I"⟩
abbrev cX3_advance : ByteArray := prog_5_method_3_code
def yX3_advance : MethodName := ⟨RX3, "advance", "()V"⟩
abbrev cX3_readAny : ByteArray := prog_5_method_4_code
def yX3_readAny : MethodName := ⟨RX3, "readAny", "(IZ)Z"⟩
abbrev cX3_beginsPart : ByteArray := prog_5_method_5_code
def yX3_beginsPart : MethodName := ⟨RX3, "beginsPart", "()Z"⟩
abbrev cX3_readPart : ByteArray := prog_5_method_6_code
def yX3_readPart : MethodName := ⟨RX3, "readPart", "(IZZ)Z"⟩
abbrev cX3_readAtom : ByteArray := prog_5_method_7_code
def yX3_readAtom : MethodName := ⟨RX3, "readAtom", "(LSearchEngine$Part;I)Z"⟩
abbrev cX3_readGroup : ByteArray := prog_5_method_8_code
def yX3_readGroup : MethodName := ⟨RX3, "readGroup", "(LSearchEngine$Part;I)Z"⟩
abbrev cX3_readRange : ByteArray := prog_5_method_9_code
def yX3_readRange : MethodName := ⟨RX3, "readRange", "(LSearchEngine$Part;)Z"⟩
abbrev cX3_readPhrase : ByteArray := prog_5_method_10_code
def yX3_readPhrase : MethodName := ⟨RX3, "readPhrase", "(LSearchEngine$Part;)Z"⟩
abbrev cX3_readWord : ByteArray := prog_5_method_11_code
def yX3_readWord : MethodName := ⟨RX3, "readWord", "(LSearchEngine$Part;)Z"⟩
abbrev cX3_fieldNamed : ByteArray := prog_5_method_12_code
def yX3_fieldNamed : MethodName := ⟨RX3, "fieldNamed", "(II)I"⟩
abbrev cX3_wordIs : ByteArray := prog_5_method_13_code
def yX3_wordIs : MethodName := ⟨RX3, "wordIs", "(IILjava/lang/String;)Z"⟩
abbrev cX3_number : ByteArray := prog_5_method_14_code
def yX3_number : MethodName := ⟨RX3, "number", "(I)I"⟩
def RX4 : String := "SearchEngine$Part"
def TX4 : u_T := fun k => match k with
  | 0 => ("SearchEngine$Part", "kind", "I", false)
  | 1 => ("SearchEngine$Part", "field", "I", false)
  | 2 => ("SearchEngine$Part", "negated", "Z", false)
  | 3 => ("SearchEngine$Part", "barred", "Z", false)
  | 4 => ("SearchEngine$Part", "startsAll", "Z", false)
  | 5 => ("SearchEngine$Part", "boost", "I", false)
  | 6 => ("SearchEngine$Part", "end", "I", false)
  | 7 => ("SearchEngine$Part", "terms", "[J", true)
  | 8 => ("SearchEngine$Part", "numbers", "[I", true)
  | 9 => ("SearchEngine$Part", "termCount", "I", false)
  | 10 => ("SearchEngine$Part", "slack", "I", false)
  | 11 => ("SearchEngine$Part", "what", "I", false)
  | 12 => ("SearchEngine$Part", "least", "J", false)
  | 13 => ("SearchEngine$Part", "greatest", "J", false)
  | _ => ("SearchEngine$Part", "rareness", "[I", true)
def tyX4 : Nat → FieldType := fun k => match k with
  | 0 => .int
  | 1 => .int
  | 2 => .boolean
  | 3 => .boolean
  | 4 => .boolean
  | 5 => .int
  | 6 => .int
  | 7 => .array .long
  | 8 => .array .int
  | 9 => .int
  | 10 => .int
  | 11 => .int
  | 12 => .long
  | 13 => .long
  | _ => .array .int
theorem nmX4 : ∀ a, a < 15 → ∀ b, b < 15 → a ≠ b → (TX4 a).2.1 ≠ (TX4 b).2.1 := by decide +kernel
theorem tyX4_ok : ∀ k, k < 15 → parseFieldDescriptor (TX4 k).2.2.1 = some (tyX4 k) := by decide +kernel
abbrev cX4_init : ByteArray := prog_6_method_1_code
def yX4_init : MethodName := ⟨RX4, "<init>", "()V"⟩
abbrev cX4_clear : ByteArray := prog_6_method_2_code
def yX4_clear : MethodName := ⟨RX4, "clear", "()V"⟩
abbrev cX4_takeTerm : ByteArray := prog_6_method_3_code
def yX4_takeTerm : MethodName := ⟨RX4, "takeTerm", "(JI)V"⟩
abbrev cX4_weigh : ByteArray := prog_6_method_4_code
def yX4_weigh : MethodName := ⟨RX4, "weigh", "(LSearchEngine$View;)V"⟩
abbrev cX4_scoreOf : ByteArray := prog_6_method_5_code
def yX4_scoreOf : MethodName := ⟨RX4, "scoreOf", "(LSearchEngine$Document;)I"⟩
abbrev cX4_isFor : ByteArray := prog_6_method_6_code
def yX4_isFor : MethodName := ⟨RX4, "isFor", "(I)Z"⟩
abbrev cX4_scoreIn : ByteArray := prog_6_method_7_code
def yX4_scoreIn : MethodName := ⟨RX4, "scoreIn", "(LSearchEngine$Text;I)I"⟩
abbrev cX4_occurrences : ByteArray := prog_6_method_8_code
def yX4_occurrences : MethodName := ⟨RX4, "occurrences", "(LSearchEngine$Text;)I"⟩
abbrev cX4_occursAt : ByteArray := prog_6_method_9_code
def yX4_occursAt : MethodName := ⟨RX4, "occursAt", "(LSearchEngine$Text;I)Z"⟩
abbrev cX4_names : ByteArray := prog_6_method_10_code
def yX4_names : MethodName := ⟨RX4, "names", "(JI)Z"⟩
def RX5 : String := "SearchEngine$Query"
def TX5 : u_T := fun k => match k with
  | 0 => ("SearchEngine$Query", "parts", "[LSearchEngine$Part;", true)
  | _ => ("SearchEngine$Query", "count", "I", false)
def tyX5 : Nat → FieldType := fun k => match k with
  | 0 => .array (.object "SearchEngine$Part")
  | _ => .int
theorem nmX5 : ∀ a, a < 2 → ∀ b, b < 2 → a ≠ b → (TX5 a).2.1 ≠ (TX5 b).2.1 := by decide +kernel
theorem tyX5_ok : ∀ k, k < 2 → parseFieldDescriptor (TX5 k).2.2.1 = some (tyX5 k) := by decide +kernel
abbrev cX5_init : ByteArray := prog_7_method_1_code
def yX5_init : MethodName := ⟨RX5, "<init>", "()V"⟩
abbrev cX5_nextPart : ByteArray := prog_7_method_2_code
def yX5_nextPart : MethodName := ⟨RX5, "nextPart", "()LSearchEngine$Part;"⟩
abbrev cX5_weigh : ByteArray := prog_7_method_3_code
def yX5_weigh : MethodName := ⟨RX5, "weigh", "(LSearchEngine$View;)V"⟩
abbrev cX5_scoreOfAny : ByteArray := prog_7_method_4_code
def yX5_scoreOfAny : MethodName := ⟨RX5, "scoreOfAny", "(IILSearchEngine$Document;I)I"⟩
abbrev cX5_scoreOfPart : ByteArray := prog_7_method_5_code
def yX5_scoreOfPart : MethodName := ⟨RX5, "scoreOfPart", "(ILSearchEngine$Document;I)I"⟩
abbrev cX5_names : ByteArray := prog_7_method_6_code
def yX5_names : MethodName := ⟨RX5, "names", "(JI)Z"⟩
def RX6 : String := "SearchEngine$Segment"
def TX6 : u_T := fun k => match k with
  | 0 => ("SearchEngine$Segment", "level", "I", true)
  | 1 => ("SearchEngine$Segment", "documents", "[LSearchEngine$Document;", true)
  | 2 => ("SearchEngine$Segment", "titleTerms", "LSearchEngine$Vocabulary;", true)
  | _ => ("SearchEngine$Segment", "bodyTerms", "LSearchEngine$Vocabulary;", true)
def tyX6 : Nat → FieldType := fun k => match k with
  | 0 => .int
  | 1 => .array (.object "SearchEngine$Document")
  | 2 => .object "SearchEngine$Vocabulary"
  | _ => .object "SearchEngine$Vocabulary"
theorem nmX6 : ∀ a, a < 4 → ∀ b, b < 4 → a ≠ b → (TX6 a).2.1 ≠ (TX6 b).2.1 := by decide +kernel
theorem tyX6_ok : ∀ k, k < 4 → parseFieldDescriptor (TX6 k).2.2.1 = some (tyX6 k) := by decide +kernel
abbrev cX6_init : ByteArray := prog_8_method_1_code
def yX6_init : MethodName := ⟨RX6, "<init>", "(I[LSearchEngine$Document;I)V"⟩
abbrev cX6_termsOf : ByteArray := prog_8_method_2_code
def yX6_termsOf : MethodName := ⟨RX6, "termsOf", "([LSearchEngine$Document;I)[J"⟩
abbrev cX6_termsOf_ : ByteArray := prog_8_method_3_code
def yX6_termsOf_ : MethodName := ⟨RX6, "termsOf", "(I)LSearchEngine$Vocabulary;"⟩
abbrev cX6_deletedDocuments : ByteArray := prog_8_method_4_code
def yX6_deletedDocuments : MethodName := ⟨RX6, "deletedDocuments", "()I"⟩
def RX7 : String := "SearchEngine$Speller"
def TX7 : u_T := fun k => match k with
  | 0 => ("SearchEngine$Speller", "stems", "Z", true)
  | 1 => ("SearchEngine$Speller", "stops", "Z", true)
  | _ => ("SearchEngine$Speller", "stopTerms", "[J", true)
def tyX7 : Nat → FieldType := fun k => match k with
  | 0 => .boolean
  | 1 => .boolean
  | _ => .array .long
theorem nmX7 : ∀ a, a < 3 → ∀ b, b < 3 → a ≠ b → (TX7 a).2.1 ≠ (TX7 b).2.1 := by decide +kernel
theorem tyX7_ok : ∀ k, k < 3 → parseFieldDescriptor (TX7 k).2.2.1 = some (tyX7 k) := by decide +kernel
abbrev cX7_init : ByteArray := prog_9_method_1_code
def yX7_init : MethodName := ⟨RX7, "<init>", "(ZZ)V"⟩
abbrev cX7_signOf : ByteArray := prog_9_method_2_code
def yX7_signOf : MethodName := ⟨RX7, "signOf", "(I)I"⟩
abbrev cX7_byteOf : ByteArray := prog_9_method_3_code
def yX7_byteOf : MethodName := ⟨RX7, "byteOf", "(I)I"⟩
abbrev cX7_wordEnd : ByteArray := prog_9_method_4_code
def yX7_wordEnd : MethodName := ⟨RX7, "wordEnd", "([BII)I"⟩
abbrev cX7_wordStart : ByteArray := prog_9_method_5_code
def yX7_wordStart : MethodName := ⟨RX7, "wordStart", "([BII)I"⟩
abbrev cX7_isWord : ByteArray := prog_9_method_6_code
def yX7_isWord : MethodName := ⟨RX7, "isWord", "([BI)Z"⟩
abbrev cX7_termOf : ByteArray := prog_9_method_7_code
def yX7_termOf : MethodName := ⟨RX7, "termOf", "([BII)J"⟩
abbrev cX7_leastBeginning : ByteArray := prog_9_method_8_code
def yX7_leastBeginning : MethodName := ⟨RX7, "leastBeginning", "([BII)J"⟩
abbrev cX7_greatestBeginning : ByteArray := prog_9_method_9_code
def yX7_greatestBeginning : MethodName := ⟨RX7, "greatestBeginning", "([BII)J"⟩
abbrev cX7_isS : ByteArray := prog_9_method_10_code
def yX7_isS : MethodName := ⟨RX7, "isS", "([BI)Z"⟩
abbrev cX7_signsOf : ByteArray := prog_9_method_11_code
def yX7_signsOf : MethodName := ⟨RX7, "signsOf", "([BII)J"⟩
abbrev cX7_padded : ByteArray := prog_9_method_12_code
def yX7_padded : MethodName := ⟨RX7, "padded", "(JI)J"⟩
abbrev cX7_isStop : ByteArray := prog_9_method_13_code
def yX7_isStop : MethodName := ⟨RX7, "isStop", "(J)Z"⟩
def RX8 : String := "SearchEngine$Text"
def TX8 : u_T := fun k => match k with
  | 0 => ("SearchEngine$Text", "starts", "[I", true)
  | 1 => ("SearchEngine$Text", "lengths", "[I", true)
  | 2 => ("SearchEngine$Text", "terms", "[J", true)
  | _ => ("SearchEngine$Text", "vocabulary", "LSearchEngine$Vocabulary;", true)
def tyX8 : Nat → FieldType := fun k => match k with
  | 0 => .array .int
  | 1 => .array .int
  | 2 => .array .long
  | _ => .object "SearchEngine$Vocabulary"
theorem nmX8 : ∀ a, a < 4 → ∀ b, b < 4 → a ≠ b → (TX8 a).2.1 ≠ (TX8 b).2.1 := by decide +kernel
theorem tyX8_ok : ∀ k, k < 4 → parseFieldDescriptor (TX8 k).2.2.1 = some (tyX8 k) := by decide +kernel
abbrev cX8_init : ByteArray := prog_10_method_1_code
def yX8_init : MethodName := ⟨RX8, "<init>", "([BIILSearchEngine$Speller;)V"⟩
abbrev cX8_countTokens : ByteArray := prog_10_method_2_code
def yX8_countTokens : MethodName := ⟨RX8, "countTokens", "([BII)I"⟩
abbrev cX8_tokens : ByteArray := prog_10_method_3_code
def yX8_tokens : MethodName := ⟨RX8, "tokens", "()I"⟩
abbrev cX8_startAt : ByteArray := prog_10_method_4_code
def yX8_startAt : MethodName := ⟨RX8, "startAt", "(I)I"⟩
abbrev cX8_lengthAt : ByteArray := prog_10_method_5_code
def yX8_lengthAt : MethodName := ⟨RX8, "lengthAt", "(I)I"⟩
abbrev cX8_termAt : ByteArray := prog_10_method_6_code
def yX8_termAt : MethodName := ⟨RX8, "termAt", "(I)J"⟩
abbrev cX8_positionOf : ByteArray := prog_10_method_7_code
def yX8_positionOf : MethodName := ⟨RX8, "positionOf", "(JII)I"⟩
def RX9 : String := "SearchEngine$View"
def TX9 : u_T := fun k => match k with
  | 0 => ("SearchEngine$View", "inUse", "Z", false)
  | 1 => ("SearchEngine$View", "segments", "[LSearchEngine$Segment;", true)
  | 2 => ("SearchEngine$View", "segmentCount", "I", false)
  | 3 => ("SearchEngine$View", "documents", "[LSearchEngine$Document;", true)
  | 4 => ("SearchEngine$View", "dead", "[Z", true)
  | 5 => ("SearchEngine$View", "count", "I", false)
  | _ => ("SearchEngine$View", "liveCount", "I", false)
def tyX9 : Nat → FieldType := fun k => match k with
  | 0 => .boolean
  | 1 => .array (.object "SearchEngine$Segment")
  | 2 => .int
  | 3 => .array (.object "SearchEngine$Document")
  | 4 => .array .boolean
  | 5 => .int
  | _ => .int
theorem nmX9 : ∀ a, a < 7 → ∀ b, b < 7 → a ≠ b → (TX9 a).2.1 ≠ (TX9 b).2.1 := by decide +kernel
theorem tyX9_ok : ∀ k, k < 7 → parseFieldDescriptor (TX9 k).2.2.1 = some (tyX9 k) := by decide +kernel
abbrev cX9_init : ByteArray := prog_11_method_1_code
def yX9_init : MethodName := ⟨RX9, "<init>", "()V"⟩
abbrev cX9_take : ByteArray := prog_11_method_2_code
def yX9_take : MethodName := ⟨RX9, "take", "([LSearchEngine$Segment;I)V"⟩
abbrev cX9_takeDocuments : ByteArray := prog_11_method_3_code
def yX9_takeDocuments : MethodName := ⟨RX9, "takeDocuments", "([LSearchEngine$Document;)V"⟩
abbrev cX9_liveAt : ByteArray := prog_11_method_4_code
def yX9_liveAt : MethodName := ⟨RX9, "liveAt", "(I)LSearchEngine$Document;"⟩
abbrev cX9_termsOf : ByteArray := prog_11_method_5_code
def yX9_termsOf : MethodName := ⟨RX9, "termsOf", "(II)LSearchEngine$Vocabulary;"⟩
abbrev cX9_holders : ByteArray := prog_11_method_6_code
def yX9_holders : MethodName := ⟨RX9, "holders", "(IJ)I"⟩
abbrev cX9_rareness : ByteArray := prog_11_method_7_code
def yX9_rareness : MethodName := ⟨RX9, "rareness", "(IJ)I"⟩
def RX10 : String := "SearchEngine$Vocabulary"
def TX10 : u_T := fun k => match k with
  | 0 => ("SearchEngine$Vocabulary", "terms", "[J", true)
  | _ => ("SearchEngine$Vocabulary", "counts", "[I", true)
def tyX10 : Nat → FieldType := fun k => match k with
  | 0 => .array .long
  | _ => .array .int
theorem nmX10 : ∀ a, a < 2 → ∀ b, b < 2 → a ≠ b → (TX10 a).2.1 ≠ (TX10 b).2.1 := by decide +kernel
theorem tyX10_ok : ∀ k, k < 2 → parseFieldDescriptor (TX10 k).2.2.1 = some (tyX10 k) := by decide +kernel
abbrev cX10_init : ByteArray := prog_12_method_1_code
def yX10_init : MethodName := ⟨RX10, "<init>", "([J)V"⟩
abbrev cX10_isFirst : ByteArray := prog_12_method_2_code
def yX10_isFirst : MethodName := ⟨RX10, "isFirst", "([JI)Z"⟩
abbrev cX10_sort : ByteArray := prog_12_method_3_code
def yX10_sort : MethodName := ⟨RX10, "sort", "([J)V"⟩
abbrev cX10_size : ByteArray := prog_12_method_4_code
def yX10_size : MethodName := ⟨RX10, "size", "()I"⟩
abbrev cX10_termAt : ByteArray := prog_12_method_5_code
def yX10_termAt : MethodName := ⟨RX10, "termAt", "(I)J"⟩
abbrev cX10_countOf : ByteArray := prog_12_method_6_code
def yX10_countOf : MethodName := ⟨RX10, "countOf", "(J)I"⟩
abbrev cX10_hasBetween : ByteArray := prog_12_method_7_code
def yX10_hasBetween : MethodName := ⟨RX10, "hasBetween", "(JJ)Z"⟩
abbrev cX10_placeOf : ByteArray := prog_12_method_8_code
def yX10_placeOf : MethodName := ⟨RX10, "placeOf", "(J)I"⟩
def RX11 : String := "SearchEngine"
def TX11 : u_T := fun k => match k with
  | 0 => ("SearchEngine", "speller", "LSearchEngine$Speller;", true)
  | 1 => ("SearchEngine", "tape", "[B", true)
  | 2 => ("SearchEngine", "tapeLength", "I", false)
  | 3 => ("SearchEngine", "documents", "[LSearchEngine$Document;", true)
  | 4 => ("SearchEngine", "added", "I", false)
  | 5 => ("SearchEngine", "bufferStart", "I", false)
  | 6 => ("SearchEngine", "segments", "[LSearchEngine$Segment;", true)
  | 7 => ("SearchEngine", "segmentCount", "I", false)
  | 8 => ("SearchEngine", "merges", "I", false)
  | 9 => ("SearchEngine", "gathered", "[LSearchEngine$Document;", true)
  | 10 => ("SearchEngine", "gatheredCount", "I", false)
  | 11 => ("SearchEngine", "views", "[LSearchEngine$View;", true)
  | 12 => ("SearchEngine", "answer", "LSearchEngine$Answer;", true)
  | 13 => ("SearchEngine", "spareQuery", "LSearchEngine$Query;", false)
  | _ => ("SearchEngine", "neighbour", "LSearchEngine$Neighbour;", true)
def tyX11 : Nat → FieldType := fun k => match k with
  | 0 => .object "SearchEngine$Speller"
  | 1 => .array .byte
  | 2 => .int
  | 3 => .array (.object "SearchEngine$Document")
  | 4 => .int
  | 5 => .int
  | 6 => .array (.object "SearchEngine$Segment")
  | 7 => .int
  | 8 => .int
  | 9 => .array (.object "SearchEngine$Document")
  | 10 => .int
  | 11 => .array (.object "SearchEngine$View")
  | 12 => .object "SearchEngine$Answer"
  | 13 => .object "SearchEngine$Query"
  | _ => .object "SearchEngine$Neighbour"
theorem nmX11 : ∀ a, a < 15 → ∀ b, b < 15 → a ≠ b → (TX11 a).2.1 ≠ (TX11 b).2.1 := by decide +kernel
theorem tyX11_ok : ∀ k, k < 15 → parseFieldDescriptor (TX11 k).2.2.1 = some (tyX11 k) := by decide +kernel
abbrev cX11_init : ByteArray := prog_1_method_1_code
def yX11_init : MethodName := ⟨RX11, "<init>", "(I)V"⟩
abbrev cX11_feed : ByteArray := prog_1_method_2_code
def yX11_feed : MethodName := ⟨RX11, "feed", "(JJI)I"⟩
abbrev cX11_add : ByteArray := prog_1_method_3_code
def yX11_add : MethodName := ⟨RX11, "add", "(JII)I"⟩
abbrev cX11_delete : ByteArray := prog_1_method_4_code
def yX11_delete : MethodName := ⟨RX11, "delete", "(J)Z"⟩
abbrev cX11_refresh : ByteArray := prog_1_method_5_code
def yX11_refresh : MethodName := ⟨RX11, "refresh", "()I"⟩
abbrev cX11_open : ByteArray := prog_1_method_6_code
def yX11_open : MethodName := ⟨RX11, "open", "()I"⟩
abbrev cX11_close : ByteArray := prog_1_method_7_code
def yX11_close : MethodName := ⟨RX11, "close", "(I)I"⟩
abbrev cX11_search : ByteArray := prog_1_method_8_code
def yX11_search : MethodName := ⟨RX11, "search", "(I)I"⟩
abbrev cX11_key : ByteArray := prog_1_method_9_code
def yX11_key : MethodName := ⟨RX11, "key", "(I)J"⟩
abbrev cX11_hit : ByteArray := prog_1_method_10_code
def yX11_hit : MethodName := ⟨RX11, "hit", "(II)I"⟩
abbrev cX11_bucket : ByteArray := prog_1_method_11_code
def yX11_bucket : MethodName := ⟨RX11, "bucket", "(III)I"⟩
abbrev cX11_over : ByteArray := prog_1_method_12_code
def yX11_over : MethodName := ⟨RX11, "over", "(II)J"⟩
abbrev cX11_mark : ByteArray := prog_1_method_13_code
def yX11_mark : MethodName := ⟨RX11, "mark", "(IIZ)I"⟩
abbrev cX11_near : ByteArray := prog_1_method_14_code
def yX11_near : MethodName := ⟨RX11, "near", "(I)I"⟩
abbrev cX11_nearByte : ByteArray := prog_1_method_15_code
def yX11_nearByte : MethodName := ⟨RX11, "nearByte", "(I)I"⟩
abbrev cX11_segment : ByteArray := prog_1_method_16_code
def yX11_segment : MethodName := ⟨RX11, "segment", "(II)I"⟩
abbrev cX11_view : ByteArray := prog_1_method_17_code
def yX11_view : MethodName := ⟨RX11, "view", "(II)I"⟩
abbrev cX11_frequency : ByteArray := prog_1_method_18_code
def yX11_frequency : MethodName := ⟨RX11, "frequency", "(II)I"⟩
abbrev cX11_told : ByteArray := prog_1_method_19_code
def yX11_told : MethodName := ⟨RX11, "told", "(I)I"⟩
abbrev cX11_takeTape : ByteArray := prog_1_method_20_code
def yX11_takeTape : MethodName := ⟨RX11, "takeTape", "()I"⟩
abbrev cX11_firstZero : ByteArray := prog_1_method_21_code
def yX11_firstZero : MethodName := ⟨RX11, "firstZero", "(I)I"⟩
abbrev cX11_drop : ByteArray := prog_1_method_22_code
def yX11_drop : MethodName := ⟨RX11, "drop", "(J)Z"⟩
abbrev cX11_documentAt : ByteArray := prog_1_method_23_code
def yX11_documentAt : MethodName := ⟨RX11, "documentAt", "(I)LSearchEngine$Document;"⟩
abbrev cX11_isLive : ByteArray := prog_1_method_24_code
def yX11_isLive : MethodName := ⟨RX11, "isLive", "(LSearchEngine$Document;)Z"⟩
abbrev cX11_segmentAt : ByteArray := prog_1_method_25_code
def yX11_segmentAt : MethodName := ⟨RX11, "segmentAt", "(I)LSearchEngine$Segment;"⟩
abbrev cX11_liveInBuffer : ByteArray := prog_1_method_26_code
def yX11_liveInBuffer : MethodName := ⟨RX11, "liveInBuffer", "()I"⟩
abbrev cX11_flush : ByteArray := prog_1_method_27_code
def yX11_flush : MethodName := ⟨RX11, "flush", "()V"⟩
abbrev cX11_gather : ByteArray := prog_1_method_28_code
def yX11_gather : MethodName := ⟨RX11, "gather", "(LSearchEngine$Document;)V"⟩
abbrev cX11_leastFullLevel : ByteArray := prog_1_method_29_code
def yX11_leastFullLevel : MethodName := ⟨RX11, "leastFullLevel", "()I"⟩
abbrev cX11_mergeFirst : ByteArray := prog_1_method_30_code
def yX11_mergeFirst : MethodName := ⟨RX11, "mergeFirst", "(I)V"⟩
abbrev cX11_gatherAll : ByteArray := prog_1_method_31_code
def yX11_gatherAll : MethodName := ⟨RX11, "gatherAll", "(LSearchEngine$Segment;)V"⟩
abbrev cX11_removeSegment : ByteArray := prog_1_method_32_code
def yX11_removeSegment : MethodName := ⟨RX11, "removeSegment", "(I)V"⟩
abbrev cX11_viewAt : ByteArray := prog_1_method_33_code
def yX11_viewAt : MethodName := ⟨RX11, "viewAt", "(I)LSearchEngine$View;"⟩
abbrev cX11_openViews : ByteArray := prog_1_method_34_code
def yX11_openViews : MethodName := ⟨RX11, "openViews", "()I"⟩
abbrev cX11_capped : ByteArray := prog_1_method_35_code
def yX11_capped : MethodName := ⟨RX11, "capped", "(J)I"⟩
abbrev cX11_eitherScore : ByteArray := prog_1_method_36_code
def yX11_eitherScore : MethodName := ⟨RX11, "eitherScore", "(II)I"⟩
abbrev cX11_bothScore : ByteArray := prog_1_method_37_code
def yX11_bothScore : MethodName := ⟨RX11, "bothScore", "(II)I"⟩
def RX12 : String := "SearchEngineModel"
def TX12 : u_T := fun k => match k with
  | 0 => ("SearchEngineModel", "stems", "Z", true)
  | 1 => ("SearchEngineModel", "stops", "Z", true)
  | 2 => ("SearchEngineModel", "tape", "[I", true)
  | 3 => ("SearchEngineModel", "size", "I", false)
  | 4 => ("SearchEngineModel", "added", "I", false)
  | 5 => ("SearchEngineModel", "keys", "[J", true)
  | 6 => ("SearchEngineModel", "xs", "[I", true)
  | 7 => ("SearchEngineModel", "ys", "[I", true)
  | 8 => ("SearchEngineModel", "deleted", "[Z", true)
  | 9 => ("SearchEngineModel", "many", "[I", true)
  | 10 => ("SearchEngineModel", "from", "[I", true)
  | 11 => ("SearchEngineModel", "length", "[I", true)
  | 12 => ("SearchEngineModel", "termSize", "[I", true)
  | 13 => ("SearchEngineModel", "terms", "[I", true)
  | 14 => ("SearchEngineModel", "buffer", "[I", true)
  | 15 => ("SearchEngineModel", "buffered", "I", false)
  | 16 => ("SearchEngineModel", "segments", "I", false)
  | 17 => ("SearchEngineModel", "level", "[I", true)
  | 18 => ("SearchEngineModel", "count", "[I", true)
  | 19 => ("SearchEngineModel", "docs", "[I", true)
  | 20 => ("SearchEngineModel", "merges", "I", false)
  | 21 => ("SearchEngineModel", "isOpen", "[Z", true)
  | 22 => ("SearchEngineModel", "viewSegments", "[I", true)
  | 23 => ("SearchEngineModel", "viewMany", "[I", true)
  | 24 => ("SearchEngineModel", "viewDocs", "[I", true)
  | 25 => ("SearchEngineModel", "dead", "[Z", true)
  | 26 => ("SearchEngineModel", "hits", "I", false)
  | 27 => ("SearchEngineModel", "answerView", "I", false)
  | 28 => ("SearchEngineModel", "hitDoc", "[I", true)
  | 29 => ("SearchEngineModel", "hitScore", "[I", true)
  | 30 => ("SearchEngineModel", "marks", "I", false)
  | 31 => ("SearchEngineModel", "markKind", "[I", true)
  | 32 => ("SearchEngineModel", "markField", "[I", true)
  | 33 => ("SearchEngineModel", "markSize", "[I", true)
  | 34 => ("SearchEngineModel", "markBytes", "[I", true)
  | 35 => ("SearchEngineModel", "nearSize", "I", false)
  | 36 => ("SearchEngineModel", "nearBytes", "[I", true)
  | 37 => ("SearchEngineModel", "term", "[I", true)
  | 38 => ("SearchEngineModel", "termMany", "I", false)
  | 39 => ("SearchEngineModel", "joined", "[I", true)
  | 40 => ("SearchEngineModel", "piece", "I", false)
  | 41 => ("SearchEngineModel", "pieceAt", "I", false)
  | 42 => ("SearchEngineModel", "pieceSize", "I", false)
  | 43 => ("SearchEngineModel", "next", "I", false)
  | 44 => ("SearchEngineModel", "end", "I", false)
  | 45 => ("SearchEngineModel", "wrong", "I", false)
  | 46 => ("SearchEngineModel", "op", "[I", true)
  | 47 => ("SearchEngineModel", "opField", "[I", true)
  | 48 => ("SearchEngineModel", "opA", "[I", true)
  | 49 => ("SearchEngineModel", "opB", "[I", true)
  | 50 => ("SearchEngineModel", "ops", "I", false)
  | 51 => ("SearchEngineModel", "words", "I", false)
  | 52 => ("SearchEngineModel", "wordSize", "[I", true)
  | 53 => ("SearchEngineModel", "wordBytes", "[I", true)
  | 54 => ("SearchEngineModel", "wordNumber", "[I", true)
  | 55 => ("SearchEngineModel", "parts", "[I", true)
  | 56 => ("SearchEngineModel", "alls", "[I", true)
  | 57 => ("SearchEngineModel", "minus", "[Z", true)
  | 58 => ("SearchEngineModel", "depth", "I", false)
  | 59 => ("SearchEngineModel", "allParts", "I", false)
  | 60 => ("SearchEngineModel", "newKind", "[I", true)
  | 61 => ("SearchEngineModel", "newField", "[I", true)
  | 62 => ("SearchEngineModel", "newWord", "[I", true)
  | 63 => ("SearchEngineModel", "view", "I", false)
  | 64 => ("SearchEngineModel", "isMatch", "Z", false)
  | 65 => ("SearchEngineModel", "sum", "J", false)
  | 66 => ("SearchEngineModel", "matches", "[Z", true)
  | 67 => ("SearchEngineModel", "scores", "[I", true)
  | 68 => ("SearchEngineModel", "height", "I", false)
  | 69 => ("SearchEngineModel", "row", "[I", true)
  | _ => ("SearchEngineModel", "above", "[I", true)
def tyX12 : Nat → FieldType := fun k => match k with
  | 0 => .boolean
  | 1 => .boolean
  | 2 => .array .int
  | 3 => .int
  | 4 => .int
  | 5 => .array .long
  | 6 => .array .int
  | 7 => .array .int
  | 8 => .array .boolean
  | 9 => .array .int
  | 10 => .array .int
  | 11 => .array .int
  | 12 => .array .int
  | 13 => .array .int
  | 14 => .array .int
  | 15 => .int
  | 16 => .int
  | 17 => .array .int
  | 18 => .array .int
  | 19 => .array .int
  | 20 => .int
  | 21 => .array .boolean
  | 22 => .array .int
  | 23 => .array .int
  | 24 => .array .int
  | 25 => .array .boolean
  | 26 => .int
  | 27 => .int
  | 28 => .array .int
  | 29 => .array .int
  | 30 => .int
  | 31 => .array .int
  | 32 => .array .int
  | 33 => .array .int
  | 34 => .array .int
  | 35 => .int
  | 36 => .array .int
  | 37 => .array .int
  | 38 => .int
  | 39 => .array .int
  | 40 => .int
  | 41 => .int
  | 42 => .int
  | 43 => .int
  | 44 => .int
  | 45 => .int
  | 46 => .array .int
  | 47 => .array .int
  | 48 => .array .int
  | 49 => .array .int
  | 50 => .int
  | 51 => .int
  | 52 => .array .int
  | 53 => .array .int
  | 54 => .array .int
  | 55 => .array .int
  | 56 => .array .int
  | 57 => .array .boolean
  | 58 => .int
  | 59 => .int
  | 60 => .array .int
  | 61 => .array .int
  | 62 => .array .int
  | 63 => .int
  | 64 => .boolean
  | 65 => .long
  | 66 => .array .boolean
  | 67 => .array .int
  | 68 => .int
  | 69 => .array .int
  | _ => .array .int
theorem nmX12 : ∀ a, a < 71 → ∀ b, b < 71 → a ≠ b → (TX12 a).2.1 ≠ (TX12 b).2.1 := by decide +kernel
theorem tyX12_ok : ∀ k, k < 71 → parseFieldDescriptor (TX12 k).2.2.1 = some (tyX12 k) := by decide +kernel
abbrev cX12_init : ByteArray := prog_14_method_1_code
def yX12_init : MethodName := ⟨RX12, "<init>", "(I)V"⟩
abbrev cX12_in : ByteArray := prog_14_method_2_code
def yX12_in : MethodName := ⟨RX12, "in", "(III)Z"⟩
abbrev cX12_isLetter : ByteArray := prog_14_method_3_code
def yX12_isLetter : MethodName := ⟨RX12, "isLetter", "(I)Z"⟩
abbrev cX12_lower : ByteArray := prog_14_method_4_code
def yX12_lower : MethodName := ⟨RX12, "lower", "(I)I"⟩
abbrev cX12_feed : ByteArray := prog_14_method_5_code
def yX12_feed : MethodName := ⟨RX12, "feed", "(JJI)I"⟩
abbrev cX12_small : ByteArray := prog_14_method_6_code
def yX12_small : MethodName := ⟨RX12, "small", "(II)V"⟩
abbrev cX12_isTerm : ByteArray := prog_14_method_7_code
def yX12_isTerm : MethodName := ⟨RX12, "isTerm", "(III)Z"⟩
abbrev cX12_makeTerm : ByteArray := prog_14_method_8_code
def yX12_makeTerm : MethodName := ⟨RX12, "makeTerm", "(II)V"⟩
abbrev cX12_base : ByteArray := prog_14_method_9_code
def yX12_base : MethodName := ⟨RX12, "base", "(II)I"⟩
abbrev cX12_tokens : ByteArray := prog_14_method_10_code
def yX12_tokens : MethodName := ⟨RX12, "tokens", "(IIII)V"⟩
abbrev cX12_find : ByteArray := prog_14_method_11_code
def yX12_find : MethodName := ⟨RX12, "find", "(J)I"⟩
abbrev cX12_add : ByteArray := prog_14_method_12_code
def yX12_add : MethodName := ⟨RX12, "add", "(JII)I"⟩
abbrev cX12_inBuffer : ByteArray := prog_14_method_13_code
def yX12_inBuffer : MethodName := ⟨RX12, "inBuffer", "()I"⟩
abbrev cX12_delete : ByteArray := prog_14_method_14_code
def yX12_delete : MethodName := ⟨RX12, "delete", "(J)Z"⟩
abbrev cX12_refresh : ByteArray := prog_14_method_15_code
def yX12_refresh : MethodName := ⟨RX12, "refresh", "()I"⟩
abbrev cX12_put : ByteArray := prog_14_method_16_code
def yX12_put : MethodName := ⟨RX12, "put", "(II)V"⟩
abbrev cX12_fourOf : ByteArray := prog_14_method_17_code
def yX12_fourOf : MethodName := ⟨RX12, "fourOf", "()I"⟩
abbrev cX12_merge : ByteArray := prog_14_method_18_code
def yX12_merge : MethodName := ⟨RX12, "merge", "(I)V"⟩
abbrev cX12_move : ByteArray := prog_14_method_19_code
def yX12_move : MethodName := ⟨RX12, "move", "(II)V"⟩
abbrev cX12_isView : ByteArray := prog_14_method_20_code
def yX12_isView : MethodName := ⟨RX12, "isView", "(I)Z"⟩
abbrev cX12_open : ByteArray := prog_14_method_21_code
def yX12_open : MethodName := ⟨RX12, "open", "()I"⟩
abbrev cX12_close : ByteArray := prog_14_method_22_code
def yX12_close : MethodName := ⟨RX12, "close", "(I)I"⟩
abbrev cX12_read : ByteArray := prog_14_method_23_code
def yX12_read : MethodName := ⟨RX12, "read", "()V"⟩
abbrev cX12_fails : ByteArray := prog_14_method_24_code
def yX12_fails : MethodName := ⟨RX12, "fails", "()Z"⟩
abbrev cX12_isField : ByteArray := prog_14_method_25_code
def yX12_isField : MethodName := ⟨RX12, "isField", "()Z"⟩
abbrev cX12_emit : ByteArray := prog_14_method_26_code
def yX12_emit : MethodName := ⟨RX12, "emit", "(IIII)V"⟩
abbrev cX12_word : ByteArray := prog_14_method_27_code
def yX12_word : MethodName := ⟨RX12, "word", "(IZ)V"⟩
abbrev cX12_digit : ByteArray := prog_14_method_28_code
def yX12_digit : MethodName := ⟨RX12, "digit", "(I)I"⟩
abbrev cX12_range : ByteArray := prog_14_method_29_code
def yX12_range : MethodName := ⟨RX12, "range", "()Z"⟩
abbrev cX12_number : ByteArray := prog_14_method_30_code
def yX12_number : MethodName := ⟨RX12, "number", "()I"⟩
abbrev cX12_atom : ByteArray := prog_14_method_31_code
def yX12_atom : MethodName := ⟨RX12, "atom", "()Z"⟩
abbrev cX12_phrase : ByteArray := prog_14_method_32_code
def yX12_phrase : MethodName := ⟨RX12, "phrase", "(I)Z"⟩
abbrev cX12_endPart : ByteArray := prog_14_method_33_code
def yX12_endPart : MethodName := ⟨RX12, "endPart", "(Z)V"⟩
abbrev cX12_endAll : ByteArray := prog_14_method_34_code
def yX12_endAll : MethodName := ⟨RX12, "endAll", "()V"⟩
abbrev cX12_beginsPart : ByteArray := prog_14_method_35_code
def yX12_beginsPart : MethodName := ⟨RX12, "beginsPart", "()Z"⟩
abbrev cX12_readQuery : ByteArray := prog_14_method_36_code
def yX12_readQuery : MethodName := ⟨RX12, "readQuery", "()V"⟩
abbrev cX12_part : ByteArray := prog_14_method_37_code
def yX12_part : MethodName := ⟨RX12, "part", "()Z"⟩
abbrev cX12_isWithinMinus : ByteArray := prog_14_method_38_code
def yX12_isWithinMinus : MethodName := ⟨RX12, "isWithinMinus", "()Z"⟩
abbrev cX12_mark : ByteArray := prog_14_method_39_code
def yX12_mark : MethodName := ⟨RX12, "mark", "(I)V"⟩
abbrev cX12_isToken : ByteArray := prog_14_method_40_code
def yX12_isToken : MethodName := ⟨RX12, "isToken", "(II)Z"⟩
abbrev cX12_begins : ByteArray := prog_14_method_41_code
def yX12_begins : MethodName := ⟨RX12, "begins", "(II)Z"⟩
abbrev cX12_tf : ByteArray := prog_14_method_42_code
def yX12_tf : MethodName := ⟨RX12, "tf", "(III)I"⟩
abbrev cX12_df : ByteArray := prog_14_method_43_code
def yX12_df : MethodName := ⟨RX12, "df", "(III)I"⟩
abbrev cX12_rare : ByteArray := prog_14_method_44_code
def yX12_rare : MethodName := ⟨RX12, "rare", "(II)I"⟩
abbrev cX12_least : ByteArray := prog_14_method_45_code
def yX12_least : MethodName := ⟨RX12, "least", "(J)I"⟩
abbrev cX12_score : ByteArray := prog_14_method_46_code
def yX12_score : MethodName := ⟨RX12, "score", "(IIII)I"⟩
abbrev cX12_come : ByteArray := prog_14_method_47_code
def yX12_come : MethodName := ⟨RX12, "come", "(I)V"⟩
abbrev cX12_matchWord : ByteArray := prog_14_method_48_code
def yX12_matchWord : MethodName := ⟨RX12, "matchWord", "(II)V"⟩
abbrev cX12_matchStarts : ByteArray := prog_14_method_49_code
def yX12_matchStarts : MethodName := ⟨RX12, "matchStarts", "(II)V"⟩
abbrev cX12_matchPhrase : ByteArray := prog_14_method_50_code
def yX12_matchPhrase : MethodName := ⟨RX12, "matchPhrase", "(II)V"⟩
abbrev cX12_goesOn : ByteArray := prog_14_method_51_code
def yX12_goesOn : MethodName := ⟨RX12, "goesOn", "(IIIIII)Z"⟩
abbrev cX12_put_ : ByteArray := prog_14_method_52_code
def yX12_put_ : MethodName := ⟨RX12, "put", "(ZI)V"⟩
abbrev cX12_work : ByteArray := prog_14_method_53_code
def yX12_work : MethodName := ⟨RX12, "work", "(II)V"⟩
abbrev cX12_search : ByteArray := prog_14_method_54_code
def yX12_search : MethodName := ⟨RX12, "search", "(I)I"⟩
abbrev cX12_isBefore : ByteArray := prog_14_method_55_code
def yX12_isBefore : MethodName := ⟨RX12, "isBefore", "(III)Z"⟩
abbrev cX12_insert : ByteArray := prog_14_method_56_code
def yX12_insert : MethodName := ⟨RX12, "insert", "(II)V"⟩
abbrev cX12_key : ByteArray := prog_14_method_57_code
def yX12_key : MethodName := ⟨RX12, "key", "(I)J"⟩
abbrev cX12_hit : ByteArray := prog_14_method_58_code
def yX12_hit : MethodName := ⟨RX12, "hit", "(II)I"⟩
abbrev cX12_bucket : ByteArray := prog_14_method_59_code
def yX12_bucket : MethodName := ⟨RX12, "bucket", "(III)I"⟩
abbrev cX12_over : ByteArray := prog_14_method_60_code
def yX12_over : MethodName := ⟨RX12, "over", "(II)J"⟩
abbrev cX12_isMarked : ByteArray := prog_14_method_61_code
def yX12_isMarked : MethodName := ⟨RX12, "isMarked", "(II)Z"⟩
abbrev cX12_mark_ : ByteArray := prog_14_method_62_code
def yX12_mark_ : MethodName := ⟨RX12, "mark", "(IIZ)I"⟩
abbrev cX12_isWord : ByteArray := prog_14_method_63_code
def yX12_isWord : MethodName := ⟨RX12, "isWord", "(I)Z"⟩
abbrev cX12_edits : ByteArray := prog_14_method_64_code
def yX12_edits : MethodName := ⟨RX12, "edits", "(I)I"⟩
abbrev cX12_areAlike : ByteArray := prog_14_method_65_code
def yX12_areAlike : MethodName := ⟨RX12, "areAlike", "(II)Z"⟩
abbrev cX12_isLess : ByteArray := prog_14_method_66_code
def yX12_isLess : MethodName := ⟨RX12, "isLess", "(II)Z"⟩
abbrev cX12_hasTerm : ByteArray := prog_14_method_67_code
def yX12_hasTerm : MethodName := ⟨RX12, "hasTerm", "(III)Z"⟩
abbrev cX12_dfOf : ByteArray := prog_14_method_68_code
def yX12_dfOf : MethodName := ⟨RX12, "dfOf", "(II)I"⟩
abbrev cX12_near : ByteArray := prog_14_method_69_code
def yX12_near : MethodName := ⟨RX12, "near", "(I)I"⟩
abbrev cX12_nearByte : ByteArray := prog_14_method_70_code
def yX12_nearByte : MethodName := ⟨RX12, "nearByte", "(I)I"⟩
abbrev cX12_segment : ByteArray := prog_14_method_71_code
def yX12_segment : MethodName := ⟨RX12, "segment", "(II)I"⟩
abbrev cX12_differentTerms : ByteArray := prog_14_method_72_code
def yX12_differentTerms : MethodName := ⟨RX12, "differentTerms", "(II)I"⟩
abbrev cX12_isFirst : ByteArray := prog_14_method_73_code
def yX12_isFirst : MethodName := ⟨RX12, "isFirst", "(IIII)Z"⟩
abbrev cX12_view : ByteArray := prog_14_method_74_code
def yX12_view : MethodName := ⟨RX12, "view", "(II)I"⟩
abbrev cX12_frequency : ByteArray := prog_14_method_75_code
def yX12_frequency : MethodName := ⟨RX12, "frequency", "(II)I"⟩
abbrev cX12_told : ByteArray := prog_14_method_76_code
def yX12_told : MethodName := ⟨RX12, "told", "(I)I"⟩
def RL : String := "SearchEngineLaw"
abbrev cL_cell : ByteArray := method_2_code
def yL_cell : MethodName := ⟨RL, "cell", "([II)I"⟩
abbrev cL_law : ByteArray := code
def yL_law : MethodName := ⟨RL, "law", "([I)Z"⟩
abbrev vwCl : List vw_C := [(RX0, TX0, 5), (RX1, TX1, 7), (RX2, TX2, 8), (RX3, TX3, 7), (RX4, TX4, 15), (RX5, TX5, 2), (RX6, TX6, 4), (RX7, TX7, 3), (RX8, TX8, 4), (RX9, TX9, 7), (RX10, TX10, 2), (RX11, TX11, 15), (RX12, TX12, 71)]
def GW : List Cond := lw_tbl.filter goodWord
