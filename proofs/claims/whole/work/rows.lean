section
/-- a private method of a class that the tables say can be made, by its rows of tables_1 -/
def lw_okq (q : MethodName × Nat) : Prop := (q.1.cls ≠ "java/lang/invoke/MethodHandle" ∧ q.1.cls ≠ "java/lang/invoke/VarHandle") ∧ Cond.instantiable q.1.cls q.2 ∈ tables_1 ∧ Cond.privateMethod q.1 ∈ tables_1 ∧ Cond.instanceMethod q.1 ∈ tables_1
theorem lw_p0 : lw_okq (⟨"StemmaTree$Done", "loseOldest", "()V"⟩, 3) := ⟨⟨by decide +kernel, by decide +kernel⟩, List.mem_of_getElem? (i := 75) (by decide +kernel), List.mem_of_getElem? (i := 330) (by decide +kernel), List.mem_of_getElem? (i := 331) (by decide +kernel)⟩
theorem lw_p1 : lw_okq (⟨"StemmaTree", "isTree", "(I)Z"⟩, 16) := ⟨⟨by decide +kernel, by decide +kernel⟩, List.mem_of_getElem? (i := 14) (by decide +kernel), List.mem_of_getElem? (i := 341) (by decide +kernel), List.mem_of_getElem? (i := 342) (by decide +kernel)⟩
theorem lw_p2 : lw_okq (⟨"StemmaTree", "becomeTree", "(I)V"⟩, 16) := ⟨⟨by decide +kernel, by decide +kernel⟩, List.mem_of_getElem? (i := 14) (by decide +kernel), List.mem_of_getElem? (i := 350) (by decide +kernel), List.mem_of_getElem? (i := 351) (by decide +kernel)⟩
theorem lw_p3 : lw_okq (⟨"StemmaTree", "weighTrees", "()V"⟩, 16) := ⟨⟨by decide +kernel, by decide +kernel⟩, List.mem_of_getElem? (i := 14) (by decide +kernel), List.mem_of_getElem? (i := 358) (by decide +kernel), List.mem_of_getElem? (i := 359) (by decide +kernel)⟩
theorem lw_p4 : lw_okq (⟨"StemmaTree", "loadSets", "(I)V"⟩, 16) := ⟨⟨by decide +kernel, by decide +kernel⟩, List.mem_of_getElem? (i := 14) (by decide +kernel), List.mem_of_getElem? (i := 363) (by decide +kernel), List.mem_of_getElem? (i := 364) (by decide +kernel)⟩
theorem lw_p5 : lw_okq (⟨"StemmaTree", "changesOf", "(I)I"⟩, 16) := ⟨⟨by decide +kernel, by decide +kernel⟩, List.mem_of_getElem? (i := 14) (by decide +kernel), List.mem_of_getElem? (i := 379) (by decide +kernel), List.mem_of_getElem? (i := 380) (by decide +kernel)⟩
theorem lw_p6 : lw_okq (⟨"StemmaTree$Tree", "addEdge", "(II)V"⟩, 3) := ⟨⟨by decide +kernel, by decide +kernel⟩, List.mem_of_getElem? (i := 117) (by decide +kernel), List.mem_of_getElem? (i := 387) (by decide +kernel), List.mem_of_getElem? (i := 388) (by decide +kernel)⟩
theorem lw_p7 : lw_okq (⟨"StemmaTree$Tree", "hang", "(II)V"⟩, 3) := ⟨⟨by decide +kernel, by decide +kernel⟩, List.mem_of_getElem? (i := 117) (by decide +kernel), List.mem_of_getElem? (i := 395) (by decide +kernel), List.mem_of_getElem? (i := 396) (by decide +kernel)⟩
theorem lw_p8 : lw_okq (⟨"StemmaTree$Descent", "append", "(II)V"⟩, 6) := ⟨⟨by decide +kernel, by decide +kernel⟩, List.mem_of_getElem? (i := 139) (by decide +kernel), List.mem_of_getElem? (i := 404) (by decide +kernel), List.mem_of_getElem? (i := 405) (by decide +kernel)⟩
theorem lw_p9 : lw_okq (⟨"StemmaTree$Descent", "appendBelow", "(LStemmaTree$Tree;II)V"⟩, 6) := ⟨⟨by decide +kernel, by decide +kernel⟩, List.mem_of_getElem? (i := 139) (by decide +kernel), List.mem_of_getElem? (i := 410) (by decide +kernel), List.mem_of_getElem? (i := 411) (by decide +kernel)⟩
theorem lw_p10 : lw_okq (⟨"StemmaTree", "betterTree", "()I"⟩, 16) := ⟨⟨by decide +kernel, by decide +kernel⟩, List.mem_of_getElem? (i := 14) (by decide +kernel), List.mem_of_getElem? (i := 429) (by decide +kernel), List.mem_of_getElem? (i := 430) (by decide +kernel)⟩
theorem lw_p11 : lw_okq (⟨"StemmaTree", "costFrom", "(I)I"⟩, 16) := ⟨⟨by decide +kernel, by decide +kernel⟩, List.mem_of_getElem? (i := 14) (by decide +kernel), List.mem_of_getElem? (i := 454) (by decide +kernel), List.mem_of_getElem? (i := 455) (by decide +kernel)⟩
theorem lw_p12 : lw_okq (⟨"StemmaTree$Descent", "costOf", "(IIILStemmaTree$Row;)I"⟩, 6) := ⟨⟨by decide +kernel, by decide +kernel⟩, List.mem_of_getElem? (i := 139) (by decide +kernel), List.mem_of_getElem? (i := 462) (by decide +kernel), List.mem_of_getElem? (i := 463) (by decide +kernel)⟩
theorem lw_p13 : lw_okq (⟨"StemmaTree$Descent", "costDown", "(II)I"⟩, 6) := ⟨⟨by decide +kernel, by decide +kernel⟩, List.mem_of_getElem? (i := 139) (by decide +kernel), List.mem_of_getElem? (i := 467) (by decide +kernel), List.mem_of_getElem? (i := 468) (by decide +kernel)⟩
theorem lw_p14 : lw_okq (⟨"StemmaTree", "treeWith", "(II)I"⟩, 16) := ⟨⟨by decide +kernel, by decide +kernel⟩, List.mem_of_getElem? (i := 14) (by decide +kernel), List.mem_of_getElem? (i := 482) (by decide +kernel), List.mem_of_getElem? (i := 483) (by decide +kernel)⟩
theorem lw_p15 : lw_okq (⟨"StemmaTree", "bound", "()I"⟩, 16) := ⟨⟨by decide +kernel, by decide +kernel⟩, List.mem_of_getElem? (i := 14) (by decide +kernel), List.mem_of_getElem? (i := 490) (by decide +kernel), List.mem_of_getElem? (i := 491) (by decide +kernel)⟩
def lw_privs_1 : List (MethodName × Nat) := [(⟨"StemmaTree$Done", "loseOldest", "()V"⟩, 3), (⟨"StemmaTree", "isTree", "(I)Z"⟩, 16), (⟨"StemmaTree", "becomeTree", "(I)V"⟩, 16), (⟨"StemmaTree", "weighTrees", "()V"⟩, 16), (⟨"StemmaTree", "loadSets", "(I)V"⟩, 16), (⟨"StemmaTree", "changesOf", "(I)I"⟩, 16), (⟨"StemmaTree$Tree", "addEdge", "(II)V"⟩, 3), (⟨"StemmaTree$Tree", "hang", "(II)V"⟩, 3), (⟨"StemmaTree$Descent", "append", "(II)V"⟩, 6), (⟨"StemmaTree$Descent", "appendBelow", "(LStemmaTree$Tree;II)V"⟩, 6), (⟨"StemmaTree", "betterTree", "()I"⟩, 16), (⟨"StemmaTree", "costFrom", "(I)I"⟩, 16), (⟨"StemmaTree$Descent", "costOf", "(IIILStemmaTree$Row;)I"⟩, 6), (⟨"StemmaTree$Descent", "costDown", "(II)I"⟩, 6), (⟨"StemmaTree", "treeWith", "(II)I"⟩, 16), (⟨"StemmaTree", "bound", "()I"⟩, 16)]
theorem lw_r1 : ∀ q ∈ lw_privs_1, lw_okq q := List.forall_mem_cons.mpr ⟨lw_p0, List.forall_mem_cons.mpr ⟨lw_p1, List.forall_mem_cons.mpr ⟨lw_p2, List.forall_mem_cons.mpr ⟨lw_p3, List.forall_mem_cons.mpr ⟨lw_p4, List.forall_mem_cons.mpr ⟨lw_p5, List.forall_mem_cons.mpr ⟨lw_p6, List.forall_mem_cons.mpr ⟨lw_p7, List.forall_mem_cons.mpr ⟨lw_p8, List.forall_mem_cons.mpr ⟨lw_p9, List.forall_mem_cons.mpr ⟨lw_p10, List.forall_mem_cons.mpr ⟨lw_p11, List.forall_mem_cons.mpr ⟨lw_p12, List.forall_mem_cons.mpr ⟨lw_p13, List.forall_mem_cons.mpr ⟨lw_p14, List.forall_mem_cons.mpr ⟨lw_p15, fun _ h => absurd h List.not_mem_nil⟩⟩⟩⟩⟩⟩⟩⟩⟩⟩⟩⟩⟩⟩⟩⟩
theorem lw_p16 : lw_okq (⟨"StemmaTree", "fewestChanges", "()I"⟩, 16) := ⟨⟨by decide +kernel, by decide +kernel⟩, List.mem_of_getElem? (i := 14) (by decide +kernel), List.mem_of_getElem? (i := 495) (by decide +kernel), List.mem_of_getElem? (i := 496) (by decide +kernel)⟩
theorem lw_p17 : lw_okq (⟨"StemmaTree", "changesIf", "(III)I"⟩, 16) := ⟨⟨by decide +kernel, by decide +kernel⟩, List.mem_of_getElem? (i := 14) (by decide +kernel), List.mem_of_getElem? (i := 503) (by decide +kernel), List.mem_of_getElem? (i := 504) (by decide +kernel)⟩
theorem lw_p18 : lw_okq (⟨"StemmaTree", "inQuarrel", "(II)Z"⟩, 16) := ⟨⟨by decide +kernel, by decide +kernel⟩, List.mem_of_getElem? (i := 14) (by decide +kernel), List.mem_of_getElem? (i := 512) (by decide +kernel), List.mem_of_getElem? (i := 513) (by decide +kernel)⟩
theorem lw_p19 : lw_okq (⟨"StemmaTree$Mix", "tryTwo", "(III)V"⟩, 5) := ⟨⟨by decide +kernel, by decide +kernel⟩, List.mem_of_getElem? (i := 166) (by decide +kernel), List.mem_of_getElem? (i := 542) (by decide +kernel), List.mem_of_getElem? (i := 543) (by decide +kernel)⟩
theorem lw_p20 : lw_okq (⟨"StemmaTree", "mayBeMisread", "(I)Z"⟩, 16) := ⟨⟨by decide +kernel, by decide +kernel⟩, List.mem_of_getElem? (i := 14) (by decide +kernel), List.mem_of_getElem? (i := 558) (by decide +kernel), List.mem_of_getElem? (i := 559) (by decide +kernel)⟩
theorem lw_p21 : lw_okq (⟨"StemmaTree", "allSeenIs", "(I)Z"⟩, 16) := ⟨⟨by decide +kernel, by decide +kernel⟩, List.mem_of_getElem? (i := 14) (by decide +kernel), List.mem_of_getElem? (i := 562) (by decide +kernel), List.mem_of_getElem? (i := 563) (by decide +kernel)⟩
theorem lw_p22 : lw_okq (⟨"StemmaTree", "imageOf", "(I)LStemmaTree$Image;"⟩, 16) := ⟨⟨by decide +kernel, by decide +kernel⟩, List.mem_of_getElem? (i := 14) (by decide +kernel), List.mem_of_getElem? (i := 570) (by decide +kernel), List.mem_of_getElem? (i := 571) (by decide +kernel)⟩
theorem lw_p23 : lw_okq (⟨"StemmaTree", "lostOnes", "()I"⟩, 16) := ⟨⟨by decide +kernel, by decide +kernel⟩, List.mem_of_getElem? (i := 14) (by decide +kernel), List.mem_of_getElem? (i := 582) (by decide +kernel), List.mem_of_getElem? (i := 583) (by decide +kernel)⟩
theorem lw_p24 : lw_okq (⟨"StemmaTree", "quarrels", "()I"⟩, 16) := ⟨⟨by decide +kernel, by decide +kernel⟩, List.mem_of_getElem? (i := 14) (by decide +kernel), List.mem_of_getElem? (i := 586) (by decide +kernel), List.mem_of_getElem? (i := 587) (by decide +kernel)⟩
theorem lw_p25 : lw_okq (⟨"StemmaTreeModel", "blanks", "()V"⟩, 27) := ⟨⟨by decide +kernel, by decide +kernel⟩, List.mem_of_getElem? (i := 590) (by decide +kernel), List.mem_of_getElem? (i := 694) (by decide +kernel), List.mem_of_getElem? (i := 695) (by decide +kernel)⟩
theorem lw_p26 : lw_okq (⟨"StemmaTreeModel", "readsCopy", "()Z"⟩, 27) := ⟨⟨by decide +kernel, by decide +kernel⟩, List.mem_of_getElem? (i := 590) (by decide +kernel), List.mem_of_getElem? (i := 698) (by decide +kernel), List.mem_of_getElem? (i := 699) (by decide +kernel)⟩
theorem lw_p27 : lw_okq (⟨"StemmaTreeModel", "next", "()V"⟩, 27) := ⟨⟨by decide +kernel, by decide +kernel⟩, List.mem_of_getElem? (i := 590) (by decide +kernel), List.mem_of_getElem? (i := 702) (by decide +kernel), List.mem_of_getElem? (i := 703) (by decide +kernel)⟩
theorem lw_p28 : lw_okq (⟨"StemmaTreeModel", "isCopy", "(I)Z"⟩, 27) := ⟨⟨by decide +kernel, by decide +kernel⟩, List.mem_of_getElem? (i := 590) (by decide +kernel), List.mem_of_getElem? (i := 710) (by decide +kernel), List.mem_of_getElem? (i := 711) (by decide +kernel)⟩
theorem lw_p29 : lw_okq (⟨"StemmaTreeModel", "isPlace", "(I)Z"⟩, 27) := ⟨⟨by decide +kernel, by decide +kernel⟩, List.mem_of_getElem? (i := 590) (by decide +kernel), List.mem_of_getElem? (i := 714) (by decide +kernel), List.mem_of_getElem? (i := 715) (by decide +kernel)⟩
theorem lw_p30 : lw_okq (⟨"StemmaTreeModel", "readingOf", "(II)I"⟩, 27) := ⟨⟨by decide +kernel, by decide +kernel⟩, List.mem_of_getElem? (i := 590) (by decide +kernel), List.mem_of_getElem? (i := 718) (by decide +kernel), List.mem_of_getElem? (i := 719) (by decide +kernel)⟩
theorem lw_p31 : lw_okq (⟨"StemmaTreeModel", "isTree", "(I)Z"⟩, 27) := ⟨⟨by decide +kernel, by decide +kernel⟩, List.mem_of_getElem? (i := 590) (by decide +kernel), List.mem_of_getElem? (i := 726) (by decide +kernel), List.mem_of_getElem? (i := 727) (by decide +kernel)⟩
def lw_privs_2 : List (MethodName × Nat) := [(⟨"StemmaTree", "fewestChanges", "()I"⟩, 16), (⟨"StemmaTree", "changesIf", "(III)I"⟩, 16), (⟨"StemmaTree", "inQuarrel", "(II)Z"⟩, 16), (⟨"StemmaTree$Mix", "tryTwo", "(III)V"⟩, 5), (⟨"StemmaTree", "mayBeMisread", "(I)Z"⟩, 16), (⟨"StemmaTree", "allSeenIs", "(I)Z"⟩, 16), (⟨"StemmaTree", "imageOf", "(I)LStemmaTree$Image;"⟩, 16), (⟨"StemmaTree", "lostOnes", "()I"⟩, 16), (⟨"StemmaTree", "quarrels", "()I"⟩, 16), (⟨"StemmaTreeModel", "blanks", "()V"⟩, 27), (⟨"StemmaTreeModel", "readsCopy", "()Z"⟩, 27), (⟨"StemmaTreeModel", "next", "()V"⟩, 27), (⟨"StemmaTreeModel", "isCopy", "(I)Z"⟩, 27), (⟨"StemmaTreeModel", "isPlace", "(I)Z"⟩, 27), (⟨"StemmaTreeModel", "readingOf", "(II)I"⟩, 27), (⟨"StemmaTreeModel", "isTree", "(I)Z"⟩, 27)]
theorem lw_r2 : ∀ q ∈ lw_privs_2, lw_okq q := List.forall_mem_cons.mpr ⟨lw_p16, List.forall_mem_cons.mpr ⟨lw_p17, List.forall_mem_cons.mpr ⟨lw_p18, List.forall_mem_cons.mpr ⟨lw_p19, List.forall_mem_cons.mpr ⟨lw_p20, List.forall_mem_cons.mpr ⟨lw_p21, List.forall_mem_cons.mpr ⟨lw_p22, List.forall_mem_cons.mpr ⟨lw_p23, List.forall_mem_cons.mpr ⟨lw_p24, List.forall_mem_cons.mpr ⟨lw_p25, List.forall_mem_cons.mpr ⟨lw_p26, List.forall_mem_cons.mpr ⟨lw_p27, List.forall_mem_cons.mpr ⟨lw_p28, List.forall_mem_cons.mpr ⟨lw_p29, List.forall_mem_cons.mpr ⟨lw_p30, List.forall_mem_cons.mpr ⟨lw_p31, fun _ h => absurd h List.not_mem_nil⟩⟩⟩⟩⟩⟩⟩⟩⟩⟩⟩⟩⟩⟩⟩⟩
theorem lw_p32 : lw_okq (⟨"StemmaTreeModel", "trees", "()I"⟩, 27) := ⟨⟨by decide +kernel, by decide +kernel⟩, List.mem_of_getElem? (i := 590) (by decide +kernel), List.mem_of_getElem? (i := 730) (by decide +kernel), List.mem_of_getElem? (i := 731) (by decide +kernel)⟩
theorem lw_p33 : lw_okq (⟨"StemmaTreeModel", "changesOf", "(I)I"⟩, 27) := ⟨⟨by decide +kernel, by decide +kernel⟩, List.mem_of_getElem? (i := 590) (by decide +kernel), List.mem_of_getElem? (i := 734) (by decide +kernel), List.mem_of_getElem? (i := 735) (by decide +kernel)⟩
theorem lw_p34 : lw_okq (⟨"StemmaTreeModel", "layTree", "(I)V"⟩, 27) := ⟨⟨by decide +kernel, by decide +kernel⟩, List.mem_of_getElem? (i := 590) (by decide +kernel), List.mem_of_getElem? (i := 738) (by decide +kernel), List.mem_of_getElem? (i := 739) (by decide +kernel)⟩
theorem lw_p35 : lw_okq (⟨"StemmaTreeModel", "edge", "(II)V"⟩, 27) := ⟨⟨by decide +kernel, by decide +kernel⟩, List.mem_of_getElem? (i := 590) (by decide +kernel), List.mem_of_getElem? (i := 742) (by decide +kernel), List.mem_of_getElem? (i := 743) (by decide +kernel)⟩
theorem lw_p36 : lw_okq (⟨"StemmaTreeModel", "changesAt", "(I)I"⟩, 27) := ⟨⟨by decide +kernel, by decide +kernel⟩, List.mem_of_getElem? (i := 590) (by decide +kernel), List.mem_of_getElem? (i := 749) (by decide +kernel), List.mem_of_getElem? (i := 750) (by decide +kernel)⟩
theorem lw_p37 : lw_okq (⟨"StemmaTreeModel", "costFrom", "(IIZ)I"⟩, 27) := ⟨⟨by decide +kernel, by decide +kernel⟩, List.mem_of_getElem? (i := 590) (by decide +kernel), List.mem_of_getElem? (i := 753) (by decide +kernel), List.mem_of_getElem? (i := 754) (by decide +kernel)⟩
theorem lw_p38 : lw_okq (⟨"StemmaTreeModel", "layLeaves", "(I)V"⟩, 27) := ⟨⟨by decide +kernel, by decide +kernel⟩, List.mem_of_getElem? (i := 590) (by decide +kernel), List.mem_of_getElem? (i := 757) (by decide +kernel), List.mem_of_getElem? (i := 758) (by decide +kernel)⟩
theorem lw_p39 : lw_okq (⟨"StemmaTreeModel", "lastEdge", "(I)I"⟩, 27) := ⟨⟨by decide +kernel, by decide +kernel⟩, List.mem_of_getElem? (i := 590) (by decide +kernel), List.mem_of_getElem? (i := 761) (by decide +kernel), List.mem_of_getElem? (i := 762) (by decide +kernel)⟩
theorem lw_p40 : lw_okq (⟨"StemmaTreeModel", "takes", "(IIZ)V"⟩, 27) := ⟨⟨by decide +kernel, by decide +kernel⟩, List.mem_of_getElem? (i := 590) (by decide +kernel), List.mem_of_getElem? (i := 765) (by decide +kernel), List.mem_of_getElem? (i := 766) (by decide +kernel)⟩
theorem lw_p41 : lw_okq (⟨"StemmaTreeModel", "least", "(I)I"⟩, 27) := ⟨⟨by decide +kernel, by decide +kernel⟩, List.mem_of_getElem? (i := 590) (by decide +kernel), List.mem_of_getElem? (i := 772) (by decide +kernel), List.mem_of_getElem? (i := 773) (by decide +kernel)⟩
theorem lw_p42 : lw_okq (⟨"StemmaTreeModel", "edges", "()I"⟩, 27) := ⟨⟨by decide +kernel, by decide +kernel⟩, List.mem_of_getElem? (i := 590) (by decide +kernel), List.mem_of_getElem? (i := 780) (by decide +kernel), List.mem_of_getElem? (i := 781) (by decide +kernel)⟩
theorem lw_p43 : lw_okq (⟨"StemmaTreeModel", "directedOf", "(II)I"⟩, 27) := ⟨⟨by decide +kernel, by decide +kernel⟩, List.mem_of_getElem? (i := 590) (by decide +kernel), List.mem_of_getElem? (i := 784) (by decide +kernel), List.mem_of_getElem? (i := 785) (by decide +kernel)⟩
theorem lw_p44 : lw_okq (⟨"StemmaTreeModel", "fewest", "()I"⟩, 27) := ⟨⟨by decide +kernel, by decide +kernel⟩, List.mem_of_getElem? (i := 590) (by decide +kernel), List.mem_of_getElem? (i := 796) (by decide +kernel), List.mem_of_getElem? (i := 797) (by decide +kernel)⟩
theorem lw_p45 : lw_okq (⟨"StemmaTreeModel", "bound", "()I"⟩, 27) := ⟨⟨by decide +kernel, by decide +kernel⟩, List.mem_of_getElem? (i := 590) (by decide +kernel), List.mem_of_getElem? (i := 804) (by decide +kernel), List.mem_of_getElem? (i := 805) (by decide +kernel)⟩
theorem lw_p46 : lw_okq (⟨"StemmaTreeModel", "becomes", "(II)I"⟩, 27) := ⟨⟨by decide +kernel, by decide +kernel⟩, List.mem_of_getElem? (i := 590) (by decide +kernel), List.mem_of_getElem? (i := 815) (by decide +kernel), List.mem_of_getElem? (i := 816) (by decide +kernel)⟩
theorem lw_p47 : lw_okq (⟨"StemmaTreeModel", "remember", "()V"⟩, 27) := ⟨⟨by decide +kernel, by decide +kernel⟩, List.mem_of_getElem? (i := 590) (by decide +kernel), List.mem_of_getElem? (i := 819) (by decide +kernel), List.mem_of_getElem? (i := 820) (by decide +kernel)⟩
def lw_privs_3 : List (MethodName × Nat) := [(⟨"StemmaTreeModel", "trees", "()I"⟩, 27), (⟨"StemmaTreeModel", "changesOf", "(I)I"⟩, 27), (⟨"StemmaTreeModel", "layTree", "(I)V"⟩, 27), (⟨"StemmaTreeModel", "edge", "(II)V"⟩, 27), (⟨"StemmaTreeModel", "changesAt", "(I)I"⟩, 27), (⟨"StemmaTreeModel", "costFrom", "(IIZ)I"⟩, 27), (⟨"StemmaTreeModel", "layLeaves", "(I)V"⟩, 27), (⟨"StemmaTreeModel", "lastEdge", "(I)I"⟩, 27), (⟨"StemmaTreeModel", "takes", "(IIZ)V"⟩, 27), (⟨"StemmaTreeModel", "least", "(I)I"⟩, 27), (⟨"StemmaTreeModel", "edges", "()I"⟩, 27), (⟨"StemmaTreeModel", "directedOf", "(II)I"⟩, 27), (⟨"StemmaTreeModel", "fewest", "()I"⟩, 27), (⟨"StemmaTreeModel", "bound", "()I"⟩, 27), (⟨"StemmaTreeModel", "becomes", "(II)I"⟩, 27), (⟨"StemmaTreeModel", "remember", "()V"⟩, 27)]
theorem lw_r3 : ∀ q ∈ lw_privs_3, lw_okq q := List.forall_mem_cons.mpr ⟨lw_p32, List.forall_mem_cons.mpr ⟨lw_p33, List.forall_mem_cons.mpr ⟨lw_p34, List.forall_mem_cons.mpr ⟨lw_p35, List.forall_mem_cons.mpr ⟨lw_p36, List.forall_mem_cons.mpr ⟨lw_p37, List.forall_mem_cons.mpr ⟨lw_p38, List.forall_mem_cons.mpr ⟨lw_p39, List.forall_mem_cons.mpr ⟨lw_p40, List.forall_mem_cons.mpr ⟨lw_p41, List.forall_mem_cons.mpr ⟨lw_p42, List.forall_mem_cons.mpr ⟨lw_p43, List.forall_mem_cons.mpr ⟨lw_p44, List.forall_mem_cons.mpr ⟨lw_p45, List.forall_mem_cons.mpr ⟨lw_p46, List.forall_mem_cons.mpr ⟨lw_p47, fun _ h => absurd h List.not_mem_nil⟩⟩⟩⟩⟩⟩⟩⟩⟩⟩⟩⟩⟩⟩⟩⟩
theorem lw_p48 : lw_okq (⟨"StemmaTreeModel", "quarrels", "(II)Z"⟩, 27) := ⟨⟨by decide +kernel, by decide +kernel⟩, List.mem_of_getElem? (i := 590) (by decide +kernel), List.mem_of_getElem? (i := 846) (by decide +kernel), List.mem_of_getElem? (i := 847) (by decide +kernel)⟩
theorem lw_p49 : lw_okq (⟨"StemmaTreeModel", "isTold", "(IIII)Z"⟩, 27) := ⟨⟨by decide +kernel, by decide +kernel⟩, List.mem_of_getElem? (i := 590) (by decide +kernel), List.mem_of_getElem? (i := 850) (by decide +kernel), List.mem_of_getElem? (i := 851) (by decide +kernel)⟩
theorem lw_p50 : lw_okq (⟨"StemmaTreeModel", "unlikes", "(IIII)I"⟩, 27) := ⟨⟨by decide +kernel, by decide +kernel⟩, List.mem_of_getElem? (i := 590) (by decide +kernel), List.mem_of_getElem? (i := 862) (by decide +kernel), List.mem_of_getElem? (i := 863) (by decide +kernel)⟩
theorem lw_p51 : lw_okq (⟨"StemmaTreeModel", "isSeen", "(I)Z"⟩, 27) := ⟨⟨by decide +kernel, by decide +kernel⟩, List.mem_of_getElem? (i := 590) (by decide +kernel), List.mem_of_getElem? (i := 878) (by decide +kernel), List.mem_of_getElem? (i := 879) (by decide +kernel)⟩
theorem lw_p52 : lw_okq (⟨"StemmaTreeModel", "ofAll", "(I)I"⟩, 27) := ⟨⟨by decide +kernel, by decide +kernel⟩, List.mem_of_getElem? (i := 590) (by decide +kernel), List.mem_of_getElem? (i := 894) (by decide +kernel), List.mem_of_getElem? (i := 895) (by decide +kernel)⟩
def lw_privs_4 : List (MethodName × Nat) := [(⟨"StemmaTreeModel", "quarrels", "(II)Z"⟩, 27), (⟨"StemmaTreeModel", "isTold", "(IIII)Z"⟩, 27), (⟨"StemmaTreeModel", "unlikes", "(IIII)I"⟩, 27), (⟨"StemmaTreeModel", "isSeen", "(I)Z"⟩, 27), (⟨"StemmaTreeModel", "ofAll", "(I)I"⟩, 27)]
theorem lw_r4 : ∀ q ∈ lw_privs_4, lw_okq q := List.forall_mem_cons.mpr ⟨lw_p48, List.forall_mem_cons.mpr ⟨lw_p49, List.forall_mem_cons.mpr ⟨lw_p50, List.forall_mem_cons.mpr ⟨lw_p51, List.forall_mem_cons.mpr ⟨lw_p52, fun _ h => absurd h List.not_mem_nil⟩⟩⟩⟩⟩
def lw_privs : List (MethodName × Nat) := lw_privs_1 ++ (lw_privs_2 ++ (lw_privs_3 ++ (lw_privs_4)))
def lw_tbl : List Cond := k2_sels lw_privs ++ tables_1
theorem lw_privs_ok : ∀ q ∈ lw_privs, lw_okq q := by
  show ∀ q ∈ lw_privs_1 ++ (lw_privs_2 ++ (lw_privs_3 ++ (lw_privs_4))), lw_okq q
  exact List.forall_mem_append.mpr ⟨lw_r1, List.forall_mem_append.mpr ⟨lw_r2, List.forall_mem_append.mpr ⟨lw_r3, lw_r4⟩⟩⟩
end
section
theorem goodIn_r {big : List Cond} (ws : List Cond) (ps : List Nat) (hp : ws = ps.filterMap (fun i => big[i]?)) (h : ws.all goodWord = true) : GoodIn big ws := by
  intro w hw
  have h1 := List.all_eq_true.mp h w hw
  rw [hp] at hw
  obtain ⟨i, -, hi⟩ := List.mem_filterMap.mp hw
  have hm : w ∈ big := by first | exact List.mem_of_getElem? hi | exact List.getElem?_mem hi
  exact ⟨hm, good_of_word h1⟩
theorem goodIn_app {big a b : List Cond} (ha : GoodIn big a) (hb : GoodIn big b) : GoodIn big (a ++ b) := fun w h => (List.mem_append.mp h).elim (ha w) (hb w)
theorem goodIn_ca {big a b : List Cond} {c : Cond} (ha : GoodIn big (c :: a)) (hb : GoodIn big b) : GoodIn big (c :: (a ++ b)) := fun w h => (List.mem_cons.mp h).elim (fun e => ha w (List.mem_cons.mpr (Or.inl e))) (fun h => (List.mem_append.mp h).elim (fun h => ha w (List.mem_cons.mpr (Or.inr h))) (hb w))
theorem goodIn_sub {big ws : List Cond} (hm : ∀ w ∈ ws, w ∈ big) (h : ws.all goodWord = true) : GoodIn big ws := fun w hw => ⟨hm w hw, good_of_word (List.all_eq_true.mp h w hw)⟩

def RX0 : String := "StemmaTree$Descent"
def TX0 : u_T := fun k => match k with
  | 0 => ("StemmaTree$Descent", "nodes", "LStemmaTree$Row;", true)
  | 1 => ("StemmaTree$Descent", "edgesAbove", "LStemmaTree$Row;", true)
  | 2 => ("StemmaTree$Descent", "belows", "LStemmaTree$Row;", true)
  | 3 => ("StemmaTree$Descent", "sets", "LStemmaTree$Row;", true)
  | 4 => ("StemmaTree$Descent", "costs", "LStemmaTree$Row;", true)
  | _ => ("StemmaTree$Descent", "size", "I", false)
def tyX0 : Nat → FieldType := fun k => match k with
  | 0 => .object "StemmaTree$Row"
  | 1 => .object "StemmaTree$Row"
  | 2 => .object "StemmaTree$Row"
  | 3 => .object "StemmaTree$Row"
  | 4 => .object "StemmaTree$Row"
  | _ => .int
abbrev wsX00 : List Cond := u_ws RX0 TX0 6
theorem nmX0 : ∀ a, a < 6 → ∀ b, b < 6 → a ≠ b → (TX0 a).2.1 ≠ (TX0 b).2.1 := by decide +kernel
theorem tyX0_ok : ∀ k, k < 6 → parseFieldDescriptor (TX0 k).2.2.1 = some (tyX0 k) := by decide +kernel
abbrev cX0_init : ByteArray := prog_2_method_1_code
def yX0_init : MethodName := ⟨RX0, "<init>", "()V"⟩
abbrev cX0_follow : ByteArray := prog_2_method_2_code
def yX0_follow : MethodName := ⟨RX0, "follow", "(LStemmaTree$Tree;I)V"⟩
abbrev cX0_appendBelow : ByteArray := prog_2_method_3_code
def yX0_appendBelow : MethodName := ⟨RX0, "appendBelow", "(LStemmaTree$Tree;II)V"⟩
abbrev cX0_append : ByteArray := prog_2_method_4_code
def yX0_append : MethodName := ⟨RX0, "append", "(II)V"⟩
abbrev cX0_changesOver : ByteArray := prog_2_method_5_code
def yX0_changesOver : MethodName := ⟨RX0, "changesOver", "(LStemmaTree$Row;)I"⟩
abbrev cX0_emptyPlaces : ByteArray := prog_2_method_6_code
def yX0_emptyPlaces : MethodName := ⟨RX0, "emptyPlaces", "(I)I"⟩
abbrev cX0_costAt : ByteArray := prog_2_method_7_code
def yX0_costAt : MethodName := ⟨RX0, "costAt", "(ILStemmaTree$Row;)I"⟩
abbrev cX0_costOf : ByteArray := prog_2_method_8_code
def yX0_costOf : MethodName := ⟨RX0, "costOf", "(IIILStemmaTree$Row;)I"⟩
abbrev cX0_costDown : ByteArray := prog_2_method_9_code
def yX0_costDown : MethodName := ⟨RX0, "costDown", "(II)I"⟩
def RX1 : String := "StemmaTree$Done"
def TX1 : u_T := fun k => match k with
  | 0 => ("StemmaTree$Done", "cells", "LStemmaTree$Row;", true)
  | 1 => ("StemmaTree$Done", "befores", "LStemmaTree$Row;", true)
  | _ => ("StemmaTree$Done", "size", "I", false)
def tyX1 : Nat → FieldType := fun k => match k with
  | 0 => .object "StemmaTree$Row"
  | 1 => .object "StemmaTree$Row"
  | _ => .int
abbrev wsX10 : List Cond := u_ws RX1 TX1 3
theorem nmX1 : ∀ a, a < 3 → ∀ b, b < 3 → a ≠ b → (TX1 a).2.1 ≠ (TX1 b).2.1 := by decide +kernel
theorem tyX1_ok : ∀ k, k < 3 → parseFieldDescriptor (TX1 k).2.2.1 = some (tyX1 k) := by decide +kernel
abbrev cX1_init : ByteArray := prog_3_method_1_code
def yX1_init : MethodName := ⟨RX1, "<init>", "()V"⟩
abbrev cX1_note : ByteArray := prog_3_method_2_code
def yX1_note : MethodName := ⟨RX1, "note", "(II)V"⟩
abbrev cX1_loseOldest : ByteArray := prog_3_method_3_code
def yX1_loseOldest : MethodName := ⟨RX1, "loseOldest", "()V"⟩
def RX2 : String := "StemmaTree$Image"
def TX2 : u_T := fun k => match k with
  | 0 => ("StemmaTree$Image", "readings", "LStemmaTree$Readings;", true)
  | 1 => ("StemmaTree$Image", "chosen", "I", false)
  | _ => ("StemmaTree$Image", "kept", "Z", false)
def tyX2 : Nat → FieldType := fun k => match k with
  | 0 => .object "StemmaTree$Readings"
  | 1 => .int
  | _ => .boolean
abbrev wsX20 : List Cond := u_ws RX2 TX2 3
theorem nmX2 : ∀ a, a < 3 → ∀ b, b < 3 → a ≠ b → (TX2 a).2.1 ≠ (TX2 b).2.1 := by decide +kernel
theorem tyX2_ok : ∀ k, k < 3 → parseFieldDescriptor (TX2 k).2.2.1 = some (tyX2 k) := by decide +kernel
abbrev cX2_init : ByteArray := prog_4_method_1_code
def yX2_init : MethodName := ⟨RX2, "<init>", "()V"⟩
def RX3 : String := "StemmaTree$Mix"
def TX3 : u_T := fun k => match k with
  | 0 => ("StemmaTree$Mix", "unlikePlaces", "LStemmaTree$Row;", true)
  | 1 => ("StemmaTree$Mix", "unlikes", "I", false)
  | 2 => ("StemmaTree$Mix", "first", "I", false)
  | 3 => ("StemmaTree$Mix", "second", "I", false)
  | _ => ("StemmaTree$Mix", "goesOver", "I", false)
def tyX3 : Nat → FieldType := fun k => match k with
  | 0 => .object "StemmaTree$Row"
  | 1 => .int
  | 2 => .int
  | 3 => .int
  | _ => .int
abbrev wsX30 : List Cond := u_ws RX3 TX3 5
theorem nmX3 : ∀ a, a < 5 → ∀ b, b < 5 → a ≠ b → (TX3 a).2.1 ≠ (TX3 b).2.1 := by decide +kernel
theorem tyX3_ok : ∀ k, k < 5 → parseFieldDescriptor (TX3 k).2.2.1 = some (tyX3 k) := by decide +kernel
abbrev cX3_init : ByteArray := prog_5_method_1_code
def yX3_init : MethodName := ⟨RX3, "<init>", "()V"⟩
abbrev cX3_compare : ByteArray := prog_5_method_2_code
def yX3_compare : MethodName := ⟨RX3, "compare", "(LStemmaTree$Readings;I)V"⟩
abbrev cX3_plain : ByteArray := prog_5_method_3_code
def yX3_plain : MethodName := ⟨RX3, "plain", "(LStemmaTree$Readings;I)I"⟩
abbrev cX3_find : ByteArray := prog_5_method_4_code
def yX3_find : MethodName := ⟨RX3, "find", "(LStemmaTree$Readings;I)V"⟩
abbrev cX3_tryTwo : ByteArray := prog_5_method_5_code
def yX3_tryTwo : MethodName := ⟨RX3, "tryTwo", "(III)V"⟩
def RX4 : String := "StemmaTree$Readings"
def TX4 : u_T := fun k => match k with
  | 0 => ("StemmaTree$Readings", "cells", "LStemmaTree$Row;", true)
  | 1 => ("StemmaTree$Readings", "copyCount", "I", false)
  | _ => ("StemmaTree$Readings", "placeCount", "I", false)
def tyX4 : Nat → FieldType := fun k => match k with
  | 0 => .object "StemmaTree$Row"
  | 1 => .int
  | _ => .int
abbrev wsX40 : List Cond := u_ws RX4 TX4 3
theorem nmX4 : ∀ a, a < 3 → ∀ b, b < 3 → a ≠ b → (TX4 a).2.1 ≠ (TX4 b).2.1 := by decide +kernel
theorem tyX4_ok : ∀ k, k < 3 → parseFieldDescriptor (TX4 k).2.2.1 = some (tyX4 k) := by decide +kernel
abbrev cX4_init : ByteArray := prog_6_method_1_code
def yX4_init : MethodName := ⟨RX4, "<init>", "()V"⟩
abbrev cX4_hasCopy : ByteArray := prog_6_method_2_code
def yX4_hasCopy : MethodName := ⟨RX4, "hasCopy", "(I)Z"⟩
abbrev cX4_hasPlace : ByteArray := prog_6_method_3_code
def yX4_hasPlace : MethodName := ⟨RX4, "hasPlace", "(I)Z"⟩
abbrev cX4_has : ByteArray := prog_6_method_4_code
def yX4_has : MethodName := ⟨RX4, "has", "(II)Z"⟩
abbrev cX4_cellOf : ByteArray := prog_6_method_5_code
def yX4_cellOf : MethodName := ⟨RX4, "cellOf", "(II)I"⟩
abbrev cX4_at : ByteArray := prog_6_method_6_code
def yX4_at : MethodName := ⟨RX4, "at", "(II)I"⟩
abbrev cX4_put : ByteArray := prog_6_method_7_code
def yX4_put : MethodName := ⟨RX4, "put", "(III)V"⟩
abbrev cX4_take : ByteArray := prog_6_method_8_code
def yX4_take : MethodName := ⟨RX4, "take", "(LStemmaTree$Readings;)V"⟩
abbrev cX4_setsOf : ByteArray := prog_6_method_9_code
def yX4_setsOf : MethodName := ⟨RX4, "setsOf", "(I)I"⟩
def RX5 : String := "StemmaTree$Row"
def TX5 : u_T := fun k => match k with
  | _ => ("StemmaTree$Row", "cells", "[I", true)
def tyX5 : Nat → FieldType := fun k => match k with
  | _ => .array .int
abbrev wsX50 : List Cond := u_ws RX5 TX5 1
theorem nmX5 : ∀ a, a < 1 → ∀ b, b < 1 → a ≠ b → (TX5 a).2.1 ≠ (TX5 b).2.1 := by decide +kernel
theorem tyX5_ok : ∀ k, k < 1 → parseFieldDescriptor (TX5 k).2.2.1 = some (tyX5 k) := by decide +kernel
abbrev cX5_init : ByteArray := prog_7_method_1_code
def yX5_init : MethodName := ⟨RX5, "<init>", "(I)V"⟩
abbrev cX5_at : ByteArray := prog_7_method_2_code
def yX5_at : MethodName := ⟨RX5, "at", "(I)I"⟩
abbrev cX5_put : ByteArray := prog_7_method_3_code
def yX5_put : MethodName := ⟨RX5, "put", "(II)V"⟩
abbrev cX5_fillFrom : ByteArray := prog_7_method_4_code
def yX5_fillFrom : MethodName := ⟨RX5, "fillFrom", "(LStemmaTree$Row;)V"⟩
def RX6 : String := "StemmaTree$Text"
def TX6 : u_T := fun k => match k with
  | 0 => ("StemmaTree$Text", "letters", "LStemmaTree$Row;", true)
  | _ => ("StemmaTree$Text", "length", "I", false)
def tyX6 : Nat → FieldType := fun k => match k with
  | 0 => .object "StemmaTree$Row"
  | _ => .int
abbrev wsX60 : List Cond := u_ws RX6 TX6 2
theorem nmX6 : ∀ a, a < 2 → ∀ b, b < 2 → a ≠ b → (TX6 a).2.1 ≠ (TX6 b).2.1 := by decide +kernel
theorem tyX6_ok : ∀ k, k < 2 → parseFieldDescriptor (TX6 k).2.2.1 = some (tyX6 k) := by decide +kernel
abbrev cX6_init : ByteArray := prog_8_method_1_code
def yX6_init : MethodName := ⟨RX6, "<init>", "()V"⟩
abbrev cX6_append : ByteArray := prog_8_method_2_code
def yX6_append : MethodName := ⟨RX6, "append", "(I)V"⟩
abbrev cX6_tell : ByteArray := prog_8_method_3_code
def yX6_tell : MethodName := ⟨RX6, "tell", "(LStemmaTree$Readings;)I"⟩
abbrev cX6_mostReadings : ByteArray := prog_8_method_4_code
def yX6_mostReadings : MethodName := ⟨RX6, "mostReadings", "(LStemmaTree$Readings;)I"⟩
abbrev cX6_endItem : ByteArray := prog_8_method_5_code
def yX6_endItem : MethodName := ⟨RX6, "endItem", "(LStemmaTree$Readings;I)Z"⟩
abbrev cX6_readingFor : ByteArray := prog_8_method_6_code
def yX6_readingFor : MethodName := ⟨RX6, "readingFor", "(I)I"⟩
def RX7 : String := "StemmaTree$Tree"
def TX7 : u_T := fun k => match k with
  | 0 => ("StemmaTree$Tree", "firstEnds", "LStemmaTree$Row;", true)
  | 1 => ("StemmaTree$Tree", "secondEnds", "LStemmaTree$Row;", true)
  | _ => ("StemmaTree$Tree", "edgeCount", "I", false)
def tyX7 : Nat → FieldType := fun k => match k with
  | 0 => .object "StemmaTree$Row"
  | 1 => .object "StemmaTree$Row"
  | _ => .int
abbrev wsX70 : List Cond := u_ws RX7 TX7 3
theorem nmX7 : ∀ a, a < 3 → ∀ b, b < 3 → a ≠ b → (TX7 a).2.1 ≠ (TX7 b).2.1 := by decide +kernel
theorem tyX7_ok : ∀ k, k < 3 → parseFieldDescriptor (TX7 k).2.2.1 = some (tyX7 k) := by decide +kernel
abbrev cX7_init : ByteArray := prog_9_method_1_code
def yX7_init : MethodName := ⟨RX7, "<init>", "()V"⟩
abbrev cX7_weightOf : ByteArray := prog_9_method_2_code
def yX7_weightOf : MethodName := ⟨RX7, "weightOf", "(I)I"⟩
abbrev cX7_edgeOf : ByteArray := prog_9_method_3_code
def yX7_edgeOf : MethodName := ⟨RX7, "edgeOf", "(II)I"⟩
abbrev cX7_grow : ByteArray := prog_9_method_4_code
def yX7_grow : MethodName := ⟨RX7, "grow", "(II)V"⟩
abbrev cX7_hang : ByteArray := prog_9_method_5_code
def yX7_hang : MethodName := ⟨RX7, "hang", "(II)V"⟩
abbrev cX7_addEdge : ByteArray := prog_9_method_6_code
def yX7_addEdge : MethodName := ⟨RX7, "addEdge", "(II)V"⟩
def RX8 : String := "StemmaTree"
def TX8 : u_T := fun k => match k with
  | 0 => ("StemmaTree", "text", "LStemmaTree$Text;", true)
  | 1 => ("StemmaTree", "told", "LStemmaTree$Readings;", true)
  | 2 => ("StemmaTree", "draft", "LStemmaTree$Readings;", true)
  | 3 => ("StemmaTree", "done", "LStemmaTree$Done;", true)
  | 4 => ("StemmaTree", "firstImage", "LStemmaTree$Image;", true)
  | 5 => ("StemmaTree", "secondImage", "LStemmaTree$Image;", true)
  | 6 => ("StemmaTree", "seen", "LStemmaTree$Row;", true)
  | 7 => ("StemmaTree", "grown", "LStemmaTree$Tree;", true)
  | 8 => ("StemmaTree", "descent", "LStemmaTree$Descent;", true)
  | 9 => ("StemmaTree", "copySets", "LStemmaTree$Row;", true)
  | 10 => ("StemmaTree", "treeChanges", "LStemmaTree$Row;", true)
  | 11 => ("StemmaTree", "treesByChanges", "LStemmaTree$Row;", true)
  | 12 => ("StemmaTree", "mix", "LStemmaTree$Mix;", true)
  | 13 => ("StemmaTree", "seenCount", "I", false)
  | 14 => ("StemmaTree", "chosen", "I", false)
  | _ => ("StemmaTree", "weighed", "Z", false)
def tyX8 : Nat → FieldType := fun k => match k with
  | 0 => .object "StemmaTree$Text"
  | 1 => .object "StemmaTree$Readings"
  | 2 => .object "StemmaTree$Readings"
  | 3 => .object "StemmaTree$Done"
  | 4 => .object "StemmaTree$Image"
  | 5 => .object "StemmaTree$Image"
  | 6 => .object "StemmaTree$Row"
  | 7 => .object "StemmaTree$Tree"
  | 8 => .object "StemmaTree$Descent"
  | 9 => .object "StemmaTree$Row"
  | 10 => .object "StemmaTree$Row"
  | 11 => .object "StemmaTree$Row"
  | 12 => .object "StemmaTree$Mix"
  | 13 => .int
  | 14 => .int
  | _ => .boolean
abbrev wsX80 : List Cond := u_ws RX8 TX8 16
theorem nmX8 : ∀ a, a < 16 → ∀ b, b < 16 → a ≠ b → (TX8 a).2.1 ≠ (TX8 b).2.1 := by decide +kernel
theorem tyX8_ok : ∀ k, k < 16 → parseFieldDescriptor (TX8 k).2.2.1 = some (tyX8 k) := by decide +kernel
abbrev cX8_init : ByteArray := prog_1_method_1_code
def yX8_init : MethodName := ⟨RX8, "<init>", "()V"⟩
abbrev cX8_type : ByteArray := prog_1_method_2_code
def yX8_type : MethodName := ⟨RX8, "type", "(I)I"⟩
abbrev cX8_clear : ByteArray := prog_1_method_3_code
def yX8_clear : MethodName := ⟨RX8, "clear", "()I"⟩
abbrev cX8_copies : ByteArray := prog_1_method_4_code
def yX8_copies : MethodName := ⟨RX8, "copies", "()I"⟩
abbrev cX8_reading : ByteArray := prog_1_method_5_code
def yX8_reading : MethodName := ⟨RX8, "reading", "(II)I"⟩
abbrev cX8_reads : ByteArray := prog_1_method_6_code
def yX8_reads : MethodName := ⟨RX8, "reads", "(III)I"⟩
abbrev cX8_chooses : ByteArray := prog_1_method_7_code
def yX8_chooses : MethodName := ⟨RX8, "chooses", "(I)I"⟩
abbrev cX8_betters : ByteArray := prog_1_method_8_code
def yX8_betters : MethodName := ⟨RX8, "betters", "()I"⟩
abbrev cX8_undo : ByteArray := prog_1_method_9_code
def yX8_undo : MethodName := ⟨RX8, "undo", "()I"⟩
abbrev cX8_changes : ByteArray := prog_1_method_10_code
def yX8_changes : MethodName := ⟨RX8, "changes", "(II)I"⟩
abbrev cX8_directed : ByteArray := prog_1_method_11_code
def yX8_directed : MethodName := ⟨RX8, "directed", "(II)I"⟩
abbrev cX8_root : ByteArray := prog_1_method_12_code
def yX8_root : MethodName := ⟨RX8, "root", "(I)I"⟩
abbrev cX8_rank : ByteArray := prog_1_method_13_code
def yX8_rank : MethodName := ⟨RX8, "rank", "(I)I"⟩
abbrev cX8_best : ByteArray := prog_1_method_14_code
def yX8_best : MethodName := ⟨RX8, "best", "(I)I"⟩
abbrev cX8_fitting : ByteArray := prog_1_method_15_code
def yX8_fitting : MethodName := ⟨RX8, "fitting", "(II)I"⟩
abbrev cX8_quarrel : ByteArray := prog_1_method_16_code
def yX8_quarrel : MethodName := ⟨RX8, "quarrel", "(II)I"⟩
abbrev cX8_shared : ByteArray := prog_1_method_17_code
def yX8_shared : MethodName := ⟨RX8, "shared", "(II)I"⟩
abbrev cX8_mixed : ByteArray := prog_1_method_18_code
def yX8_mixed : MethodName := ⟨RX8, "mixed", "(II)I"⟩
abbrev cX8_sees : ByteArray := prog_1_method_19_code
def yX8_sees : MethodName := ⟨RX8, "sees", "(I)I"⟩
abbrev cX8_forget : ByteArray := prog_1_method_20_code
def yX8_forget : MethodName := ⟨RX8, "forget", "()I"⟩
abbrev cX8_unseen : ByteArray := prog_1_method_21_code
def yX8_unseen : MethodName := ⟨RX8, "unseen", "()I"⟩
abbrev cX8_keep : ByteArray := prog_1_method_22_code
def yX8_keep : MethodName := ⟨RX8, "keep", "(I)I"⟩
abbrev cX8_back : ByteArray := prog_1_method_23_code
def yX8_back : MethodName := ⟨RX8, "back", "(I)I"⟩
abbrev cX8_count : ByteArray := prog_1_method_24_code
def yX8_count : MethodName := ⟨RX8, "count", "(I)I"⟩
abbrev cX8_treesOf : ByteArray := prog_1_method_25_code
def yX8_treesOf : MethodName := ⟨RX8, "treesOf", "(I)I"⟩
abbrev cX8_edgesOf : ByteArray := prog_1_method_26_code
def yX8_edgesOf : MethodName := ⟨RX8, "edgesOf", "(I)I"⟩
abbrev cX8_bitsOf : ByteArray := prog_1_method_27_code
def yX8_bitsOf : MethodName := ⟨RX8, "bitsOf", "(I)I"⟩
abbrev cX8_bitOf : ByteArray := prog_1_method_28_code
def yX8_bitOf : MethodName := ⟨RX8, "bitOf", "(II)I"⟩
abbrev cX8_isTree : ByteArray := prog_1_method_29_code
def yX8_isTree : MethodName := ⟨RX8, "isTree", "(I)Z"⟩
abbrev cX8_imageOf : ByteArray := prog_1_method_30_code
def yX8_imageOf : MethodName := ⟨RX8, "imageOf", "(I)LStemmaTree$Image;"⟩
abbrev cX8_becomeTree : ByteArray := prog_1_method_31_code
def yX8_becomeTree : MethodName := ⟨RX8, "becomeTree", "(I)V"⟩
abbrev cX8_loadSets : ByteArray := prog_1_method_32_code
def yX8_loadSets : MethodName := ⟨RX8, "loadSets", "(I)V"⟩
abbrev cX8_changesOf : ByteArray := prog_1_method_33_code
def yX8_changesOf : MethodName := ⟨RX8, "changesOf", "(I)I"⟩
abbrev cX8_changesIf : ByteArray := prog_1_method_34_code
def yX8_changesIf : MethodName := ⟨RX8, "changesIf", "(III)I"⟩
abbrev cX8_costFrom : ByteArray := prog_1_method_35_code
def yX8_costFrom : MethodName := ⟨RX8, "costFrom", "(I)I"⟩
abbrev cX8_weighTrees : ByteArray := prog_1_method_36_code
def yX8_weighTrees : MethodName := ⟨RX8, "weighTrees", "()V"⟩
abbrev cX8_fewestChanges : ByteArray := prog_1_method_37_code
def yX8_fewestChanges : MethodName := ⟨RX8, "fewestChanges", "()I"⟩
abbrev cX8_treeWith : ByteArray := prog_1_method_38_code
def yX8_treeWith : MethodName := ⟨RX8, "treeWith", "(II)I"⟩
abbrev cX8_betterTree : ByteArray := prog_1_method_39_code
def yX8_betterTree : MethodName := ⟨RX8, "betterTree", "()I"⟩
abbrev cX8_bound : ByteArray := prog_1_method_40_code
def yX8_bound : MethodName := ⟨RX8, "bound", "()I"⟩
abbrev cX8_inQuarrel : ByteArray := prog_1_method_41_code
def yX8_inQuarrel : MethodName := ⟨RX8, "inQuarrel", "(II)Z"⟩
abbrev cX8_quarrels : ByteArray := prog_1_method_42_code
def yX8_quarrels : MethodName := ⟨RX8, "quarrels", "()I"⟩
abbrev cX8_lostOnes : ByteArray := prog_1_method_43_code
def yX8_lostOnes : MethodName := ⟨RX8, "lostOnes", "()I"⟩
abbrev cX8_mayBeMisread : ByteArray := prog_1_method_44_code
def yX8_mayBeMisread : MethodName := ⟨RX8, "mayBeMisread", "(I)Z"⟩
abbrev cX8_allSeenIs : ByteArray := prog_1_method_45_code
def yX8_allSeenIs : MethodName := ⟨RX8, "allSeenIs", "(I)Z"⟩
def RX9 : String := "StemmaTreeModel"
def TX9 : u_T := fun k => match k with
  | 0 => ("StemmaTreeModel", "many", "I", false)
  | 1 => ("StemmaTreeModel", "places", "I", false)
  | 2 => ("StemmaTreeModel", "now", "[I", true)
  | 3 => ("StemmaTreeModel", "undoMany", "I", false)
  | 4 => ("StemmaTreeModel", "undoAt", "I", false)
  | 5 => ("StemmaTreeModel", "undos", "[I", true)
  | 6 => ("StemmaTreeModel", "seenMany", "I", false)
  | 7 => ("StemmaTreeModel", "seen", "[I", true)
  | 8 => ("StemmaTreeModel", "isKept", "[Z", true)
  | 9 => ("StemmaTreeModel", "kept", "[I", true)
  | 10 => ("StemmaTreeModel", "letterMany", "I", false)
  | 11 => ("StemmaTreeModel", "text", "[I", true)
  | 12 => ("StemmaTreeModel", "readAt", "I", false)
  | 13 => ("StemmaTreeModel", "tokenAt", "I", false)
  | 14 => ("StemmaTreeModel", "token", "I", false)
  | 15 => ("StemmaTreeModel", "faultAt", "I", false)
  | 16 => ("StemmaTreeModel", "readMany", "I", false)
  | 17 => ("StemmaTreeModel", "readPlaces", "I", false)
  | 18 => ("StemmaTreeModel", "read", "[I", true)
  | 19 => ("StemmaTreeModel", "edgeMany", "I", false)
  | 20 => ("StemmaTreeModel", "nodeMany", "I", false)
  | 21 => ("StemmaTreeModel", "first", "[I", true)
  | 22 => ("StemmaTreeModel", "second", "[I", true)
  | 23 => ("StemmaTreeModel", "cost", "[I", true)
  | 24 => ("StemmaTreeModel", "isGone", "[Z", true)
  | 25 => ("StemmaTreeModel", "all", "[I", true)
  | _ => ("StemmaTreeModel", "mixedBest", "[I", true)
def tyX9 : Nat → FieldType := fun k => match k with
  | 0 => .int
  | 1 => .int
  | 2 => .array .int
  | 3 => .int
  | 4 => .int
  | 5 => .array .int
  | 6 => .int
  | 7 => .array .int
  | 8 => .array .boolean
  | 9 => .array .int
  | 10 => .int
  | 11 => .array .int
  | 12 => .int
  | 13 => .int
  | 14 => .int
  | 15 => .int
  | 16 => .int
  | 17 => .int
  | 18 => .array .int
  | 19 => .int
  | 20 => .int
  | 21 => .array .int
  | 22 => .array .int
  | 23 => .array .int
  | 24 => .array .boolean
  | 25 => .array .int
  | _ => .array .int
abbrev wsX90 : List Cond := u_ws RX9 TX9 27
theorem nmX9 : ∀ a, a < 27 → ∀ b, b < 27 → a ≠ b → (TX9 a).2.1 ≠ (TX9 b).2.1 := by decide +kernel
theorem tyX9_ok : ∀ k, k < 27 → parseFieldDescriptor (TX9 k).2.2.1 = some (tyX9 k) := by decide +kernel
abbrev cX9_init : ByteArray := prog_11_method_1_code
def yX9_init : MethodName := ⟨RX9, "<init>", "()V"⟩
abbrev cX9_in : ByteArray := prog_11_method_2_code
def yX9_in : MethodName := ⟨RX9, "in", "(III)Z"⟩
abbrev cX9_has : ByteArray := prog_11_method_3_code
def yX9_has : MethodName := ⟨RX9, "has", "(II)Z"⟩
abbrev cX9_type : ByteArray := prog_11_method_4_code
def yX9_type : MethodName := ⟨RX9, "type", "(I)I"⟩
abbrev cX9_clear : ByteArray := prog_11_method_5_code
def yX9_clear : MethodName := ⟨RX9, "clear", "()I"⟩
abbrev cX9_blanks : ByteArray := prog_11_method_6_code
def yX9_blanks : MethodName := ⟨RX9, "blanks", "()V"⟩
abbrev cX9_next : ByteArray := prog_11_method_7_code
def yX9_next : MethodName := ⟨RX9, "next", "()V"⟩
abbrev cX9_readsCopy : ByteArray := prog_11_method_8_code
def yX9_readsCopy : MethodName := ⟨RX9, "readsCopy", "()Z"⟩
abbrev cX9_copies : ByteArray := prog_11_method_9_code
def yX9_copies : MethodName := ⟨RX9, "copies", "()I"⟩
abbrev cX9_isCopy : ByteArray := prog_11_method_10_code
def yX9_isCopy : MethodName := ⟨RX9, "isCopy", "(I)Z"⟩
abbrev cX9_isPlace : ByteArray := prog_11_method_11_code
def yX9_isPlace : MethodName := ⟨RX9, "isPlace", "(I)Z"⟩
abbrev cX9_readingOf : ByteArray := prog_11_method_12_code
def yX9_readingOf : MethodName := ⟨RX9, "readingOf", "(II)I"⟩
abbrev cX9_reading : ByteArray := prog_11_method_13_code
def yX9_reading : MethodName := ⟨RX9, "reading", "(II)I"⟩
abbrev cX9_trees : ByteArray := prog_11_method_14_code
def yX9_trees : MethodName := ⟨RX9, "trees", "()I"⟩
abbrev cX9_edgeOf : ByteArray := prog_11_method_15_code
def yX9_edgeOf : MethodName := ⟨RX9, "edgeOf", "(II)I"⟩
abbrev cX9_edge : ByteArray := prog_11_method_16_code
def yX9_edge : MethodName := ⟨RX9, "edge", "(II)V"⟩
abbrev cX9_layTree : ByteArray := prog_11_method_17_code
def yX9_layTree : MethodName := ⟨RX9, "layTree", "(I)V"⟩
abbrev cX9_between : ByteArray := prog_11_method_18_code
def yX9_between : MethodName := ⟨RX9, "between", "(IIZ)I"⟩
abbrev cX9_layLeaves : ByteArray := prog_11_method_19_code
def yX9_layLeaves : MethodName := ⟨RX9, "layLeaves", "(I)V"⟩
abbrev cX9_least : ByteArray := prog_11_method_20_code
def yX9_least : MethodName := ⟨RX9, "least", "(I)I"⟩
abbrev cX9_takes : ByteArray := prog_11_method_21_code
def yX9_takes : MethodName := ⟨RX9, "takes", "(IIZ)V"⟩
abbrev cX9_lastEdge : ByteArray := prog_11_method_22_code
def yX9_lastEdge : MethodName := ⟨RX9, "lastEdge", "(I)I"⟩
abbrev cX9_costFrom : ByteArray := prog_11_method_23_code
def yX9_costFrom : MethodName := ⟨RX9, "costFrom", "(IIZ)I"⟩
abbrev cX9_changesAt : ByteArray := prog_11_method_24_code
def yX9_changesAt : MethodName := ⟨RX9, "changesAt", "(I)I"⟩
abbrev cX9_changesOf : ByteArray := prog_11_method_25_code
def yX9_changesOf : MethodName := ⟨RX9, "changesOf", "(I)I"⟩
abbrev cX9_isTree : ByteArray := prog_11_method_26_code
def yX9_isTree : MethodName := ⟨RX9, "isTree", "(I)Z"⟩
abbrev cX9_changes : ByteArray := prog_11_method_27_code
def yX9_changes : MethodName := ⟨RX9, "changes", "(II)I"⟩
abbrev cX9_directedOf : ByteArray := prog_11_method_28_code
def yX9_directedOf : MethodName := ⟨RX9, "directedOf", "(II)I"⟩
abbrev cX9_edges : ByteArray := prog_11_method_29_code
def yX9_edges : MethodName := ⟨RX9, "edges", "()I"⟩
abbrev cX9_directed : ByteArray := prog_11_method_30_code
def yX9_directed : MethodName := ⟨RX9, "directed", "(II)I"⟩
abbrev cX9_root : ByteArray := prog_11_method_31_code
def yX9_root : MethodName := ⟨RX9, "root", "(I)I"⟩
abbrev cX9_fewest : ByteArray := prog_11_method_32_code
def yX9_fewest : MethodName := ⟨RX9, "fewest", "()I"⟩
abbrev cX9_rank : ByteArray := prog_11_method_33_code
def yX9_rank : MethodName := ⟨RX9, "rank", "(I)I"⟩
abbrev cX9_bound : ByteArray := prog_11_method_34_code
def yX9_bound : MethodName := ⟨RX9, "bound", "()I"⟩
abbrev cX9_best : ByteArray := prog_11_method_35_code
def yX9_best : MethodName := ⟨RX9, "best", "(I)I"⟩
abbrev cX9_remember : ByteArray := prog_11_method_36_code
def yX9_remember : MethodName := ⟨RX9, "remember", "()V"⟩
abbrev cX9_becomes : ByteArray := prog_11_method_37_code
def yX9_becomes : MethodName := ⟨RX9, "becomes", "(II)I"⟩
abbrev cX9_reads : ByteArray := prog_11_method_38_code
def yX9_reads : MethodName := ⟨RX9, "reads", "(III)I"⟩
abbrev cX9_chooses : ByteArray := prog_11_method_39_code
def yX9_chooses : MethodName := ⟨RX9, "chooses", "(I)I"⟩
abbrev cX9_isNear : ByteArray := prog_11_method_40_code
def yX9_isNear : MethodName := ⟨RX9, "isNear", "(II)Z"⟩
abbrev cX9_betters : ByteArray := prog_11_method_41_code
def yX9_betters : MethodName := ⟨RX9, "betters", "()I"⟩
abbrev cX9_undo : ByteArray := prog_11_method_42_code
def yX9_undo : MethodName := ⟨RX9, "undo", "()I"⟩
abbrev cX9_fitting : ByteArray := prog_11_method_43_code
def yX9_fitting : MethodName := ⟨RX9, "fitting", "(II)I"⟩
abbrev cX9_isTold : ByteArray := prog_11_method_44_code
def yX9_isTold : MethodName := ⟨RX9, "isTold", "(IIII)Z"⟩
abbrev cX9_quarrels : ByteArray := prog_11_method_45_code
def yX9_quarrels : MethodName := ⟨RX9, "quarrels", "(II)Z"⟩
abbrev cX9_quarrel : ByteArray := prog_11_method_46_code
def yX9_quarrel : MethodName := ⟨RX9, "quarrel", "(II)I"⟩
abbrev cX9_shared : ByteArray := prog_11_method_47_code
def yX9_shared : MethodName := ⟨RX9, "shared", "(II)I"⟩
abbrev cX9_unlikes : ByteArray := prog_11_method_48_code
def yX9_unlikes : MethodName := ⟨RX9, "unlikes", "(IIII)I"⟩
abbrev cX9_mixed : ByteArray := prog_11_method_49_code
def yX9_mixed : MethodName := ⟨RX9, "mixed", "(II)I"⟩
abbrev cX9_sees : ByteArray := prog_11_method_50_code
def yX9_sees : MethodName := ⟨RX9, "sees", "(I)I"⟩
abbrev cX9_forget : ByteArray := prog_11_method_51_code
def yX9_forget : MethodName := ⟨RX9, "forget", "()I"⟩
abbrev cX9_isSeen : ByteArray := prog_11_method_52_code
def yX9_isSeen : MethodName := ⟨RX9, "isSeen", "(I)Z"⟩
abbrev cX9_unseen : ByteArray := prog_11_method_53_code
def yX9_unseen : MethodName := ⟨RX9, "unseen", "()I"⟩
abbrev cX9_keep : ByteArray := prog_11_method_54_code
def yX9_keep : MethodName := ⟨RX9, "keep", "(I)I"⟩
abbrev cX9_back : ByteArray := prog_11_method_55_code
def yX9_back : MethodName := ⟨RX9, "back", "(I)I"⟩
abbrev cX9_ofAll : ByteArray := prog_11_method_56_code
def yX9_ofAll : MethodName := ⟨RX9, "ofAll", "(I)I"⟩
abbrev cX9_count : ByteArray := prog_11_method_57_code
def yX9_count : MethodName := ⟨RX9, "count", "(I)I"⟩
def RJ6 : String := "java/lang/Integer"
def TJ6 : u_T := fun k => match k with
  | _ => ("", "", "", false)
def tyJ6 : Nat → FieldType := fun k => match k with
  | _ => .int
abbrev wsJ60 : List Cond := u_ws RJ6 TJ6 0
theorem nmJ6 : ∀ a, a < 0 → ∀ b, b < 0 → a ≠ b → (TJ6 a).2.1 ≠ (TJ6 b).2.1 := by decide +kernel
theorem tyJ6_ok : ∀ k, k < 0 → parseFieldDescriptor (TJ6 k).2.2.1 = some (tyJ6 k) := by decide +kernel
abbrev cJ6_bitCount_0f7a4 : ByteArray := prog_12_method_49_code
def yJ6_bitCount_0f7a4 : MethodName := ⟨RJ6, "bitCount", "(I)I"⟩
def RJ9 : String := "java/lang/Math"
def TJ9 : u_T := fun k => match k with
  | _ => ("", "", "", false)
def tyJ9 : Nat → FieldType := fun k => match k with
  | _ => .int
abbrev wsJ90 : List Cond := u_ws RJ9 TJ9 0
theorem nmJ9 : ∀ a, a < 0 → ∀ b, b < 0 → a ≠ b → (TJ9 a).2.1 ≠ (TJ9 b).2.1 := by decide +kernel
theorem tyJ9_ok : ∀ k, k < 0 → parseFieldDescriptor (TJ9 k).2.2.1 = some (tyJ9 k) := by decide +kernel
abbrev cJ9_max_7cf53 : ByteArray := prog_13_method_65_code
def yJ9_max_7cf53 : MethodName := ⟨RJ9, "max", "(II)I"⟩
abbrev cJ9_min_7cf53 : ByteArray := prog_13_method_69_code
def yJ9_min_7cf53 : MethodName := ⟨RJ9, "min", "(II)I"⟩
def RL : String := "StemmaTreeLaw"
abbrev cL_law : ByteArray := code
def yL_law : MethodName := ⟨RL, "law", "([I)Z"⟩
abbrev vwCl : List vw_C := [(RX0, TX0, 6), (RX1, TX1, 3), (RX2, TX2, 3), (RX3, TX3, 5), (RX4, TX4, 3), (RX5, TX5, 1), (RX6, TX6, 2), (RX7, TX7, 3), (RX8, TX8, 16), (RX9, TX9, 27)]
end
section
theorem dX0_init_0 : decode cX0_init 0 = .ok (.aload_n 0, 1) := by decide +kernel
theorem dX0_init_1 : decode cX0_init 1 = .ok (.invokespecial 3, 3) := by decide +kernel
theorem dX0_init_4 : decode cX0_init 4 = .ok (.aload_n 0, 1) := by decide +kernel
theorem dX0_init_5 : decode cX0_init 5 = .ok (.new 9, 3) := by decide +kernel
theorem dX0_init_8 : decode cX0_init 8 = .ok (.dup, 1) := by decide +kernel
theorem dX0_init_9 : decode cX0_init 9 = .ok (.bipush 11, 2) := by decide +kernel
theorem dX0_init_11 : decode cX0_init 11 = .ok (.invokespecial 11, 3) := by decide +kernel
theorem dX0_init_14 : decode cX0_init 14 = .ok (.putfield 14, 3) := by decide +kernel
theorem dX0_init_17 : decode cX0_init 17 = .ok (.aload_n 0, 1) := by decide +kernel
theorem dX0_init_18 : decode cX0_init 18 = .ok (.new 9, 3) := by decide +kernel
theorem dX0_init_21 : decode cX0_init 21 = .ok (.dup, 1) := by decide +kernel
theorem dX0_init_22 : decode cX0_init 22 = .ok (.bipush 11, 2) := by decide +kernel
theorem dX0_init_24 : decode cX0_init 24 = .ok (.invokespecial 11, 3) := by decide +kernel
theorem dX0_init_27 : decode cX0_init 27 = .ok (.putfield 20, 3) := by decide +kernel
theorem dX0_init_30 : decode cX0_init 30 = .ok (.aload_n 0, 1) := by decide +kernel
theorem dX0_init_31 : decode cX0_init 31 = .ok (.new 9, 3) := by decide +kernel
theorem dX0_init_34 : decode cX0_init 34 = .ok (.dup, 1) := by decide +kernel
theorem dX0_init_35 : decode cX0_init 35 = .ok (.bipush 11, 2) := by decide +kernel
theorem dX0_init_37 : decode cX0_init 37 = .ok (.invokespecial 11, 3) := by decide +kernel
theorem dX0_init_40 : decode cX0_init 40 = .ok (.putfield 23, 3) := by decide +kernel
theorem dX0_init_43 : decode cX0_init 43 = .ok (.aload_n 0, 1) := by decide +kernel
theorem dX0_init_44 : decode cX0_init 44 = .ok (.new 9, 3) := by decide +kernel
theorem dX0_init_47 : decode cX0_init 47 = .ok (.dup, 1) := by decide +kernel
theorem dX0_init_48 : decode cX0_init 48 = .ok (.bipush 11, 2) := by decide +kernel
theorem dX0_init_50 : decode cX0_init 50 = .ok (.invokespecial 11, 3) := by decide +kernel
theorem dX0_init_53 : decode cX0_init 53 = .ok (.putfield 26, 3) := by decide +kernel
theorem dX0_init_56 : decode cX0_init 56 = .ok (.aload_n 0, 1) := by decide +kernel
theorem dX0_init_57 : decode cX0_init 57 = .ok (.new 9, 3) := by decide +kernel
theorem dX0_init_60 : decode cX0_init 60 = .ok (.dup, 1) := by decide +kernel
theorem dX0_init_61 : decode cX0_init 61 = .ok (.bipush 44, 2) := by decide +kernel
theorem dX0_init_63 : decode cX0_init 63 = .ok (.invokespecial 11, 3) := by decide +kernel
theorem dX0_init_66 : decode cX0_init 66 = .ok (.putfield 29, 3) := by decide +kernel
theorem dX0_init_69 : decode cX0_init 69 = .ok (.return_, 1) := by decide +kernel
theorem dX0_follow_0 : decode cX0_follow 0 = .ok (.aload_n 0, 1) := by decide +kernel
theorem dX0_follow_1 : decode cX0_follow 1 = .ok (.iconst 0, 1) := by decide +kernel
theorem dX0_follow_2 : decode cX0_follow 2 = .ok (.putfield 32, 3) := by decide +kernel
theorem dX0_follow_5 : decode cX0_follow 5 = .ok (.iload_n 2, 1) := by decide +kernel
theorem dX0_follow_6 : decode cX0_follow 6 = .ok (.ifCond .lt 11, 3) := by decide +kernel
theorem dX0_follow_9 : decode cX0_follow 9 = .ok (.iload_n 2, 1) := by decide +kernel
theorem dX0_follow_10 : decode cX0_follow 10 = .ok (.aload_n 1, 1) := by decide +kernel
theorem dX0_follow_11 : decode cX0_follow 11 = .ok (.getfield 36, 3) := by decide +kernel
theorem dX0_follow_14 : decode cX0_follow 14 = .ok (.if_icmp .lt 4, 3) := by decide +kernel
theorem dX0_follow_17 : decode cX0_follow 17 = .ok (.return_, 1) := by decide +kernel
theorem dX0_follow_18 : decode cX0_follow 18 = .ok (.aload_n 0, 1) := by decide +kernel
theorem dX0_follow_19 : decode cX0_follow 19 = .ok (.bipush 10, 2) := by decide +kernel
theorem dX0_follow_21 : decode cX0_follow 21 = .ok (.iload_n 2, 1) := by decide +kernel
theorem dX0_follow_22 : decode cX0_follow 22 = .ok (.invokevirtual 41, 3) := by decide +kernel
theorem dX0_follow_25 : decode cX0_follow 25 = .ok (.aload_n 0, 1) := by decide +kernel
theorem dX0_follow_26 : decode cX0_follow 26 = .ok (.getfield 23, 3) := by decide +kernel
theorem dX0_follow_29 : decode cX0_follow 29 = .ok (.iconst 0, 1) := by decide +kernel
theorem dX0_follow_30 : decode cX0_follow 30 = .ok (.aload_n 0, 1) := by decide +kernel
theorem dX0_follow_31 : decode cX0_follow 31 = .ok (.getfield 32, 3) := by decide +kernel
theorem dX0_follow_34 : decode cX0_follow 34 = .ok (.invokevirtual 45, 3) := by decide +kernel
theorem dX0_follow_37 : decode cX0_follow 37 = .ok (.aload_n 0, 1) := by decide +kernel
theorem dX0_follow_38 : decode cX0_follow 38 = .ok (.aload_n 1, 1) := by decide +kernel
theorem dX0_follow_39 : decode cX0_follow 39 = .ok (.getfield 48, 3) := by decide +kernel
theorem dX0_follow_42 : decode cX0_follow 42 = .ok (.iload_n 2, 1) := by decide +kernel
theorem dX0_follow_43 : decode cX0_follow 43 = .ok (.invokevirtual 51, 3) := by decide +kernel
theorem dX0_follow_46 : decode cX0_follow 46 = .ok (.iload_n 2, 1) := by decide +kernel
theorem dX0_follow_47 : decode cX0_follow 47 = .ok (.invokevirtual 41, 3) := by decide +kernel
theorem dX0_follow_50 : decode cX0_follow 50 = .ok (.aload_n 0, 1) := by decide +kernel
theorem dX0_follow_51 : decode cX0_follow 51 = .ok (.aload_n 1, 1) := by decide +kernel
theorem dX0_follow_52 : decode cX0_follow 52 = .ok (.getfield 55, 3) := by decide +kernel
theorem dX0_follow_55 : decode cX0_follow 55 = .ok (.iload_n 2, 1) := by decide +kernel
theorem dX0_follow_56 : decode cX0_follow 56 = .ok (.invokevirtual 51, 3) := by decide +kernel
theorem dX0_follow_59 : decode cX0_follow 59 = .ok (.iload_n 2, 1) := by decide +kernel
theorem dX0_follow_60 : decode cX0_follow 60 = .ok (.invokevirtual 41, 3) := by decide +kernel
theorem dX0_follow_63 : decode cX0_follow 63 = .ok (.iconst 1, 1) := by decide +kernel
theorem dX0_follow_64 : decode cX0_follow 64 = .ok (.istore_n 3, 1) := by decide +kernel
theorem dX0_follow_65 : decode cX0_follow 65 = .ok (.iload_n 3, 1) := by decide +kernel
theorem dX0_follow_66 : decode cX0_follow 66 = .ok (.aload_n 0, 1) := by decide +kernel
theorem dX0_follow_67 : decode cX0_follow 67 = .ok (.getfield 32, 3) := by decide +kernel
theorem dX0_follow_70 : decode cX0_follow 70 = .ok (.if_icmp .ge 61, 3) := by decide +kernel
theorem dX0_follow_73 : decode cX0_follow 73 = .ok (.iload_n 3, 1) := by decide +kernel
theorem dX0_follow_74 : decode cX0_follow 74 = .ok (.bipush 11, 2) := by decide +kernel
theorem dX0_follow_76 : decode cX0_follow 76 = .ok (.if_icmp .ge 55, 3) := by decide +kernel
theorem dX0_follow_79 : decode cX0_follow 79 = .ok (.aload_n 0, 1) := by decide +kernel
theorem dX0_follow_80 : decode cX0_follow 80 = .ok (.getfield 14, 3) := by decide +kernel
theorem dX0_follow_83 : decode cX0_follow 83 = .ok (.iload_n 3, 1) := by decide +kernel
theorem dX0_follow_84 : decode cX0_follow 84 = .ok (.invokevirtual 51, 3) := by decide +kernel
theorem dX0_follow_87 : decode cX0_follow 87 = .ok (.bipush 6, 2) := by decide +kernel
theorem dX0_follow_89 : decode cX0_follow 89 = .ok (.if_icmp .lt 36, 3) := by decide +kernel
theorem dX0_follow_92 : decode cX0_follow 92 = .ok (.aload_n 0, 1) := by decide +kernel
theorem dX0_follow_93 : decode cX0_follow 93 = .ok (.getfield 23, 3) := by decide +kernel
theorem dX0_follow_96 : decode cX0_follow 96 = .ok (.iload_n 3, 1) := by decide +kernel
theorem dX0_follow_97 : decode cX0_follow 97 = .ok (.aload_n 0, 1) := by decide +kernel
theorem dX0_follow_98 : decode cX0_follow 98 = .ok (.getfield 32, 3) := by decide +kernel
theorem dX0_follow_101 : decode cX0_follow 101 = .ok (.invokevirtual 45, 3) := by decide +kernel
theorem dX0_follow_104 : decode cX0_follow 104 = .ok (.aload_n 0, 1) := by decide +kernel
theorem dX0_follow_105 : decode cX0_follow 105 = .ok (.aload_n 1, 1) := by decide +kernel
theorem dX0_follow_106 : decode cX0_follow 106 = .ok (.aload_n 0, 1) := by decide +kernel
theorem dX0_follow_107 : decode cX0_follow 107 = .ok (.getfield 14, 3) := by decide +kernel
theorem dX0_follow_110 : decode cX0_follow 110 = .ok (.iload_n 3, 1) := by decide +kernel
theorem dX0_follow_111 : decode cX0_follow 111 = .ok (.invokevirtual 51, 3) := by decide +kernel
theorem dX0_follow_114 : decode cX0_follow 114 = .ok (.aload_n 0, 1) := by decide +kernel
theorem dX0_follow_115 : decode cX0_follow 115 = .ok (.getfield 20, 3) := by decide +kernel
theorem dX0_follow_118 : decode cX0_follow 118 = .ok (.iload_n 3, 1) := by decide +kernel
theorem dX0_follow_119 : decode cX0_follow 119 = .ok (.invokevirtual 51, 3) := by decide +kernel
theorem dX0_follow_122 : decode cX0_follow 122 = .ok (.invokevirtual 58, 3) := by decide +kernel
theorem dX0_follow_125 : decode cX0_follow 125 = .ok (.iinc 3 1, 3) := by decide +kernel
theorem dX0_follow_128 : decode cX0_follow 128 = .ok (.goto (-63), 3) := by decide +kernel
theorem dX0_follow_131 : decode cX0_follow 131 = .ok (.return_, 1) := by decide +kernel
theorem dX0_appendBelow_0 : decode cX0_appendBelow 0 = .ok (.iconst 0, 1) := by decide +kernel
theorem dX0_appendBelow_1 : decode cX0_appendBelow 1 = .ok (.istore 4, 2) := by decide +kernel
theorem dX0_appendBelow_3 : decode cX0_appendBelow 3 = .ok (.iload 4, 2) := by decide +kernel
theorem dX0_appendBelow_5 : decode cX0_appendBelow 5 = .ok (.aload_n 1, 1) := by decide +kernel
theorem dX0_appendBelow_6 : decode cX0_appendBelow 6 = .ok (.getfield 36, 3) := by decide +kernel
theorem dX0_appendBelow_9 : decode cX0_appendBelow 9 = .ok (.if_icmp .ge 77, 3) := by decide +kernel
theorem dX0_appendBelow_12 : decode cX0_appendBelow 12 = .ok (.iload 4, 2) := by decide +kernel
theorem dX0_appendBelow_14 : decode cX0_appendBelow 14 = .ok (.iload_n 3, 1) := by decide +kernel
theorem dX0_appendBelow_15 : decode cX0_appendBelow 15 = .ok (.if_icmp .ne 6, 3) := by decide +kernel
theorem dX0_appendBelow_18 : decode cX0_appendBelow 18 = .ok (.goto 62, 3) := by decide +kernel
theorem dX0_appendBelow_21 : decode cX0_appendBelow 21 = .ok (.aload_n 1, 1) := by decide +kernel
theorem dX0_appendBelow_22 : decode cX0_appendBelow 22 = .ok (.getfield 48, 3) := by decide +kernel
theorem dX0_appendBelow_25 : decode cX0_appendBelow 25 = .ok (.iload 4, 2) := by decide +kernel
theorem dX0_appendBelow_27 : decode cX0_appendBelow 27 = .ok (.invokevirtual 51, 3) := by decide +kernel
theorem dX0_appendBelow_30 : decode cX0_appendBelow 30 = .ok (.iload_n 2, 1) := by decide +kernel
theorem dX0_appendBelow_31 : decode cX0_appendBelow 31 = .ok (.if_icmp .ne 21, 3) := by decide +kernel
theorem dX0_appendBelow_34 : decode cX0_appendBelow 34 = .ok (.aload_n 0, 1) := by decide +kernel
theorem dX0_appendBelow_35 : decode cX0_appendBelow 35 = .ok (.aload_n 1, 1) := by decide +kernel
theorem dX0_appendBelow_36 : decode cX0_appendBelow 36 = .ok (.getfield 55, 3) := by decide +kernel
theorem dX0_appendBelow_39 : decode cX0_appendBelow 39 = .ok (.iload 4, 2) := by decide +kernel
theorem dX0_appendBelow_41 : decode cX0_appendBelow 41 = .ok (.invokevirtual 51, 3) := by decide +kernel
theorem dX0_appendBelow_44 : decode cX0_appendBelow 44 = .ok (.iload 4, 2) := by decide +kernel
theorem dX0_appendBelow_46 : decode cX0_appendBelow 46 = .ok (.invokevirtual 41, 3) := by decide +kernel
theorem dX0_appendBelow_49 : decode cX0_appendBelow 49 = .ok (.goto 31, 3) := by decide +kernel
theorem dX0_appendBelow_52 : decode cX0_appendBelow 52 = .ok (.aload_n 1, 1) := by decide +kernel
theorem dX0_appendBelow_53 : decode cX0_appendBelow 53 = .ok (.getfield 55, 3) := by decide +kernel
theorem dX0_appendBelow_56 : decode cX0_appendBelow 56 = .ok (.iload 4, 2) := by decide +kernel
theorem dX0_appendBelow_58 : decode cX0_appendBelow 58 = .ok (.invokevirtual 51, 3) := by decide +kernel
theorem dX0_appendBelow_61 : decode cX0_appendBelow 61 = .ok (.iload_n 2, 1) := by decide +kernel
theorem dX0_appendBelow_62 : decode cX0_appendBelow 62 = .ok (.if_icmp .ne 18, 3) := by decide +kernel
theorem dX0_appendBelow_65 : decode cX0_appendBelow 65 = .ok (.aload_n 0, 1) := by decide +kernel
theorem dX0_appendBelow_66 : decode cX0_appendBelow 66 = .ok (.aload_n 1, 1) := by decide +kernel
theorem dX0_appendBelow_67 : decode cX0_appendBelow 67 = .ok (.getfield 48, 3) := by decide +kernel
theorem dX0_appendBelow_70 : decode cX0_appendBelow 70 = .ok (.iload 4, 2) := by decide +kernel
theorem dX0_appendBelow_72 : decode cX0_appendBelow 72 = .ok (.invokevirtual 51, 3) := by decide +kernel
theorem dX0_appendBelow_75 : decode cX0_appendBelow 75 = .ok (.iload 4, 2) := by decide +kernel
theorem dX0_appendBelow_77 : decode cX0_appendBelow 77 = .ok (.invokevirtual 41, 3) := by decide +kernel
theorem dX0_appendBelow_80 : decode cX0_appendBelow 80 = .ok (.iinc 4 1, 3) := by decide +kernel
theorem dX0_appendBelow_83 : decode cX0_appendBelow 83 = .ok (.goto (-80), 3) := by decide +kernel
theorem dX0_appendBelow_86 : decode cX0_appendBelow 86 = .ok (.return_, 1) := by decide +kernel
theorem dX0_append_0 : decode cX0_append 0 = .ok (.aload_n 0, 1) := by decide +kernel
theorem dX0_append_1 : decode cX0_append 1 = .ok (.getfield 14, 3) := by decide +kernel
theorem dX0_append_4 : decode cX0_append 4 = .ok (.aload_n 0, 1) := by decide +kernel
theorem dX0_append_5 : decode cX0_append 5 = .ok (.getfield 32, 3) := by decide +kernel
theorem dX0_append_8 : decode cX0_append 8 = .ok (.iload_n 1, 1) := by decide +kernel
theorem dX0_append_9 : decode cX0_append 9 = .ok (.invokevirtual 45, 3) := by decide +kernel
theorem dX0_append_12 : decode cX0_append 12 = .ok (.aload_n 0, 1) := by decide +kernel
theorem dX0_append_13 : decode cX0_append 13 = .ok (.getfield 20, 3) := by decide +kernel
theorem dX0_append_16 : decode cX0_append 16 = .ok (.aload_n 0, 1) := by decide +kernel
theorem dX0_append_17 : decode cX0_append 17 = .ok (.getfield 32, 3) := by decide +kernel
theorem dX0_append_20 : decode cX0_append 20 = .ok (.iload_n 2, 1) := by decide +kernel
theorem dX0_append_21 : decode cX0_append 21 = .ok (.invokevirtual 45, 3) := by decide +kernel
theorem dX0_append_24 : decode cX0_append 24 = .ok (.aload_n 0, 1) := by decide +kernel
theorem dX0_append_25 : decode cX0_append 25 = .ok (.dup, 1) := by decide +kernel
theorem dX0_append_26 : decode cX0_append 26 = .ok (.getfield 32, 3) := by decide +kernel
theorem dX0_append_29 : decode cX0_append 29 = .ok (.iconst 1, 1) := by decide +kernel
theorem dX0_append_30 : decode cX0_append 30 = .ok (.iadd, 1) := by decide +kernel
theorem dX0_append_31 : decode cX0_append 31 = .ok (.putfield 32, 3) := by decide +kernel
theorem dX0_append_34 : decode cX0_append 34 = .ok (.return_, 1) := by decide +kernel
theorem dX0_changesOver_0 : decode cX0_changesOver 0 = .ok (.iconst 0, 1) := by decide +kernel
theorem dX0_changesOver_1 : decode cX0_changesOver 1 = .ok (.istore_n 2, 1) := by decide +kernel
theorem dX0_changesOver_2 : decode cX0_changesOver 2 = .ok (.aload_n 0, 1) := by decide +kernel
theorem dX0_changesOver_3 : decode cX0_changesOver 3 = .ok (.getfield 32, 3) := by decide +kernel
theorem dX0_changesOver_6 : decode cX0_changesOver 6 = .ok (.iconst 1, 1) := by decide +kernel
theorem dX0_changesOver_7 : decode cX0_changesOver 7 = .ok (.isub, 1) := by decide +kernel
theorem dX0_changesOver_8 : decode cX0_changesOver 8 = .ok (.istore_n 3, 1) := by decide +kernel
theorem dX0_changesOver_9 : decode cX0_changesOver 9 = .ok (.iload_n 3, 1) := by decide +kernel
theorem dX0_changesOver_10 : decode cX0_changesOver 10 = .ok (.ifCond .lt 123, 3) := by decide +kernel
theorem dX0_changesOver_13 : decode cX0_changesOver 13 = .ok (.aload_n 0, 1) := by decide +kernel
theorem dX0_changesOver_14 : decode cX0_changesOver 14 = .ok (.getfield 14, 3) := by decide +kernel
theorem dX0_changesOver_17 : decode cX0_changesOver 17 = .ok (.iload_n 3, 1) := by decide +kernel
theorem dX0_changesOver_18 : decode cX0_changesOver 18 = .ok (.invokevirtual 51, 3) := by decide +kernel
theorem dX0_changesOver_21 : decode cX0_changesOver 21 = .ok (.istore 4, 2) := by decide +kernel
theorem dX0_changesOver_23 : decode cX0_changesOver 23 = .ok (.iload 4, 2) := by decide +kernel
theorem dX0_changesOver_25 : decode cX0_changesOver 25 = .ok (.bipush 6, 2) := by decide +kernel
theorem dX0_changesOver_27 : decode cX0_changesOver 27 = .ok (.if_icmp .ge 20, 3) := by decide +kernel
theorem dX0_changesOver_30 : decode cX0_changesOver 30 = .ok (.aload_n 0, 1) := by decide +kernel
theorem dX0_changesOver_31 : decode cX0_changesOver 31 = .ok (.getfield 26, 3) := by decide +kernel
theorem dX0_changesOver_34 : decode cX0_changesOver 34 = .ok (.iload_n 3, 1) := by decide +kernel
theorem dX0_changesOver_35 : decode cX0_changesOver 35 = .ok (.aload_n 1, 1) := by decide +kernel
theorem dX0_changesOver_36 : decode cX0_changesOver 36 = .ok (.iload 4, 2) := by decide +kernel
theorem dX0_changesOver_38 : decode cX0_changesOver 38 = .ok (.invokevirtual 51, 3) := by decide +kernel
theorem dX0_changesOver_41 : decode cX0_changesOver 41 = .ok (.invokevirtual 45, 3) := by decide +kernel
theorem dX0_changesOver_44 : decode cX0_changesOver 44 = .ok (.goto 83, 3) := by decide +kernel
theorem dX0_changesOver_47 : decode cX0_changesOver 47 = .ok (.aload_n 0, 1) := by decide +kernel
theorem dX0_changesOver_48 : decode cX0_changesOver 48 = .ok (.getfield 26, 3) := by decide +kernel
theorem dX0_changesOver_51 : decode cX0_changesOver 51 = .ok (.aload_n 0, 1) := by decide +kernel
theorem dX0_changesOver_52 : decode cX0_changesOver 52 = .ok (.getfield 23, 3) := by decide +kernel
theorem dX0_changesOver_55 : decode cX0_changesOver 55 = .ok (.iload_n 3, 1) := by decide +kernel
theorem dX0_changesOver_56 : decode cX0_changesOver 56 = .ok (.invokevirtual 51, 3) := by decide +kernel
theorem dX0_changesOver_59 : decode cX0_changesOver 59 = .ok (.invokevirtual 51, 3) := by decide +kernel
theorem dX0_changesOver_62 : decode cX0_changesOver 62 = .ok (.istore 5, 2) := by decide +kernel
theorem dX0_changesOver_64 : decode cX0_changesOver 64 = .ok (.aload_n 0, 1) := by decide +kernel
theorem dX0_changesOver_65 : decode cX0_changesOver 65 = .ok (.getfield 26, 3) := by decide +kernel
theorem dX0_changesOver_68 : decode cX0_changesOver 68 = .ok (.aload_n 0, 1) := by decide +kernel
theorem dX0_changesOver_69 : decode cX0_changesOver 69 = .ok (.getfield 23, 3) := by decide +kernel
theorem dX0_changesOver_72 : decode cX0_changesOver 72 = .ok (.iload_n 3, 1) := by decide +kernel
theorem dX0_changesOver_73 : decode cX0_changesOver 73 = .ok (.invokevirtual 51, 3) := by decide +kernel
theorem dX0_changesOver_76 : decode cX0_changesOver 76 = .ok (.iconst 1, 1) := by decide +kernel
theorem dX0_changesOver_77 : decode cX0_changesOver 77 = .ok (.iadd, 1) := by decide +kernel
theorem dX0_changesOver_78 : decode cX0_changesOver 78 = .ok (.invokevirtual 51, 3) := by decide +kernel
theorem dX0_changesOver_81 : decode cX0_changesOver 81 = .ok (.istore 6, 2) := by decide +kernel
theorem dX0_changesOver_83 : decode cX0_changesOver 83 = .ok (.iload 5, 2) := by decide +kernel
theorem dX0_changesOver_85 : decode cX0_changesOver 85 = .ok (.iload 6, 2) := by decide +kernel
theorem dX0_changesOver_87 : decode cX0_changesOver 87 = .ok (.iand, 1) := by decide +kernel
theorem dX0_changesOver_88 : decode cX0_changesOver 88 = .ok (.istore 7, 2) := by decide +kernel
theorem dX0_changesOver_90 : decode cX0_changesOver 90 = .ok (.iload 7, 2) := by decide +kernel
theorem dX0_changesOver_92 : decode cX0_changesOver 92 = .ok (.invokestatic 62, 3) := by decide +kernel
theorem dX0_changesOver_95 : decode cX0_changesOver 95 = .ok (.istore 8, 2) := by decide +kernel
theorem dX0_changesOver_97 : decode cX0_changesOver 97 = .ok (.iload_n 2, 1) := by decide +kernel
theorem dX0_changesOver_98 : decode cX0_changesOver 98 = .ok (.iload 8, 2) := by decide +kernel
theorem dX0_changesOver_100 : decode cX0_changesOver 100 = .ok (.invokestatic 65, 3) := by decide +kernel
theorem dX0_changesOver_103 : decode cX0_changesOver 103 = .ok (.iadd, 1) := by decide +kernel
theorem dX0_changesOver_104 : decode cX0_changesOver 104 = .ok (.istore_n 2, 1) := by decide +kernel
theorem dX0_changesOver_105 : decode cX0_changesOver 105 = .ok (.aload_n 0, 1) := by decide +kernel
theorem dX0_changesOver_106 : decode cX0_changesOver 106 = .ok (.getfield 26, 3) := by decide +kernel
theorem dX0_changesOver_109 : decode cX0_changesOver 109 = .ok (.iload_n 3, 1) := by decide +kernel
theorem dX0_changesOver_110 : decode cX0_changesOver 110 = .ok (.iload 7, 2) := by decide +kernel
theorem dX0_changesOver_112 : decode cX0_changesOver 112 = .ok (.iload 5, 2) := by decide +kernel
theorem dX0_changesOver_114 : decode cX0_changesOver 114 = .ok (.iload 6, 2) := by decide +kernel
theorem dX0_changesOver_116 : decode cX0_changesOver 116 = .ok (.ior, 1) := by decide +kernel
theorem dX0_changesOver_117 : decode cX0_changesOver 117 = .ok (.iload 8, 2) := by decide +kernel
theorem dX0_changesOver_119 : decode cX0_changesOver 119 = .ok (.bipush 15, 2) := by decide +kernel
theorem dX0_changesOver_121 : decode cX0_changesOver 121 = .ok (.imul, 1) := by decide +kernel
theorem dX0_changesOver_122 : decode cX0_changesOver 122 = .ok (.iand, 1) := by decide +kernel
theorem dX0_changesOver_123 : decode cX0_changesOver 123 = .ok (.ior, 1) := by decide +kernel
theorem dX0_changesOver_124 : decode cX0_changesOver 124 = .ok (.invokevirtual 45, 3) := by decide +kernel
theorem dX0_changesOver_127 : decode cX0_changesOver 127 = .ok (.iinc 3 (-1), 3) := by decide +kernel
theorem dX0_changesOver_130 : decode cX0_changesOver 130 = .ok (.goto (-121), 3) := by decide +kernel
theorem dX0_changesOver_133 : decode cX0_changesOver 133 = .ok (.iload_n 2, 1) := by decide +kernel
theorem dX0_changesOver_134 : decode cX0_changesOver 134 = .ok (.ireturn, 1) := by decide +kernel
theorem dX0_emptyPlaces_0 : decode cX0_emptyPlaces 0 = .ok (.iload_n 0, 1) := by decide +kernel
theorem dX0_emptyPlaces_1 : decode cX0_emptyPlaces 1 = .ok (.iload_n 0, 1) := by decide +kernel
theorem dX0_emptyPlaces_2 : decode cX0_emptyPlaces 2 = .ok (.iconst 1, 1) := by decide +kernel
theorem dX0_emptyPlaces_3 : decode cX0_emptyPlaces 3 = .ok (.iushr, 1) := by decide +kernel
theorem dX0_emptyPlaces_4 : decode cX0_emptyPlaces 4 = .ok (.ior, 1) := by decide +kernel
theorem dX0_emptyPlaces_5 : decode cX0_emptyPlaces 5 = .ok (.istore_n 1, 1) := by decide +kernel
theorem dX0_emptyPlaces_6 : decode cX0_emptyPlaces 6 = .ok (.iload_n 1, 1) := by decide +kernel
theorem dX0_emptyPlaces_7 : decode cX0_emptyPlaces 7 = .ok (.iload_n 1, 1) := by decide +kernel
theorem dX0_emptyPlaces_8 : decode cX0_emptyPlaces 8 = .ok (.iconst 2, 1) := by decide +kernel
theorem dX0_emptyPlaces_9 : decode cX0_emptyPlaces 9 = .ok (.iushr, 1) := by decide +kernel
theorem dX0_emptyPlaces_10 : decode cX0_emptyPlaces 10 = .ok (.ior, 1) := by decide +kernel
theorem dX0_emptyPlaces_11 : decode cX0_emptyPlaces 11 = .ok (.istore_n 2, 1) := by decide +kernel
theorem dX0_emptyPlaces_12 : decode cX0_emptyPlaces 12 = .ok (.iload_n 2, 1) := by decide +kernel
theorem dX0_emptyPlaces_13 : decode cX0_emptyPlaces 13 = .ok (.iconst (-1), 1) := by decide +kernel
theorem dX0_emptyPlaces_14 : decode cX0_emptyPlaces 14 = .ok (.ixor, 1) := by decide +kernel
theorem dX0_emptyPlaces_15 : decode cX0_emptyPlaces 15 = .ok (.ldc 70, 2) := by decide +kernel
theorem dX0_emptyPlaces_17 : decode cX0_emptyPlaces 17 = .ok (.iand, 1) := by decide +kernel
theorem dX0_emptyPlaces_18 : decode cX0_emptyPlaces 18 = .ok (.ireturn, 1) := by decide +kernel
theorem dX0_costAt_0 : decode cX0_costAt 0 = .ok (.aload_n 0, 1) := by decide +kernel
theorem dX0_costAt_1 : decode cX0_costAt 1 = .ok (.getfield 32, 3) := by decide +kernel
theorem dX0_costAt_4 : decode cX0_costAt 4 = .ok (.iconst 1, 1) := by decide +kernel
theorem dX0_costAt_5 : decode cX0_costAt 5 = .ok (.isub, 1) := by decide +kernel
theorem dX0_costAt_6 : decode cX0_costAt 6 = .ok (.istore_n 3, 1) := by decide +kernel
theorem dX0_costAt_7 : decode cX0_costAt 7 = .ok (.iload_n 3, 1) := by decide +kernel
theorem dX0_costAt_8 : decode cX0_costAt 8 = .ok (.ifCond .lt 46, 3) := by decide +kernel
theorem dX0_costAt_11 : decode cX0_costAt 11 = .ok (.iconst 0, 1) := by decide +kernel
theorem dX0_costAt_12 : decode cX0_costAt 12 = .ok (.istore 4, 2) := by decide +kernel
theorem dX0_costAt_14 : decode cX0_costAt 14 = .ok (.iload 4, 2) := by decide +kernel
theorem dX0_costAt_16 : decode cX0_costAt 16 = .ok (.iconst 4, 1) := by decide +kernel
theorem dX0_costAt_17 : decode cX0_costAt 17 = .ok (.if_icmp .ge 31, 3) := by decide +kernel
theorem dX0_costAt_20 : decode cX0_costAt 20 = .ok (.aload_n 0, 1) := by decide +kernel
theorem dX0_costAt_21 : decode cX0_costAt 21 = .ok (.getfield 29, 3) := by decide +kernel
theorem dX0_costAt_24 : decode cX0_costAt 24 = .ok (.iload_n 3, 1) := by decide +kernel
theorem dX0_costAt_25 : decode cX0_costAt 25 = .ok (.iconst 4, 1) := by decide +kernel
theorem dX0_costAt_26 : decode cX0_costAt 26 = .ok (.imul, 1) := by decide +kernel
theorem dX0_costAt_27 : decode cX0_costAt 27 = .ok (.iload 4, 2) := by decide +kernel
theorem dX0_costAt_29 : decode cX0_costAt 29 = .ok (.iadd, 1) := by decide +kernel
theorem dX0_costAt_30 : decode cX0_costAt 30 = .ok (.aload_n 0, 1) := by decide +kernel
theorem dX0_costAt_31 : decode cX0_costAt 31 = .ok (.iload_n 3, 1) := by decide +kernel
theorem dX0_costAt_32 : decode cX0_costAt 32 = .ok (.iload 4, 2) := by decide +kernel
theorem dX0_costAt_34 : decode cX0_costAt 34 = .ok (.iload_n 1, 1) := by decide +kernel
theorem dX0_costAt_35 : decode cX0_costAt 35 = .ok (.aload_n 2, 1) := by decide +kernel
theorem dX0_costAt_36 : decode cX0_costAt 36 = .ok (.invokevirtual 71, 3) := by decide +kernel
theorem dX0_costAt_39 : decode cX0_costAt 39 = .ok (.invokevirtual 45, 3) := by decide +kernel
theorem dX0_costAt_42 : decode cX0_costAt 42 = .ok (.iinc 4 1, 3) := by decide +kernel
theorem dX0_costAt_45 : decode cX0_costAt 45 = .ok (.goto (-31), 3) := by decide +kernel
theorem dX0_costAt_48 : decode cX0_costAt 48 = .ok (.iinc 3 (-1), 3) := by decide +kernel
theorem dX0_costAt_51 : decode cX0_costAt 51 = .ok (.goto (-44), 3) := by decide +kernel
theorem dX0_costAt_54 : decode cX0_costAt 54 = .ok (.sipush 1000, 3) := by decide +kernel
theorem dX0_costAt_57 : decode cX0_costAt 57 = .ok (.istore_n 3, 1) := by decide +kernel
theorem dX0_costAt_58 : decode cX0_costAt 58 = .ok (.iconst 0, 1) := by decide +kernel
theorem dX0_costAt_59 : decode cX0_costAt 59 = .ok (.istore 4, 2) := by decide +kernel
theorem dX0_costAt_61 : decode cX0_costAt 61 = .ok (.iload 4, 2) := by decide +kernel
theorem dX0_costAt_63 : decode cX0_costAt 63 = .ok (.iconst 4, 1) := by decide +kernel
theorem dX0_costAt_64 : decode cX0_costAt 64 = .ok (.if_icmp .ge 23, 3) := by decide +kernel
theorem dX0_costAt_67 : decode cX0_costAt 67 = .ok (.iload_n 3, 1) := by decide +kernel
theorem dX0_costAt_68 : decode cX0_costAt 68 = .ok (.aload_n 0, 1) := by decide +kernel
theorem dX0_costAt_69 : decode cX0_costAt 69 = .ok (.getfield 29, 3) := by decide +kernel
theorem dX0_costAt_72 : decode cX0_costAt 72 = .ok (.iload 4, 2) := by decide +kernel
theorem dX0_costAt_74 : decode cX0_costAt 74 = .ok (.invokevirtual 51, 3) := by decide +kernel
theorem dX0_costAt_77 : decode cX0_costAt 77 = .ok (.invokestatic 75, 3) := by decide +kernel
theorem dX0_costAt_80 : decode cX0_costAt 80 = .ok (.istore_n 3, 1) := by decide +kernel
theorem dX0_costAt_81 : decode cX0_costAt 81 = .ok (.iinc 4 1, 3) := by decide +kernel
theorem dX0_costAt_84 : decode cX0_costAt 84 = .ok (.goto (-23), 3) := by decide +kernel
theorem dX0_costAt_87 : decode cX0_costAt 87 = .ok (.iload_n 3, 1) := by decide +kernel
theorem dX0_costAt_88 : decode cX0_costAt 88 = .ok (.ireturn, 1) := by decide +kernel
theorem dX0_costOf_0 : decode cX0_costOf 0 = .ok (.aload_n 0, 1) := by decide +kernel
theorem dX0_costOf_1 : decode cX0_costOf 1 = .ok (.getfield 14, 3) := by decide +kernel
theorem dX0_costOf_4 : decode cX0_costOf 4 = .ok (.iload_n 1, 1) := by decide +kernel
theorem dX0_costOf_5 : decode cX0_costOf 5 = .ok (.invokevirtual 51, 3) := by decide +kernel
theorem dX0_costOf_8 : decode cX0_costOf 8 = .ok (.istore 5, 2) := by decide +kernel
theorem dX0_costOf_10 : decode cX0_costOf 10 = .ok (.iload 5, 2) := by decide +kernel
theorem dX0_costOf_12 : decode cX0_costOf 12 = .ok (.bipush 6, 2) := by decide +kernel
theorem dX0_costOf_14 : decode cX0_costOf 14 = .ok (.if_icmp .ge 27, 3) := by decide +kernel
theorem dX0_costOf_17 : decode cX0_costOf 17 = .ok (.aload 4, 2) := by decide +kernel
theorem dX0_costOf_19 : decode cX0_costOf 19 = .ok (.iload 5, 2) := by decide +kernel
theorem dX0_costOf_21 : decode cX0_costOf 21 = .ok (.invokevirtual 51, 3) := by decide +kernel
theorem dX0_costOf_24 : decode cX0_costOf 24 = .ok (.iload_n 3, 1) := by decide +kernel
theorem dX0_costOf_25 : decode cX0_costOf 25 = .ok (.iload_n 2, 1) := by decide +kernel
theorem dX0_costOf_26 : decode cX0_costOf 26 = .ok (.invokestatic 81, 3) := by decide +kernel
theorem dX0_costOf_29 : decode cX0_costOf 29 = .ok (.iand, 1) := by decide +kernel
theorem dX0_costOf_30 : decode cX0_costOf 30 = .ok (.ifCond .eq 7, 3) := by decide +kernel
theorem dX0_costOf_33 : decode cX0_costOf 33 = .ok (.iconst 0, 1) := by decide +kernel
theorem dX0_costOf_34 : decode cX0_costOf 34 = .ok (.goto 6, 3) := by decide +kernel
theorem dX0_costOf_37 : decode cX0_costOf 37 = .ok (.sipush 1000, 3) := by decide +kernel
theorem dX0_costOf_40 : decode cX0_costOf 40 = .ok (.ireturn, 1) := by decide +kernel
theorem dX0_costOf_41 : decode cX0_costOf 41 = .ok (.aload_n 0, 1) := by decide +kernel
theorem dX0_costOf_42 : decode cX0_costOf 42 = .ok (.aload_n 0, 1) := by decide +kernel
theorem dX0_costOf_43 : decode cX0_costOf 43 = .ok (.getfield 23, 3) := by decide +kernel
theorem dX0_costOf_46 : decode cX0_costOf 46 = .ok (.iload_n 1, 1) := by decide +kernel
theorem dX0_costOf_47 : decode cX0_costOf 47 = .ok (.invokevirtual 51, 3) := by decide +kernel
theorem dX0_costOf_50 : decode cX0_costOf 50 = .ok (.iload_n 2, 1) := by decide +kernel
theorem dX0_costOf_51 : decode cX0_costOf 51 = .ok (.invokevirtual 84, 3) := by decide +kernel
theorem dX0_costOf_54 : decode cX0_costOf 54 = .ok (.aload_n 0, 1) := by decide +kernel
theorem dX0_costOf_55 : decode cX0_costOf 55 = .ok (.aload_n 0, 1) := by decide +kernel
theorem dX0_costOf_56 : decode cX0_costOf 56 = .ok (.getfield 23, 3) := by decide +kernel
theorem dX0_costOf_59 : decode cX0_costOf 59 = .ok (.iload_n 1, 1) := by decide +kernel
theorem dX0_costOf_60 : decode cX0_costOf 60 = .ok (.invokevirtual 51, 3) := by decide +kernel
theorem dX0_costOf_63 : decode cX0_costOf 63 = .ok (.iconst 1, 1) := by decide +kernel
theorem dX0_costOf_64 : decode cX0_costOf 64 = .ok (.iadd, 1) := by decide +kernel
theorem dX0_costOf_65 : decode cX0_costOf 65 = .ok (.iload_n 2, 1) := by decide +kernel
theorem dX0_costOf_66 : decode cX0_costOf 66 = .ok (.invokevirtual 84, 3) := by decide +kernel
theorem dX0_costOf_69 : decode cX0_costOf 69 = .ok (.iadd, 1) := by decide +kernel
theorem dX0_costOf_70 : decode cX0_costOf 70 = .ok (.ireturn, 1) := by decide +kernel
theorem dX0_costDown_0 : decode cX0_costDown 0 = .ok (.sipush 1000, 3) := by decide +kernel
theorem dX0_costDown_3 : decode cX0_costDown 3 = .ok (.istore_n 3, 1) := by decide +kernel
theorem dX0_costDown_4 : decode cX0_costDown 4 = .ok (.iconst 0, 1) := by decide +kernel
theorem dX0_costDown_5 : decode cX0_costDown 5 = .ok (.istore 4, 2) := by decide +kernel
theorem dX0_costDown_7 : decode cX0_costDown 7 = .ok (.iload 4, 2) := by decide +kernel
theorem dX0_costDown_9 : decode cX0_costDown 9 = .ok (.iconst 4, 1) := by decide +kernel
theorem dX0_costDown_10 : decode cX0_costDown 10 = .ok (.if_icmp .ge 53, 3) := by decide +kernel
theorem dX0_costDown_13 : decode cX0_costDown 13 = .ok (.iload 4, 2) := by decide +kernel
theorem dX0_costDown_15 : decode cX0_costDown 15 = .ok (.iload_n 2, 1) := by decide +kernel
theorem dX0_costDown_16 : decode cX0_costDown 16 = .ok (.if_icmp .ne 7, 3) := by decide +kernel
theorem dX0_costDown_19 : decode cX0_costDown 19 = .ok (.iconst 0, 1) := by decide +kernel
theorem dX0_costDown_20 : decode cX0_costDown 20 = .ok (.goto 14, 3) := by decide +kernel
theorem dX0_costDown_23 : decode cX0_costDown 23 = .ok (.iload 4, 2) := by decide +kernel
theorem dX0_costDown_25 : decode cX0_costDown 25 = .ok (.iload_n 2, 1) := by decide +kernel
theorem dX0_costDown_26 : decode cX0_costDown 26 = .ok (.if_icmp .le 7, 3) := by decide +kernel
theorem dX0_costDown_29 : decode cX0_costDown 29 = .ok (.iconst 1, 1) := by decide +kernel
theorem dX0_costDown_30 : decode cX0_costDown 30 = .ok (.goto 4, 3) := by decide +kernel
theorem dX0_costDown_33 : decode cX0_costDown 33 = .ok (.iconst 2, 1) := by decide +kernel
theorem dX0_costDown_34 : decode cX0_costDown 34 = .ok (.istore 5, 2) := by decide +kernel
theorem dX0_costDown_36 : decode cX0_costDown 36 = .ok (.iload_n 3, 1) := by decide +kernel
theorem dX0_costDown_37 : decode cX0_costDown 37 = .ok (.aload_n 0, 1) := by decide +kernel
theorem dX0_costDown_38 : decode cX0_costDown 38 = .ok (.getfield 29, 3) := by decide +kernel
theorem dX0_costDown_41 : decode cX0_costDown 41 = .ok (.iload_n 1, 1) := by decide +kernel
theorem dX0_costDown_42 : decode cX0_costDown 42 = .ok (.iconst 4, 1) := by decide +kernel
theorem dX0_costDown_43 : decode cX0_costDown 43 = .ok (.imul, 1) := by decide +kernel
theorem dX0_costDown_44 : decode cX0_costDown 44 = .ok (.iload 4, 2) := by decide +kernel
theorem dX0_costDown_46 : decode cX0_costDown 46 = .ok (.iadd, 1) := by decide +kernel
theorem dX0_costDown_47 : decode cX0_costDown 47 = .ok (.invokevirtual 51, 3) := by decide +kernel
theorem dX0_costDown_50 : decode cX0_costDown 50 = .ok (.iload 5, 2) := by decide +kernel
theorem dX0_costDown_52 : decode cX0_costDown 52 = .ok (.iadd, 1) := by decide +kernel
theorem dX0_costDown_53 : decode cX0_costDown 53 = .ok (.invokestatic 75, 3) := by decide +kernel
theorem dX0_costDown_56 : decode cX0_costDown 56 = .ok (.istore_n 3, 1) := by decide +kernel
theorem dX0_costDown_57 : decode cX0_costDown 57 = .ok (.iinc 4 1, 3) := by decide +kernel
theorem dX0_costDown_60 : decode cX0_costDown 60 = .ok (.goto (-53), 3) := by decide +kernel
theorem dX0_costDown_63 : decode cX0_costDown 63 = .ok (.iload_n 3, 1) := by decide +kernel
theorem dX0_costDown_64 : decode cX0_costDown 64 = .ok (.ireturn, 1) := by decide +kernel
theorem dX1_init_0 : decode cX1_init 0 = .ok (.aload_n 0, 1) := by decide +kernel
theorem dX1_init_1 : decode cX1_init 1 = .ok (.invokespecial 3, 3) := by decide +kernel
theorem dX1_init_4 : decode cX1_init 4 = .ok (.aload_n 0, 1) := by decide +kernel
theorem dX1_init_5 : decode cX1_init 5 = .ok (.new 9, 3) := by decide +kernel
theorem dX1_init_8 : decode cX1_init 8 = .ok (.dup, 1) := by decide +kernel
theorem dX1_init_9 : decode cX1_init 9 = .ok (.bipush 10, 2) := by decide +kernel
theorem dX1_init_11 : decode cX1_init 11 = .ok (.invokespecial 11, 3) := by decide +kernel
theorem dX1_init_14 : decode cX1_init 14 = .ok (.putfield 14, 3) := by decide +kernel
theorem dX1_init_17 : decode cX1_init 17 = .ok (.aload_n 0, 1) := by decide +kernel
theorem dX1_init_18 : decode cX1_init 18 = .ok (.new 9, 3) := by decide +kernel
theorem dX1_init_21 : decode cX1_init 21 = .ok (.dup, 1) := by decide +kernel
theorem dX1_init_22 : decode cX1_init 22 = .ok (.bipush 10, 2) := by decide +kernel
theorem dX1_init_24 : decode cX1_init 24 = .ok (.invokespecial 11, 3) := by decide +kernel
theorem dX1_init_27 : decode cX1_init 27 = .ok (.putfield 20, 3) := by decide +kernel
theorem dX1_init_30 : decode cX1_init 30 = .ok (.return_, 1) := by decide +kernel
theorem dX1_note_0 : decode cX1_note 0 = .ok (.aload_n 0, 1) := by decide +kernel
theorem dX1_note_1 : decode cX1_note 1 = .ok (.getfield 23, 3) := by decide +kernel
theorem dX1_note_4 : decode cX1_note 4 = .ok (.bipush 10, 2) := by decide +kernel
theorem dX1_note_6 : decode cX1_note 6 = .ok (.if_icmp .lt 7, 3) := by decide +kernel
theorem dX1_note_9 : decode cX1_note 9 = .ok (.aload_n 0, 1) := by decide +kernel
theorem dX1_note_10 : decode cX1_note 10 = .ok (.invokevirtual 27, 3) := by decide +kernel
theorem dX1_note_13 : decode cX1_note 13 = .ok (.aload_n 0, 1) := by decide +kernel
theorem dX1_note_14 : decode cX1_note 14 = .ok (.getfield 14, 3) := by decide +kernel
theorem dX1_note_17 : decode cX1_note 17 = .ok (.aload_n 0, 1) := by decide +kernel
theorem dX1_note_18 : decode cX1_note 18 = .ok (.getfield 23, 3) := by decide +kernel
theorem dX1_note_21 : decode cX1_note 21 = .ok (.iload_n 1, 1) := by decide +kernel
theorem dX1_note_22 : decode cX1_note 22 = .ok (.invokevirtual 30, 3) := by decide +kernel
theorem dX1_note_25 : decode cX1_note 25 = .ok (.aload_n 0, 1) := by decide +kernel
theorem dX1_note_26 : decode cX1_note 26 = .ok (.getfield 20, 3) := by decide +kernel
theorem dX1_note_29 : decode cX1_note 29 = .ok (.aload_n 0, 1) := by decide +kernel
theorem dX1_note_30 : decode cX1_note 30 = .ok (.getfield 23, 3) := by decide +kernel
theorem dX1_note_33 : decode cX1_note 33 = .ok (.iload_n 2, 1) := by decide +kernel
theorem dX1_note_34 : decode cX1_note 34 = .ok (.invokevirtual 30, 3) := by decide +kernel
theorem dX1_note_37 : decode cX1_note 37 = .ok (.aload_n 0, 1) := by decide +kernel
theorem dX1_note_38 : decode cX1_note 38 = .ok (.dup, 1) := by decide +kernel
theorem dX1_note_39 : decode cX1_note 39 = .ok (.getfield 23, 3) := by decide +kernel
theorem dX1_note_42 : decode cX1_note 42 = .ok (.iconst 1, 1) := by decide +kernel
theorem dX1_note_43 : decode cX1_note 43 = .ok (.iadd, 1) := by decide +kernel
theorem dX1_note_44 : decode cX1_note 44 = .ok (.putfield 23, 3) := by decide +kernel
theorem dX1_note_47 : decode cX1_note 47 = .ok (.return_, 1) := by decide +kernel
theorem dX1_loseOldest_0 : decode cX1_loseOldest 0 = .ok (.iconst 1, 1) := by decide +kernel
theorem dX1_loseOldest_1 : decode cX1_loseOldest 1 = .ok (.istore_n 1, 1) := by decide +kernel
theorem dX1_loseOldest_2 : decode cX1_loseOldest 2 = .ok (.iload_n 1, 1) := by decide +kernel
theorem dX1_loseOldest_3 : decode cX1_loseOldest 3 = .ok (.bipush 10, 2) := by decide +kernel
theorem dX1_loseOldest_5 : decode cX1_loseOldest 5 = .ok (.if_icmp .ge 45, 3) := by decide +kernel
theorem dX1_loseOldest_8 : decode cX1_loseOldest 8 = .ok (.aload_n 0, 1) := by decide +kernel
theorem dX1_loseOldest_9 : decode cX1_loseOldest 9 = .ok (.getfield 14, 3) := by decide +kernel
theorem dX1_loseOldest_12 : decode cX1_loseOldest 12 = .ok (.iload_n 1, 1) := by decide +kernel
theorem dX1_loseOldest_13 : decode cX1_loseOldest 13 = .ok (.iconst 1, 1) := by decide +kernel
theorem dX1_loseOldest_14 : decode cX1_loseOldest 14 = .ok (.isub, 1) := by decide +kernel
theorem dX1_loseOldest_15 : decode cX1_loseOldest 15 = .ok (.aload_n 0, 1) := by decide +kernel
theorem dX1_loseOldest_16 : decode cX1_loseOldest 16 = .ok (.getfield 14, 3) := by decide +kernel
theorem dX1_loseOldest_19 : decode cX1_loseOldest 19 = .ok (.iload_n 1, 1) := by decide +kernel
theorem dX1_loseOldest_20 : decode cX1_loseOldest 20 = .ok (.invokevirtual 34, 3) := by decide +kernel
theorem dX1_loseOldest_23 : decode cX1_loseOldest 23 = .ok (.invokevirtual 30, 3) := by decide +kernel
theorem dX1_loseOldest_26 : decode cX1_loseOldest 26 = .ok (.aload_n 0, 1) := by decide +kernel
theorem dX1_loseOldest_27 : decode cX1_loseOldest 27 = .ok (.getfield 20, 3) := by decide +kernel
theorem dX1_loseOldest_30 : decode cX1_loseOldest 30 = .ok (.iload_n 1, 1) := by decide +kernel
theorem dX1_loseOldest_31 : decode cX1_loseOldest 31 = .ok (.iconst 1, 1) := by decide +kernel
theorem dX1_loseOldest_32 : decode cX1_loseOldest 32 = .ok (.isub, 1) := by decide +kernel
theorem dX1_loseOldest_33 : decode cX1_loseOldest 33 = .ok (.aload_n 0, 1) := by decide +kernel
theorem dX1_loseOldest_34 : decode cX1_loseOldest 34 = .ok (.getfield 20, 3) := by decide +kernel
theorem dX1_loseOldest_37 : decode cX1_loseOldest 37 = .ok (.iload_n 1, 1) := by decide +kernel
theorem dX1_loseOldest_38 : decode cX1_loseOldest 38 = .ok (.invokevirtual 34, 3) := by decide +kernel
theorem dX1_loseOldest_41 : decode cX1_loseOldest 41 = .ok (.invokevirtual 30, 3) := by decide +kernel
theorem dX1_loseOldest_44 : decode cX1_loseOldest 44 = .ok (.iinc 1 1, 3) := by decide +kernel
theorem dX1_loseOldest_47 : decode cX1_loseOldest 47 = .ok (.goto (-45), 3) := by decide +kernel
theorem dX1_loseOldest_50 : decode cX1_loseOldest 50 = .ok (.aload_n 0, 1) := by decide +kernel
theorem dX1_loseOldest_51 : decode cX1_loseOldest 51 = .ok (.bipush 9, 2) := by decide +kernel
theorem dX1_loseOldest_53 : decode cX1_loseOldest 53 = .ok (.putfield 23, 3) := by decide +kernel
theorem dX1_loseOldest_56 : decode cX1_loseOldest 56 = .ok (.return_, 1) := by decide +kernel
theorem dX2_init_0 : decode cX2_init 0 = .ok (.aload_n 0, 1) := by decide +kernel
theorem dX2_init_1 : decode cX2_init 1 = .ok (.invokespecial 1, 3) := by decide +kernel
theorem dX2_init_4 : decode cX2_init 4 = .ok (.aload_n 0, 1) := by decide +kernel
theorem dX2_init_5 : decode cX2_init 5 = .ok (.new 7, 3) := by decide +kernel
theorem dX2_init_8 : decode cX2_init 8 = .ok (.dup, 1) := by decide +kernel
theorem dX2_init_9 : decode cX2_init 9 = .ok (.invokespecial 9, 3) := by decide +kernel
theorem dX2_init_12 : decode cX2_init 12 = .ok (.putfield 10, 3) := by decide +kernel
theorem dX2_init_15 : decode cX2_init 15 = .ok (.return_, 1) := by decide +kernel
theorem dX3_init_0 : decode cX3_init 0 = .ok (.aload_n 0, 1) := by decide +kernel
theorem dX3_init_1 : decode cX3_init 1 = .ok (.invokespecial 3, 3) := by decide +kernel
theorem dX3_init_4 : decode cX3_init 4 = .ok (.aload_n 0, 1) := by decide +kernel
theorem dX3_init_5 : decode cX3_init 5 = .ok (.new 9, 3) := by decide +kernel
theorem dX3_init_8 : decode cX3_init 8 = .ok (.dup, 1) := by decide +kernel
theorem dX3_init_9 : decode cX3_init 9 = .ok (.bipush 6, 2) := by decide +kernel
theorem dX3_init_11 : decode cX3_init 11 = .ok (.invokespecial 11, 3) := by decide +kernel
theorem dX3_init_14 : decode cX3_init 14 = .ok (.putfield 14, 3) := by decide +kernel
theorem dX3_init_17 : decode cX3_init 17 = .ok (.return_, 1) := by decide +kernel
theorem dX3_compare_0 : decode cX3_compare 0 = .ok (.iconst 0, 1) := by decide +kernel
theorem dX3_compare_1 : decode cX3_compare 1 = .ok (.istore_n 3, 1) := by decide +kernel
theorem dX3_compare_2 : decode cX3_compare 2 = .ok (.iload_n 3, 1) := by decide +kernel
theorem dX3_compare_3 : decode cX3_compare 3 = .ok (.aload_n 1, 1) := by decide +kernel
theorem dX3_compare_4 : decode cX3_compare 4 = .ok (.getfield 20, 3) := by decide +kernel
theorem dX3_compare_7 : decode cX3_compare 7 = .ok (.if_icmp .ge 86, 3) := by decide +kernel
theorem dX3_compare_10 : decode cX3_compare 10 = .ok (.iconst 0, 1) := by decide +kernel
theorem dX3_compare_11 : decode cX3_compare 11 = .ok (.istore 4, 2) := by decide +kernel
theorem dX3_compare_13 : decode cX3_compare 13 = .ok (.iconst 0, 1) := by decide +kernel
theorem dX3_compare_14 : decode cX3_compare 14 = .ok (.istore 5, 2) := by decide +kernel
theorem dX3_compare_16 : decode cX3_compare 16 = .ok (.iload 5, 2) := by decide +kernel
theorem dX3_compare_18 : decode cX3_compare 18 = .ok (.aload_n 1, 1) := by decide +kernel
theorem dX3_compare_19 : decode cX3_compare 19 = .ok (.getfield 26, 3) := by decide +kernel
theorem dX3_compare_22 : decode cX3_compare 22 = .ok (.if_icmp .ge 55, 3) := by decide +kernel
theorem dX3_compare_25 : decode cX3_compare 25 = .ok (.aload_n 1, 1) := by decide +kernel
theorem dX3_compare_26 : decode cX3_compare 26 = .ok (.iload_n 2, 1) := by decide +kernel
theorem dX3_compare_27 : decode cX3_compare 27 = .ok (.iload 5, 2) := by decide +kernel
theorem dX3_compare_29 : decode cX3_compare 29 = .ok (.invokevirtual 29, 3) := by decide +kernel
theorem dX3_compare_32 : decode cX3_compare 32 = .ok (.istore 6, 2) := by decide +kernel
theorem dX3_compare_34 : decode cX3_compare 34 = .ok (.aload_n 1, 1) := by decide +kernel
theorem dX3_compare_35 : decode cX3_compare 35 = .ok (.iload_n 3, 1) := by decide +kernel
theorem dX3_compare_36 : decode cX3_compare 36 = .ok (.iload 5, 2) := by decide +kernel
theorem dX3_compare_38 : decode cX3_compare 38 = .ok (.invokevirtual 29, 3) := by decide +kernel
theorem dX3_compare_41 : decode cX3_compare 41 = .ok (.istore 7, 2) := by decide +kernel
theorem dX3_compare_43 : decode cX3_compare 43 = .ok (.iload 6, 2) := by decide +kernel
theorem dX3_compare_45 : decode cX3_compare 45 = .ok (.iconst 4, 1) := by decide +kernel
theorem dX3_compare_46 : decode cX3_compare 46 = .ok (.if_icmp .eq 25, 3) := by decide +kernel
theorem dX3_compare_49 : decode cX3_compare 49 = .ok (.iload 7, 2) := by decide +kernel
theorem dX3_compare_51 : decode cX3_compare 51 = .ok (.iconst 4, 1) := by decide +kernel
theorem dX3_compare_52 : decode cX3_compare 52 = .ok (.if_icmp .eq 19, 3) := by decide +kernel
theorem dX3_compare_55 : decode cX3_compare 55 = .ok (.iload 6, 2) := by decide +kernel
theorem dX3_compare_57 : decode cX3_compare 57 = .ok (.iload 7, 2) := by decide +kernel
theorem dX3_compare_59 : decode cX3_compare 59 = .ok (.if_icmp .eq 12, 3) := by decide +kernel
theorem dX3_compare_62 : decode cX3_compare 62 = .ok (.iload 4, 2) := by decide +kernel
theorem dX3_compare_64 : decode cX3_compare 64 = .ok (.iconst 1, 1) := by decide +kernel
theorem dX3_compare_65 : decode cX3_compare 65 = .ok (.iload 5, 2) := by decide +kernel
theorem dX3_compare_67 : decode cX3_compare 67 = .ok (.ishl, 1) := by decide +kernel
theorem dX3_compare_68 : decode cX3_compare 68 = .ok (.ior, 1) := by decide +kernel
theorem dX3_compare_69 : decode cX3_compare 69 = .ok (.istore 4, 2) := by decide +kernel
theorem dX3_compare_71 : decode cX3_compare 71 = .ok (.iinc 5 1, 3) := by decide +kernel
theorem dX3_compare_74 : decode cX3_compare 74 = .ok (.goto (-58), 3) := by decide +kernel
theorem dX3_compare_77 : decode cX3_compare 77 = .ok (.aload_n 0, 1) := by decide +kernel
theorem dX3_compare_78 : decode cX3_compare 78 = .ok (.getfield 14, 3) := by decide +kernel
theorem dX3_compare_81 : decode cX3_compare 81 = .ok (.iload_n 3, 1) := by decide +kernel
theorem dX3_compare_82 : decode cX3_compare 82 = .ok (.iload 4, 2) := by decide +kernel
theorem dX3_compare_84 : decode cX3_compare 84 = .ok (.invokevirtual 33, 3) := by decide +kernel
theorem dX3_compare_87 : decode cX3_compare 87 = .ok (.iinc 3 1, 3) := by decide +kernel
theorem dX3_compare_90 : decode cX3_compare 90 = .ok (.goto (-88), 3) := by decide +kernel
theorem dX3_compare_93 : decode cX3_compare 93 = .ok (.return_, 1) := by decide +kernel
theorem dX3_plain_0 : decode cX3_plain 0 = .ok (.bipush 8, 2) := by decide +kernel
theorem dX3_plain_2 : decode cX3_plain 2 = .ok (.istore_n 3, 1) := by decide +kernel
theorem dX3_plain_3 : decode cX3_plain 3 = .ok (.iconst 0, 1) := by decide +kernel
theorem dX3_plain_4 : decode cX3_plain 4 = .ok (.istore 4, 2) := by decide +kernel
theorem dX3_plain_6 : decode cX3_plain 6 = .ok (.iload 4, 2) := by decide +kernel
theorem dX3_plain_8 : decode cX3_plain 8 = .ok (.aload_n 1, 1) := by decide +kernel
theorem dX3_plain_9 : decode cX3_plain 9 = .ok (.getfield 20, 3) := by decide +kernel
theorem dX3_plain_12 : decode cX3_plain 12 = .ok (.if_icmp .ge 32, 3) := by decide +kernel
theorem dX3_plain_15 : decode cX3_plain 15 = .ok (.iload 4, 2) := by decide +kernel
theorem dX3_plain_17 : decode cX3_plain 17 = .ok (.iload_n 2, 1) := by decide +kernel
theorem dX3_plain_18 : decode cX3_plain 18 = .ok (.if_icmp .eq 20, 3) := by decide +kernel
theorem dX3_plain_21 : decode cX3_plain 21 = .ok (.iload_n 3, 1) := by decide +kernel
theorem dX3_plain_22 : decode cX3_plain 22 = .ok (.aload_n 0, 1) := by decide +kernel
theorem dX3_plain_23 : decode cX3_plain 23 = .ok (.getfield 14, 3) := by decide +kernel
theorem dX3_plain_26 : decode cX3_plain 26 = .ok (.iload 4, 2) := by decide +kernel
theorem dX3_plain_28 : decode cX3_plain 28 = .ok (.invokevirtual 37, 3) := by decide +kernel
theorem dX3_plain_31 : decode cX3_plain 31 = .ok (.invokestatic 40, 3) := by decide +kernel
theorem dX3_plain_34 : decode cX3_plain 34 = .ok (.invokestatic 45, 3) := by decide +kernel
theorem dX3_plain_37 : decode cX3_plain 37 = .ok (.istore_n 3, 1) := by decide +kernel
theorem dX3_plain_38 : decode cX3_plain 38 = .ok (.iinc 4 1, 3) := by decide +kernel
theorem dX3_plain_41 : decode cX3_plain 41 = .ok (.goto (-35), 3) := by decide +kernel
theorem dX3_plain_44 : decode cX3_plain 44 = .ok (.iload_n 3, 1) := by decide +kernel
theorem dX3_plain_45 : decode cX3_plain 45 = .ok (.ireturn, 1) := by decide +kernel
theorem dX3_find_0 : decode cX3_find 0 = .ok (.aload_n 0, 1) := by decide +kernel
theorem dX3_find_1 : decode cX3_find 1 = .ok (.bipush 9, 2) := by decide +kernel
theorem dX3_find_3 : decode cX3_find 3 = .ok (.putfield 50, 3) := by decide +kernel
theorem dX3_find_6 : decode cX3_find 6 = .ok (.iconst 0, 1) := by decide +kernel
theorem dX3_find_7 : decode cX3_find 7 = .ok (.istore_n 3, 1) := by decide +kernel
theorem dX3_find_8 : decode cX3_find 8 = .ok (.iload_n 3, 1) := by decide +kernel
theorem dX3_find_9 : decode cX3_find 9 = .ok (.aload_n 1, 1) := by decide +kernel
theorem dX3_find_10 : decode cX3_find 10 = .ok (.getfield 20, 3) := by decide +kernel
theorem dX3_find_13 : decode cX3_find 13 = .ok (.if_icmp .ge 55, 3) := by decide +kernel
theorem dX3_find_16 : decode cX3_find 16 = .ok (.iconst 0, 1) := by decide +kernel
theorem dX3_find_17 : decode cX3_find 17 = .ok (.istore 4, 2) := by decide +kernel
theorem dX3_find_19 : decode cX3_find 19 = .ok (.iload 4, 2) := by decide +kernel
theorem dX3_find_21 : decode cX3_find 21 = .ok (.aload_n 1, 1) := by decide +kernel
theorem dX3_find_22 : decode cX3_find 22 = .ok (.getfield 20, 3) := by decide +kernel
theorem dX3_find_25 : decode cX3_find 25 = .ok (.if_icmp .ge 37, 3) := by decide +kernel
theorem dX3_find_28 : decode cX3_find 28 = .ok (.iload_n 3, 1) := by decide +kernel
theorem dX3_find_29 : decode cX3_find 29 = .ok (.iload_n 2, 1) := by decide +kernel
theorem dX3_find_30 : decode cX3_find 30 = .ok (.if_icmp .eq 26, 3) := by decide +kernel
theorem dX3_find_33 : decode cX3_find 33 = .ok (.iload 4, 2) := by decide +kernel
theorem dX3_find_35 : decode cX3_find 35 = .ok (.iload_n 2, 1) := by decide +kernel
theorem dX3_find_36 : decode cX3_find 36 = .ok (.if_icmp .eq 20, 3) := by decide +kernel
theorem dX3_find_39 : decode cX3_find 39 = .ok (.iload_n 3, 1) := by decide +kernel
theorem dX3_find_40 : decode cX3_find 40 = .ok (.iload 4, 2) := by decide +kernel
theorem dX3_find_42 : decode cX3_find 42 = .ok (.if_icmp .eq 14, 3) := by decide +kernel
theorem dX3_find_45 : decode cX3_find 45 = .ok (.aload_n 0, 1) := by decide +kernel
theorem dX3_find_46 : decode cX3_find 46 = .ok (.iload_n 3, 1) := by decide +kernel
theorem dX3_find_47 : decode cX3_find 47 = .ok (.iload 4, 2) := by decide +kernel
theorem dX3_find_49 : decode cX3_find 49 = .ok (.aload_n 1, 1) := by decide +kernel
theorem dX3_find_50 : decode cX3_find 50 = .ok (.getfield 26, 3) := by decide +kernel
theorem dX3_find_53 : decode cX3_find 53 = .ok (.invokevirtual 53, 3) := by decide +kernel
theorem dX3_find_56 : decode cX3_find 56 = .ok (.iinc 4 1, 3) := by decide +kernel
theorem dX3_find_59 : decode cX3_find 59 = .ok (.goto (-40), 3) := by decide +kernel
theorem dX3_find_62 : decode cX3_find 62 = .ok (.iinc 3 1, 3) := by decide +kernel
theorem dX3_find_65 : decode cX3_find 65 = .ok (.goto (-57), 3) := by decide +kernel
theorem dX3_find_68 : decode cX3_find 68 = .ok (.return_, 1) := by decide +kernel
theorem dX3_tryTwo_0 : decode cX3_tryTwo 0 = .ok (.iconst 1, 1) := by decide +kernel
theorem dX3_tryTwo_1 : decode cX3_tryTwo 1 = .ok (.istore 4, 2) := by decide +kernel
theorem dX3_tryTwo_3 : decode cX3_tryTwo 3 = .ok (.iload 4, 2) := by decide +kernel
theorem dX3_tryTwo_5 : decode cX3_tryTwo 5 = .ok (.iload_n 3, 1) := by decide +kernel
theorem dX3_tryTwo_6 : decode cX3_tryTwo 6 = .ok (.if_icmp .ge 81, 3) := by decide +kernel
theorem dX3_tryTwo_9 : decode cX3_tryTwo 9 = .ok (.iconst 1, 1) := by decide +kernel
theorem dX3_tryTwo_10 : decode cX3_tryTwo 10 = .ok (.iload 4, 2) := by decide +kernel
theorem dX3_tryTwo_12 : decode cX3_tryTwo 12 = .ok (.ishl, 1) := by decide +kernel
theorem dX3_tryTwo_13 : decode cX3_tryTwo 13 = .ok (.iconst 1, 1) := by decide +kernel
theorem dX3_tryTwo_14 : decode cX3_tryTwo 14 = .ok (.isub, 1) := by decide +kernel
theorem dX3_tryTwo_15 : decode cX3_tryTwo 15 = .ok (.istore 5, 2) := by decide +kernel
theorem dX3_tryTwo_17 : decode cX3_tryTwo 17 = .ok (.aload_n 0, 1) := by decide +kernel
theorem dX3_tryTwo_18 : decode cX3_tryTwo 18 = .ok (.getfield 14, 3) := by decide +kernel
theorem dX3_tryTwo_21 : decode cX3_tryTwo 21 = .ok (.iload_n 1, 1) := by decide +kernel
theorem dX3_tryTwo_22 : decode cX3_tryTwo 22 = .ok (.invokevirtual 37, 3) := by decide +kernel
theorem dX3_tryTwo_25 : decode cX3_tryTwo 25 = .ok (.iload 5, 2) := by decide +kernel
theorem dX3_tryTwo_27 : decode cX3_tryTwo 27 = .ok (.iand, 1) := by decide +kernel
theorem dX3_tryTwo_28 : decode cX3_tryTwo 28 = .ok (.invokestatic 40, 3) := by decide +kernel
theorem dX3_tryTwo_31 : decode cX3_tryTwo 31 = .ok (.aload_n 0, 1) := by decide +kernel
theorem dX3_tryTwo_32 : decode cX3_tryTwo 32 = .ok (.getfield 14, 3) := by decide +kernel
theorem dX3_tryTwo_35 : decode cX3_tryTwo 35 = .ok (.iload_n 2, 1) := by decide +kernel
theorem dX3_tryTwo_36 : decode cX3_tryTwo 36 = .ok (.invokevirtual 37, 3) := by decide +kernel
theorem dX3_tryTwo_39 : decode cX3_tryTwo 39 = .ok (.iload 5, 2) := by decide +kernel
theorem dX3_tryTwo_41 : decode cX3_tryTwo 41 = .ok (.iconst (-1), 1) := by decide +kernel
theorem dX3_tryTwo_42 : decode cX3_tryTwo 42 = .ok (.ixor, 1) := by decide +kernel
theorem dX3_tryTwo_43 : decode cX3_tryTwo 43 = .ok (.iand, 1) := by decide +kernel
theorem dX3_tryTwo_44 : decode cX3_tryTwo 44 = .ok (.invokestatic 40, 3) := by decide +kernel
theorem dX3_tryTwo_47 : decode cX3_tryTwo 47 = .ok (.iadd, 1) := by decide +kernel
theorem dX3_tryTwo_48 : decode cX3_tryTwo 48 = .ok (.istore 6, 2) := by decide +kernel
theorem dX3_tryTwo_50 : decode cX3_tryTwo 50 = .ok (.iload 6, 2) := by decide +kernel
theorem dX3_tryTwo_52 : decode cX3_tryTwo 52 = .ok (.aload_n 0, 1) := by decide +kernel
theorem dX3_tryTwo_53 : decode cX3_tryTwo 53 = .ok (.getfield 50, 3) := by decide +kernel
theorem dX3_tryTwo_56 : decode cX3_tryTwo 56 = .ok (.if_icmp .ge 25, 3) := by decide +kernel
theorem dX3_tryTwo_59 : decode cX3_tryTwo 59 = .ok (.aload_n 0, 1) := by decide +kernel
theorem dX3_tryTwo_60 : decode cX3_tryTwo 60 = .ok (.iload 6, 2) := by decide +kernel
theorem dX3_tryTwo_62 : decode cX3_tryTwo 62 = .ok (.putfield 50, 3) := by decide +kernel
theorem dX3_tryTwo_65 : decode cX3_tryTwo 65 = .ok (.aload_n 0, 1) := by decide +kernel
theorem dX3_tryTwo_66 : decode cX3_tryTwo 66 = .ok (.iload_n 1, 1) := by decide +kernel
theorem dX3_tryTwo_67 : decode cX3_tryTwo 67 = .ok (.putfield 57, 3) := by decide +kernel
theorem dX3_tryTwo_70 : decode cX3_tryTwo 70 = .ok (.aload_n 0, 1) := by decide +kernel
theorem dX3_tryTwo_71 : decode cX3_tryTwo 71 = .ok (.iload_n 2, 1) := by decide +kernel
theorem dX3_tryTwo_72 : decode cX3_tryTwo 72 = .ok (.putfield 60, 3) := by decide +kernel
theorem dX3_tryTwo_75 : decode cX3_tryTwo 75 = .ok (.aload_n 0, 1) := by decide +kernel
theorem dX3_tryTwo_76 : decode cX3_tryTwo 76 = .ok (.iload 4, 2) := by decide +kernel
theorem dX3_tryTwo_78 : decode cX3_tryTwo 78 = .ok (.putfield 63, 3) := by decide +kernel
theorem dX3_tryTwo_81 : decode cX3_tryTwo 81 = .ok (.iinc 4 1, 3) := by decide +kernel
theorem dX3_tryTwo_84 : decode cX3_tryTwo 84 = .ok (.goto (-81), 3) := by decide +kernel
theorem dX3_tryTwo_87 : decode cX3_tryTwo 87 = .ok (.return_, 1) := by decide +kernel
theorem dX4_init_0 : decode cX4_init 0 = .ok (.aload_n 0, 1) := by decide +kernel
theorem dX4_init_1 : decode cX4_init 1 = .ok (.invokespecial 3, 3) := by decide +kernel
theorem dX4_init_4 : decode cX4_init 4 = .ok (.aload_n 0, 1) := by decide +kernel
theorem dX4_init_5 : decode cX4_init 5 = .ok (.new 9, 3) := by decide +kernel
theorem dX4_init_8 : decode cX4_init 8 = .ok (.dup, 1) := by decide +kernel
theorem dX4_init_9 : decode cX4_init 9 = .ok (.bipush 48, 2) := by decide +kernel
theorem dX4_init_11 : decode cX4_init 11 = .ok (.invokespecial 11, 3) := by decide +kernel
theorem dX4_init_14 : decode cX4_init 14 = .ok (.putfield 14, 3) := by decide +kernel
theorem dX4_init_17 : decode cX4_init 17 = .ok (.return_, 1) := by decide +kernel
theorem dX4_hasCopy_0 : decode cX4_hasCopy 0 = .ok (.iload_n 1, 1) := by decide +kernel
theorem dX4_hasCopy_1 : decode cX4_hasCopy 1 = .ok (.ifCond .lt 15, 3) := by decide +kernel
theorem dX4_hasCopy_4 : decode cX4_hasCopy 4 = .ok (.iload_n 1, 1) := by decide +kernel
theorem dX4_hasCopy_5 : decode cX4_hasCopy 5 = .ok (.aload_n 0, 1) := by decide +kernel
theorem dX4_hasCopy_6 : decode cX4_hasCopy 6 = .ok (.getfield 20, 3) := by decide +kernel
theorem dX4_hasCopy_9 : decode cX4_hasCopy 9 = .ok (.if_icmp .ge 7, 3) := by decide +kernel
theorem dX4_hasCopy_12 : decode cX4_hasCopy 12 = .ok (.iconst 1, 1) := by decide +kernel
theorem dX4_hasCopy_13 : decode cX4_hasCopy 13 = .ok (.goto 4, 3) := by decide +kernel
theorem dX4_hasCopy_16 : decode cX4_hasCopy 16 = .ok (.iconst 0, 1) := by decide +kernel
theorem dX4_hasCopy_17 : decode cX4_hasCopy 17 = .ok (.ireturn, 1) := by decide +kernel
theorem dX4_hasPlace_0 : decode cX4_hasPlace 0 = .ok (.iload_n 1, 1) := by decide +kernel
theorem dX4_hasPlace_1 : decode cX4_hasPlace 1 = .ok (.ifCond .lt 15, 3) := by decide +kernel
theorem dX4_hasPlace_4 : decode cX4_hasPlace 4 = .ok (.iload_n 1, 1) := by decide +kernel
theorem dX4_hasPlace_5 : decode cX4_hasPlace 5 = .ok (.aload_n 0, 1) := by decide +kernel
theorem dX4_hasPlace_6 : decode cX4_hasPlace 6 = .ok (.getfield 24, 3) := by decide +kernel
theorem dX4_hasPlace_9 : decode cX4_hasPlace 9 = .ok (.if_icmp .ge 7, 3) := by decide +kernel
theorem dX4_hasPlace_12 : decode cX4_hasPlace 12 = .ok (.iconst 1, 1) := by decide +kernel
theorem dX4_hasPlace_13 : decode cX4_hasPlace 13 = .ok (.goto 4, 3) := by decide +kernel
theorem dX4_hasPlace_16 : decode cX4_hasPlace 16 = .ok (.iconst 0, 1) := by decide +kernel
theorem dX4_hasPlace_17 : decode cX4_hasPlace 17 = .ok (.ireturn, 1) := by decide +kernel
theorem dX4_has_0 : decode cX4_has 0 = .ok (.aload_n 0, 1) := by decide +kernel
theorem dX4_has_1 : decode cX4_has 1 = .ok (.iload_n 1, 1) := by decide +kernel
theorem dX4_has_2 : decode cX4_has 2 = .ok (.invokevirtual 27, 3) := by decide +kernel
theorem dX4_has_5 : decode cX4_has 5 = .ok (.ifCond .eq 15, 3) := by decide +kernel
theorem dX4_has_8 : decode cX4_has 8 = .ok (.aload_n 0, 1) := by decide +kernel
theorem dX4_has_9 : decode cX4_has 9 = .ok (.iload_n 2, 1) := by decide +kernel
theorem dX4_has_10 : decode cX4_has 10 = .ok (.invokevirtual 31, 3) := by decide +kernel
theorem dX4_has_13 : decode cX4_has 13 = .ok (.ifCond .eq 7, 3) := by decide +kernel
theorem dX4_has_16 : decode cX4_has 16 = .ok (.iconst 1, 1) := by decide +kernel
theorem dX4_has_17 : decode cX4_has 17 = .ok (.goto 4, 3) := by decide +kernel
theorem dX4_has_20 : decode cX4_has 20 = .ok (.iconst 0, 1) := by decide +kernel
theorem dX4_has_21 : decode cX4_has 21 = .ok (.ireturn, 1) := by decide +kernel
theorem dX4_cellOf_0 : decode cX4_cellOf 0 = .ok (.iload_n 1, 1) := by decide +kernel
theorem dX4_cellOf_1 : decode cX4_cellOf 1 = .ok (.bipush 8, 2) := by decide +kernel
theorem dX4_cellOf_3 : decode cX4_cellOf 3 = .ok (.imul, 1) := by decide +kernel
theorem dX4_cellOf_4 : decode cX4_cellOf 4 = .ok (.iload_n 2, 1) := by decide +kernel
theorem dX4_cellOf_5 : decode cX4_cellOf 5 = .ok (.iadd, 1) := by decide +kernel
theorem dX4_cellOf_6 : decode cX4_cellOf 6 = .ok (.ireturn, 1) := by decide +kernel
theorem dX4_at_0 : decode cX4_at 0 = .ok (.aload_n 0, 1) := by decide +kernel
theorem dX4_at_1 : decode cX4_at 1 = .ok (.iload_n 1, 1) := by decide +kernel
theorem dX4_at_2 : decode cX4_at 2 = .ok (.iload_n 2, 1) := by decide +kernel
theorem dX4_at_3 : decode cX4_at 3 = .ok (.invokevirtual 34, 3) := by decide +kernel
theorem dX4_at_6 : decode cX4_at 6 = .ok (.ifCond .eq 19, 3) := by decide +kernel
theorem dX4_at_9 : decode cX4_at 9 = .ok (.aload_n 0, 1) := by decide +kernel
theorem dX4_at_10 : decode cX4_at 10 = .ok (.getfield 14, 3) := by decide +kernel
theorem dX4_at_13 : decode cX4_at 13 = .ok (.aload_n 0, 1) := by decide +kernel
theorem dX4_at_14 : decode cX4_at 14 = .ok (.iload_n 1, 1) := by decide +kernel
theorem dX4_at_15 : decode cX4_at 15 = .ok (.iload_n 2, 1) := by decide +kernel
theorem dX4_at_16 : decode cX4_at 16 = .ok (.invokevirtual 38, 3) := by decide +kernel
theorem dX4_at_19 : decode cX4_at 19 = .ok (.invokevirtual 42, 3) := by decide +kernel
theorem dX4_at_22 : decode cX4_at 22 = .ok (.goto 4, 3) := by decide +kernel
theorem dX4_at_25 : decode cX4_at 25 = .ok (.iconst 4, 1) := by decide +kernel
theorem dX4_at_26 : decode cX4_at 26 = .ok (.ireturn, 1) := by decide +kernel
theorem dX4_put_0 : decode cX4_put 0 = .ok (.aload_n 0, 1) := by decide +kernel
theorem dX4_put_1 : decode cX4_put 1 = .ok (.getfield 14, 3) := by decide +kernel
theorem dX4_put_4 : decode cX4_put 4 = .ok (.aload_n 0, 1) := by decide +kernel
theorem dX4_put_5 : decode cX4_put 5 = .ok (.iload_n 1, 1) := by decide +kernel
theorem dX4_put_6 : decode cX4_put 6 = .ok (.iload_n 2, 1) := by decide +kernel
theorem dX4_put_7 : decode cX4_put 7 = .ok (.invokevirtual 38, 3) := by decide +kernel
theorem dX4_put_10 : decode cX4_put 10 = .ok (.iload_n 3, 1) := by decide +kernel
theorem dX4_put_11 : decode cX4_put 11 = .ok (.invokevirtual 46, 3) := by decide +kernel
theorem dX4_put_14 : decode cX4_put 14 = .ok (.return_, 1) := by decide +kernel
theorem dX4_take_0 : decode cX4_take 0 = .ok (.aload_n 0, 1) := by decide +kernel
theorem dX4_take_1 : decode cX4_take 1 = .ok (.getfield 14, 3) := by decide +kernel
theorem dX4_take_4 : decode cX4_take 4 = .ok (.aload_n 1, 1) := by decide +kernel
theorem dX4_take_5 : decode cX4_take 5 = .ok (.getfield 14, 3) := by decide +kernel
theorem dX4_take_8 : decode cX4_take 8 = .ok (.invokevirtual 50, 3) := by decide +kernel
theorem dX4_take_11 : decode cX4_take 11 = .ok (.aload_n 0, 1) := by decide +kernel
theorem dX4_take_12 : decode cX4_take 12 = .ok (.aload_n 1, 1) := by decide +kernel
theorem dX4_take_13 : decode cX4_take 13 = .ok (.getfield 20, 3) := by decide +kernel
theorem dX4_take_16 : decode cX4_take 16 = .ok (.putfield 20, 3) := by decide +kernel
theorem dX4_take_19 : decode cX4_take 19 = .ok (.aload_n 0, 1) := by decide +kernel
theorem dX4_take_20 : decode cX4_take 20 = .ok (.aload_n 1, 1) := by decide +kernel
theorem dX4_take_21 : decode cX4_take 21 = .ok (.getfield 24, 3) := by decide +kernel
theorem dX4_take_24 : decode cX4_take 24 = .ok (.putfield 24, 3) := by decide +kernel
theorem dX4_take_27 : decode cX4_take 27 = .ok (.return_, 1) := by decide +kernel
theorem dX4_setsOf_0 : decode cX4_setsOf 0 = .ok (.iconst (-1), 1) := by decide +kernel
theorem dX4_setsOf_1 : decode cX4_setsOf 1 = .ok (.istore_n 2, 1) := by decide +kernel
theorem dX4_setsOf_2 : decode cX4_setsOf 2 = .ok (.iconst 0, 1) := by decide +kernel
theorem dX4_setsOf_3 : decode cX4_setsOf 3 = .ok (.istore_n 3, 1) := by decide +kernel
theorem dX4_setsOf_4 : decode cX4_setsOf 4 = .ok (.iload_n 3, 1) := by decide +kernel
theorem dX4_setsOf_5 : decode cX4_setsOf 5 = .ok (.aload_n 0, 1) := by decide +kernel
theorem dX4_setsOf_6 : decode cX4_setsOf 6 = .ok (.getfield 24, 3) := by decide +kernel
theorem dX4_setsOf_9 : decode cX4_setsOf 9 = .ok (.if_icmp .ge 39, 3) := by decide +kernel
theorem dX4_setsOf_12 : decode cX4_setsOf 12 = .ok (.aload_n 0, 1) := by decide +kernel
theorem dX4_setsOf_13 : decode cX4_setsOf 13 = .ok (.iload_n 1, 1) := by decide +kernel
theorem dX4_setsOf_14 : decode cX4_setsOf 14 = .ok (.iload_n 3, 1) := by decide +kernel
theorem dX4_setsOf_15 : decode cX4_setsOf 15 = .ok (.invokevirtual 54, 3) := by decide +kernel
theorem dX4_setsOf_18 : decode cX4_setsOf 18 = .ok (.istore 4, 2) := by decide +kernel
theorem dX4_setsOf_20 : decode cX4_setsOf 20 = .ok (.iload 4, 2) := by decide +kernel
theorem dX4_setsOf_22 : decode cX4_setsOf 22 = .ok (.iconst 4, 1) := by decide +kernel
theorem dX4_setsOf_23 : decode cX4_setsOf 23 = .ok (.if_icmp .eq 19, 3) := by decide +kernel
theorem dX4_setsOf_26 : decode cX4_setsOf 26 = .ok (.iload_n 2, 1) := by decide +kernel
theorem dX4_setsOf_27 : decode cX4_setsOf 27 = .ok (.iload_n 3, 1) := by decide +kernel
theorem dX4_setsOf_28 : decode cX4_setsOf 28 = .ok (.invokestatic 56, 3) := by decide +kernel
theorem dX4_setsOf_31 : decode cX4_setsOf 31 = .ok (.iconst (-1), 1) := by decide +kernel
theorem dX4_setsOf_32 : decode cX4_setsOf 32 = .ok (.ixor, 1) := by decide +kernel
theorem dX4_setsOf_33 : decode cX4_setsOf 33 = .ok (.iload_n 3, 1) := by decide +kernel
theorem dX4_setsOf_34 : decode cX4_setsOf 34 = .ok (.iload 4, 2) := by decide +kernel
theorem dX4_setsOf_36 : decode cX4_setsOf 36 = .ok (.invokestatic 59, 3) := by decide +kernel
theorem dX4_setsOf_39 : decode cX4_setsOf 39 = .ok (.ior, 1) := by decide +kernel
theorem dX4_setsOf_40 : decode cX4_setsOf 40 = .ok (.iand, 1) := by decide +kernel
theorem dX4_setsOf_41 : decode cX4_setsOf 41 = .ok (.istore_n 2, 1) := by decide +kernel
theorem dX4_setsOf_42 : decode cX4_setsOf 42 = .ok (.iinc 3 1, 3) := by decide +kernel
end
section
theorem dX4_setsOf_45 : decode cX4_setsOf 45 = .ok (.goto (-41), 3) := by decide +kernel
theorem dX4_setsOf_48 : decode cX4_setsOf 48 = .ok (.iload_n 2, 1) := by decide +kernel
theorem dX4_setsOf_49 : decode cX4_setsOf 49 = .ok (.ireturn, 1) := by decide +kernel
theorem dX5_init_0 : decode cX5_init 0 = .ok (.aload_n 0, 1) := by decide +kernel
theorem dX5_init_1 : decode cX5_init 1 = .ok (.invokespecial 1, 3) := by decide +kernel
theorem dX5_init_4 : decode cX5_init 4 = .ok (.aload_n 0, 1) := by decide +kernel
theorem dX5_init_5 : decode cX5_init 5 = .ok (.iload_n 1, 1) := by decide +kernel
theorem dX5_init_6 : decode cX5_init 6 = .ok (.iconst 0, 1) := by decide +kernel
theorem dX5_init_7 : decode cX5_init 7 = .ok (.invokestatic 7, 3) := by decide +kernel
theorem dX5_init_10 : decode cX5_init 10 = .ok (.newarray .int, 2) := by decide +kernel
theorem dX5_init_12 : decode cX5_init 12 = .ok (.putfield 13, 3) := by decide +kernel
theorem dX5_init_15 : decode cX5_init 15 = .ok (.return_, 1) := by decide +kernel
theorem dX5_at_0 : decode cX5_at 0 = .ok (.iload_n 1, 1) := by decide +kernel
theorem dX5_at_1 : decode cX5_at 1 = .ok (.ifCond .lt 21, 3) := by decide +kernel
theorem dX5_at_4 : decode cX5_at 4 = .ok (.iload_n 1, 1) := by decide +kernel
theorem dX5_at_5 : decode cX5_at 5 = .ok (.aload_n 0, 1) := by decide +kernel
theorem dX5_at_6 : decode cX5_at 6 = .ok (.getfield 13, 3) := by decide +kernel
theorem dX5_at_9 : decode cX5_at 9 = .ok (.arraylength, 1) := by decide +kernel
theorem dX5_at_10 : decode cX5_at 10 = .ok (.if_icmp .ge 12, 3) := by decide +kernel
theorem dX5_at_13 : decode cX5_at 13 = .ok (.aload_n 0, 1) := by decide +kernel
theorem dX5_at_14 : decode cX5_at 14 = .ok (.getfield 13, 3) := by decide +kernel
theorem dX5_at_17 : decode cX5_at 17 = .ok (.iload_n 1, 1) := by decide +kernel
theorem dX5_at_18 : decode cX5_at 18 = .ok (.iaload, 1) := by decide +kernel
theorem dX5_at_19 : decode cX5_at 19 = .ok (.goto 4, 3) := by decide +kernel
theorem dX5_at_22 : decode cX5_at 22 = .ok (.iconst 0, 1) := by decide +kernel
theorem dX5_at_23 : decode cX5_at 23 = .ok (.ireturn, 1) := by decide +kernel
theorem dX5_put_0 : decode cX5_put 0 = .ok (.iload_n 1, 1) := by decide +kernel
theorem dX5_put_1 : decode cX5_put 1 = .ok (.ifCond .lt 19, 3) := by decide +kernel
theorem dX5_put_4 : decode cX5_put 4 = .ok (.iload_n 1, 1) := by decide +kernel
theorem dX5_put_5 : decode cX5_put 5 = .ok (.aload_n 0, 1) := by decide +kernel
theorem dX5_put_6 : decode cX5_put 6 = .ok (.getfield 13, 3) := by decide +kernel
theorem dX5_put_9 : decode cX5_put 9 = .ok (.arraylength, 1) := by decide +kernel
theorem dX5_put_10 : decode cX5_put 10 = .ok (.if_icmp .ge 10, 3) := by decide +kernel
theorem dX5_put_13 : decode cX5_put 13 = .ok (.aload_n 0, 1) := by decide +kernel
theorem dX5_put_14 : decode cX5_put 14 = .ok (.getfield 13, 3) := by decide +kernel
theorem dX5_put_17 : decode cX5_put 17 = .ok (.iload_n 1, 1) := by decide +kernel
theorem dX5_put_18 : decode cX5_put 18 = .ok (.iload_n 2, 1) := by decide +kernel
theorem dX5_put_19 : decode cX5_put 19 = .ok (.iastore, 1) := by decide +kernel
theorem dX5_put_20 : decode cX5_put 20 = .ok (.return_, 1) := by decide +kernel
theorem dX5_fillFrom_0 : decode cX5_fillFrom 0 = .ok (.iconst 0, 1) := by decide +kernel
theorem dX5_fillFrom_1 : decode cX5_fillFrom 1 = .ok (.istore_n 2, 1) := by decide +kernel
theorem dX5_fillFrom_2 : decode cX5_fillFrom 2 = .ok (.iload_n 2, 1) := by decide +kernel
theorem dX5_fillFrom_3 : decode cX5_fillFrom 3 = .ok (.aload_n 0, 1) := by decide +kernel
theorem dX5_fillFrom_4 : decode cX5_fillFrom 4 = .ok (.getfield 13, 3) := by decide +kernel
theorem dX5_fillFrom_7 : decode cX5_fillFrom 7 = .ok (.arraylength, 1) := by decide +kernel
theorem dX5_fillFrom_8 : decode cX5_fillFrom 8 = .ok (.if_icmp .ge 19, 3) := by decide +kernel
theorem dX5_fillFrom_11 : decode cX5_fillFrom 11 = .ok (.aload_n 0, 1) := by decide +kernel
theorem dX5_fillFrom_12 : decode cX5_fillFrom 12 = .ok (.iload_n 2, 1) := by decide +kernel
theorem dX5_fillFrom_13 : decode cX5_fillFrom 13 = .ok (.aload_n 1, 1) := by decide +kernel
theorem dX5_fillFrom_14 : decode cX5_fillFrom 14 = .ok (.iload_n 2, 1) := by decide +kernel
theorem dX5_fillFrom_15 : decode cX5_fillFrom 15 = .ok (.invokevirtual 19, 3) := by decide +kernel
theorem dX5_fillFrom_18 : decode cX5_fillFrom 18 = .ok (.invokevirtual 23, 3) := by decide +kernel
theorem dX5_fillFrom_21 : decode cX5_fillFrom 21 = .ok (.iinc 2 1, 3) := by decide +kernel
theorem dX5_fillFrom_24 : decode cX5_fillFrom 24 = .ok (.goto (-22), 3) := by decide +kernel
theorem dX5_fillFrom_27 : decode cX5_fillFrom 27 = .ok (.return_, 1) := by decide +kernel
theorem dX6_init_0 : decode cX6_init 0 = .ok (.aload_n 0, 1) := by decide +kernel
theorem dX6_init_1 : decode cX6_init 1 = .ok (.invokespecial 3, 3) := by decide +kernel
theorem dX6_init_4 : decode cX6_init 4 = .ok (.aload_n 0, 1) := by decide +kernel
theorem dX6_init_5 : decode cX6_init 5 = .ok (.new 9, 3) := by decide +kernel
theorem dX6_init_8 : decode cX6_init 8 = .ok (.dup, 1) := by decide +kernel
theorem dX6_init_9 : decode cX6_init 9 = .ok (.bipush 90, 2) := by decide +kernel
theorem dX6_init_11 : decode cX6_init 11 = .ok (.invokespecial 11, 3) := by decide +kernel
theorem dX6_init_14 : decode cX6_init 14 = .ok (.putfield 14, 3) := by decide +kernel
theorem dX6_init_17 : decode cX6_init 17 = .ok (.return_, 1) := by decide +kernel
theorem dX6_append_0 : decode cX6_append 0 = .ok (.aload_n 0, 1) := by decide +kernel
theorem dX6_append_1 : decode cX6_append 1 = .ok (.getfield 14, 3) := by decide +kernel
theorem dX6_append_4 : decode cX6_append 4 = .ok (.aload_n 0, 1) := by decide +kernel
theorem dX6_append_5 : decode cX6_append 5 = .ok (.getfield 20, 3) := by decide +kernel
theorem dX6_append_8 : decode cX6_append 8 = .ok (.iload_n 1, 1) := by decide +kernel
theorem dX6_append_9 : decode cX6_append 9 = .ok (.invokevirtual 24, 3) := by decide +kernel
theorem dX6_append_12 : decode cX6_append 12 = .ok (.aload_n 0, 1) := by decide +kernel
theorem dX6_append_13 : decode cX6_append 13 = .ok (.dup, 1) := by decide +kernel
theorem dX6_append_14 : decode cX6_append 14 = .ok (.getfield 20, 3) := by decide +kernel
theorem dX6_append_17 : decode cX6_append 17 = .ok (.iconst 1, 1) := by decide +kernel
theorem dX6_append_18 : decode cX6_append 18 = .ok (.iadd, 1) := by decide +kernel
theorem dX6_append_19 : decode cX6_append 19 = .ok (.putfield 20, 3) := by decide +kernel
theorem dX6_append_22 : decode cX6_append 22 = .ok (.return_, 1) := by decide +kernel
theorem dX6_tell_0 : decode cX6_tell 0 = .ok (.aload_n 1, 1) := by decide +kernel
theorem dX6_tell_1 : decode cX6_tell 1 = .ok (.iconst 0, 1) := by decide +kernel
theorem dX6_tell_2 : decode cX6_tell 2 = .ok (.putfield 28, 3) := by decide +kernel
theorem dX6_tell_5 : decode cX6_tell 5 = .ok (.aload_n 1, 1) := by decide +kernel
theorem dX6_tell_6 : decode cX6_tell 6 = .ok (.iconst 0, 1) := by decide +kernel
theorem dX6_tell_7 : decode cX6_tell 7 = .ok (.putfield 33, 3) := by decide +kernel
theorem dX6_tell_10 : decode cX6_tell 10 = .ok (.iconst 0, 1) := by decide +kernel
theorem dX6_tell_11 : decode cX6_tell 11 = .ok (.istore_n 2, 1) := by decide +kernel
theorem dX6_tell_12 : decode cX6_tell 12 = .ok (.iconst 0, 1) := by decide +kernel
theorem dX6_tell_13 : decode cX6_tell 13 = .ok (.istore_n 3, 1) := by decide +kernel
theorem dX6_tell_14 : decode cX6_tell 14 = .ok (.iconst 0, 1) := by decide +kernel
theorem dX6_tell_15 : decode cX6_tell 15 = .ok (.istore 4, 2) := by decide +kernel
theorem dX6_tell_17 : decode cX6_tell 17 = .ok (.iload 4, 2) := by decide +kernel
theorem dX6_tell_19 : decode cX6_tell 19 = .ok (.aload_n 0, 1) := by decide +kernel
theorem dX6_tell_20 : decode cX6_tell 20 = .ok (.getfield 20, 3) := by decide +kernel
theorem dX6_tell_23 : decode cX6_tell 23 = .ok (.if_icmp .ge 120, 3) := by decide +kernel
theorem dX6_tell_26 : decode cX6_tell 26 = .ok (.aload_n 0, 1) := by decide +kernel
theorem dX6_tell_27 : decode cX6_tell 27 = .ok (.getfield 14, 3) := by decide +kernel
theorem dX6_tell_30 : decode cX6_tell 30 = .ok (.iload 4, 2) := by decide +kernel
theorem dX6_tell_32 : decode cX6_tell 32 = .ok (.invokevirtual 36, 3) := by decide +kernel
theorem dX6_tell_35 : decode cX6_tell 35 = .ok (.istore 5, 2) := by decide +kernel
theorem dX6_tell_37 : decode cX6_tell 37 = .ok (.iload 5, 2) := by decide +kernel
theorem dX6_tell_39 : decode cX6_tell 39 = .ok (.bipush 32, 2) := by decide +kernel
theorem dX6_tell_41 : decode cX6_tell 41 = .ok (.if_icmp .ne 6, 3) := by decide +kernel
theorem dX6_tell_44 : decode cX6_tell 44 = .ok (.goto 93, 3) := by decide +kernel
theorem dX6_tell_47 : decode cX6_tell 47 = .ok (.iload_n 2, 1) := by decide +kernel
theorem dX6_tell_48 : decode cX6_tell 48 = .ok (.ifCond .ne 29, 3) := by decide +kernel
theorem dX6_tell_51 : decode cX6_tell 51 = .ok (.iload 5, 2) := by decide +kernel
theorem dX6_tell_53 : decode cX6_tell 53 = .ok (.bipush 109, 2) := by decide +kernel
theorem dX6_tell_55 : decode cX6_tell 55 = .ok (.if_icmp .ne 12, 3) := by decide +kernel
theorem dX6_tell_58 : decode cX6_tell 58 = .ok (.aload_n 1, 1) := by decide +kernel
theorem dX6_tell_59 : decode cX6_tell 59 = .ok (.getfield 28, 3) := by decide +kernel
theorem dX6_tell_62 : decode cX6_tell 62 = .ok (.bipush 6, 2) := by decide +kernel
theorem dX6_tell_64 : decode cX6_tell 64 = .ok (.if_icmp .lt 6, 3) := by decide +kernel
theorem dX6_tell_67 : decode cX6_tell 67 = .ok (.iload 4, 2) := by decide +kernel
theorem dX6_tell_69 : decode cX6_tell 69 = .ok (.ireturn, 1) := by decide +kernel
theorem dX6_tell_70 : decode cX6_tell 70 = .ok (.iconst 1, 1) := by decide +kernel
theorem dX6_tell_71 : decode cX6_tell 71 = .ok (.istore_n 2, 1) := by decide +kernel
theorem dX6_tell_72 : decode cX6_tell 72 = .ok (.iconst 0, 1) := by decide +kernel
theorem dX6_tell_73 : decode cX6_tell 73 = .ok (.istore_n 3, 1) := by decide +kernel
theorem dX6_tell_74 : decode cX6_tell 74 = .ok (.goto 63, 3) := by decide +kernel
theorem dX6_tell_77 : decode cX6_tell 77 = .ok (.iload 5, 2) := by decide +kernel
theorem dX6_tell_79 : decode cX6_tell 79 = .ok (.bipush 59, 2) := by decide +kernel
theorem dX6_tell_81 : decode cX6_tell 81 = .ok (.if_icmp .ne 19, 3) := by decide +kernel
theorem dX6_tell_84 : decode cX6_tell 84 = .ok (.aload_n 1, 1) := by decide +kernel
theorem dX6_tell_85 : decode cX6_tell 85 = .ok (.iload_n 3, 1) := by decide +kernel
theorem dX6_tell_86 : decode cX6_tell 86 = .ok (.invokestatic 40, 3) := by decide +kernel
theorem dX6_tell_89 : decode cX6_tell 89 = .ok (.ifCond .ne 6, 3) := by decide +kernel
theorem dX6_tell_92 : decode cX6_tell 92 = .ok (.iload 4, 2) := by decide +kernel
theorem dX6_tell_94 : decode cX6_tell 94 = .ok (.ireturn, 1) := by decide +kernel
theorem dX6_tell_95 : decode cX6_tell 95 = .ok (.iconst 0, 1) := by decide +kernel
theorem dX6_tell_96 : decode cX6_tell 96 = .ok (.istore_n 2, 1) := by decide +kernel
theorem dX6_tell_97 : decode cX6_tell 97 = .ok (.goto 40, 3) := by decide +kernel
theorem dX6_tell_100 : decode cX6_tell 100 = .ok (.iload 5, 2) := by decide +kernel
theorem dX6_tell_102 : decode cX6_tell 102 = .ok (.invokestatic 44, 3) := by decide +kernel
theorem dX6_tell_105 : decode cX6_tell 105 = .ok (.istore 6, 2) := by decide +kernel
theorem dX6_tell_107 : decode cX6_tell 107 = .ok (.iload 6, 2) := by decide +kernel
theorem dX6_tell_109 : decode cX6_tell 109 = .ok (.ifCond .lt 11, 3) := by decide +kernel
theorem dX6_tell_112 : decode cX6_tell 112 = .ok (.iload_n 3, 1) := by decide +kernel
theorem dX6_tell_113 : decode cX6_tell 113 = .ok (.aload_n 1, 1) := by decide +kernel
theorem dX6_tell_114 : decode cX6_tell 114 = .ok (.invokestatic 47, 3) := by decide +kernel
theorem dX6_tell_117 : decode cX6_tell 117 = .ok (.if_icmp .lt 6, 3) := by decide +kernel
theorem dX6_tell_120 : decode cX6_tell 120 = .ok (.iload 4, 2) := by decide +kernel
theorem dX6_tell_122 : decode cX6_tell 122 = .ok (.ireturn, 1) := by decide +kernel
theorem dX6_tell_123 : decode cX6_tell 123 = .ok (.aload_n 1, 1) := by decide +kernel
theorem dX6_tell_124 : decode cX6_tell 124 = .ok (.aload_n 1, 1) := by decide +kernel
theorem dX6_tell_125 : decode cX6_tell 125 = .ok (.getfield 28, 3) := by decide +kernel
theorem dX6_tell_128 : decode cX6_tell 128 = .ok (.iload_n 3, 1) := by decide +kernel
theorem dX6_tell_129 : decode cX6_tell 129 = .ok (.iload 6, 2) := by decide +kernel
theorem dX6_tell_131 : decode cX6_tell 131 = .ok (.invokevirtual 51, 3) := by decide +kernel
theorem dX6_tell_134 : decode cX6_tell 134 = .ok (.iinc 3 1, 3) := by decide +kernel
theorem dX6_tell_137 : decode cX6_tell 137 = .ok (.iinc 4 1, 3) := by decide +kernel
theorem dX6_tell_140 : decode cX6_tell 140 = .ok (.goto (-123), 3) := by decide +kernel
theorem dX6_tell_143 : decode cX6_tell 143 = .ok (.iload_n 2, 1) := by decide +kernel
theorem dX6_tell_144 : decode cX6_tell 144 = .ok (.ifCond .eq 10, 3) := by decide +kernel
theorem dX6_tell_147 : decode cX6_tell 147 = .ok (.aload_n 0, 1) := by decide +kernel
theorem dX6_tell_148 : decode cX6_tell 148 = .ok (.getfield 20, 3) := by decide +kernel
theorem dX6_tell_151 : decode cX6_tell 151 = .ok (.goto 4, 3) := by decide +kernel
theorem dX6_tell_154 : decode cX6_tell 154 = .ok (.iconst (-1), 1) := by decide +kernel
theorem dX6_tell_155 : decode cX6_tell 155 = .ok (.ireturn, 1) := by decide +kernel
theorem dX6_mostReadings_0 : decode cX6_mostReadings 0 = .ok (.aload_n 0, 1) := by decide +kernel
theorem dX6_mostReadings_1 : decode cX6_mostReadings 1 = .ok (.getfield 28, 3) := by decide +kernel
theorem dX6_mostReadings_4 : decode cX6_mostReadings 4 = .ok (.ifCond .ne 8, 3) := by decide +kernel
theorem dX6_mostReadings_7 : decode cX6_mostReadings 7 = .ok (.bipush 8, 2) := by decide +kernel
theorem dX6_mostReadings_9 : decode cX6_mostReadings 9 = .ok (.goto 7, 3) := by decide +kernel
theorem dX6_mostReadings_12 : decode cX6_mostReadings 12 = .ok (.aload_n 0, 1) := by decide +kernel
theorem dX6_mostReadings_13 : decode cX6_mostReadings 13 = .ok (.getfield 33, 3) := by decide +kernel
theorem dX6_mostReadings_16 : decode cX6_mostReadings 16 = .ok (.ireturn, 1) := by decide +kernel
theorem dX6_endItem_0 : decode cX6_endItem 0 = .ok (.iload_n 1, 1) := by decide +kernel
theorem dX6_endItem_1 : decode cX6_endItem 1 = .ok (.iconst 1, 1) := by decide +kernel
theorem dX6_endItem_2 : decode cX6_endItem 2 = .ok (.if_icmp .lt 18, 3) := by decide +kernel
theorem dX6_endItem_5 : decode cX6_endItem 5 = .ok (.aload_n 0, 1) := by decide +kernel
theorem dX6_endItem_6 : decode cX6_endItem 6 = .ok (.getfield 28, 3) := by decide +kernel
theorem dX6_endItem_9 : decode cX6_endItem 9 = .ok (.ifCond .le 13, 3) := by decide +kernel
theorem dX6_endItem_12 : decode cX6_endItem 12 = .ok (.iload_n 1, 1) := by decide +kernel
theorem dX6_endItem_13 : decode cX6_endItem 13 = .ok (.aload_n 0, 1) := by decide +kernel
theorem dX6_endItem_14 : decode cX6_endItem 14 = .ok (.getfield 33, 3) := by decide +kernel
theorem dX6_endItem_17 : decode cX6_endItem 17 = .ok (.if_icmp .ge 5, 3) := by decide +kernel
theorem dX6_endItem_20 : decode cX6_endItem 20 = .ok (.iconst 0, 1) := by decide +kernel
theorem dX6_endItem_21 : decode cX6_endItem 21 = .ok (.ireturn, 1) := by decide +kernel
theorem dX6_endItem_22 : decode cX6_endItem 22 = .ok (.aload_n 0, 1) := by decide +kernel
theorem dX6_endItem_23 : decode cX6_endItem 23 = .ok (.iload_n 1, 1) := by decide +kernel
theorem dX6_endItem_24 : decode cX6_endItem 24 = .ok (.putfield 33, 3) := by decide +kernel
theorem dX6_endItem_27 : decode cX6_endItem 27 = .ok (.aload_n 0, 1) := by decide +kernel
theorem dX6_endItem_28 : decode cX6_endItem 28 = .ok (.dup, 1) := by decide +kernel
theorem dX6_endItem_29 : decode cX6_endItem 29 = .ok (.getfield 28, 3) := by decide +kernel
theorem dX6_endItem_32 : decode cX6_endItem 32 = .ok (.iconst 1, 1) := by decide +kernel
theorem dX6_endItem_33 : decode cX6_endItem 33 = .ok (.iadd, 1) := by decide +kernel
theorem dX6_endItem_34 : decode cX6_endItem 34 = .ok (.putfield 28, 3) := by decide +kernel
theorem dX6_endItem_37 : decode cX6_endItem 37 = .ok (.iconst 1, 1) := by decide +kernel
theorem dX6_endItem_38 : decode cX6_endItem 38 = .ok (.ireturn, 1) := by decide +kernel
theorem dX6_readingFor_0 : decode cX6_readingFor 0 = .ok (.iload_n 0, 1) := by decide +kernel
theorem dX6_readingFor_1 : decode cX6_readingFor 1 = .ok (.bipush 63, 2) := by decide +kernel
theorem dX6_readingFor_3 : decode cX6_readingFor 3 = .ok (.if_icmp .ne 5, 3) := by decide +kernel
theorem dX6_readingFor_6 : decode cX6_readingFor 6 = .ok (.iconst 4, 1) := by decide +kernel
theorem dX6_readingFor_7 : decode cX6_readingFor 7 = .ok (.ireturn, 1) := by decide +kernel
theorem dX6_readingFor_8 : decode cX6_readingFor 8 = .ok (.iload_n 0, 1) := by decide +kernel
theorem dX6_readingFor_9 : decode cX6_readingFor 9 = .ok (.bipush 97, 2) := by decide +kernel
theorem dX6_readingFor_11 : decode cX6_readingFor 11 = .ok (.if_icmp .lt 16, 3) := by decide +kernel
theorem dX6_readingFor_14 : decode cX6_readingFor 14 = .ok (.iload_n 0, 1) := by decide +kernel
theorem dX6_readingFor_15 : decode cX6_readingFor 15 = .ok (.bipush 100, 2) := by decide +kernel
theorem dX6_readingFor_17 : decode cX6_readingFor 17 = .ok (.if_icmp .gt 10, 3) := by decide +kernel
theorem dX6_readingFor_20 : decode cX6_readingFor 20 = .ok (.iload_n 0, 1) := by decide +kernel
theorem dX6_readingFor_21 : decode cX6_readingFor 21 = .ok (.bipush 97, 2) := by decide +kernel
theorem dX6_readingFor_23 : decode cX6_readingFor 23 = .ok (.isub, 1) := by decide +kernel
theorem dX6_readingFor_24 : decode cX6_readingFor 24 = .ok (.goto 4, 3) := by decide +kernel
theorem dX6_readingFor_27 : decode cX6_readingFor 27 = .ok (.iconst (-1), 1) := by decide +kernel
theorem dX6_readingFor_28 : decode cX6_readingFor 28 = .ok (.ireturn, 1) := by decide +kernel
theorem dX7_init_0 : decode cX7_init 0 = .ok (.aload_n 0, 1) := by decide +kernel
theorem dX7_init_1 : decode cX7_init 1 = .ok (.invokespecial 3, 3) := by decide +kernel
theorem dX7_init_4 : decode cX7_init 4 = .ok (.aload_n 0, 1) := by decide +kernel
theorem dX7_init_5 : decode cX7_init 5 = .ok (.new 9, 3) := by decide +kernel
theorem dX7_init_8 : decode cX7_init 8 = .ok (.dup, 1) := by decide +kernel
theorem dX7_init_9 : decode cX7_init 9 = .ok (.bipush 9, 2) := by decide +kernel
theorem dX7_init_11 : decode cX7_init 11 = .ok (.invokespecial 11, 3) := by decide +kernel
theorem dX7_init_14 : decode cX7_init 14 = .ok (.putfield 14, 3) := by decide +kernel
theorem dX7_init_17 : decode cX7_init 17 = .ok (.aload_n 0, 1) := by decide +kernel
theorem dX7_init_18 : decode cX7_init 18 = .ok (.new 9, 3) := by decide +kernel
theorem dX7_init_21 : decode cX7_init 21 = .ok (.dup, 1) := by decide +kernel
theorem dX7_init_22 : decode cX7_init 22 = .ok (.bipush 9, 2) := by decide +kernel
theorem dX7_init_24 : decode cX7_init 24 = .ok (.invokespecial 11, 3) := by decide +kernel
theorem dX7_init_27 : decode cX7_init 27 = .ok (.putfield 20, 3) := by decide +kernel
theorem dX7_init_30 : decode cX7_init 30 = .ok (.return_, 1) := by decide +kernel
theorem dX7_weightOf_0 : decode cX7_weightOf 0 = .ok (.iload_n 0, 1) := by decide +kernel
theorem dX7_weightOf_1 : decode cX7_weightOf 1 = .ok (.iconst 3, 1) := by decide +kernel
theorem dX7_weightOf_2 : decode cX7_weightOf 2 = .ok (.if_icmp .ne 7, 3) := by decide +kernel
theorem dX7_weightOf_5 : decode cX7_weightOf 5 = .ok (.iconst 1, 1) := by decide +kernel
theorem dX7_weightOf_6 : decode cX7_weightOf 6 = .ok (.goto 14, 3) := by decide +kernel
theorem dX7_weightOf_9 : decode cX7_weightOf 9 = .ok (.iload_n 0, 1) := by decide +kernel
theorem dX7_weightOf_10 : decode cX7_weightOf 10 = .ok (.iconst 4, 1) := by decide +kernel
theorem dX7_weightOf_11 : decode cX7_weightOf 11 = .ok (.if_icmp .ne 7, 3) := by decide +kernel
theorem dX7_weightOf_14 : decode cX7_weightOf 14 = .ok (.iconst 3, 1) := by decide +kernel
theorem dX7_weightOf_15 : decode cX7_weightOf 15 = .ok (.goto 5, 3) := by decide +kernel
theorem dX7_weightOf_18 : decode cX7_weightOf 18 = .ok (.bipush 15, 2) := by decide +kernel
theorem dX7_weightOf_20 : decode cX7_weightOf 20 = .ok (.ireturn, 1) := by decide +kernel
theorem dX7_edgeOf_0 : decode cX7_edgeOf 0 = .ok (.iload_n 1, 1) := by decide +kernel
theorem dX7_edgeOf_1 : decode cX7_edgeOf 1 = .ok (.iconst 3, 1) := by decide +kernel
theorem dX7_edgeOf_2 : decode cX7_edgeOf 2 = .ok (.if_icmp .ne 9, 3) := by decide +kernel
theorem dX7_edgeOf_5 : decode cX7_edgeOf 5 = .ok (.iload_n 0, 1) := by decide +kernel
theorem dX7_edgeOf_6 : decode cX7_edgeOf 6 = .ok (.iconst 3, 1) := by decide +kernel
theorem dX7_edgeOf_7 : decode cX7_edgeOf 7 = .ok (.irem, 1) := by decide +kernel
theorem dX7_edgeOf_8 : decode cX7_edgeOf 8 = .ok (.goto 20, 3) := by decide +kernel
theorem dX7_edgeOf_11 : decode cX7_edgeOf 11 = .ok (.iload_n 1, 1) := by decide +kernel
theorem dX7_edgeOf_12 : decode cX7_edgeOf 12 = .ok (.iconst 4, 1) := by decide +kernel
theorem dX7_edgeOf_13 : decode cX7_edgeOf 13 = .ok (.if_icmp .ne 11, 3) := by decide +kernel
theorem dX7_edgeOf_16 : decode cX7_edgeOf 16 = .ok (.iload_n 0, 1) := by decide +kernel
theorem dX7_edgeOf_17 : decode cX7_edgeOf 17 = .ok (.iconst 3, 1) := by decide +kernel
theorem dX7_edgeOf_18 : decode cX7_edgeOf 18 = .ok (.idiv, 1) := by decide +kernel
theorem dX7_edgeOf_19 : decode cX7_edgeOf 19 = .ok (.iconst 5, 1) := by decide +kernel
theorem dX7_edgeOf_20 : decode cX7_edgeOf 20 = .ok (.irem, 1) := by decide +kernel
theorem dX7_edgeOf_21 : decode cX7_edgeOf 21 = .ok (.goto 7, 3) := by decide +kernel
theorem dX7_edgeOf_24 : decode cX7_edgeOf 24 = .ok (.iload_n 0, 1) := by decide +kernel
theorem dX7_edgeOf_25 : decode cX7_edgeOf 25 = .ok (.bipush 15, 2) := by decide +kernel
theorem dX7_edgeOf_27 : decode cX7_edgeOf 27 = .ok (.idiv, 1) := by decide +kernel
theorem dX7_edgeOf_28 : decode cX7_edgeOf 28 = .ok (.ireturn, 1) := by decide +kernel
theorem dX7_grow_0 : decode cX7_grow 0 = .ok (.aload_n 0, 1) := by decide +kernel
theorem dX7_grow_1 : decode cX7_grow 1 = .ok (.iconst 0, 1) := by decide +kernel
theorem dX7_grow_2 : decode cX7_grow 2 = .ok (.putfield 23, 3) := by decide +kernel
theorem dX7_grow_5 : decode cX7_grow 5 = .ok (.iload_n 2, 1) := by decide +kernel
theorem dX7_grow_6 : decode cX7_grow 6 = .ok (.iconst 2, 1) := by decide +kernel
theorem dX7_grow_7 : decode cX7_grow 7 = .ok (.if_icmp .ne 9, 3) := by decide +kernel
theorem dX7_grow_10 : decode cX7_grow 10 = .ok (.aload_n 0, 1) := by decide +kernel
theorem dX7_grow_11 : decode cX7_grow 11 = .ok (.iconst 0, 1) := by decide +kernel
theorem dX7_grow_12 : decode cX7_grow 12 = .ok (.iconst 1, 1) := by decide +kernel
theorem dX7_grow_13 : decode cX7_grow 13 = .ok (.invokevirtual 27, 3) := by decide +kernel
theorem dX7_grow_16 : decode cX7_grow 16 = .ok (.iload_n 2, 1) := by decide +kernel
theorem dX7_grow_17 : decode cX7_grow 17 = .ok (.iconst 3, 1) := by decide +kernel
theorem dX7_grow_18 : decode cX7_grow 18 = .ok (.if_icmp .ge 4, 3) := by decide +kernel
theorem dX7_grow_21 : decode cX7_grow 21 = .ok (.return_, 1) := by decide +kernel
theorem dX7_grow_22 : decode cX7_grow 22 = .ok (.iconst 0, 1) := by decide +kernel
theorem dX7_grow_23 : decode cX7_grow 23 = .ok (.istore_n 3, 1) := by decide +kernel
theorem dX7_grow_24 : decode cX7_grow 24 = .ok (.iload_n 3, 1) := by decide +kernel
theorem dX7_grow_25 : decode cX7_grow 25 = .ok (.iconst 3, 1) := by decide +kernel
theorem dX7_grow_26 : decode cX7_grow 26 = .ok (.if_icmp .ge 16, 3) := by decide +kernel
theorem dX7_grow_29 : decode cX7_grow 29 = .ok (.aload_n 0, 1) := by decide +kernel
theorem dX7_grow_30 : decode cX7_grow 30 = .ok (.iload_n 3, 1) := by decide +kernel
theorem dX7_grow_31 : decode cX7_grow 31 = .ok (.bipush 6, 2) := by decide +kernel
theorem dX7_grow_33 : decode cX7_grow 33 = .ok (.invokevirtual 27, 3) := by decide +kernel
theorem dX7_grow_36 : decode cX7_grow 36 = .ok (.iinc 3 1, 3) := by decide +kernel
theorem dX7_grow_39 : decode cX7_grow 39 = .ok (.goto (-15), 3) := by decide +kernel
theorem dX7_grow_42 : decode cX7_grow 42 = .ok (.iconst 3, 1) := by decide +kernel
theorem dX7_grow_43 : decode cX7_grow 43 = .ok (.istore_n 3, 1) := by decide +kernel
theorem dX7_grow_44 : decode cX7_grow 44 = .ok (.iload_n 3, 1) := by decide +kernel
theorem dX7_grow_45 : decode cX7_grow 45 = .ok (.iload_n 2, 1) := by decide +kernel
theorem dX7_grow_46 : decode cX7_grow 46 = .ok (.if_icmp .ge 19, 3) := by decide +kernel
theorem dX7_grow_49 : decode cX7_grow 49 = .ok (.aload_n 0, 1) := by decide +kernel
theorem dX7_grow_50 : decode cX7_grow 50 = .ok (.iload_n 3, 1) := by decide +kernel
theorem dX7_grow_51 : decode cX7_grow 51 = .ok (.iload_n 1, 1) := by decide +kernel
theorem dX7_grow_52 : decode cX7_grow 52 = .ok (.iload_n 3, 1) := by decide +kernel
theorem dX7_grow_53 : decode cX7_grow 53 = .ok (.invokestatic 31, 3) := by decide +kernel
theorem dX7_grow_56 : decode cX7_grow 56 = .ok (.invokevirtual 35, 3) := by decide +kernel
theorem dX7_grow_59 : decode cX7_grow 59 = .ok (.iinc 3 1, 3) := by decide +kernel
theorem dX7_grow_62 : decode cX7_grow 62 = .ok (.goto (-18), 3) := by decide +kernel
theorem dX7_grow_65 : decode cX7_grow 65 = .ok (.return_, 1) := by decide +kernel
theorem dX7_hang_0 : decode cX7_hang 0 = .ok (.bipush 6, 2) := by decide +kernel
theorem dX7_hang_2 : decode cX7_hang 2 = .ok (.iload_n 1, 1) := by decide +kernel
theorem dX7_hang_3 : decode cX7_hang 3 = .ok (.iadd, 1) := by decide +kernel
theorem dX7_hang_4 : decode cX7_hang 4 = .ok (.iconst 2, 1) := by decide +kernel
theorem dX7_hang_5 : decode cX7_hang 5 = .ok (.isub, 1) := by decide +kernel
theorem dX7_hang_6 : decode cX7_hang 6 = .ok (.istore_n 3, 1) := by decide +kernel
theorem dX7_hang_7 : decode cX7_hang 7 = .ok (.aload_n 0, 1) := by decide +kernel
theorem dX7_hang_8 : decode cX7_hang 8 = .ok (.getfield 20, 3) := by decide +kernel
theorem dX7_hang_11 : decode cX7_hang 11 = .ok (.iload_n 2, 1) := by decide +kernel
theorem dX7_hang_12 : decode cX7_hang 12 = .ok (.invokevirtual 38, 3) := by decide +kernel
theorem dX7_hang_15 : decode cX7_hang 15 = .ok (.istore 4, 2) := by decide +kernel
theorem dX7_hang_17 : decode cX7_hang 17 = .ok (.aload_n 0, 1) := by decide +kernel
theorem dX7_hang_18 : decode cX7_hang 18 = .ok (.getfield 20, 3) := by decide +kernel
theorem dX7_hang_21 : decode cX7_hang 21 = .ok (.iload_n 2, 1) := by decide +kernel
theorem dX7_hang_22 : decode cX7_hang 22 = .ok (.iload_n 3, 1) := by decide +kernel
theorem dX7_hang_23 : decode cX7_hang 23 = .ok (.invokevirtual 42, 3) := by decide +kernel
theorem dX7_hang_26 : decode cX7_hang 26 = .ok (.aload_n 0, 1) := by decide +kernel
theorem dX7_hang_27 : decode cX7_hang 27 = .ok (.iload_n 3, 1) := by decide +kernel
theorem dX7_hang_28 : decode cX7_hang 28 = .ok (.iload 4, 2) := by decide +kernel
theorem dX7_hang_30 : decode cX7_hang 30 = .ok (.invokevirtual 27, 3) := by decide +kernel
theorem dX7_hang_33 : decode cX7_hang 33 = .ok (.aload_n 0, 1) := by decide +kernel
theorem dX7_hang_34 : decode cX7_hang 34 = .ok (.iload_n 3, 1) := by decide +kernel
theorem dX7_hang_35 : decode cX7_hang 35 = .ok (.iload_n 1, 1) := by decide +kernel
theorem dX7_hang_36 : decode cX7_hang 36 = .ok (.invokevirtual 27, 3) := by decide +kernel
theorem dX7_hang_39 : decode cX7_hang 39 = .ok (.return_, 1) := by decide +kernel
theorem dX7_addEdge_0 : decode cX7_addEdge 0 = .ok (.aload_n 0, 1) := by decide +kernel
theorem dX7_addEdge_1 : decode cX7_addEdge 1 = .ok (.getfield 14, 3) := by decide +kernel
theorem dX7_addEdge_4 : decode cX7_addEdge 4 = .ok (.aload_n 0, 1) := by decide +kernel
theorem dX7_addEdge_5 : decode cX7_addEdge 5 = .ok (.getfield 23, 3) := by decide +kernel
theorem dX7_addEdge_8 : decode cX7_addEdge 8 = .ok (.iload_n 1, 1) := by decide +kernel
theorem dX7_addEdge_9 : decode cX7_addEdge 9 = .ok (.invokevirtual 42, 3) := by decide +kernel
theorem dX7_addEdge_12 : decode cX7_addEdge 12 = .ok (.aload_n 0, 1) := by decide +kernel
theorem dX7_addEdge_13 : decode cX7_addEdge 13 = .ok (.getfield 20, 3) := by decide +kernel
theorem dX7_addEdge_16 : decode cX7_addEdge 16 = .ok (.aload_n 0, 1) := by decide +kernel
theorem dX7_addEdge_17 : decode cX7_addEdge 17 = .ok (.getfield 23, 3) := by decide +kernel
theorem dX7_addEdge_20 : decode cX7_addEdge 20 = .ok (.iload_n 2, 1) := by decide +kernel
theorem dX7_addEdge_21 : decode cX7_addEdge 21 = .ok (.invokevirtual 42, 3) := by decide +kernel
theorem dX7_addEdge_24 : decode cX7_addEdge 24 = .ok (.aload_n 0, 1) := by decide +kernel
theorem dX7_addEdge_25 : decode cX7_addEdge 25 = .ok (.dup, 1) := by decide +kernel
theorem dX7_addEdge_26 : decode cX7_addEdge 26 = .ok (.getfield 23, 3) := by decide +kernel
theorem dX7_addEdge_29 : decode cX7_addEdge 29 = .ok (.iconst 1, 1) := by decide +kernel
theorem dX7_addEdge_30 : decode cX7_addEdge 30 = .ok (.iadd, 1) := by decide +kernel
theorem dX7_addEdge_31 : decode cX7_addEdge 31 = .ok (.putfield 23, 3) := by decide +kernel
theorem dX7_addEdge_34 : decode cX7_addEdge 34 = .ok (.return_, 1) := by decide +kernel
theorem dX8_init_0 : decode cX8_init 0 = .ok (.aload_n 0, 1) := by decide +kernel
theorem dX8_init_1 : decode cX8_init 1 = .ok (.invokespecial 3, 3) := by decide +kernel
theorem dX8_init_4 : decode cX8_init 4 = .ok (.aload_n 0, 1) := by decide +kernel
theorem dX8_init_5 : decode cX8_init 5 = .ok (.new 9, 3) := by decide +kernel
theorem dX8_init_8 : decode cX8_init 8 = .ok (.dup, 1) := by decide +kernel
theorem dX8_init_9 : decode cX8_init 9 = .ok (.invokespecial 11, 3) := by decide +kernel
theorem dX8_init_12 : decode cX8_init 12 = .ok (.putfield 12, 3) := by decide +kernel
theorem dX8_init_15 : decode cX8_init 15 = .ok (.aload_n 0, 1) := by decide +kernel
theorem dX8_init_16 : decode cX8_init 16 = .ok (.new 16, 3) := by decide +kernel
theorem dX8_init_19 : decode cX8_init 19 = .ok (.dup, 1) := by decide +kernel
theorem dX8_init_20 : decode cX8_init 20 = .ok (.invokespecial 18, 3) := by decide +kernel
theorem dX8_init_23 : decode cX8_init 23 = .ok (.putfield 19, 3) := by decide +kernel
theorem dX8_init_26 : decode cX8_init 26 = .ok (.aload_n 0, 1) := by decide +kernel
theorem dX8_init_27 : decode cX8_init 27 = .ok (.new 16, 3) := by decide +kernel
theorem dX8_init_30 : decode cX8_init 30 = .ok (.dup, 1) := by decide +kernel
theorem dX8_init_31 : decode cX8_init 31 = .ok (.invokespecial 18, 3) := by decide +kernel
theorem dX8_init_34 : decode cX8_init 34 = .ok (.putfield 23, 3) := by decide +kernel
theorem dX8_init_37 : decode cX8_init 37 = .ok (.aload_n 0, 1) := by decide +kernel
theorem dX8_init_38 : decode cX8_init 38 = .ok (.new 26, 3) := by decide +kernel
theorem dX8_init_41 : decode cX8_init 41 = .ok (.dup, 1) := by decide +kernel
theorem dX8_init_42 : decode cX8_init 42 = .ok (.invokespecial 28, 3) := by decide +kernel
theorem dX8_init_45 : decode cX8_init 45 = .ok (.putfield 29, 3) := by decide +kernel
theorem dX8_init_48 : decode cX8_init 48 = .ok (.aload_n 0, 1) := by decide +kernel
theorem dX8_init_49 : decode cX8_init 49 = .ok (.new 33, 3) := by decide +kernel
theorem dX8_init_52 : decode cX8_init 52 = .ok (.dup, 1) := by decide +kernel
theorem dX8_init_53 : decode cX8_init 53 = .ok (.invokespecial 35, 3) := by decide +kernel
theorem dX8_init_56 : decode cX8_init 56 = .ok (.putfield 36, 3) := by decide +kernel
theorem dX8_init_59 : decode cX8_init 59 = .ok (.aload_n 0, 1) := by decide +kernel
theorem dX8_init_60 : decode cX8_init 60 = .ok (.new 33, 3) := by decide +kernel
theorem dX8_init_63 : decode cX8_init 63 = .ok (.dup, 1) := by decide +kernel
theorem dX8_init_64 : decode cX8_init 64 = .ok (.invokespecial 35, 3) := by decide +kernel
theorem dX8_init_67 : decode cX8_init 67 = .ok (.putfield 40, 3) := by decide +kernel
theorem dX8_init_70 : decode cX8_init 70 = .ok (.aload_n 0, 1) := by decide +kernel
theorem dX8_init_71 : decode cX8_init 71 = .ok (.new 43, 3) := by decide +kernel
theorem dX8_init_74 : decode cX8_init 74 = .ok (.dup, 1) := by decide +kernel
theorem dX8_init_75 : decode cX8_init 75 = .ok (.bipush 6, 2) := by decide +kernel
theorem dX8_init_77 : decode cX8_init 77 = .ok (.invokespecial 45, 3) := by decide +kernel
theorem dX8_init_80 : decode cX8_init 80 = .ok (.putfield 48, 3) := by decide +kernel
theorem dX8_init_83 : decode cX8_init 83 = .ok (.aload_n 0, 1) := by decide +kernel
theorem dX8_init_84 : decode cX8_init 84 = .ok (.new 52, 3) := by decide +kernel
theorem dX8_init_87 : decode cX8_init 87 = .ok (.dup, 1) := by decide +kernel
theorem dX8_init_88 : decode cX8_init 88 = .ok (.invokespecial 54, 3) := by decide +kernel
theorem dX8_init_91 : decode cX8_init 91 = .ok (.putfield 55, 3) := by decide +kernel
theorem dX8_init_94 : decode cX8_init 94 = .ok (.aload_n 0, 1) := by decide +kernel
theorem dX8_init_95 : decode cX8_init 95 = .ok (.new 59, 3) := by decide +kernel
theorem dX8_init_98 : decode cX8_init 98 = .ok (.dup, 1) := by decide +kernel
theorem dX8_init_99 : decode cX8_init 99 = .ok (.invokespecial 61, 3) := by decide +kernel
theorem dX8_init_102 : decode cX8_init 102 = .ok (.putfield 62, 3) := by decide +kernel
theorem dX8_init_105 : decode cX8_init 105 = .ok (.aload_n 0, 1) := by decide +kernel
theorem dX8_init_106 : decode cX8_init 106 = .ok (.new 43, 3) := by decide +kernel
theorem dX8_init_109 : decode cX8_init 109 = .ok (.dup, 1) := by decide +kernel
theorem dX8_init_110 : decode cX8_init 110 = .ok (.bipush 6, 2) := by decide +kernel
theorem dX8_init_112 : decode cX8_init 112 = .ok (.invokespecial 45, 3) := by decide +kernel
theorem dX8_init_115 : decode cX8_init 115 = .ok (.putfield 66, 3) := by decide +kernel
theorem dX8_init_118 : decode cX8_init 118 = .ok (.aload_n 0, 1) := by decide +kernel
theorem dX8_init_119 : decode cX8_init 119 = .ok (.new 43, 3) := by decide +kernel
theorem dX8_init_122 : decode cX8_init 122 = .ok (.dup, 1) := by decide +kernel
theorem dX8_init_123 : decode cX8_init 123 = .ok (.bipush 105, 2) := by decide +kernel
theorem dX8_init_125 : decode cX8_init 125 = .ok (.invokespecial 45, 3) := by decide +kernel
theorem dX8_init_128 : decode cX8_init 128 = .ok (.putfield 69, 3) := by decide +kernel
theorem dX8_init_131 : decode cX8_init 131 = .ok (.aload_n 0, 1) := by decide +kernel
theorem dX8_init_132 : decode cX8_init 132 = .ok (.new 43, 3) := by decide +kernel
theorem dX8_init_135 : decode cX8_init 135 = .ok (.dup, 1) := by decide +kernel
theorem dX8_init_136 : decode cX8_init 136 = .ok (.bipush 49, 2) := by decide +kernel
theorem dX8_init_138 : decode cX8_init 138 = .ok (.invokespecial 45, 3) := by decide +kernel
theorem dX8_init_141 : decode cX8_init 141 = .ok (.putfield 72, 3) := by decide +kernel
theorem dX8_init_144 : decode cX8_init 144 = .ok (.aload_n 0, 1) := by decide +kernel
theorem dX8_init_145 : decode cX8_init 145 = .ok (.new 75, 3) := by decide +kernel
theorem dX8_init_148 : decode cX8_init 148 = .ok (.dup, 1) := by decide +kernel
theorem dX8_init_149 : decode cX8_init 149 = .ok (.invokespecial 77, 3) := by decide +kernel
theorem dX8_init_152 : decode cX8_init 152 = .ok (.putfield 78, 3) := by decide +kernel
theorem dX8_init_155 : decode cX8_init 155 = .ok (.return_, 1) := by decide +kernel
theorem dX8_type_0 : decode cX8_type 0 = .ok (.iload_n 1, 1) := by decide +kernel
theorem dX8_type_1 : decode cX8_type 1 = .ok (.ifCond .lt 10, 3) := by decide +kernel
theorem dX8_type_4 : decode cX8_type 4 = .ok (.iload_n 1, 1) := by decide +kernel
theorem dX8_type_5 : decode cX8_type 5 = .ok (.sipush 255, 3) := by decide +kernel
theorem dX8_type_8 : decode cX8_type 8 = .ok (.if_icmp .le 5, 3) := by decide +kernel
theorem dX8_type_11 : decode cX8_type 11 = .ok (.iconst (-1), 1) := by decide +kernel
theorem dX8_type_12 : decode cX8_type 12 = .ok (.ireturn, 1) := by decide +kernel
theorem dX8_type_13 : decode cX8_type 13 = .ok (.aload_n 0, 1) := by decide +kernel
theorem dX8_type_14 : decode cX8_type 14 = .ok (.getfield 12, 3) := by decide +kernel
theorem dX8_type_17 : decode cX8_type 17 = .ok (.getfield 82, 3) := by decide +kernel
theorem dX8_type_20 : decode cX8_type 20 = .ok (.bipush 90, 2) := by decide +kernel
theorem dX8_type_22 : decode cX8_type 22 = .ok (.if_icmp .lt 6, 3) := by decide +kernel
theorem dX8_type_25 : decode cX8_type 25 = .ok (.bipush (-3), 2) := by decide +kernel
theorem dX8_type_27 : decode cX8_type 27 = .ok (.ireturn, 1) := by decide +kernel
theorem dX8_type_28 : decode cX8_type 28 = .ok (.aload_n 0, 1) := by decide +kernel
theorem dX8_type_29 : decode cX8_type 29 = .ok (.getfield 12, 3) := by decide +kernel
theorem dX8_type_32 : decode cX8_type 32 = .ok (.iload_n 1, 1) := by decide +kernel
theorem dX8_type_33 : decode cX8_type 33 = .ok (.invokevirtual 86, 3) := by decide +kernel
theorem dX8_type_36 : decode cX8_type 36 = .ok (.aload_n 0, 1) := by decide +kernel
theorem dX8_type_37 : decode cX8_type 37 = .ok (.getfield 12, 3) := by decide +kernel
theorem dX8_type_40 : decode cX8_type 40 = .ok (.getfield 82, 3) := by decide +kernel
theorem dX8_type_43 : decode cX8_type 43 = .ok (.ireturn, 1) := by decide +kernel
theorem dX8_clear_0 : decode cX8_clear 0 = .ok (.aload_n 0, 1) := by decide +kernel
theorem dX8_clear_1 : decode cX8_clear 1 = .ok (.getfield 12, 3) := by decide +kernel
theorem dX8_clear_4 : decode cX8_clear 4 = .ok (.getfield 82, 3) := by decide +kernel
theorem dX8_clear_7 : decode cX8_clear 7 = .ok (.istore_n 1, 1) := by decide +kernel
theorem dX8_clear_8 : decode cX8_clear 8 = .ok (.aload_n 0, 1) := by decide +kernel
theorem dX8_clear_9 : decode cX8_clear 9 = .ok (.getfield 12, 3) := by decide +kernel
theorem dX8_clear_12 : decode cX8_clear 12 = .ok (.iconst 0, 1) := by decide +kernel
theorem dX8_clear_13 : decode cX8_clear 13 = .ok (.putfield 82, 3) := by decide +kernel
theorem dX8_clear_16 : decode cX8_clear 16 = .ok (.iload_n 1, 1) := by decide +kernel
theorem dX8_clear_17 : decode cX8_clear 17 = .ok (.ireturn, 1) := by decide +kernel
theorem dX8_copies_0 : decode cX8_copies 0 = .ok (.aload_n 0, 1) := by decide +kernel
theorem dX8_copies_1 : decode cX8_copies 1 = .ok (.getfield 12, 3) := by decide +kernel
theorem dX8_copies_4 : decode cX8_copies 4 = .ok (.aload_n 0, 1) := by decide +kernel
theorem dX8_copies_5 : decode cX8_copies 5 = .ok (.getfield 23, 3) := by decide +kernel
theorem dX8_copies_8 : decode cX8_copies 8 = .ok (.invokevirtual 89, 3) := by decide +kernel
theorem dX8_copies_11 : decode cX8_copies 11 = .ok (.istore_n 1, 1) := by decide +kernel
theorem dX8_copies_12 : decode cX8_copies 12 = .ok (.iload_n 1, 1) := by decide +kernel
theorem dX8_copies_13 : decode cX8_copies 13 = .ok (.iconst (-1), 1) := by decide +kernel
theorem dX8_copies_14 : decode cX8_copies 14 = .ok (.if_icmp .eq 8, 3) := by decide +kernel
theorem dX8_copies_17 : decode cX8_copies 17 = .ok (.bipush (-10), 2) := by decide +kernel
theorem dX8_copies_19 : decode cX8_copies 19 = .ok (.iload_n 1, 1) := by decide +kernel
theorem dX8_copies_20 : decode cX8_copies 20 = .ok (.isub, 1) := by decide +kernel
theorem dX8_copies_21 : decode cX8_copies 21 = .ok (.ireturn, 1) := by decide +kernel
theorem dX8_copies_22 : decode cX8_copies 22 = .ok (.aload_n 0, 1) := by decide +kernel
theorem dX8_copies_23 : decode cX8_copies 23 = .ok (.getfield 19, 3) := by decide +kernel
theorem dX8_copies_26 : decode cX8_copies 26 = .ok (.aload_n 0, 1) := by decide +kernel
theorem dX8_copies_27 : decode cX8_copies 27 = .ok (.getfield 23, 3) := by decide +kernel
theorem dX8_copies_30 : decode cX8_copies 30 = .ok (.invokevirtual 93, 3) := by decide +kernel
theorem dX8_copies_33 : decode cX8_copies 33 = .ok (.aload_n 0, 1) := by decide +kernel
theorem dX8_copies_34 : decode cX8_copies 34 = .ok (.getfield 12, 3) := by decide +kernel
theorem dX8_copies_37 : decode cX8_copies 37 = .ok (.iconst 0, 1) := by decide +kernel
theorem dX8_copies_38 : decode cX8_copies 38 = .ok (.putfield 82, 3) := by decide +kernel
theorem dX8_copies_41 : decode cX8_copies 41 = .ok (.aload_n 0, 1) := by decide +kernel
theorem dX8_copies_42 : decode cX8_copies 42 = .ok (.iconst 0, 1) := by decide +kernel
theorem dX8_copies_43 : decode cX8_copies 43 = .ok (.putfield 97, 3) := by decide +kernel
theorem dX8_copies_46 : decode cX8_copies 46 = .ok (.aload_n 0, 1) := by decide +kernel
theorem dX8_copies_47 : decode cX8_copies 47 = .ok (.getfield 29, 3) := by decide +kernel
theorem dX8_copies_50 : decode cX8_copies 50 = .ok (.iconst 0, 1) := by decide +kernel
theorem dX8_copies_51 : decode cX8_copies 51 = .ok (.putfield 100, 3) := by decide +kernel
theorem dX8_copies_54 : decode cX8_copies 54 = .ok (.aload_n 0, 1) := by decide +kernel
theorem dX8_copies_55 : decode cX8_copies 55 = .ok (.iconst 0, 1) := by decide +kernel
theorem dX8_copies_56 : decode cX8_copies 56 = .ok (.putfield 103, 3) := by decide +kernel
theorem dX8_copies_59 : decode cX8_copies 59 = .ok (.aload_n 0, 1) := by decide +kernel
theorem dX8_copies_60 : decode cX8_copies 60 = .ok (.getfield 36, 3) := by decide +kernel
theorem dX8_copies_63 : decode cX8_copies 63 = .ok (.iconst 0, 1) := by decide +kernel
theorem dX8_copies_64 : decode cX8_copies 64 = .ok (.putfield 106, 3) := by decide +kernel
theorem dX8_copies_67 : decode cX8_copies 67 = .ok (.aload_n 0, 1) := by decide +kernel
theorem dX8_copies_68 : decode cX8_copies 68 = .ok (.getfield 40, 3) := by decide +kernel
theorem dX8_copies_71 : decode cX8_copies 71 = .ok (.iconst 0, 1) := by decide +kernel
theorem dX8_copies_72 : decode cX8_copies 72 = .ok (.putfield 106, 3) := by decide +kernel
theorem dX8_copies_75 : decode cX8_copies 75 = .ok (.aload_n 0, 1) := by decide +kernel
theorem dX8_copies_76 : decode cX8_copies 76 = .ok (.iconst 0, 1) := by decide +kernel
theorem dX8_copies_77 : decode cX8_copies 77 = .ok (.putfield 110, 3) := by decide +kernel
theorem dX8_copies_80 : decode cX8_copies 80 = .ok (.aload_n 0, 1) := by decide +kernel
theorem dX8_copies_81 : decode cX8_copies 81 = .ok (.getfield 19, 3) := by decide +kernel
theorem dX8_copies_84 : decode cX8_copies 84 = .ok (.getfield 113, 3) := by decide +kernel
theorem dX8_copies_87 : decode cX8_copies 87 = .ok (.ireturn, 1) := by decide +kernel
theorem dX8_reading_0 : decode cX8_reading 0 = .ok (.aload_n 0, 1) := by decide +kernel
theorem dX8_reading_1 : decode cX8_reading 1 = .ok (.getfield 19, 3) := by decide +kernel
theorem dX8_reading_4 : decode cX8_reading 4 = .ok (.iload_n 1, 1) := by decide +kernel
theorem dX8_reading_5 : decode cX8_reading 5 = .ok (.iload_n 2, 1) := by decide +kernel
theorem dX8_reading_6 : decode cX8_reading 6 = .ok (.invokevirtual 116, 3) := by decide +kernel
theorem dX8_reading_9 : decode cX8_reading 9 = .ok (.ifCond .ne 5, 3) := by decide +kernel
theorem dX8_reading_12 : decode cX8_reading 12 = .ok (.iconst (-1), 1) := by decide +kernel
theorem dX8_reading_13 : decode cX8_reading 13 = .ok (.ireturn, 1) := by decide +kernel
theorem dX8_reading_14 : decode cX8_reading 14 = .ok (.aload_n 0, 1) := by decide +kernel
theorem dX8_reading_15 : decode cX8_reading 15 = .ok (.getfield 19, 3) := by decide +kernel
theorem dX8_reading_18 : decode cX8_reading 18 = .ok (.iload_n 1, 1) := by decide +kernel
theorem dX8_reading_19 : decode cX8_reading 19 = .ok (.iload_n 2, 1) := by decide +kernel
theorem dX8_reading_20 : decode cX8_reading 20 = .ok (.invokevirtual 120, 3) := by decide +kernel
theorem dX8_reading_23 : decode cX8_reading 23 = .ok (.istore_n 3, 1) := by decide +kernel
theorem dX8_reading_24 : decode cX8_reading 24 = .ok (.iload_n 3, 1) := by decide +kernel
theorem dX8_reading_25 : decode cX8_reading 25 = .ok (.iconst 4, 1) := by decide +kernel
theorem dX8_reading_26 : decode cX8_reading 26 = .ok (.if_icmp .ne 8, 3) := by decide +kernel
theorem dX8_reading_29 : decode cX8_reading 29 = .ok (.bipush (-9), 2) := by decide +kernel
theorem dX8_reading_31 : decode cX8_reading 31 = .ok (.goto 4, 3) := by decide +kernel
theorem dX8_reading_34 : decode cX8_reading 34 = .ok (.iload_n 3, 1) := by decide +kernel
theorem dX8_reading_35 : decode cX8_reading 35 = .ok (.ireturn, 1) := by decide +kernel
theorem dX8_reads_0 : decode cX8_reads 0 = .ok (.aload_n 0, 1) := by decide +kernel
theorem dX8_reads_1 : decode cX8_reads 1 = .ok (.getfield 19, 3) := by decide +kernel
theorem dX8_reads_4 : decode cX8_reads 4 = .ok (.iload_n 1, 1) := by decide +kernel
theorem dX8_reads_5 : decode cX8_reads 5 = .ok (.iload_n 2, 1) := by decide +kernel
theorem dX8_reads_6 : decode cX8_reads 6 = .ok (.invokevirtual 116, 3) := by decide +kernel
theorem dX8_reads_9 : decode cX8_reads 9 = .ok (.ifCond .eq 12, 3) := by decide +kernel
theorem dX8_reads_12 : decode cX8_reads 12 = .ok (.iload_n 3, 1) := by decide +kernel
theorem dX8_reads_13 : decode cX8_reads 13 = .ok (.ifCond .lt 8, 3) := by decide +kernel
theorem dX8_reads_16 : decode cX8_reads 16 = .ok (.iload_n 3, 1) := by decide +kernel
theorem dX8_reads_17 : decode cX8_reads 17 = .ok (.iconst 4, 1) := by decide +kernel
theorem dX8_reads_18 : decode cX8_reads 18 = .ok (.if_icmp .le 5, 3) := by decide +kernel
theorem dX8_reads_21 : decode cX8_reads 21 = .ok (.iconst (-1), 1) := by decide +kernel
theorem dX8_reads_22 : decode cX8_reads 22 = .ok (.ireturn, 1) := by decide +kernel
theorem dX8_reads_23 : decode cX8_reads 23 = .ok (.aload_n 0, 1) := by decide +kernel
theorem dX8_reads_24 : decode cX8_reads 24 = .ok (.getfield 19, 3) := by decide +kernel
theorem dX8_reads_27 : decode cX8_reads 27 = .ok (.iload_n 1, 1) := by decide +kernel
theorem dX8_reads_28 : decode cX8_reads 28 = .ok (.iload_n 2, 1) := by decide +kernel
theorem dX8_reads_29 : decode cX8_reads 29 = .ok (.invokevirtual 120, 3) := by decide +kernel
theorem dX8_reads_32 : decode cX8_reads 32 = .ok (.istore 4, 2) := by decide +kernel
theorem dX8_reads_34 : decode cX8_reads 34 = .ok (.iload 4, 2) := by decide +kernel
theorem dX8_reads_36 : decode cX8_reads 36 = .ok (.iload_n 3, 1) := by decide +kernel
theorem dX8_reads_37 : decode cX8_reads 37 = .ok (.if_icmp .ne 6, 3) := by decide +kernel
theorem dX8_reads_40 : decode cX8_reads 40 = .ok (.bipush (-2), 2) := by decide +kernel
theorem dX8_reads_42 : decode cX8_reads 42 = .ok (.ireturn, 1) := by decide +kernel
theorem dX8_reads_43 : decode cX8_reads 43 = .ok (.aload_n 0, 1) := by decide +kernel
theorem dX8_reads_44 : decode cX8_reads 44 = .ok (.getfield 29, 3) := by decide +kernel
theorem dX8_reads_47 : decode cX8_reads 47 = .ok (.aload_n 0, 1) := by decide +kernel
theorem dX8_reads_48 : decode cX8_reads 48 = .ok (.getfield 19, 3) := by decide +kernel
theorem dX8_reads_51 : decode cX8_reads 51 = .ok (.iload_n 1, 1) := by decide +kernel
theorem dX8_reads_52 : decode cX8_reads 52 = .ok (.iload_n 2, 1) := by decide +kernel
theorem dX8_reads_53 : decode cX8_reads 53 = .ok (.invokevirtual 124, 3) := by decide +kernel
theorem dX8_reads_56 : decode cX8_reads 56 = .ok (.iload 4, 2) := by decide +kernel
theorem dX8_reads_58 : decode cX8_reads 58 = .ok (.invokevirtual 127, 3) := by decide +kernel
theorem dX8_reads_61 : decode cX8_reads 61 = .ok (.aload_n 0, 1) := by decide +kernel
theorem dX8_reads_62 : decode cX8_reads 62 = .ok (.getfield 19, 3) := by decide +kernel
theorem dX8_reads_65 : decode cX8_reads 65 = .ok (.iload_n 1, 1) := by decide +kernel
theorem dX8_reads_66 : decode cX8_reads 66 = .ok (.iload_n 2, 1) := by decide +kernel
theorem dX8_reads_67 : decode cX8_reads 67 = .ok (.iload_n 3, 1) := by decide +kernel
theorem dX8_reads_68 : decode cX8_reads 68 = .ok (.invokevirtual 131, 3) := by decide +kernel
theorem dX8_reads_71 : decode cX8_reads 71 = .ok (.aload_n 0, 1) := by decide +kernel
theorem dX8_reads_72 : decode cX8_reads 72 = .ok (.iconst 0, 1) := by decide +kernel
theorem dX8_reads_73 : decode cX8_reads 73 = .ok (.putfield 110, 3) := by decide +kernel
theorem dX8_reads_76 : decode cX8_reads 76 = .ok (.iload 4, 2) := by decide +kernel
theorem dX8_reads_78 : decode cX8_reads 78 = .ok (.ireturn, 1) := by decide +kernel
theorem dX8_chooses_0 : decode cX8_chooses 0 = .ok (.aload_n 0, 1) := by decide +kernel
theorem dX8_chooses_1 : decode cX8_chooses 1 = .ok (.iload_n 1, 1) := by decide +kernel
theorem dX8_chooses_2 : decode cX8_chooses 2 = .ok (.invokevirtual 135, 3) := by decide +kernel
theorem dX8_chooses_5 : decode cX8_chooses 5 = .ok (.ifCond .ne 5, 3) := by decide +kernel
theorem dX8_chooses_8 : decode cX8_chooses 8 = .ok (.iconst (-1), 1) := by decide +kernel
theorem dX8_chooses_9 : decode cX8_chooses 9 = .ok (.ireturn, 1) := by decide +kernel
theorem dX8_chooses_10 : decode cX8_chooses 10 = .ok (.iload_n 1, 1) := by decide +kernel
theorem dX8_chooses_11 : decode cX8_chooses 11 = .ok (.aload_n 0, 1) := by decide +kernel
theorem dX8_chooses_12 : decode cX8_chooses 12 = .ok (.getfield 97, 3) := by decide +kernel
theorem dX8_chooses_15 : decode cX8_chooses 15 = .ok (.if_icmp .ne 6, 3) := by decide +kernel
theorem dX8_chooses_18 : decode cX8_chooses 18 = .ok (.bipush (-2), 2) := by decide +kernel
theorem dX8_chooses_20 : decode cX8_chooses 20 = .ok (.ireturn, 1) := by decide +kernel
theorem dX8_chooses_21 : decode cX8_chooses 21 = .ok (.aload_n 0, 1) := by decide +kernel
theorem dX8_chooses_22 : decode cX8_chooses 22 = .ok (.getfield 97, 3) := by decide +kernel
theorem dX8_chooses_25 : decode cX8_chooses 25 = .ok (.istore_n 2, 1) := by decide +kernel
theorem dX8_chooses_26 : decode cX8_chooses 26 = .ok (.aload_n 0, 1) := by decide +kernel
theorem dX8_chooses_27 : decode cX8_chooses 27 = .ok (.iload_n 1, 1) := by decide +kernel
theorem dX8_chooses_28 : decode cX8_chooses 28 = .ok (.invokevirtual 139, 3) := by decide +kernel
theorem dX8_chooses_31 : decode cX8_chooses 31 = .ok (.iload_n 2, 1) := by decide +kernel
theorem dX8_chooses_32 : decode cX8_chooses 32 = .ok (.ireturn, 1) := by decide +kernel
theorem dX8_betters_0 : decode cX8_betters 0 = .ok (.aload_n 0, 1) := by decide +kernel
theorem dX8_betters_1 : decode cX8_betters 1 = .ok (.invokevirtual 142, 3) := by decide +kernel
theorem dX8_betters_4 : decode cX8_betters 4 = .ok (.aload_n 0, 1) := by decide +kernel
theorem dX8_betters_5 : decode cX8_betters 5 = .ok (.invokevirtual 145, 3) := by decide +kernel
theorem dX8_betters_8 : decode cX8_betters 8 = .ok (.istore_n 1, 1) := by decide +kernel
theorem dX8_betters_9 : decode cX8_betters 9 = .ok (.iload_n 1, 1) := by decide +kernel
theorem dX8_betters_10 : decode cX8_betters 10 = .ok (.aload_n 0, 1) := by decide +kernel
theorem dX8_betters_11 : decode cX8_betters 11 = .ok (.getfield 97, 3) := by decide +kernel
theorem dX8_betters_14 : decode cX8_betters 14 = .ok (.if_icmp .ne 6, 3) := by decide +kernel
theorem dX8_betters_17 : decode cX8_betters 17 = .ok (.bipush (-2), 2) := by decide +kernel
theorem dX8_betters_19 : decode cX8_betters 19 = .ok (.ireturn, 1) := by decide +kernel
theorem dX8_betters_20 : decode cX8_betters 20 = .ok (.aload_n 0, 1) := by decide +kernel
theorem dX8_betters_21 : decode cX8_betters 21 = .ok (.iload_n 1, 1) := by decide +kernel
theorem dX8_betters_22 : decode cX8_betters 22 = .ok (.invokevirtual 139, 3) := by decide +kernel
theorem dX8_betters_25 : decode cX8_betters 25 = .ok (.aload_n 0, 1) := by decide +kernel
theorem dX8_betters_26 : decode cX8_betters 26 = .ok (.getfield 97, 3) := by decide +kernel
theorem dX8_betters_29 : decode cX8_betters 29 = .ok (.ireturn, 1) := by decide +kernel
theorem dX8_undo_0 : decode cX8_undo 0 = .ok (.aload_n 0, 1) := by decide +kernel
theorem dX8_undo_1 : decode cX8_undo 1 = .ok (.getfield 29, 3) := by decide +kernel
theorem dX8_undo_4 : decode cX8_undo 4 = .ok (.getfield 100, 3) := by decide +kernel
theorem dX8_undo_7 : decode cX8_undo 7 = .ok (.iconst 1, 1) := by decide +kernel
theorem dX8_undo_8 : decode cX8_undo 8 = .ok (.if_icmp .ge 6, 3) := by decide +kernel
theorem dX8_undo_11 : decode cX8_undo 11 = .ok (.bipush (-2), 2) := by decide +kernel
theorem dX8_undo_13 : decode cX8_undo 13 = .ok (.ireturn, 1) := by decide +kernel
theorem dX8_undo_14 : decode cX8_undo 14 = .ok (.aload_n 0, 1) := by decide +kernel
theorem dX8_undo_15 : decode cX8_undo 15 = .ok (.getfield 29, 3) := by decide +kernel
theorem dX8_undo_18 : decode cX8_undo 18 = .ok (.dup, 1) := by decide +kernel
theorem dX8_undo_19 : decode cX8_undo 19 = .ok (.getfield 100, 3) := by decide +kernel
theorem dX8_undo_22 : decode cX8_undo 22 = .ok (.iconst 1, 1) := by decide +kernel
theorem dX8_undo_23 : decode cX8_undo 23 = .ok (.isub, 1) := by decide +kernel
theorem dX8_undo_24 : decode cX8_undo 24 = .ok (.putfield 100, 3) := by decide +kernel
theorem dX8_undo_27 : decode cX8_undo 27 = .ok (.aload_n 0, 1) := by decide +kernel
theorem dX8_undo_28 : decode cX8_undo 28 = .ok (.getfield 29, 3) := by decide +kernel
theorem dX8_undo_31 : decode cX8_undo 31 = .ok (.getfield 149, 3) := by decide +kernel
theorem dX8_undo_34 : decode cX8_undo 34 = .ok (.aload_n 0, 1) := by decide +kernel
theorem dX8_undo_35 : decode cX8_undo 35 = .ok (.getfield 29, 3) := by decide +kernel
theorem dX8_undo_38 : decode cX8_undo 38 = .ok (.getfield 100, 3) := by decide +kernel
theorem dX8_undo_41 : decode cX8_undo 41 = .ok (.invokevirtual 152, 3) := by decide +kernel
theorem dX8_undo_44 : decode cX8_undo 44 = .ok (.istore_n 1, 1) := by decide +kernel
theorem dX8_undo_45 : decode cX8_undo 45 = .ok (.aload_n 0, 1) := by decide +kernel
theorem dX8_undo_46 : decode cX8_undo 46 = .ok (.getfield 29, 3) := by decide +kernel
theorem dX8_undo_49 : decode cX8_undo 49 = .ok (.getfield 155, 3) := by decide +kernel
theorem dX8_undo_52 : decode cX8_undo 52 = .ok (.aload_n 0, 1) := by decide +kernel
theorem dX8_undo_53 : decode cX8_undo 53 = .ok (.getfield 29, 3) := by decide +kernel
theorem dX8_undo_56 : decode cX8_undo 56 = .ok (.getfield 100, 3) := by decide +kernel
theorem dX8_undo_59 : decode cX8_undo 59 = .ok (.invokevirtual 152, 3) := by decide +kernel
theorem dX8_undo_62 : decode cX8_undo 62 = .ok (.istore_n 2, 1) := by decide +kernel
theorem dX8_undo_63 : decode cX8_undo 63 = .ok (.iload_n 1, 1) := by decide +kernel
theorem dX8_undo_64 : decode cX8_undo 64 = .ok (.iconst (-1), 1) := by decide +kernel
theorem dX8_undo_65 : decode cX8_undo 65 = .ok (.if_icmp .ne 11, 3) := by decide +kernel
theorem dX8_undo_68 : decode cX8_undo 68 = .ok (.aload_n 0, 1) := by decide +kernel
theorem dX8_undo_69 : decode cX8_undo 69 = .ok (.iload_n 2, 1) := by decide +kernel
theorem dX8_undo_70 : decode cX8_undo 70 = .ok (.putfield 97, 3) := by decide +kernel
theorem dX8_undo_73 : decode cX8_undo 73 = .ok (.goto 20, 3) := by decide +kernel
theorem dX8_undo_76 : decode cX8_undo 76 = .ok (.aload_n 0, 1) := by decide +kernel
theorem dX8_undo_77 : decode cX8_undo 77 = .ok (.getfield 19, 3) := by decide +kernel
theorem dX8_undo_80 : decode cX8_undo 80 = .ok (.getfield 158, 3) := by decide +kernel
theorem dX8_undo_83 : decode cX8_undo 83 = .ok (.iload_n 1, 1) := by decide +kernel
theorem dX8_undo_84 : decode cX8_undo 84 = .ok (.iload_n 2, 1) := by decide +kernel
theorem dX8_undo_85 : decode cX8_undo 85 = .ok (.invokevirtual 159, 3) := by decide +kernel
theorem dX8_undo_88 : decode cX8_undo 88 = .ok (.aload_n 0, 1) := by decide +kernel
theorem dX8_undo_89 : decode cX8_undo 89 = .ok (.iconst 0, 1) := by decide +kernel
theorem dX8_undo_90 : decode cX8_undo 90 = .ok (.putfield 110, 3) := by decide +kernel
theorem dX8_undo_93 : decode cX8_undo 93 = .ok (.aload_n 0, 1) := by decide +kernel
theorem dX8_undo_94 : decode cX8_undo 94 = .ok (.getfield 29, 3) := by decide +kernel
theorem dX8_undo_97 : decode cX8_undo 97 = .ok (.getfield 100, 3) := by decide +kernel
theorem dX8_undo_100 : decode cX8_undo 100 = .ok (.ireturn, 1) := by decide +kernel
theorem dX8_changes_0 : decode cX8_changes 0 = .ok (.aload_n 0, 1) := by decide +kernel
theorem dX8_changes_1 : decode cX8_changes 1 = .ok (.iload_n 1, 1) := by decide +kernel
theorem dX8_changes_2 : decode cX8_changes 2 = .ok (.invokevirtual 135, 3) := by decide +kernel
theorem dX8_changes_5 : decode cX8_changes 5 = .ok (.ifCond .eq 19, 3) := by decide +kernel
theorem dX8_changes_8 : decode cX8_changes 8 = .ok (.iload_n 2, 1) := by decide +kernel
theorem dX8_changes_9 : decode cX8_changes 9 = .ok (.iconst (-1), 1) := by decide +kernel
theorem dX8_changes_10 : decode cX8_changes 10 = .ok (.if_icmp .eq 16, 3) := by decide +kernel
theorem dX8_changes_13 : decode cX8_changes 13 = .ok (.aload_n 0, 1) := by decide +kernel
theorem dX8_changes_14 : decode cX8_changes 14 = .ok (.getfield 19, 3) := by decide +kernel
theorem dX8_changes_17 : decode cX8_changes 17 = .ok (.iload_n 2, 1) := by decide +kernel
theorem dX8_changes_18 : decode cX8_changes 18 = .ok (.invokevirtual 161, 3) := by decide +kernel
theorem dX8_changes_21 : decode cX8_changes 21 = .ok (.ifCond .ne 5, 3) := by decide +kernel
theorem dX8_changes_24 : decode cX8_changes 24 = .ok (.iconst (-1), 1) := by decide +kernel
theorem dX8_changes_25 : decode cX8_changes 25 = .ok (.ireturn, 1) := by decide +kernel
theorem dX8_changes_26 : decode cX8_changes 26 = .ok (.aload_n 0, 1) := by decide +kernel
theorem dX8_changes_27 : decode cX8_changes 27 = .ok (.iload_n 2, 1) := by decide +kernel
theorem dX8_changes_28 : decode cX8_changes 28 = .ok (.invokevirtual 164, 3) := by decide +kernel
theorem dX8_changes_31 : decode cX8_changes 31 = .ok (.aload_n 0, 1) := by decide +kernel
theorem dX8_changes_32 : decode cX8_changes 32 = .ok (.iload_n 1, 1) := by decide +kernel
theorem dX8_changes_33 : decode cX8_changes 33 = .ok (.invokevirtual 167, 3) := by decide +kernel
theorem dX8_changes_36 : decode cX8_changes 36 = .ok (.ireturn, 1) := by decide +kernel
theorem dX8_directed_0 : decode cX8_directed 0 = .ok (.aload_n 0, 1) := by decide +kernel
theorem dX8_directed_1 : decode cX8_directed 1 = .ok (.iload_n 1, 1) := by decide +kernel
theorem dX8_directed_2 : decode cX8_directed 2 = .ok (.invokevirtual 135, 3) := by decide +kernel
theorem dX8_directed_5 : decode cX8_directed 5 = .ok (.ifCond .eq 21, 3) := by decide +kernel
theorem dX8_directed_8 : decode cX8_directed 8 = .ok (.iload_n 2, 1) := by decide +kernel
theorem dX8_directed_9 : decode cX8_directed 9 = .ok (.ifCond .lt 17, 3) := by decide +kernel
theorem dX8_directed_12 : decode cX8_directed 12 = .ok (.iload_n 2, 1) := by decide +kernel
theorem dX8_directed_13 : decode cX8_directed 13 = .ok (.aload_n 0, 1) := by decide +kernel
theorem dX8_directed_14 : decode cX8_directed 14 = .ok (.getfield 19, 3) := by decide +kernel
theorem dX8_directed_17 : decode cX8_directed 17 = .ok (.getfield 113, 3) := by decide +kernel
theorem dX8_directed_20 : decode cX8_directed 20 = .ok (.invokestatic 170, 3) := by decide +kernel
theorem dX8_directed_23 : decode cX8_directed 23 = .ok (.if_icmp .lt 5, 3) := by decide +kernel
theorem dX8_directed_26 : decode cX8_directed 26 = .ok (.iconst (-1), 1) := by decide +kernel
theorem dX8_directed_27 : decode cX8_directed 27 = .ok (.ireturn, 1) := by decide +kernel
theorem dX8_directed_28 : decode cX8_directed 28 = .ok (.aload_n 0, 1) := by decide +kernel
theorem dX8_directed_29 : decode cX8_directed 29 = .ok (.iconst (-1), 1) := by decide +kernel
theorem dX8_directed_30 : decode cX8_directed 30 = .ok (.invokevirtual 164, 3) := by decide +kernel
theorem dX8_directed_33 : decode cX8_directed 33 = .ok (.aload_n 0, 1) := by decide +kernel
theorem dX8_directed_34 : decode cX8_directed 34 = .ok (.getfield 55, 3) := by decide +kernel
theorem dX8_directed_37 : decode cX8_directed 37 = .ok (.iload_n 1, 1) := by decide +kernel
theorem dX8_directed_38 : decode cX8_directed 38 = .ok (.aload_n 0, 1) := by decide +kernel
theorem dX8_directed_39 : decode cX8_directed 39 = .ok (.getfield 19, 3) := by decide +kernel
theorem dX8_directed_42 : decode cX8_directed 42 = .ok (.getfield 113, 3) := by decide +kernel
theorem dX8_directed_45 : decode cX8_directed 45 = .ok (.invokevirtual 173, 3) := by decide +kernel
theorem dX8_directed_48 : decode cX8_directed 48 = .ok (.aload_n 0, 1) := by decide +kernel
theorem dX8_directed_49 : decode cX8_directed 49 = .ok (.iload_n 2, 1) := by decide +kernel
theorem dX8_directed_50 : decode cX8_directed 50 = .ok (.invokevirtual 176, 3) := by decide +kernel
theorem dX8_directed_53 : decode cX8_directed 53 = .ok (.ireturn, 1) := by decide +kernel
theorem dX8_root_0 : decode cX8_root 0 = .ok (.aload_n 0, 1) := by decide +kernel
theorem dX8_root_1 : decode cX8_root 1 = .ok (.iload_n 1, 1) := by decide +kernel
theorem dX8_root_2 : decode cX8_root 2 = .ok (.invokevirtual 135, 3) := by decide +kernel
theorem dX8_root_5 : decode cX8_root 5 = .ok (.ifCond .ne 5, 3) := by decide +kernel
theorem dX8_root_8 : decode cX8_root 8 = .ok (.iconst (-1), 1) := by decide +kernel
theorem dX8_root_9 : decode cX8_root 9 = .ok (.ireturn, 1) := by decide +kernel
theorem dX8_root_10 : decode cX8_root 10 = .ok (.aload_n 0, 1) := by decide +kernel
theorem dX8_root_11 : decode cX8_root 11 = .ok (.iconst (-1), 1) := by decide +kernel
theorem dX8_root_12 : decode cX8_root 12 = .ok (.invokevirtual 164, 3) := by decide +kernel
theorem dX8_root_15 : decode cX8_root 15 = .ok (.aload_n 0, 1) := by decide +kernel
theorem dX8_root_16 : decode cX8_root 16 = .ok (.getfield 55, 3) := by decide +kernel
theorem dX8_root_19 : decode cX8_root 19 = .ok (.iload_n 1, 1) := by decide +kernel
theorem dX8_root_20 : decode cX8_root 20 = .ok (.aload_n 0, 1) := by decide +kernel
theorem dX8_root_21 : decode cX8_root 21 = .ok (.getfield 19, 3) := by decide +kernel
theorem dX8_root_24 : decode cX8_root 24 = .ok (.getfield 113, 3) := by decide +kernel
theorem dX8_root_27 : decode cX8_root 27 = .ok (.invokevirtual 173, 3) := by decide +kernel
theorem dX8_root_30 : decode cX8_root 30 = .ok (.iconst 0, 1) := by decide +kernel
theorem dX8_root_31 : decode cX8_root 31 = .ok (.istore_n 2, 1) := by decide +kernel
theorem dX8_root_32 : decode cX8_root 32 = .ok (.bipush (-9), 2) := by decide +kernel
theorem dX8_root_34 : decode cX8_root 34 = .ok (.istore_n 3, 1) := by decide +kernel
theorem dX8_root_35 : decode cX8_root 35 = .ok (.iconst 0, 1) := by decide +kernel
theorem dX8_root_36 : decode cX8_root 36 = .ok (.istore 4, 2) := by decide +kernel
theorem dX8_root_38 : decode cX8_root 38 = .ok (.iload 4, 2) := by decide +kernel
theorem dX8_root_40 : decode cX8_root 40 = .ok (.aload_n 0, 1) := by decide +kernel
theorem dX8_root_41 : decode cX8_root 41 = .ok (.getfield 55, 3) := by decide +kernel
theorem dX8_root_44 : decode cX8_root 44 = .ok (.getfield 179, 3) := by decide +kernel
theorem dX8_root_47 : decode cX8_root 47 = .ok (.if_icmp .ge 35, 3) := by decide +kernel
theorem dX8_root_50 : decode cX8_root 50 = .ok (.aload_n 0, 1) := by decide +kernel
theorem dX8_root_51 : decode cX8_root 51 = .ok (.iload 4, 2) := by decide +kernel
theorem dX8_root_53 : decode cX8_root 53 = .ok (.invokevirtual 176, 3) := by decide +kernel
theorem dX8_root_56 : decode cX8_root 56 = .ok (.istore 5, 2) := by decide +kernel
theorem dX8_root_58 : decode cX8_root 58 = .ok (.iload_n 3, 1) := by decide +kernel
theorem dX8_root_59 : decode cX8_root 59 = .ok (.bipush (-9), 2) := by decide +kernel
theorem dX8_root_61 : decode cX8_root 61 = .ok (.if_icmp .eq 9, 3) := by decide +kernel
theorem dX8_root_64 : decode cX8_root 64 = .ok (.iload 5, 2) := by decide +kernel
theorem dX8_root_66 : decode cX8_root 66 = .ok (.iload_n 2, 1) := by decide +kernel
theorem dX8_root_67 : decode cX8_root 67 = .ok (.if_icmp .ge 9, 3) := by decide +kernel
theorem dX8_root_70 : decode cX8_root 70 = .ok (.iload 5, 2) := by decide +kernel
theorem dX8_root_72 : decode cX8_root 72 = .ok (.istore_n 2, 1) := by decide +kernel
theorem dX8_root_73 : decode cX8_root 73 = .ok (.iload 4, 2) := by decide +kernel
theorem dX8_root_75 : decode cX8_root 75 = .ok (.istore_n 3, 1) := by decide +kernel
theorem dX8_root_76 : decode cX8_root 76 = .ok (.iinc 4 1, 3) := by decide +kernel
end
section
theorem dX8_root_79 : decode cX8_root 79 = .ok (.goto (-41), 3) := by decide +kernel
theorem dX8_root_82 : decode cX8_root 82 = .ok (.iload_n 3, 1) := by decide +kernel
theorem dX8_root_83 : decode cX8_root 83 = .ok (.ireturn, 1) := by decide +kernel
theorem dX8_rank_0 : decode cX8_rank 0 = .ok (.iload_n 1, 1) := by decide +kernel
theorem dX8_rank_1 : decode cX8_rank 1 = .ok (.ifCond .ge 5, 3) := by decide +kernel
theorem dX8_rank_4 : decode cX8_rank 4 = .ok (.iconst (-1), 1) := by decide +kernel
theorem dX8_rank_5 : decode cX8_rank 5 = .ok (.ireturn, 1) := by decide +kernel
theorem dX8_rank_6 : decode cX8_rank 6 = .ok (.iload_n 1, 1) := by decide +kernel
theorem dX8_rank_7 : decode cX8_rank 7 = .ok (.aload_n 0, 1) := by decide +kernel
theorem dX8_rank_8 : decode cX8_rank 8 = .ok (.getfield 19, 3) := by decide +kernel
theorem dX8_rank_11 : decode cX8_rank 11 = .ok (.getfield 113, 3) := by decide +kernel
theorem dX8_rank_14 : decode cX8_rank 14 = .ok (.invokestatic 182, 3) := by decide +kernel
theorem dX8_rank_17 : decode cX8_rank 17 = .ok (.if_icmp .lt 6, 3) := by decide +kernel
theorem dX8_rank_20 : decode cX8_rank 20 = .ok (.bipush (-9), 2) := by decide +kernel
theorem dX8_rank_22 : decode cX8_rank 22 = .ok (.ireturn, 1) := by decide +kernel
theorem dX8_rank_23 : decode cX8_rank 23 = .ok (.aload_n 0, 1) := by decide +kernel
theorem dX8_rank_24 : decode cX8_rank 24 = .ok (.invokevirtual 142, 3) := by decide +kernel
theorem dX8_rank_27 : decode cX8_rank 27 = .ok (.iload_n 1, 1) := by decide +kernel
theorem dX8_rank_28 : decode cX8_rank 28 = .ok (.istore_n 2, 1) := by decide +kernel
theorem dX8_rank_29 : decode cX8_rank 29 = .ok (.iconst 0, 1) := by decide +kernel
theorem dX8_rank_30 : decode cX8_rank 30 = .ok (.istore_n 3, 1) := by decide +kernel
theorem dX8_rank_31 : decode cX8_rank 31 = .ok (.iload_n 3, 1) := by decide +kernel
theorem dX8_rank_32 : decode cX8_rank 32 = .ok (.bipush 48, 2) := by decide +kernel
theorem dX8_rank_34 : decode cX8_rank 34 = .ok (.if_icmp .gt 37, 3) := by decide +kernel
theorem dX8_rank_37 : decode cX8_rank 37 = .ok (.aload_n 0, 1) := by decide +kernel
theorem dX8_rank_38 : decode cX8_rank 38 = .ok (.getfield 72, 3) := by decide +kernel
theorem dX8_rank_41 : decode cX8_rank 41 = .ok (.iload_n 3, 1) := by decide +kernel
theorem dX8_rank_42 : decode cX8_rank 42 = .ok (.invokevirtual 152, 3) := by decide +kernel
theorem dX8_rank_45 : decode cX8_rank 45 = .ok (.istore 4, 2) := by decide +kernel
theorem dX8_rank_47 : decode cX8_rank 47 = .ok (.iload_n 2, 1) := by decide +kernel
theorem dX8_rank_48 : decode cX8_rank 48 = .ok (.iload 4, 2) := by decide +kernel
theorem dX8_rank_50 : decode cX8_rank 50 = .ok (.if_icmp .ge 10, 3) := by decide +kernel
theorem dX8_rank_53 : decode cX8_rank 53 = .ok (.aload_n 0, 1) := by decide +kernel
theorem dX8_rank_54 : decode cX8_rank 54 = .ok (.iload_n 3, 1) := by decide +kernel
theorem dX8_rank_55 : decode cX8_rank 55 = .ok (.iload_n 2, 1) := by decide +kernel
theorem dX8_rank_56 : decode cX8_rank 56 = .ok (.invokevirtual 185, 3) := by decide +kernel
theorem dX8_rank_59 : decode cX8_rank 59 = .ok (.ireturn, 1) := by decide +kernel
theorem dX8_rank_60 : decode cX8_rank 60 = .ok (.iload_n 2, 1) := by decide +kernel
theorem dX8_rank_61 : decode cX8_rank 61 = .ok (.iload 4, 2) := by decide +kernel
theorem dX8_rank_63 : decode cX8_rank 63 = .ok (.isub, 1) := by decide +kernel
theorem dX8_rank_64 : decode cX8_rank 64 = .ok (.istore_n 2, 1) := by decide +kernel
theorem dX8_rank_65 : decode cX8_rank 65 = .ok (.iinc 3 1, 3) := by decide +kernel
theorem dX8_rank_68 : decode cX8_rank 68 = .ok (.goto (-37), 3) := by decide +kernel
theorem dX8_rank_71 : decode cX8_rank 71 = .ok (.bipush (-9), 2) := by decide +kernel
theorem dX8_rank_73 : decode cX8_rank 73 = .ok (.ireturn, 1) := by decide +kernel
theorem dX8_best_0 : decode cX8_best 0 = .ok (.iload_n 1, 1) := by decide +kernel
theorem dX8_best_1 : decode cX8_best 1 = .ok (.ifCond .lt 8, 3) := by decide +kernel
theorem dX8_best_4 : decode cX8_best 4 = .ok (.iload_n 1, 1) := by decide +kernel
theorem dX8_best_5 : decode cX8_best 5 = .ok (.iconst 3, 1) := by decide +kernel
theorem dX8_best_6 : decode cX8_best 6 = .ok (.if_icmp .le 5, 3) := by decide +kernel
theorem dX8_best_9 : decode cX8_best 9 = .ok (.iconst (-1), 1) := by decide +kernel
theorem dX8_best_10 : decode cX8_best 10 = .ok (.ireturn, 1) := by decide +kernel
theorem dX8_best_11 : decode cX8_best 11 = .ok (.iload_n 1, 1) := by decide +kernel
theorem dX8_best_12 : decode cX8_best 12 = .ok (.iconst 2, 1) := by decide +kernel
theorem dX8_best_13 : decode cX8_best 13 = .ok (.if_icmp .ne 8, 3) := by decide +kernel
theorem dX8_best_16 : decode cX8_best 16 = .ok (.aload_n 0, 1) := by decide +kernel
theorem dX8_best_17 : decode cX8_best 17 = .ok (.invokevirtual 188, 3) := by decide +kernel
theorem dX8_best_20 : decode cX8_best 20 = .ok (.ireturn, 1) := by decide +kernel
theorem dX8_best_21 : decode cX8_best 21 = .ok (.aload_n 0, 1) := by decide +kernel
theorem dX8_best_22 : decode cX8_best 22 = .ok (.invokevirtual 142, 3) := by decide +kernel
theorem dX8_best_25 : decode cX8_best 25 = .ok (.aload_n 0, 1) := by decide +kernel
theorem dX8_best_26 : decode cX8_best 26 = .ok (.invokevirtual 191, 3) := by decide +kernel
theorem dX8_best_29 : decode cX8_best 29 = .ok (.istore_n 2, 1) := by decide +kernel
theorem dX8_best_30 : decode cX8_best 30 = .ok (.iload_n 1, 1) := by decide +kernel
theorem dX8_best_31 : decode cX8_best 31 = .ok (.ifCond .ne 5, 3) := by decide +kernel
theorem dX8_best_34 : decode cX8_best 34 = .ok (.iload_n 2, 1) := by decide +kernel
theorem dX8_best_35 : decode cX8_best 35 = .ok (.ireturn, 1) := by decide +kernel
theorem dX8_best_36 : decode cX8_best 36 = .ok (.iload_n 1, 1) := by decide +kernel
theorem dX8_best_37 : decode cX8_best 37 = .ok (.iconst 1, 1) := by decide +kernel
theorem dX8_best_38 : decode cX8_best 38 = .ok (.if_icmp .ne 12, 3) := by decide +kernel
theorem dX8_best_41 : decode cX8_best 41 = .ok (.aload_n 0, 1) := by decide +kernel
theorem dX8_best_42 : decode cX8_best 42 = .ok (.getfield 72, 3) := by decide +kernel
theorem dX8_best_45 : decode cX8_best 45 = .ok (.iload_n 2, 1) := by decide +kernel
theorem dX8_best_46 : decode cX8_best 46 = .ok (.invokevirtual 152, 3) := by decide +kernel
theorem dX8_best_49 : decode cX8_best 49 = .ok (.ireturn, 1) := by decide +kernel
theorem dX8_best_50 : decode cX8_best 50 = .ok (.aload_n 0, 1) := by decide +kernel
theorem dX8_best_51 : decode cX8_best 51 = .ok (.invokevirtual 188, 3) := by decide +kernel
theorem dX8_best_54 : decode cX8_best 54 = .ok (.iload_n 2, 1) := by decide +kernel
theorem dX8_best_55 : decode cX8_best 55 = .ok (.if_icmp .ne 7, 3) := by decide +kernel
theorem dX8_best_58 : decode cX8_best 58 = .ok (.iconst 1, 1) := by decide +kernel
theorem dX8_best_59 : decode cX8_best 59 = .ok (.goto 4, 3) := by decide +kernel
theorem dX8_best_62 : decode cX8_best 62 = .ok (.iconst 0, 1) := by decide +kernel
theorem dX8_best_63 : decode cX8_best 63 = .ok (.ireturn, 1) := by decide +kernel
theorem dX8_fitting_0 : decode cX8_fitting 0 = .ok (.aload_n 0, 1) := by decide +kernel
theorem dX8_fitting_1 : decode cX8_fitting 1 = .ok (.getfield 19, 3) := by decide +kernel
theorem dX8_fitting_4 : decode cX8_fitting 4 = .ok (.iload_n 1, 1) := by decide +kernel
theorem dX8_fitting_5 : decode cX8_fitting 5 = .ok (.iload_n 2, 1) := by decide +kernel
theorem dX8_fitting_6 : decode cX8_fitting 6 = .ok (.invokevirtual 116, 3) := by decide +kernel
theorem dX8_fitting_9 : decode cX8_fitting 9 = .ok (.ifCond .ne 5, 3) := by decide +kernel
theorem dX8_fitting_12 : decode cX8_fitting 12 = .ok (.iconst (-1), 1) := by decide +kernel
theorem dX8_fitting_13 : decode cX8_fitting 13 = .ok (.ireturn, 1) := by decide +kernel
theorem dX8_fitting_14 : decode cX8_fitting 14 = .ok (.aload_n 0, 1) := by decide +kernel
theorem dX8_fitting_15 : decode cX8_fitting 15 = .ok (.getfield 19, 3) := by decide +kernel
theorem dX8_fitting_18 : decode cX8_fitting 18 = .ok (.iload_n 1, 1) := by decide +kernel
theorem dX8_fitting_19 : decode cX8_fitting 19 = .ok (.iload_n 2, 1) := by decide +kernel
theorem dX8_fitting_20 : decode cX8_fitting 20 = .ok (.invokevirtual 120, 3) := by decide +kernel
theorem dX8_fitting_23 : decode cX8_fitting 23 = .ok (.iconst 4, 1) := by decide +kernel
theorem dX8_fitting_24 : decode cX8_fitting 24 = .ok (.if_icmp .eq 6, 3) := by decide +kernel
theorem dX8_fitting_27 : decode cX8_fitting 27 = .ok (.bipush (-9), 2) := by decide +kernel
theorem dX8_fitting_29 : decode cX8_fitting 29 = .ok (.ireturn, 1) := by decide +kernel
theorem dX8_fitting_30 : decode cX8_fitting 30 = .ok (.aload_n 0, 1) := by decide +kernel
theorem dX8_fitting_31 : decode cX8_fitting 31 = .ok (.iload_n 2, 1) := by decide +kernel
theorem dX8_fitting_32 : decode cX8_fitting 32 = .ok (.invokevirtual 164, 3) := by decide +kernel
theorem dX8_fitting_35 : decode cX8_fitting 35 = .ok (.aload_n 0, 1) := by decide +kernel
theorem dX8_fitting_36 : decode cX8_fitting 36 = .ok (.aload_n 0, 1) := by decide +kernel
theorem dX8_fitting_37 : decode cX8_fitting 37 = .ok (.getfield 97, 3) := by decide +kernel
theorem dX8_fitting_40 : decode cX8_fitting 40 = .ok (.invokevirtual 167, 3) := by decide +kernel
theorem dX8_fitting_43 : decode cX8_fitting 43 = .ok (.istore_n 3, 1) := by decide +kernel
theorem dX8_fitting_44 : decode cX8_fitting 44 = .ok (.iconst 0, 1) := by decide +kernel
theorem dX8_fitting_45 : decode cX8_fitting 45 = .ok (.istore 4, 2) := by decide +kernel
theorem dX8_fitting_47 : decode cX8_fitting 47 = .ok (.iconst 0, 1) := by decide +kernel
theorem dX8_fitting_48 : decode cX8_fitting 48 = .ok (.istore 5, 2) := by decide +kernel
theorem dX8_fitting_50 : decode cX8_fitting 50 = .ok (.iload 5, 2) := by decide +kernel
theorem dX8_fitting_52 : decode cX8_fitting 52 = .ok (.iconst 4, 1) := by decide +kernel
theorem dX8_fitting_53 : decode cX8_fitting 53 = .ok (.if_icmp .ge 30, 3) := by decide +kernel
theorem dX8_fitting_56 : decode cX8_fitting 56 = .ok (.aload_n 0, 1) := by decide +kernel
theorem dX8_fitting_57 : decode cX8_fitting 57 = .ok (.iload_n 1, 1) := by decide +kernel
theorem dX8_fitting_58 : decode cX8_fitting 58 = .ok (.iload_n 2, 1) := by decide +kernel
theorem dX8_fitting_59 : decode cX8_fitting 59 = .ok (.iload 5, 2) := by decide +kernel
theorem dX8_fitting_61 : decode cX8_fitting 61 = .ok (.invokevirtual 194, 3) := by decide +kernel
theorem dX8_fitting_64 : decode cX8_fitting 64 = .ok (.iload_n 3, 1) := by decide +kernel
theorem dX8_fitting_65 : decode cX8_fitting 65 = .ok (.if_icmp .gt 12, 3) := by decide +kernel
theorem dX8_fitting_68 : decode cX8_fitting 68 = .ok (.iload 4, 2) := by decide +kernel
theorem dX8_fitting_70 : decode cX8_fitting 70 = .ok (.iconst 1, 1) := by decide +kernel
theorem dX8_fitting_71 : decode cX8_fitting 71 = .ok (.iload 5, 2) := by decide +kernel
theorem dX8_fitting_73 : decode cX8_fitting 73 = .ok (.ishl, 1) := by decide +kernel
theorem dX8_fitting_74 : decode cX8_fitting 74 = .ok (.ior, 1) := by decide +kernel
theorem dX8_fitting_75 : decode cX8_fitting 75 = .ok (.istore 4, 2) := by decide +kernel
theorem dX8_fitting_77 : decode cX8_fitting 77 = .ok (.iinc 5 1, 3) := by decide +kernel
theorem dX8_fitting_80 : decode cX8_fitting 80 = .ok (.goto (-30), 3) := by decide +kernel
theorem dX8_fitting_83 : decode cX8_fitting 83 = .ok (.iload 4, 2) := by decide +kernel
theorem dX8_fitting_85 : decode cX8_fitting 85 = .ok (.ireturn, 1) := by decide +kernel
theorem dX8_quarrel_0 : decode cX8_quarrel 0 = .ok (.aload_n 0, 1) := by decide +kernel
theorem dX8_quarrel_1 : decode cX8_quarrel 1 = .ok (.getfield 19, 3) := by decide +kernel
theorem dX8_quarrel_4 : decode cX8_quarrel 4 = .ok (.iload_n 1, 1) := by decide +kernel
theorem dX8_quarrel_5 : decode cX8_quarrel 5 = .ok (.invokevirtual 161, 3) := by decide +kernel
theorem dX8_quarrel_8 : decode cX8_quarrel 8 = .ok (.ifCond .eq 19, 3) := by decide +kernel
theorem dX8_quarrel_11 : decode cX8_quarrel 11 = .ok (.aload_n 0, 1) := by decide +kernel
theorem dX8_quarrel_12 : decode cX8_quarrel 12 = .ok (.getfield 19, 3) := by decide +kernel
theorem dX8_quarrel_15 : decode cX8_quarrel 15 = .ok (.iload_n 2, 1) := by decide +kernel
theorem dX8_quarrel_16 : decode cX8_quarrel 16 = .ok (.invokevirtual 161, 3) := by decide +kernel
theorem dX8_quarrel_19 : decode cX8_quarrel 19 = .ok (.ifCond .eq 8, 3) := by decide +kernel
theorem dX8_quarrel_22 : decode cX8_quarrel 22 = .ok (.iload_n 1, 1) := by decide +kernel
theorem dX8_quarrel_23 : decode cX8_quarrel 23 = .ok (.iload_n 2, 1) := by decide +kernel
theorem dX8_quarrel_24 : decode cX8_quarrel 24 = .ok (.if_icmp .ne 5, 3) := by decide +kernel
theorem dX8_quarrel_27 : decode cX8_quarrel 27 = .ok (.iconst (-1), 1) := by decide +kernel
theorem dX8_quarrel_28 : decode cX8_quarrel 28 = .ok (.ireturn, 1) := by decide +kernel
theorem dX8_quarrel_29 : decode cX8_quarrel 29 = .ok (.aload_n 0, 1) := by decide +kernel
theorem dX8_quarrel_30 : decode cX8_quarrel 30 = .ok (.iload_n 1, 1) := by decide +kernel
theorem dX8_quarrel_31 : decode cX8_quarrel 31 = .ok (.iload_n 2, 1) := by decide +kernel
theorem dX8_quarrel_32 : decode cX8_quarrel 32 = .ok (.invokevirtual 198, 3) := by decide +kernel
theorem dX8_quarrel_35 : decode cX8_quarrel 35 = .ok (.ifCond .eq 7, 3) := by decide +kernel
theorem dX8_quarrel_38 : decode cX8_quarrel 38 = .ok (.iconst 1, 1) := by decide +kernel
theorem dX8_quarrel_39 : decode cX8_quarrel 39 = .ok (.goto 4, 3) := by decide +kernel
theorem dX8_quarrel_42 : decode cX8_quarrel 42 = .ok (.iconst 0, 1) := by decide +kernel
theorem dX8_quarrel_43 : decode cX8_quarrel 43 = .ok (.ireturn, 1) := by decide +kernel
theorem dX8_shared_0 : decode cX8_shared 0 = .ok (.aload_n 0, 1) := by decide +kernel
theorem dX8_shared_1 : decode cX8_shared 1 = .ok (.getfield 19, 3) := by decide +kernel
theorem dX8_shared_4 : decode cX8_shared 4 = .ok (.iload_n 2, 1) := by decide +kernel
theorem dX8_shared_5 : decode cX8_shared 5 = .ok (.iload_n 1, 1) := by decide +kernel
theorem dX8_shared_6 : decode cX8_shared 6 = .ok (.invokevirtual 116, 3) := by decide +kernel
theorem dX8_shared_9 : decode cX8_shared 9 = .ok (.ifCond .ne 5, 3) := by decide +kernel
theorem dX8_shared_12 : decode cX8_shared 12 = .ok (.iconst (-1), 1) := by decide +kernel
theorem dX8_shared_13 : decode cX8_shared 13 = .ok (.ireturn, 1) := by decide +kernel
theorem dX8_shared_14 : decode cX8_shared 14 = .ok (.aload_n 0, 1) := by decide +kernel
theorem dX8_shared_15 : decode cX8_shared 15 = .ok (.getfield 19, 3) := by decide +kernel
theorem dX8_shared_18 : decode cX8_shared 18 = .ok (.iload_n 2, 1) := by decide +kernel
theorem dX8_shared_19 : decode cX8_shared 19 = .ok (.iload_n 1, 1) := by decide +kernel
theorem dX8_shared_20 : decode cX8_shared 20 = .ok (.invokevirtual 120, 3) := by decide +kernel
theorem dX8_shared_23 : decode cX8_shared 23 = .ok (.istore_n 3, 1) := by decide +kernel
theorem dX8_shared_24 : decode cX8_shared 24 = .ok (.iload_n 3, 1) := by decide +kernel
theorem dX8_shared_25 : decode cX8_shared 25 = .ok (.iconst 4, 1) := by decide +kernel
theorem dX8_shared_26 : decode cX8_shared 26 = .ok (.if_icmp .ne 5, 3) := by decide +kernel
theorem dX8_shared_29 : decode cX8_shared 29 = .ok (.iconst 0, 1) := by decide +kernel
theorem dX8_shared_30 : decode cX8_shared 30 = .ok (.ireturn, 1) := by decide +kernel
theorem dX8_shared_31 : decode cX8_shared 31 = .ok (.iconst 0, 1) := by decide +kernel
theorem dX8_shared_32 : decode cX8_shared 32 = .ok (.istore 4, 2) := by decide +kernel
theorem dX8_shared_34 : decode cX8_shared 34 = .ok (.iconst 0, 1) := by decide +kernel
theorem dX8_shared_35 : decode cX8_shared 35 = .ok (.istore 5, 2) := by decide +kernel
theorem dX8_shared_37 : decode cX8_shared 37 = .ok (.iload 5, 2) := by decide +kernel
theorem dX8_shared_39 : decode cX8_shared 39 = .ok (.aload_n 0, 1) := by decide +kernel
theorem dX8_shared_40 : decode cX8_shared 40 = .ok (.getfield 19, 3) := by decide +kernel
theorem dX8_shared_43 : decode cX8_shared 43 = .ok (.getfield 113, 3) := by decide +kernel
theorem dX8_shared_46 : decode cX8_shared 46 = .ok (.if_icmp .ge 32, 3) := by decide +kernel
theorem dX8_shared_49 : decode cX8_shared 49 = .ok (.aload_n 0, 1) := by decide +kernel
theorem dX8_shared_50 : decode cX8_shared 50 = .ok (.getfield 19, 3) := by decide +kernel
theorem dX8_shared_53 : decode cX8_shared 53 = .ok (.iload 5, 2) := by decide +kernel
theorem dX8_shared_55 : decode cX8_shared 55 = .ok (.iload_n 1, 1) := by decide +kernel
theorem dX8_shared_56 : decode cX8_shared 56 = .ok (.invokevirtual 120, 3) := by decide +kernel
theorem dX8_shared_59 : decode cX8_shared 59 = .ok (.iload_n 3, 1) := by decide +kernel
theorem dX8_shared_60 : decode cX8_shared 60 = .ok (.if_icmp .ne 12, 3) := by decide +kernel
theorem dX8_shared_63 : decode cX8_shared 63 = .ok (.iload 4, 2) := by decide +kernel
theorem dX8_shared_65 : decode cX8_shared 65 = .ok (.iconst 1, 1) := by decide +kernel
theorem dX8_shared_66 : decode cX8_shared 66 = .ok (.iload 5, 2) := by decide +kernel
theorem dX8_shared_68 : decode cX8_shared 68 = .ok (.ishl, 1) := by decide +kernel
theorem dX8_shared_69 : decode cX8_shared 69 = .ok (.ior, 1) := by decide +kernel
theorem dX8_shared_70 : decode cX8_shared 70 = .ok (.istore 4, 2) := by decide +kernel
theorem dX8_shared_72 : decode cX8_shared 72 = .ok (.iinc 5 1, 3) := by decide +kernel
theorem dX8_shared_75 : decode cX8_shared 75 = .ok (.goto (-38), 3) := by decide +kernel
theorem dX8_shared_78 : decode cX8_shared 78 = .ok (.iload 4, 2) := by decide +kernel
theorem dX8_shared_80 : decode cX8_shared 80 = .ok (.ireturn, 1) := by decide +kernel
theorem dX8_mixed_0 : decode cX8_mixed 0 = .ok (.aload_n 0, 1) := by decide +kernel
theorem dX8_mixed_1 : decode cX8_mixed 1 = .ok (.getfield 19, 3) := by decide +kernel
theorem dX8_mixed_4 : decode cX8_mixed 4 = .ok (.iload_n 1, 1) := by decide +kernel
theorem dX8_mixed_5 : decode cX8_mixed 5 = .ok (.invokevirtual 201, 3) := by decide +kernel
theorem dX8_mixed_8 : decode cX8_mixed 8 = .ok (.ifCond .eq 12, 3) := by decide +kernel
theorem dX8_mixed_11 : decode cX8_mixed 11 = .ok (.iload_n 2, 1) := by decide +kernel
theorem dX8_mixed_12 : decode cX8_mixed 12 = .ok (.ifCond .lt 8, 3) := by decide +kernel
theorem dX8_mixed_15 : decode cX8_mixed 15 = .ok (.iload_n 2, 1) := by decide +kernel
theorem dX8_mixed_16 : decode cX8_mixed 16 = .ok (.iconst 4, 1) := by decide +kernel
theorem dX8_mixed_17 : decode cX8_mixed 17 = .ok (.if_icmp .le 5, 3) := by decide +kernel
theorem dX8_mixed_20 : decode cX8_mixed 20 = .ok (.iconst (-1), 1) := by decide +kernel
theorem dX8_mixed_21 : decode cX8_mixed 21 = .ok (.ireturn, 1) := by decide +kernel
theorem dX8_mixed_22 : decode cX8_mixed 22 = .ok (.aload_n 0, 1) := by decide +kernel
theorem dX8_mixed_23 : decode cX8_mixed 23 = .ok (.getfield 19, 3) := by decide +kernel
theorem dX8_mixed_26 : decode cX8_mixed 26 = .ok (.getfield 113, 3) := by decide +kernel
theorem dX8_mixed_29 : decode cX8_mixed 29 = .ok (.iconst 2, 1) := by decide +kernel
theorem dX8_mixed_30 : decode cX8_mixed 30 = .ok (.if_icmp .ge 6, 3) := by decide +kernel
theorem dX8_mixed_33 : decode cX8_mixed 33 = .ok (.bipush (-9), 2) := by decide +kernel
theorem dX8_mixed_35 : decode cX8_mixed 35 = .ok (.ireturn, 1) := by decide +kernel
theorem dX8_mixed_36 : decode cX8_mixed 36 = .ok (.aload_n 0, 1) := by decide +kernel
theorem dX8_mixed_37 : decode cX8_mixed 37 = .ok (.getfield 78, 3) := by decide +kernel
theorem dX8_mixed_40 : decode cX8_mixed 40 = .ok (.aload_n 0, 1) := by decide +kernel
theorem dX8_mixed_41 : decode cX8_mixed 41 = .ok (.getfield 19, 3) := by decide +kernel
theorem dX8_mixed_44 : decode cX8_mixed 44 = .ok (.iload_n 1, 1) := by decide +kernel
theorem dX8_mixed_45 : decode cX8_mixed 45 = .ok (.invokevirtual 204, 3) := by decide +kernel
theorem dX8_mixed_48 : decode cX8_mixed 48 = .ok (.iload_n 2, 1) := by decide +kernel
theorem dX8_mixed_49 : decode cX8_mixed 49 = .ok (.iconst 4, 1) := by decide +kernel
theorem dX8_mixed_50 : decode cX8_mixed 50 = .ok (.if_icmp .ne 16, 3) := by decide +kernel
theorem dX8_mixed_53 : decode cX8_mixed 53 = .ok (.aload_n 0, 1) := by decide +kernel
theorem dX8_mixed_54 : decode cX8_mixed 54 = .ok (.getfield 78, 3) := by decide +kernel
theorem dX8_mixed_57 : decode cX8_mixed 57 = .ok (.aload_n 0, 1) := by decide +kernel
theorem dX8_mixed_58 : decode cX8_mixed 58 = .ok (.getfield 19, 3) := by decide +kernel
theorem dX8_mixed_61 : decode cX8_mixed 61 = .ok (.iload_n 1, 1) := by decide +kernel
theorem dX8_mixed_62 : decode cX8_mixed 62 = .ok (.invokevirtual 208, 3) := by decide +kernel
theorem dX8_mixed_65 : decode cX8_mixed 65 = .ok (.ireturn, 1) := by decide +kernel
theorem dX8_mixed_66 : decode cX8_mixed 66 = .ok (.aload_n 0, 1) := by decide +kernel
theorem dX8_mixed_67 : decode cX8_mixed 67 = .ok (.getfield 19, 3) := by decide +kernel
theorem dX8_mixed_70 : decode cX8_mixed 70 = .ok (.getfield 113, 3) := by decide +kernel
theorem dX8_mixed_73 : decode cX8_mixed 73 = .ok (.iconst 3, 1) := by decide +kernel
theorem dX8_mixed_74 : decode cX8_mixed 74 = .ok (.if_icmp .lt 14, 3) := by decide +kernel
theorem dX8_mixed_77 : decode cX8_mixed 77 = .ok (.aload_n 0, 1) := by decide +kernel
theorem dX8_mixed_78 : decode cX8_mixed 78 = .ok (.getfield 19, 3) := by decide +kernel
theorem dX8_mixed_81 : decode cX8_mixed 81 = .ok (.getfield 212, 3) := by decide +kernel
theorem dX8_mixed_84 : decode cX8_mixed 84 = .ok (.iconst 2, 1) := by decide +kernel
theorem dX8_mixed_85 : decode cX8_mixed 85 = .ok (.if_icmp .ge 6, 3) := by decide +kernel
theorem dX8_mixed_88 : decode cX8_mixed 88 = .ok (.bipush (-9), 2) := by decide +kernel
theorem dX8_mixed_90 : decode cX8_mixed 90 = .ok (.ireturn, 1) := by decide +kernel
theorem dX8_mixed_91 : decode cX8_mixed 91 = .ok (.aload_n 0, 1) := by decide +kernel
theorem dX8_mixed_92 : decode cX8_mixed 92 = .ok (.getfield 78, 3) := by decide +kernel
theorem dX8_mixed_95 : decode cX8_mixed 95 = .ok (.aload_n 0, 1) := by decide +kernel
theorem dX8_mixed_96 : decode cX8_mixed 96 = .ok (.getfield 19, 3) := by decide +kernel
theorem dX8_mixed_99 : decode cX8_mixed 99 = .ok (.iload_n 1, 1) := by decide +kernel
theorem dX8_mixed_100 : decode cX8_mixed 100 = .ok (.invokevirtual 215, 3) := by decide +kernel
theorem dX8_mixed_103 : decode cX8_mixed 103 = .ok (.iload_n 2, 1) := by decide +kernel
theorem dX8_mixed_104 : decode cX8_mixed 104 = .ok (.tableswitch 52 0 2 #[28, 36, 44], 28) := by decide +kernel
theorem dX8_mixed_132 : decode cX8_mixed 132 = .ok (.aload_n 0, 1) := by decide +kernel
theorem dX8_mixed_133 : decode cX8_mixed 133 = .ok (.getfield 78, 3) := by decide +kernel
theorem dX8_mixed_136 : decode cX8_mixed 136 = .ok (.getfield 218, 3) := by decide +kernel
theorem dX8_mixed_139 : decode cX8_mixed 139 = .ok (.ireturn, 1) := by decide +kernel
theorem dX8_mixed_140 : decode cX8_mixed 140 = .ok (.aload_n 0, 1) := by decide +kernel
theorem dX8_mixed_141 : decode cX8_mixed 141 = .ok (.getfield 78, 3) := by decide +kernel
theorem dX8_mixed_144 : decode cX8_mixed 144 = .ok (.getfield 221, 3) := by decide +kernel
theorem dX8_mixed_147 : decode cX8_mixed 147 = .ok (.ireturn, 1) := by decide +kernel
theorem dX8_mixed_148 : decode cX8_mixed 148 = .ok (.aload_n 0, 1) := by decide +kernel
theorem dX8_mixed_149 : decode cX8_mixed 149 = .ok (.getfield 78, 3) := by decide +kernel
theorem dX8_mixed_152 : decode cX8_mixed 152 = .ok (.getfield 224, 3) := by decide +kernel
theorem dX8_mixed_155 : decode cX8_mixed 155 = .ok (.ireturn, 1) := by decide +kernel
theorem dX8_mixed_156 : decode cX8_mixed 156 = .ok (.aload_n 0, 1) := by decide +kernel
theorem dX8_mixed_157 : decode cX8_mixed 157 = .ok (.getfield 78, 3) := by decide +kernel
theorem dX8_mixed_160 : decode cX8_mixed 160 = .ok (.getfield 227, 3) := by decide +kernel
theorem dX8_mixed_163 : decode cX8_mixed 163 = .ok (.ireturn, 1) := by decide +kernel
theorem dX8_sees_0 : decode cX8_sees 0 = .ok (.iload_n 1, 1) := by decide +kernel
theorem dX8_sees_1 : decode cX8_sees 1 = .ok (.ifCond .lt 9, 3) := by decide +kernel
theorem dX8_sees_4 : decode cX8_sees 4 = .ok (.iload_n 1, 1) := by decide +kernel
theorem dX8_sees_5 : decode cX8_sees 5 = .ok (.bipush 6, 2) := by decide +kernel
theorem dX8_sees_7 : decode cX8_sees 7 = .ok (.if_icmp .le 5, 3) := by decide +kernel
theorem dX8_sees_10 : decode cX8_sees 10 = .ok (.iconst (-1), 1) := by decide +kernel
theorem dX8_sees_11 : decode cX8_sees 11 = .ok (.ireturn, 1) := by decide +kernel
theorem dX8_sees_12 : decode cX8_sees 12 = .ok (.aload_n 0, 1) := by decide +kernel
theorem dX8_sees_13 : decode cX8_sees 13 = .ok (.getfield 103, 3) := by decide +kernel
theorem dX8_sees_16 : decode cX8_sees 16 = .ok (.bipush 6, 2) := by decide +kernel
theorem dX8_sees_18 : decode cX8_sees 18 = .ok (.if_icmp .lt 6, 3) := by decide +kernel
theorem dX8_sees_21 : decode cX8_sees 21 = .ok (.bipush (-3), 2) := by decide +kernel
theorem dX8_sees_23 : decode cX8_sees 23 = .ok (.ireturn, 1) := by decide +kernel
theorem dX8_sees_24 : decode cX8_sees 24 = .ok (.aload_n 0, 1) := by decide +kernel
theorem dX8_sees_25 : decode cX8_sees 25 = .ok (.getfield 48, 3) := by decide +kernel
theorem dX8_sees_28 : decode cX8_sees 28 = .ok (.aload_n 0, 1) := by decide +kernel
theorem dX8_sees_29 : decode cX8_sees 29 = .ok (.getfield 103, 3) := by decide +kernel
theorem dX8_sees_32 : decode cX8_sees 32 = .ok (.iload_n 1, 1) := by decide +kernel
theorem dX8_sees_33 : decode cX8_sees 33 = .ok (.invokevirtual 159, 3) := by decide +kernel
theorem dX8_sees_36 : decode cX8_sees 36 = .ok (.aload_n 0, 1) := by decide +kernel
theorem dX8_sees_37 : decode cX8_sees 37 = .ok (.dup, 1) := by decide +kernel
theorem dX8_sees_38 : decode cX8_sees 38 = .ok (.getfield 103, 3) := by decide +kernel
theorem dX8_sees_41 : decode cX8_sees 41 = .ok (.iconst 1, 1) := by decide +kernel
theorem dX8_sees_42 : decode cX8_sees 42 = .ok (.iadd, 1) := by decide +kernel
theorem dX8_sees_43 : decode cX8_sees 43 = .ok (.putfield 103, 3) := by decide +kernel
theorem dX8_sees_46 : decode cX8_sees 46 = .ok (.aload_n 0, 1) := by decide +kernel
theorem dX8_sees_47 : decode cX8_sees 47 = .ok (.getfield 103, 3) := by decide +kernel
theorem dX8_sees_50 : decode cX8_sees 50 = .ok (.ireturn, 1) := by decide +kernel
theorem dX8_forget_0 : decode cX8_forget 0 = .ok (.aload_n 0, 1) := by decide +kernel
theorem dX8_forget_1 : decode cX8_forget 1 = .ok (.getfield 103, 3) := by decide +kernel
theorem dX8_forget_4 : decode cX8_forget 4 = .ok (.istore_n 1, 1) := by decide +kernel
theorem dX8_forget_5 : decode cX8_forget 5 = .ok (.aload_n 0, 1) := by decide +kernel
theorem dX8_forget_6 : decode cX8_forget 6 = .ok (.iconst 0, 1) := by decide +kernel
theorem dX8_forget_7 : decode cX8_forget 7 = .ok (.putfield 103, 3) := by decide +kernel
theorem dX8_forget_10 : decode cX8_forget 10 = .ok (.iload_n 1, 1) := by decide +kernel
theorem dX8_forget_11 : decode cX8_forget 11 = .ok (.ireturn, 1) := by decide +kernel
theorem dX8_unseen_0 : decode cX8_unseen 0 = .ok (.aload_n 0, 1) := by decide +kernel
theorem dX8_unseen_1 : decode cX8_unseen 1 = .ok (.iconst 0, 1) := by decide +kernel
theorem dX8_unseen_2 : decode cX8_unseen 2 = .ok (.invokevirtual 164, 3) := by decide +kernel
theorem dX8_unseen_5 : decode cX8_unseen 5 = .ok (.aload_n 0, 1) := by decide +kernel
theorem dX8_unseen_6 : decode cX8_unseen 6 = .ok (.getfield 55, 3) := by decide +kernel
theorem dX8_unseen_9 : decode cX8_unseen 9 = .ok (.aload_n 0, 1) := by decide +kernel
theorem dX8_unseen_10 : decode cX8_unseen 10 = .ok (.getfield 97, 3) := by decide +kernel
theorem dX8_unseen_13 : decode cX8_unseen 13 = .ok (.aload_n 0, 1) := by decide +kernel
theorem dX8_unseen_14 : decode cX8_unseen 14 = .ok (.getfield 19, 3) := by decide +kernel
theorem dX8_unseen_17 : decode cX8_unseen 17 = .ok (.getfield 113, 3) := by decide +kernel
theorem dX8_unseen_20 : decode cX8_unseen 20 = .ok (.invokevirtual 173, 3) := by decide +kernel
theorem dX8_unseen_23 : decode cX8_unseen 23 = .ok (.aload_n 0, 1) := by decide +kernel
theorem dX8_unseen_24 : decode cX8_unseen 24 = .ok (.getfield 62, 3) := by decide +kernel
theorem dX8_unseen_27 : decode cX8_unseen 27 = .ok (.aload_n 0, 1) := by decide +kernel
theorem dX8_unseen_28 : decode cX8_unseen 28 = .ok (.getfield 55, 3) := by decide +kernel
theorem dX8_unseen_31 : decode cX8_unseen 31 = .ok (.iconst 0, 1) := by decide +kernel
theorem dX8_unseen_32 : decode cX8_unseen 32 = .ok (.invokevirtual 230, 3) := by decide +kernel
theorem dX8_unseen_35 : decode cX8_unseen 35 = .ok (.iconst 0, 1) := by decide +kernel
theorem dX8_unseen_36 : decode cX8_unseen 36 = .ok (.istore_n 1, 1) := by decide +kernel
theorem dX8_unseen_37 : decode cX8_unseen 37 = .ok (.iconst 0, 1) := by decide +kernel
theorem dX8_unseen_38 : decode cX8_unseen 38 = .ok (.istore_n 2, 1) := by decide +kernel
theorem dX8_unseen_39 : decode cX8_unseen 39 = .ok (.iload_n 2, 1) := by decide +kernel
theorem dX8_unseen_40 : decode cX8_unseen 40 = .ok (.aload_n 0, 1) := by decide +kernel
theorem dX8_unseen_41 : decode cX8_unseen 41 = .ok (.getfield 19, 3) := by decide +kernel
theorem dX8_unseen_44 : decode cX8_unseen 44 = .ok (.getfield 113, 3) := by decide +kernel
theorem dX8_unseen_47 : decode cX8_unseen 47 = .ok (.if_icmp .ge 23, 3) := by decide +kernel
theorem dX8_unseen_50 : decode cX8_unseen 50 = .ok (.aload_n 0, 1) := by decide +kernel
theorem dX8_unseen_51 : decode cX8_unseen 51 = .ok (.iload_n 2, 1) := by decide +kernel
theorem dX8_unseen_52 : decode cX8_unseen 52 = .ok (.invokevirtual 234, 3) := by decide +kernel
theorem dX8_unseen_55 : decode cX8_unseen 55 = .ok (.ifCond .eq 9, 3) := by decide +kernel
theorem dX8_unseen_58 : decode cX8_unseen 58 = .ok (.iload_n 1, 1) := by decide +kernel
theorem dX8_unseen_59 : decode cX8_unseen 59 = .ok (.iconst 1, 1) := by decide +kernel
theorem dX8_unseen_60 : decode cX8_unseen 60 = .ok (.iload_n 2, 1) := by decide +kernel
theorem dX8_unseen_61 : decode cX8_unseen 61 = .ok (.ishl, 1) := by decide +kernel
theorem dX8_unseen_62 : decode cX8_unseen 62 = .ok (.ior, 1) := by decide +kernel
theorem dX8_unseen_63 : decode cX8_unseen 63 = .ok (.istore_n 1, 1) := by decide +kernel
theorem dX8_unseen_64 : decode cX8_unseen 64 = .ok (.iinc 2 1, 3) := by decide +kernel
theorem dX8_unseen_67 : decode cX8_unseen 67 = .ok (.goto (-28), 3) := by decide +kernel
theorem dX8_unseen_70 : decode cX8_unseen 70 = .ok (.iload_n 1, 1) := by decide +kernel
theorem dX8_unseen_71 : decode cX8_unseen 71 = .ok (.ireturn, 1) := by decide +kernel
theorem dX8_keep_0 : decode cX8_keep 0 = .ok (.iload_n 1, 1) := by decide +kernel
theorem dX8_keep_1 : decode cX8_keep 1 = .ok (.ifCond .lt 8, 3) := by decide +kernel
theorem dX8_keep_4 : decode cX8_keep 4 = .ok (.iload_n 1, 1) := by decide +kernel
theorem dX8_keep_5 : decode cX8_keep 5 = .ok (.iconst 1, 1) := by decide +kernel
theorem dX8_keep_6 : decode cX8_keep 6 = .ok (.if_icmp .le 5, 3) := by decide +kernel
theorem dX8_keep_9 : decode cX8_keep 9 = .ok (.iconst (-1), 1) := by decide +kernel
theorem dX8_keep_10 : decode cX8_keep 10 = .ok (.ireturn, 1) := by decide +kernel
theorem dX8_keep_11 : decode cX8_keep 11 = .ok (.aload_n 0, 1) := by decide +kernel
theorem dX8_keep_12 : decode cX8_keep 12 = .ok (.iload_n 1, 1) := by decide +kernel
theorem dX8_keep_13 : decode cX8_keep 13 = .ok (.invokevirtual 237, 3) := by decide +kernel
theorem dX8_keep_16 : decode cX8_keep 16 = .ok (.astore_n 2, 1) := by decide +kernel
theorem dX8_keep_17 : decode cX8_keep 17 = .ok (.aload_n 2, 1) := by decide +kernel
theorem dX8_keep_18 : decode cX8_keep 18 = .ok (.getfield 241, 3) := by decide +kernel
theorem dX8_keep_21 : decode cX8_keep 21 = .ok (.aload_n 0, 1) := by decide +kernel
theorem dX8_keep_22 : decode cX8_keep 22 = .ok (.getfield 19, 3) := by decide +kernel
theorem dX8_keep_25 : decode cX8_keep 25 = .ok (.invokevirtual 93, 3) := by decide +kernel
theorem dX8_keep_28 : decode cX8_keep 28 = .ok (.aload_n 2, 1) := by decide +kernel
theorem dX8_keep_29 : decode cX8_keep 29 = .ok (.aload_n 0, 1) := by decide +kernel
theorem dX8_keep_30 : decode cX8_keep 30 = .ok (.getfield 97, 3) := by decide +kernel
theorem dX8_keep_33 : decode cX8_keep 33 = .ok (.putfield 244, 3) := by decide +kernel
theorem dX8_keep_36 : decode cX8_keep 36 = .ok (.aload_n 2, 1) := by decide +kernel
theorem dX8_keep_37 : decode cX8_keep 37 = .ok (.iconst 1, 1) := by decide +kernel
theorem dX8_keep_38 : decode cX8_keep 38 = .ok (.putfield 106, 3) := by decide +kernel
theorem dX8_keep_41 : decode cX8_keep 41 = .ok (.aload_n 0, 1) := by decide +kernel
theorem dX8_keep_42 : decode cX8_keep 42 = .ok (.getfield 19, 3) := by decide +kernel
theorem dX8_keep_45 : decode cX8_keep 45 = .ok (.getfield 113, 3) := by decide +kernel
theorem dX8_keep_48 : decode cX8_keep 48 = .ok (.ireturn, 1) := by decide +kernel
theorem dX8_back_0 : decode cX8_back 0 = .ok (.iload_n 1, 1) := by decide +kernel
theorem dX8_back_1 : decode cX8_back 1 = .ok (.ifCond .lt 8, 3) := by decide +kernel
theorem dX8_back_4 : decode cX8_back 4 = .ok (.iload_n 1, 1) := by decide +kernel
theorem dX8_back_5 : decode cX8_back 5 = .ok (.iconst 1, 1) := by decide +kernel
theorem dX8_back_6 : decode cX8_back 6 = .ok (.if_icmp .le 5, 3) := by decide +kernel
theorem dX8_back_9 : decode cX8_back 9 = .ok (.iconst (-1), 1) := by decide +kernel
theorem dX8_back_10 : decode cX8_back 10 = .ok (.ireturn, 1) := by decide +kernel
theorem dX8_back_11 : decode cX8_back 11 = .ok (.aload_n 0, 1) := by decide +kernel
theorem dX8_back_12 : decode cX8_back 12 = .ok (.iload_n 1, 1) := by decide +kernel
theorem dX8_back_13 : decode cX8_back 13 = .ok (.invokevirtual 237, 3) := by decide +kernel
theorem dX8_back_16 : decode cX8_back 16 = .ok (.astore_n 2, 1) := by decide +kernel
theorem dX8_back_17 : decode cX8_back 17 = .ok (.aload_n 2, 1) := by decide +kernel
theorem dX8_back_18 : decode cX8_back 18 = .ok (.getfield 106, 3) := by decide +kernel
theorem dX8_back_21 : decode cX8_back 21 = .ok (.ifCond .ne 6, 3) := by decide +kernel
theorem dX8_back_24 : decode cX8_back 24 = .ok (.bipush (-2), 2) := by decide +kernel
theorem dX8_back_26 : decode cX8_back 26 = .ok (.ireturn, 1) := by decide +kernel
theorem dX8_back_27 : decode cX8_back 27 = .ok (.aload_n 0, 1) := by decide +kernel
theorem dX8_back_28 : decode cX8_back 28 = .ok (.getfield 19, 3) := by decide +kernel
theorem dX8_back_31 : decode cX8_back 31 = .ok (.aload_n 2, 1) := by decide +kernel
theorem dX8_back_32 : decode cX8_back 32 = .ok (.getfield 241, 3) := by decide +kernel
theorem dX8_back_35 : decode cX8_back 35 = .ok (.invokevirtual 93, 3) := by decide +kernel
theorem dX8_back_38 : decode cX8_back 38 = .ok (.aload_n 0, 1) := by decide +kernel
theorem dX8_back_39 : decode cX8_back 39 = .ok (.aload_n 2, 1) := by decide +kernel
theorem dX8_back_40 : decode cX8_back 40 = .ok (.getfield 244, 3) := by decide +kernel
theorem dX8_back_43 : decode cX8_back 43 = .ok (.putfield 97, 3) := by decide +kernel
theorem dX8_back_46 : decode cX8_back 46 = .ok (.aload_n 0, 1) := by decide +kernel
theorem dX8_back_47 : decode cX8_back 47 = .ok (.getfield 29, 3) := by decide +kernel
theorem dX8_back_50 : decode cX8_back 50 = .ok (.iconst 0, 1) := by decide +kernel
theorem dX8_back_51 : decode cX8_back 51 = .ok (.putfield 100, 3) := by decide +kernel
theorem dX8_back_54 : decode cX8_back 54 = .ok (.aload_n 0, 1) := by decide +kernel
theorem dX8_back_55 : decode cX8_back 55 = .ok (.iconst 0, 1) := by decide +kernel
theorem dX8_back_56 : decode cX8_back 56 = .ok (.putfield 110, 3) := by decide +kernel
theorem dX8_back_59 : decode cX8_back 59 = .ok (.aload_n 0, 1) := by decide +kernel
theorem dX8_back_60 : decode cX8_back 60 = .ok (.getfield 19, 3) := by decide +kernel
theorem dX8_back_63 : decode cX8_back 63 = .ok (.getfield 113, 3) := by decide +kernel
theorem dX8_back_66 : decode cX8_back 66 = .ok (.ireturn, 1) := by decide +kernel
theorem dX8_count_0 : decode cX8_count 0 = .ok (.iload_n 1, 1) := by decide +kernel
theorem dX8_count_1 : decode cX8_count 1 = .ok (.tableswitch 129 0 9 #[55, 63, 71, 82, 87, 98, 103, 108, 113, 121], 55) := by decide +kernel
theorem dX8_count_56 : decode cX8_count 56 = .ok (.aload_n 0, 1) := by decide +kernel
theorem dX8_count_57 : decode cX8_count 57 = .ok (.getfield 19, 3) := by decide +kernel
theorem dX8_count_60 : decode cX8_count 60 = .ok (.getfield 113, 3) := by decide +kernel
theorem dX8_count_63 : decode cX8_count 63 = .ok (.ireturn, 1) := by decide +kernel
theorem dX8_count_64 : decode cX8_count 64 = .ok (.aload_n 0, 1) := by decide +kernel
theorem dX8_count_65 : decode cX8_count 65 = .ok (.getfield 19, 3) := by decide +kernel
theorem dX8_count_68 : decode cX8_count 68 = .ok (.getfield 212, 3) := by decide +kernel
theorem dX8_count_71 : decode cX8_count 71 = .ok (.ireturn, 1) := by decide +kernel
theorem dX8_count_72 : decode cX8_count 72 = .ok (.aload_n 0, 1) := by decide +kernel
theorem dX8_count_73 : decode cX8_count 73 = .ok (.getfield 19, 3) := by decide +kernel
theorem dX8_count_76 : decode cX8_count 76 = .ok (.getfield 113, 3) := by decide +kernel
theorem dX8_count_79 : decode cX8_count 79 = .ok (.invokestatic 182, 3) := by decide +kernel
theorem dX8_count_82 : decode cX8_count 82 = .ok (.ireturn, 1) := by decide +kernel
theorem dX8_count_83 : decode cX8_count 83 = .ok (.aload_n 0, 1) := by decide +kernel
theorem dX8_count_84 : decode cX8_count 84 = .ok (.getfield 97, 3) := by decide +kernel
theorem dX8_count_87 : decode cX8_count 87 = .ok (.ireturn, 1) := by decide +kernel
theorem dX8_count_88 : decode cX8_count 88 = .ok (.aload_n 0, 1) := by decide +kernel
theorem dX8_count_89 : decode cX8_count 89 = .ok (.getfield 19, 3) := by decide +kernel
theorem dX8_count_92 : decode cX8_count 92 = .ok (.getfield 113, 3) := by decide +kernel
theorem dX8_count_95 : decode cX8_count 95 = .ok (.invokestatic 170, 3) := by decide +kernel
theorem dX8_count_98 : decode cX8_count 98 = .ok (.ireturn, 1) := by decide +kernel
theorem dX8_count_99 : decode cX8_count 99 = .ok (.aload_n 0, 1) := by decide +kernel
theorem dX8_count_100 : decode cX8_count 100 = .ok (.invokevirtual 245, 3) := by decide +kernel
theorem dX8_count_103 : decode cX8_count 103 = .ok (.ireturn, 1) := by decide +kernel
theorem dX8_count_104 : decode cX8_count 104 = .ok (.aload_n 0, 1) := by decide +kernel
theorem dX8_count_105 : decode cX8_count 105 = .ok (.invokevirtual 248, 3) := by decide +kernel
theorem dX8_count_108 : decode cX8_count 108 = .ok (.ireturn, 1) := by decide +kernel
theorem dX8_count_109 : decode cX8_count 109 = .ok (.aload_n 0, 1) := by decide +kernel
theorem dX8_count_110 : decode cX8_count 110 = .ok (.getfield 103, 3) := by decide +kernel
theorem dX8_count_113 : decode cX8_count 113 = .ok (.ireturn, 1) := by decide +kernel
theorem dX8_count_114 : decode cX8_count 114 = .ok (.aload_n 0, 1) := by decide +kernel
theorem dX8_count_115 : decode cX8_count 115 = .ok (.getfield 12, 3) := by decide +kernel
theorem dX8_count_118 : decode cX8_count 118 = .ok (.getfield 82, 3) := by decide +kernel
theorem dX8_count_121 : decode cX8_count 121 = .ok (.ireturn, 1) := by decide +kernel
theorem dX8_count_122 : decode cX8_count 122 = .ok (.aload_n 0, 1) := by decide +kernel
theorem dX8_count_123 : decode cX8_count 123 = .ok (.getfield 29, 3) := by decide +kernel
theorem dX8_count_126 : decode cX8_count 126 = .ok (.getfield 100, 3) := by decide +kernel
theorem dX8_count_129 : decode cX8_count 129 = .ok (.ireturn, 1) := by decide +kernel
theorem dX8_count_130 : decode cX8_count 130 = .ok (.iconst (-1), 1) := by decide +kernel
theorem dX8_count_131 : decode cX8_count 131 = .ok (.ireturn, 1) := by decide +kernel
theorem dX8_treesOf_0 : decode cX8_treesOf 0 = .ok (.iload_n 0, 1) := by decide +kernel
theorem dX8_treesOf_1 : decode cX8_treesOf 1 = .ok (.ifCond .lt 19, 3) := by decide +kernel
theorem dX8_treesOf_4 : decode cX8_treesOf 4 = .ok (.iload_n 0, 1) := by decide +kernel
theorem dX8_treesOf_5 : decode cX8_treesOf 5 = .ok (.getstatic 251, 3) := by decide +kernel
theorem dX8_treesOf_8 : decode cX8_treesOf 8 = .ok (.arraylength, 1) := by decide +kernel
theorem dX8_treesOf_9 : decode cX8_treesOf 9 = .ok (.if_icmp .ge 11, 3) := by decide +kernel
theorem dX8_treesOf_12 : decode cX8_treesOf 12 = .ok (.getstatic 251, 3) := by decide +kernel
theorem dX8_treesOf_15 : decode cX8_treesOf 15 = .ok (.iload_n 0, 1) := by decide +kernel
theorem dX8_treesOf_16 : decode cX8_treesOf 16 = .ok (.iaload, 1) := by decide +kernel
theorem dX8_treesOf_17 : decode cX8_treesOf 17 = .ok (.goto 4, 3) := by decide +kernel
theorem dX8_treesOf_20 : decode cX8_treesOf 20 = .ok (.iconst 1, 1) := by decide +kernel
theorem dX8_treesOf_21 : decode cX8_treesOf 21 = .ok (.ireturn, 1) := by decide +kernel
theorem dX8_edgesOf_0 : decode cX8_edgesOf 0 = .ok (.iload_n 0, 1) := by decide +kernel
theorem dX8_edgesOf_1 : decode cX8_edgesOf 1 = .ok (.iconst 3, 1) := by decide +kernel
theorem dX8_edgesOf_2 : decode cX8_edgesOf 2 = .ok (.if_icmp .ge 13, 3) := by decide +kernel
theorem dX8_edgesOf_5 : decode cX8_edgesOf 5 = .ok (.iload_n 0, 1) := by decide +kernel
theorem dX8_edgesOf_6 : decode cX8_edgesOf 6 = .ok (.iconst 1, 1) := by decide +kernel
theorem dX8_edgesOf_7 : decode cX8_edgesOf 7 = .ok (.isub, 1) := by decide +kernel
theorem dX8_edgesOf_8 : decode cX8_edgesOf 8 = .ok (.iconst 0, 1) := by decide +kernel
theorem dX8_edgesOf_9 : decode cX8_edgesOf 9 = .ok (.invokestatic 255, 3) := by decide +kernel
theorem dX8_edgesOf_12 : decode cX8_edgesOf 12 = .ok (.goto 8, 3) := by decide +kernel
theorem dX8_edgesOf_15 : decode cX8_edgesOf 15 = .ok (.iconst 2, 1) := by decide +kernel
theorem dX8_edgesOf_16 : decode cX8_edgesOf 16 = .ok (.iload_n 0, 1) := by decide +kernel
theorem dX8_edgesOf_17 : decode cX8_edgesOf 17 = .ok (.imul, 1) := by decide +kernel
theorem dX8_edgesOf_18 : decode cX8_edgesOf 18 = .ok (.iconst 3, 1) := by decide +kernel
theorem dX8_edgesOf_19 : decode cX8_edgesOf 19 = .ok (.isub, 1) := by decide +kernel
theorem dX8_edgesOf_20 : decode cX8_edgesOf 20 = .ok (.ireturn, 1) := by decide +kernel
theorem dX8_bitsOf_0 : decode cX8_bitsOf 0 = .ok (.bipush 15, 2) := by decide +kernel
theorem dX8_bitsOf_2 : decode cX8_bitsOf 2 = .ok (.iconst 4, 1) := by decide +kernel
theorem dX8_bitsOf_3 : decode cX8_bitsOf 3 = .ok (.iload_n 0, 1) := by decide +kernel
theorem dX8_bitsOf_4 : decode cX8_bitsOf 4 = .ok (.imul, 1) := by decide +kernel
theorem dX8_bitsOf_5 : decode cX8_bitsOf 5 = .ok (.ishl, 1) := by decide +kernel
theorem dX8_bitsOf_6 : decode cX8_bitsOf 6 = .ok (.ireturn, 1) := by decide +kernel
theorem dX8_bitOf_0 : decode cX8_bitOf 0 = .ok (.iconst 1, 1) := by decide +kernel
theorem dX8_bitOf_1 : decode cX8_bitOf 1 = .ok (.iconst 4, 1) := by decide +kernel
theorem dX8_bitOf_2 : decode cX8_bitOf 2 = .ok (.iload_n 0, 1) := by decide +kernel
theorem dX8_bitOf_3 : decode cX8_bitOf 3 = .ok (.imul, 1) := by decide +kernel
theorem dX8_bitOf_4 : decode cX8_bitOf 4 = .ok (.iload_n 1, 1) := by decide +kernel
theorem dX8_bitOf_5 : decode cX8_bitOf 5 = .ok (.iadd, 1) := by decide +kernel
theorem dX8_bitOf_6 : decode cX8_bitOf 6 = .ok (.ishl, 1) := by decide +kernel
theorem dX8_bitOf_7 : decode cX8_bitOf 7 = .ok (.ireturn, 1) := by decide +kernel
theorem dX8_isTree_0 : decode cX8_isTree 0 = .ok (.iload_n 1, 1) := by decide +kernel
theorem dX8_isTree_1 : decode cX8_isTree 1 = .ok (.ifCond .lt 21, 3) := by decide +kernel
theorem dX8_isTree_4 : decode cX8_isTree 4 = .ok (.iload_n 1, 1) := by decide +kernel
theorem dX8_isTree_5 : decode cX8_isTree 5 = .ok (.aload_n 0, 1) := by decide +kernel
theorem dX8_isTree_6 : decode cX8_isTree 6 = .ok (.getfield 19, 3) := by decide +kernel
theorem dX8_isTree_9 : decode cX8_isTree 9 = .ok (.getfield 113, 3) := by decide +kernel
theorem dX8_isTree_12 : decode cX8_isTree 12 = .ok (.invokestatic 182, 3) := by decide +kernel
theorem dX8_isTree_15 : decode cX8_isTree 15 = .ok (.if_icmp .ge 7, 3) := by decide +kernel
theorem dX8_isTree_18 : decode cX8_isTree 18 = .ok (.iconst 1, 1) := by decide +kernel
theorem dX8_isTree_19 : decode cX8_isTree 19 = .ok (.goto 4, 3) := by decide +kernel
theorem dX8_isTree_22 : decode cX8_isTree 22 = .ok (.iconst 0, 1) := by decide +kernel
theorem dX8_isTree_23 : decode cX8_isTree 23 = .ok (.ireturn, 1) := by decide +kernel
theorem dX8_imageOf_0 : decode cX8_imageOf 0 = .ok (.iload_n 1, 1) := by decide +kernel
theorem dX8_imageOf_1 : decode cX8_imageOf 1 = .ok (.ifCond .ne 10, 3) := by decide +kernel
theorem dX8_imageOf_4 : decode cX8_imageOf 4 = .ok (.aload_n 0, 1) := by decide +kernel
theorem dX8_imageOf_5 : decode cX8_imageOf 5 = .ok (.getfield 36, 3) := by decide +kernel
theorem dX8_imageOf_8 : decode cX8_imageOf 8 = .ok (.goto 7, 3) := by decide +kernel
theorem dX8_imageOf_11 : decode cX8_imageOf 11 = .ok (.aload_n 0, 1) := by decide +kernel
theorem dX8_imageOf_12 : decode cX8_imageOf 12 = .ok (.getfield 40, 3) := by decide +kernel
theorem dX8_imageOf_15 : decode cX8_imageOf 15 = .ok (.areturn, 1) := by decide +kernel
theorem dX8_becomeTree_0 : decode cX8_becomeTree 0 = .ok (.aload_n 0, 1) := by decide +kernel
theorem dX8_becomeTree_1 : decode cX8_becomeTree 1 = .ok (.getfield 29, 3) := by decide +kernel
theorem dX8_becomeTree_4 : decode cX8_becomeTree 4 = .ok (.iconst (-1), 1) := by decide +kernel
theorem dX8_becomeTree_5 : decode cX8_becomeTree 5 = .ok (.aload_n 0, 1) := by decide +kernel
theorem dX8_becomeTree_6 : decode cX8_becomeTree 6 = .ok (.getfield 97, 3) := by decide +kernel
theorem dX8_becomeTree_9 : decode cX8_becomeTree 9 = .ok (.invokevirtual 127, 3) := by decide +kernel
theorem dX8_becomeTree_12 : decode cX8_becomeTree 12 = .ok (.aload_n 0, 1) := by decide +kernel
theorem dX8_becomeTree_13 : decode cX8_becomeTree 13 = .ok (.iload_n 1, 1) := by decide +kernel
theorem dX8_becomeTree_14 : decode cX8_becomeTree 14 = .ok (.putfield 97, 3) := by decide +kernel
theorem dX8_becomeTree_17 : decode cX8_becomeTree 17 = .ok (.return_, 1) := by decide +kernel
theorem dX8_loadSets_0 : decode cX8_loadSets 0 = .ok (.iconst 0, 1) := by decide +kernel
theorem dX8_loadSets_1 : decode cX8_loadSets 1 = .ok (.istore_n 2, 1) := by decide +kernel
theorem dX8_loadSets_2 : decode cX8_loadSets 2 = .ok (.iload_n 2, 1) := by decide +kernel
theorem dX8_loadSets_3 : decode cX8_loadSets 3 = .ok (.bipush 6, 2) := by decide +kernel
theorem dX8_loadSets_5 : decode cX8_loadSets 5 = .ok (.if_icmp .ge 43, 3) := by decide +kernel
theorem dX8_loadSets_8 : decode cX8_loadSets 8 = .ok (.aload_n 0, 1) := by decide +kernel
theorem dX8_loadSets_9 : decode cX8_loadSets 9 = .ok (.getfield 19, 3) := by decide +kernel
theorem dX8_loadSets_12 : decode cX8_loadSets 12 = .ok (.iload_n 2, 1) := by decide +kernel
theorem dX8_loadSets_13 : decode cX8_loadSets 13 = .ok (.invokevirtual 260, 3) := by decide +kernel
theorem dX8_loadSets_16 : decode cX8_loadSets 16 = .ok (.istore_n 3, 1) := by decide +kernel
theorem dX8_loadSets_17 : decode cX8_loadSets 17 = .ok (.aload_n 0, 1) := by decide +kernel
theorem dX8_loadSets_18 : decode cX8_loadSets 18 = .ok (.getfield 66, 3) := by decide +kernel
theorem dX8_loadSets_21 : decode cX8_loadSets 21 = .ok (.iload_n 2, 1) := by decide +kernel
theorem dX8_loadSets_22 : decode cX8_loadSets 22 = .ok (.iload_n 1, 1) := by decide +kernel
theorem dX8_loadSets_23 : decode cX8_loadSets 23 = .ok (.iconst (-1), 1) := by decide +kernel
theorem dX8_loadSets_24 : decode cX8_loadSets 24 = .ok (.if_icmp .ne 7, 3) := by decide +kernel
theorem dX8_loadSets_27 : decode cX8_loadSets 27 = .ok (.iload_n 3, 1) := by decide +kernel
theorem dX8_loadSets_28 : decode cX8_loadSets 28 = .ok (.goto 11, 3) := by decide +kernel
theorem dX8_loadSets_31 : decode cX8_loadSets 31 = .ok (.iload_n 3, 1) := by decide +kernel
theorem dX8_loadSets_32 : decode cX8_loadSets 32 = .ok (.iload_n 1, 1) := by decide +kernel
theorem dX8_loadSets_33 : decode cX8_loadSets 33 = .ok (.invokestatic 263, 3) := by decide +kernel
theorem dX8_loadSets_36 : decode cX8_loadSets 36 = .ok (.iconst (-1), 1) := by decide +kernel
theorem dX8_loadSets_37 : decode cX8_loadSets 37 = .ok (.ixor, 1) := by decide +kernel
theorem dX8_loadSets_38 : decode cX8_loadSets 38 = .ok (.ior, 1) := by decide +kernel
theorem dX8_loadSets_39 : decode cX8_loadSets 39 = .ok (.invokevirtual 159, 3) := by decide +kernel
theorem dX8_loadSets_42 : decode cX8_loadSets 42 = .ok (.iinc 2 1, 3) := by decide +kernel
theorem dX8_loadSets_45 : decode cX8_loadSets 45 = .ok (.goto (-43), 3) := by decide +kernel
theorem dX8_loadSets_48 : decode cX8_loadSets 48 = .ok (.return_, 1) := by decide +kernel
theorem dX8_changesOf_0 : decode cX8_changesOf 0 = .ok (.aload_n 0, 1) := by decide +kernel
theorem dX8_changesOf_1 : decode cX8_changesOf 1 = .ok (.getfield 55, 3) := by decide +kernel
theorem dX8_changesOf_4 : decode cX8_changesOf 4 = .ok (.iload_n 1, 1) := by decide +kernel
theorem dX8_changesOf_5 : decode cX8_changesOf 5 = .ok (.aload_n 0, 1) := by decide +kernel
theorem dX8_changesOf_6 : decode cX8_changesOf 6 = .ok (.getfield 19, 3) := by decide +kernel
theorem dX8_changesOf_9 : decode cX8_changesOf 9 = .ok (.getfield 113, 3) := by decide +kernel
theorem dX8_changesOf_12 : decode cX8_changesOf 12 = .ok (.invokevirtual 173, 3) := by decide +kernel
theorem dX8_changesOf_15 : decode cX8_changesOf 15 = .ok (.aload_n 0, 1) := by decide +kernel
theorem dX8_changesOf_16 : decode cX8_changesOf 16 = .ok (.getfield 62, 3) := by decide +kernel
theorem dX8_changesOf_19 : decode cX8_changesOf 19 = .ok (.aload_n 0, 1) := by decide +kernel
theorem dX8_changesOf_20 : decode cX8_changesOf 20 = .ok (.getfield 55, 3) := by decide +kernel
theorem dX8_changesOf_23 : decode cX8_changesOf 23 = .ok (.iconst 0, 1) := by decide +kernel
theorem dX8_changesOf_24 : decode cX8_changesOf 24 = .ok (.invokevirtual 230, 3) := by decide +kernel
theorem dX8_changesOf_27 : decode cX8_changesOf 27 = .ok (.aload_n 0, 1) := by decide +kernel
theorem dX8_changesOf_28 : decode cX8_changesOf 28 = .ok (.getfield 62, 3) := by decide +kernel
theorem dX8_changesOf_31 : decode cX8_changesOf 31 = .ok (.aload_n 0, 1) := by decide +kernel
theorem dX8_changesOf_32 : decode cX8_changesOf 32 = .ok (.getfield 66, 3) := by decide +kernel
theorem dX8_changesOf_35 : decode cX8_changesOf 35 = .ok (.invokevirtual 266, 3) := by decide +kernel
theorem dX8_changesOf_38 : decode cX8_changesOf 38 = .ok (.ireturn, 1) := by decide +kernel
theorem dX8_changesIf_0 : decode cX8_changesIf 0 = .ok (.aload_n 0, 1) := by decide +kernel
theorem dX8_changesIf_1 : decode cX8_changesIf 1 = .ok (.getfield 66, 3) := by decide +kernel
theorem dX8_changesIf_4 : decode cX8_changesIf 4 = .ok (.iload_n 1, 1) := by decide +kernel
theorem dX8_changesIf_5 : decode cX8_changesIf 5 = .ok (.invokevirtual 152, 3) := by decide +kernel
theorem dX8_changesIf_8 : decode cX8_changesIf 8 = .ok (.istore 4, 2) := by decide +kernel
theorem dX8_changesIf_10 : decode cX8_changesIf 10 = .ok (.aload_n 0, 1) := by decide +kernel
theorem dX8_changesIf_11 : decode cX8_changesIf 11 = .ok (.getfield 66, 3) := by decide +kernel
theorem dX8_changesIf_14 : decode cX8_changesIf 14 = .ok (.iload_n 1, 1) := by decide +kernel
theorem dX8_changesIf_15 : decode cX8_changesIf 15 = .ok (.iload 4, 2) := by decide +kernel
theorem dX8_changesIf_17 : decode cX8_changesIf 17 = .ok (.iload_n 2, 1) := by decide +kernel
theorem dX8_changesIf_18 : decode cX8_changesIf 18 = .ok (.invokestatic 263, 3) := by decide +kernel
theorem dX8_changesIf_21 : decode cX8_changesIf 21 = .ok (.iconst (-1), 1) := by decide +kernel
theorem dX8_changesIf_22 : decode cX8_changesIf 22 = .ok (.ixor, 1) := by decide +kernel
theorem dX8_changesIf_23 : decode cX8_changesIf 23 = .ok (.iand, 1) := by decide +kernel
theorem dX8_changesIf_24 : decode cX8_changesIf 24 = .ok (.iload_n 2, 1) := by decide +kernel
theorem dX8_changesIf_25 : decode cX8_changesIf 25 = .ok (.iload_n 3, 1) := by decide +kernel
theorem dX8_changesIf_26 : decode cX8_changesIf 26 = .ok (.invokestatic 270, 3) := by decide +kernel
theorem dX8_changesIf_29 : decode cX8_changesIf 29 = .ok (.ior, 1) := by decide +kernel
theorem dX8_changesIf_30 : decode cX8_changesIf 30 = .ok (.invokevirtual 159, 3) := by decide +kernel
theorem dX8_changesIf_33 : decode cX8_changesIf 33 = .ok (.aload_n 0, 1) := by decide +kernel
theorem dX8_changesIf_34 : decode cX8_changesIf 34 = .ok (.getfield 62, 3) := by decide +kernel
theorem dX8_changesIf_37 : decode cX8_changesIf 37 = .ok (.aload_n 0, 1) := by decide +kernel
theorem dX8_changesIf_38 : decode cX8_changesIf 38 = .ok (.getfield 66, 3) := by decide +kernel
theorem dX8_changesIf_41 : decode cX8_changesIf 41 = .ok (.invokevirtual 266, 3) := by decide +kernel
theorem dX8_changesIf_44 : decode cX8_changesIf 44 = .ok (.istore 5, 2) := by decide +kernel
theorem dX8_changesIf_46 : decode cX8_changesIf 46 = .ok (.aload_n 0, 1) := by decide +kernel
theorem dX8_changesIf_47 : decode cX8_changesIf 47 = .ok (.getfield 66, 3) := by decide +kernel
theorem dX8_changesIf_50 : decode cX8_changesIf 50 = .ok (.iload_n 1, 1) := by decide +kernel
theorem dX8_changesIf_51 : decode cX8_changesIf 51 = .ok (.iload 4, 2) := by decide +kernel
theorem dX8_changesIf_53 : decode cX8_changesIf 53 = .ok (.invokevirtual 159, 3) := by decide +kernel
theorem dX8_changesIf_56 : decode cX8_changesIf 56 = .ok (.iload 5, 2) := by decide +kernel
theorem dX8_changesIf_58 : decode cX8_changesIf 58 = .ok (.ireturn, 1) := by decide +kernel
theorem dX8_costFrom_0 : decode cX8_costFrom 0 = .ok (.aload_n 0, 1) := by decide +kernel
theorem dX8_costFrom_1 : decode cX8_costFrom 1 = .ok (.getfield 62, 3) := by decide +kernel
theorem dX8_costFrom_4 : decode cX8_costFrom 4 = .ok (.aload_n 0, 1) := by decide +kernel
theorem dX8_costFrom_5 : decode cX8_costFrom 5 = .ok (.getfield 55, 3) := by decide +kernel
theorem dX8_costFrom_8 : decode cX8_costFrom 8 = .ok (.iload_n 1, 1) := by decide +kernel
theorem dX8_costFrom_9 : decode cX8_costFrom 9 = .ok (.invokevirtual 230, 3) := by decide +kernel
theorem dX8_costFrom_12 : decode cX8_costFrom 12 = .ok (.iconst 0, 1) := by decide +kernel
theorem dX8_costFrom_13 : decode cX8_costFrom 13 = .ok (.istore_n 2, 1) := by decide +kernel
theorem dX8_costFrom_14 : decode cX8_costFrom 14 = .ok (.iconst 0, 1) := by decide +kernel
theorem dX8_costFrom_15 : decode cX8_costFrom 15 = .ok (.istore_n 3, 1) := by decide +kernel
theorem dX8_costFrom_16 : decode cX8_costFrom 16 = .ok (.iload_n 3, 1) := by decide +kernel
theorem dX8_costFrom_17 : decode cX8_costFrom 17 = .ok (.aload_n 0, 1) := by decide +kernel
theorem dX8_costFrom_18 : decode cX8_costFrom 18 = .ok (.getfield 19, 3) := by decide +kernel
theorem dX8_costFrom_21 : decode cX8_costFrom 21 = .ok (.getfield 212, 3) := by decide +kernel
theorem dX8_costFrom_24 : decode cX8_costFrom 24 = .ok (.if_icmp .ge 24, 3) := by decide +kernel
theorem dX8_costFrom_27 : decode cX8_costFrom 27 = .ok (.iload_n 2, 1) := by decide +kernel
theorem dX8_costFrom_28 : decode cX8_costFrom 28 = .ok (.aload_n 0, 1) := by decide +kernel
theorem dX8_costFrom_29 : decode cX8_costFrom 29 = .ok (.getfield 62, 3) := by decide +kernel
theorem dX8_costFrom_32 : decode cX8_costFrom 32 = .ok (.iload_n 3, 1) := by decide +kernel
theorem dX8_costFrom_33 : decode cX8_costFrom 33 = .ok (.aload_n 0, 1) := by decide +kernel
theorem dX8_costFrom_34 : decode cX8_costFrom 34 = .ok (.getfield 66, 3) := by decide +kernel
theorem dX8_costFrom_37 : decode cX8_costFrom 37 = .ok (.invokevirtual 273, 3) := by decide +kernel
theorem dX8_costFrom_40 : decode cX8_costFrom 40 = .ok (.iadd, 1) := by decide +kernel
theorem dX8_costFrom_41 : decode cX8_costFrom 41 = .ok (.istore_n 2, 1) := by decide +kernel
theorem dX8_costFrom_42 : decode cX8_costFrom 42 = .ok (.iinc 3 1, 3) := by decide +kernel
theorem dX8_costFrom_45 : decode cX8_costFrom 45 = .ok (.goto (-29), 3) := by decide +kernel
theorem dX8_costFrom_48 : decode cX8_costFrom 48 = .ok (.iload_n 2, 1) := by decide +kernel
theorem dX8_costFrom_49 : decode cX8_costFrom 49 = .ok (.ireturn, 1) := by decide +kernel
theorem dX8_weighTrees_0 : decode cX8_weighTrees 0 = .ok (.aload_n 0, 1) := by decide +kernel
theorem dX8_weighTrees_1 : decode cX8_weighTrees 1 = .ok (.getfield 110, 3) := by decide +kernel
theorem dX8_weighTrees_4 : decode cX8_weighTrees 4 = .ok (.ifCond .eq 4, 3) := by decide +kernel
theorem dX8_weighTrees_7 : decode cX8_weighTrees 7 = .ok (.return_, 1) := by decide +kernel
theorem dX8_weighTrees_8 : decode cX8_weighTrees 8 = .ok (.iconst 0, 1) := by decide +kernel
theorem dX8_weighTrees_9 : decode cX8_weighTrees 9 = .ok (.istore_n 1, 1) := by decide +kernel
theorem dX8_weighTrees_10 : decode cX8_weighTrees 10 = .ok (.iload_n 1, 1) := by decide +kernel
theorem dX8_weighTrees_11 : decode cX8_weighTrees 11 = .ok (.bipush 48, 2) := by decide +kernel
theorem dX8_weighTrees_13 : decode cX8_weighTrees 13 = .ok (.if_icmp .gt 18, 3) := by decide +kernel
theorem dX8_weighTrees_16 : decode cX8_weighTrees 16 = .ok (.aload_n 0, 1) := by decide +kernel
theorem dX8_weighTrees_17 : decode cX8_weighTrees 17 = .ok (.getfield 72, 3) := by decide +kernel
theorem dX8_weighTrees_20 : decode cX8_weighTrees 20 = .ok (.iload_n 1, 1) := by decide +kernel
theorem dX8_weighTrees_21 : decode cX8_weighTrees 21 = .ok (.iconst 0, 1) := by decide +kernel
theorem dX8_weighTrees_22 : decode cX8_weighTrees 22 = .ok (.invokevirtual 159, 3) := by decide +kernel
theorem dX8_weighTrees_25 : decode cX8_weighTrees 25 = .ok (.iinc 1 1, 3) := by decide +kernel
theorem dX8_weighTrees_28 : decode cX8_weighTrees 28 = .ok (.goto (-18), 3) := by decide +kernel
theorem dX8_weighTrees_31 : decode cX8_weighTrees 31 = .ok (.aload_n 0, 1) := by decide +kernel
theorem dX8_weighTrees_32 : decode cX8_weighTrees 32 = .ok (.iconst (-1), 1) := by decide +kernel
theorem dX8_weighTrees_33 : decode cX8_weighTrees 33 = .ok (.invokevirtual 164, 3) := by decide +kernel
theorem dX8_weighTrees_36 : decode cX8_weighTrees 36 = .ok (.aload_n 0, 1) := by decide +kernel
theorem dX8_weighTrees_37 : decode cX8_weighTrees 37 = .ok (.getfield 19, 3) := by decide +kernel
theorem dX8_weighTrees_40 : decode cX8_weighTrees 40 = .ok (.getfield 113, 3) := by decide +kernel
theorem dX8_weighTrees_43 : decode cX8_weighTrees 43 = .ok (.invokestatic 182, 3) := by decide +kernel
theorem dX8_weighTrees_46 : decode cX8_weighTrees 46 = .ok (.istore_n 1, 1) := by decide +kernel
theorem dX8_weighTrees_47 : decode cX8_weighTrees 47 = .ok (.iconst 0, 1) := by decide +kernel
theorem dX8_weighTrees_48 : decode cX8_weighTrees 48 = .ok (.istore_n 2, 1) := by decide +kernel
theorem dX8_weighTrees_49 : decode cX8_weighTrees 49 = .ok (.iload_n 2, 1) := by decide +kernel
theorem dX8_weighTrees_50 : decode cX8_weighTrees 50 = .ok (.iload_n 1, 1) := by decide +kernel
theorem dX8_weighTrees_51 : decode cX8_weighTrees 51 = .ok (.if_icmp .ge 42, 3) := by decide +kernel
theorem dX8_weighTrees_54 : decode cX8_weighTrees 54 = .ok (.aload_n 0, 1) := by decide +kernel
theorem dX8_weighTrees_55 : decode cX8_weighTrees 55 = .ok (.iload_n 2, 1) := by decide +kernel
theorem dX8_weighTrees_56 : decode cX8_weighTrees 56 = .ok (.invokevirtual 167, 3) := by decide +kernel
theorem dX8_weighTrees_59 : decode cX8_weighTrees 59 = .ok (.istore_n 3, 1) := by decide +kernel
theorem dX8_weighTrees_60 : decode cX8_weighTrees 60 = .ok (.aload_n 0, 1) := by decide +kernel
theorem dX8_weighTrees_61 : decode cX8_weighTrees 61 = .ok (.getfield 69, 3) := by decide +kernel
theorem dX8_weighTrees_64 : decode cX8_weighTrees 64 = .ok (.iload_n 2, 1) := by decide +kernel
theorem dX8_weighTrees_65 : decode cX8_weighTrees 65 = .ok (.iload_n 3, 1) := by decide +kernel
theorem dX8_weighTrees_66 : decode cX8_weighTrees 66 = .ok (.invokevirtual 159, 3) := by decide +kernel
theorem dX8_weighTrees_69 : decode cX8_weighTrees 69 = .ok (.aload_n 0, 1) := by decide +kernel
theorem dX8_weighTrees_70 : decode cX8_weighTrees 70 = .ok (.getfield 72, 3) := by decide +kernel
theorem dX8_weighTrees_73 : decode cX8_weighTrees 73 = .ok (.iload_n 3, 1) := by decide +kernel
theorem dX8_weighTrees_74 : decode cX8_weighTrees 74 = .ok (.aload_n 0, 1) := by decide +kernel
theorem dX8_weighTrees_75 : decode cX8_weighTrees 75 = .ok (.getfield 72, 3) := by decide +kernel
theorem dX8_weighTrees_78 : decode cX8_weighTrees 78 = .ok (.iload_n 3, 1) := by decide +kernel
theorem dX8_weighTrees_79 : decode cX8_weighTrees 79 = .ok (.invokevirtual 152, 3) := by decide +kernel
theorem dX8_weighTrees_82 : decode cX8_weighTrees 82 = .ok (.iconst 1, 1) := by decide +kernel
theorem dX8_weighTrees_83 : decode cX8_weighTrees 83 = .ok (.iadd, 1) := by decide +kernel
theorem dX8_weighTrees_84 : decode cX8_weighTrees 84 = .ok (.invokevirtual 159, 3) := by decide +kernel
theorem dX8_weighTrees_87 : decode cX8_weighTrees 87 = .ok (.iinc 2 1, 3) := by decide +kernel
theorem dX8_weighTrees_90 : decode cX8_weighTrees 90 = .ok (.goto (-41), 3) := by decide +kernel
theorem dX8_weighTrees_93 : decode cX8_weighTrees 93 = .ok (.aload_n 0, 1) := by decide +kernel
theorem dX8_weighTrees_94 : decode cX8_weighTrees 94 = .ok (.iconst 1, 1) := by decide +kernel
theorem dX8_weighTrees_95 : decode cX8_weighTrees 95 = .ok (.putfield 110, 3) := by decide +kernel
theorem dX8_weighTrees_98 : decode cX8_weighTrees 98 = .ok (.return_, 1) := by decide +kernel
theorem dX8_fewestChanges_0 : decode cX8_fewestChanges 0 = .ok (.iconst 0, 1) := by decide +kernel
theorem dX8_fewestChanges_1 : decode cX8_fewestChanges 1 = .ok (.istore_n 1, 1) := by decide +kernel
theorem dX8_fewestChanges_2 : decode cX8_fewestChanges 2 = .ok (.iload_n 1, 1) := by decide +kernel
theorem dX8_fewestChanges_3 : decode cX8_fewestChanges 3 = .ok (.bipush 48, 2) := by decide +kernel
theorem dX8_fewestChanges_5 : decode cX8_fewestChanges 5 = .ok (.if_icmp .gt 22, 3) := by decide +kernel
theorem dX8_fewestChanges_8 : decode cX8_fewestChanges 8 = .ok (.aload_n 0, 1) := by decide +kernel
theorem dX8_fewestChanges_9 : decode cX8_fewestChanges 9 = .ok (.getfield 72, 3) := by decide +kernel
theorem dX8_fewestChanges_12 : decode cX8_fewestChanges 12 = .ok (.iload_n 1, 1) := by decide +kernel
theorem dX8_fewestChanges_13 : decode cX8_fewestChanges 13 = .ok (.invokevirtual 152, 3) := by decide +kernel
theorem dX8_fewestChanges_16 : decode cX8_fewestChanges 16 = .ok (.ifCond .le 5, 3) := by decide +kernel
theorem dX8_fewestChanges_19 : decode cX8_fewestChanges 19 = .ok (.iload_n 1, 1) := by decide +kernel
theorem dX8_fewestChanges_20 : decode cX8_fewestChanges 20 = .ok (.ireturn, 1) := by decide +kernel
theorem dX8_fewestChanges_21 : decode cX8_fewestChanges 21 = .ok (.iinc 1 1, 3) := by decide +kernel
theorem dX8_fewestChanges_24 : decode cX8_fewestChanges 24 = .ok (.goto (-22), 3) := by decide +kernel
theorem dX8_fewestChanges_27 : decode cX8_fewestChanges 27 = .ok (.iconst 0, 1) := by decide +kernel
theorem dX8_fewestChanges_28 : decode cX8_fewestChanges 28 = .ok (.ireturn, 1) := by decide +kernel
theorem dX8_treeWith_0 : decode cX8_treeWith 0 = .ok (.iload_n 2, 1) := by decide +kernel
theorem dX8_treeWith_1 : decode cX8_treeWith 1 = .ok (.istore_n 3, 1) := by decide +kernel
theorem dX8_treeWith_2 : decode cX8_treeWith 2 = .ok (.aload_n 0, 1) := by decide +kernel
theorem dX8_treeWith_3 : decode cX8_treeWith 3 = .ok (.getfield 19, 3) := by decide +kernel
theorem dX8_treeWith_6 : decode cX8_treeWith 6 = .ok (.getfield 113, 3) := by decide +kernel
theorem dX8_treeWith_9 : decode cX8_treeWith 9 = .ok (.invokestatic 182, 3) := by decide +kernel
theorem dX8_treeWith_12 : decode cX8_treeWith 12 = .ok (.istore 4, 2) := by decide +kernel
theorem dX8_treeWith_14 : decode cX8_treeWith 14 = .ok (.iconst 0, 1) := by decide +kernel
theorem dX8_treeWith_15 : decode cX8_treeWith 15 = .ok (.istore 5, 2) := by decide +kernel
theorem dX8_treeWith_17 : decode cX8_treeWith 17 = .ok (.iload 5, 2) := by decide +kernel
theorem dX8_treeWith_19 : decode cX8_treeWith 19 = .ok (.iload 4, 2) := by decide +kernel
theorem dX8_treeWith_21 : decode cX8_treeWith 21 = .ok (.if_icmp .ge 32, 3) := by decide +kernel
theorem dX8_treeWith_24 : decode cX8_treeWith 24 = .ok (.aload_n 0, 1) := by decide +kernel
theorem dX8_treeWith_25 : decode cX8_treeWith 25 = .ok (.getfield 69, 3) := by decide +kernel
theorem dX8_treeWith_28 : decode cX8_treeWith 28 = .ok (.iload 5, 2) := by decide +kernel
theorem dX8_treeWith_30 : decode cX8_treeWith 30 = .ok (.invokevirtual 152, 3) := by decide +kernel
theorem dX8_treeWith_33 : decode cX8_treeWith 33 = .ok (.iload_n 1, 1) := by decide +kernel
theorem dX8_treeWith_34 : decode cX8_treeWith 34 = .ok (.if_icmp .ne 13, 3) := by decide +kernel
theorem dX8_treeWith_37 : decode cX8_treeWith 37 = .ok (.iload_n 3, 1) := by decide +kernel
theorem dX8_treeWith_38 : decode cX8_treeWith 38 = .ok (.ifCond .ne 6, 3) := by decide +kernel
theorem dX8_treeWith_41 : decode cX8_treeWith 41 = .ok (.iload 5, 2) := by decide +kernel
theorem dX8_treeWith_43 : decode cX8_treeWith 43 = .ok (.ireturn, 1) := by decide +kernel
theorem dX8_treeWith_44 : decode cX8_treeWith 44 = .ok (.iinc 3 (-1), 3) := by decide +kernel
theorem dX8_treeWith_47 : decode cX8_treeWith 47 = .ok (.iinc 5 1, 3) := by decide +kernel
theorem dX8_treeWith_50 : decode cX8_treeWith 50 = .ok (.goto (-33), 3) := by decide +kernel
theorem dX8_treeWith_53 : decode cX8_treeWith 53 = .ok (.bipush (-9), 2) := by decide +kernel
theorem dX8_treeWith_55 : decode cX8_treeWith 55 = .ok (.ireturn, 1) := by decide +kernel
theorem dX8_betterTree_0 : decode cX8_betterTree 0 = .ok (.aload_n 0, 1) := by decide +kernel
end
section
theorem dX8_betterTree_1 : decode cX8_betterTree 1 = .ok (.getfield 97, 3) := by decide +kernel
theorem dX8_betterTree_4 : decode cX8_betterTree 4 = .ok (.istore_n 1, 1) := by decide +kernel
theorem dX8_betterTree_5 : decode cX8_betterTree 5 = .ok (.aload_n 0, 1) := by decide +kernel
theorem dX8_betterTree_6 : decode cX8_betterTree 6 = .ok (.getfield 69, 3) := by decide +kernel
theorem dX8_betterTree_9 : decode cX8_betterTree 9 = .ok (.aload_n 0, 1) := by decide +kernel
theorem dX8_betterTree_10 : decode cX8_betterTree 10 = .ok (.getfield 97, 3) := by decide +kernel
theorem dX8_betterTree_13 : decode cX8_betterTree 13 = .ok (.invokevirtual 152, 3) := by decide +kernel
theorem dX8_betterTree_16 : decode cX8_betterTree 16 = .ok (.istore_n 2, 1) := by decide +kernel
theorem dX8_betterTree_17 : decode cX8_betterTree 17 = .ok (.iconst 3, 1) := by decide +kernel
theorem dX8_betterTree_18 : decode cX8_betterTree 18 = .ok (.istore_n 3, 1) := by decide +kernel
theorem dX8_betterTree_19 : decode cX8_betterTree 19 = .ok (.iload_n 3, 1) := by decide +kernel
theorem dX8_betterTree_20 : decode cX8_betterTree 20 = .ok (.aload_n 0, 1) := by decide +kernel
theorem dX8_betterTree_21 : decode cX8_betterTree 21 = .ok (.getfield 19, 3) := by decide +kernel
theorem dX8_betterTree_24 : decode cX8_betterTree 24 = .ok (.getfield 113, 3) := by decide +kernel
theorem dX8_betterTree_27 : decode cX8_betterTree 27 = .ok (.if_icmp .ge 115, 3) := by decide +kernel
theorem dX8_betterTree_30 : decode cX8_betterTree 30 = .ok (.aload_n 0, 1) := by decide +kernel
theorem dX8_betterTree_31 : decode cX8_betterTree 31 = .ok (.getfield 97, 3) := by decide +kernel
theorem dX8_betterTree_34 : decode cX8_betterTree 34 = .ok (.aload_n 0, 1) := by decide +kernel
theorem dX8_betterTree_35 : decode cX8_betterTree 35 = .ok (.getfield 97, 3) := by decide +kernel
theorem dX8_betterTree_38 : decode cX8_betterTree 38 = .ok (.iload_n 3, 1) := by decide +kernel
theorem dX8_betterTree_39 : decode cX8_betterTree 39 = .ok (.invokestatic 277, 3) := by decide +kernel
theorem dX8_betterTree_42 : decode cX8_betterTree 42 = .ok (.iload_n 3, 1) := by decide +kernel
theorem dX8_betterTree_43 : decode cX8_betterTree 43 = .ok (.invokestatic 280, 3) := by decide +kernel
theorem dX8_betterTree_46 : decode cX8_betterTree 46 = .ok (.imul, 1) := by decide +kernel
theorem dX8_betterTree_47 : decode cX8_betterTree 47 = .ok (.isub, 1) := by decide +kernel
theorem dX8_betterTree_48 : decode cX8_betterTree 48 = .ok (.istore 4, 2) := by decide +kernel
theorem dX8_betterTree_50 : decode cX8_betterTree 50 = .ok (.iconst 0, 1) := by decide +kernel
theorem dX8_betterTree_51 : decode cX8_betterTree 51 = .ok (.istore 5, 2) := by decide +kernel
theorem dX8_betterTree_53 : decode cX8_betterTree 53 = .ok (.iload 5, 2) := by decide +kernel
theorem dX8_betterTree_55 : decode cX8_betterTree 55 = .ok (.iconst 2, 1) := by decide +kernel
theorem dX8_betterTree_56 : decode cX8_betterTree 56 = .ok (.iload_n 3, 1) := by decide +kernel
theorem dX8_betterTree_57 : decode cX8_betterTree 57 = .ok (.imul, 1) := by decide +kernel
theorem dX8_betterTree_58 : decode cX8_betterTree 58 = .ok (.iconst 3, 1) := by decide +kernel
theorem dX8_betterTree_59 : decode cX8_betterTree 59 = .ok (.isub, 1) := by decide +kernel
theorem dX8_betterTree_60 : decode cX8_betterTree 60 = .ok (.if_icmp .ge 76, 3) := by decide +kernel
theorem dX8_betterTree_63 : decode cX8_betterTree 63 = .ok (.iload 4, 2) := by decide +kernel
theorem dX8_betterTree_65 : decode cX8_betterTree 65 = .ok (.iload 5, 2) := by decide +kernel
theorem dX8_betterTree_67 : decode cX8_betterTree 67 = .ok (.iload_n 3, 1) := by decide +kernel
theorem dX8_betterTree_68 : decode cX8_betterTree 68 = .ok (.invokestatic 280, 3) := by decide +kernel
theorem dX8_betterTree_71 : decode cX8_betterTree 71 = .ok (.imul, 1) := by decide +kernel
theorem dX8_betterTree_72 : decode cX8_betterTree 72 = .ok (.iadd, 1) := by decide +kernel
theorem dX8_betterTree_73 : decode cX8_betterTree 73 = .ok (.istore 6, 2) := by decide +kernel
theorem dX8_betterTree_75 : decode cX8_betterTree 75 = .ok (.aload_n 0, 1) := by decide +kernel
theorem dX8_betterTree_76 : decode cX8_betterTree 76 = .ok (.getfield 69, 3) := by decide +kernel
theorem dX8_betterTree_79 : decode cX8_betterTree 79 = .ok (.iload 6, 2) := by decide +kernel
theorem dX8_betterTree_81 : decode cX8_betterTree 81 = .ok (.invokevirtual 152, 3) := by decide +kernel
theorem dX8_betterTree_84 : decode cX8_betterTree 84 = .ok (.istore 7, 2) := by decide +kernel
theorem dX8_betterTree_86 : decode cX8_betterTree 86 = .ok (.iload_n 1, 1) := by decide +kernel
theorem dX8_betterTree_87 : decode cX8_betterTree 87 = .ok (.aload_n 0, 1) := by decide +kernel
theorem dX8_betterTree_88 : decode cX8_betterTree 88 = .ok (.getfield 97, 3) := by decide +kernel
theorem dX8_betterTree_91 : decode cX8_betterTree 91 = .ok (.if_icmp .eq 19, 3) := by decide +kernel
theorem dX8_betterTree_94 : decode cX8_betterTree 94 = .ok (.iload 7, 2) := by decide +kernel
theorem dX8_betterTree_96 : decode cX8_betterTree 96 = .ok (.iload_n 2, 1) := by decide +kernel
theorem dX8_betterTree_97 : decode cX8_betterTree 97 = .ok (.if_icmp .ne 13, 3) := by decide +kernel
theorem dX8_betterTree_100 : decode cX8_betterTree 100 = .ok (.iload 6, 2) := by decide +kernel
theorem dX8_betterTree_102 : decode cX8_betterTree 102 = .ok (.iload_n 1, 1) := by decide +kernel
theorem dX8_betterTree_103 : decode cX8_betterTree 103 = .ok (.if_icmp .ge 7, 3) := by decide +kernel
theorem dX8_betterTree_106 : decode cX8_betterTree 106 = .ok (.iconst 1, 1) := by decide +kernel
theorem dX8_betterTree_107 : decode cX8_betterTree 107 = .ok (.goto 4, 3) := by decide +kernel
theorem dX8_betterTree_110 : decode cX8_betterTree 110 = .ok (.iconst 0, 1) := by decide +kernel
theorem dX8_betterTree_111 : decode cX8_betterTree 111 = .ok (.istore 8, 2) := by decide +kernel
theorem dX8_betterTree_113 : decode cX8_betterTree 113 = .ok (.iload 7, 2) := by decide +kernel
theorem dX8_betterTree_115 : decode cX8_betterTree 115 = .ok (.iload_n 2, 1) := by decide +kernel
theorem dX8_betterTree_116 : decode cX8_betterTree 116 = .ok (.if_icmp .lt 8, 3) := by decide +kernel
theorem dX8_betterTree_119 : decode cX8_betterTree 119 = .ok (.iload 8, 2) := by decide +kernel
theorem dX8_betterTree_121 : decode cX8_betterTree 121 = .ok (.ifCond .eq 9, 3) := by decide +kernel
theorem dX8_betterTree_124 : decode cX8_betterTree 124 = .ok (.iload 6, 2) := by decide +kernel
theorem dX8_betterTree_126 : decode cX8_betterTree 126 = .ok (.istore_n 1, 1) := by decide +kernel
theorem dX8_betterTree_127 : decode cX8_betterTree 127 = .ok (.iload 7, 2) := by decide +kernel
theorem dX8_betterTree_129 : decode cX8_betterTree 129 = .ok (.istore_n 2, 1) := by decide +kernel
theorem dX8_betterTree_130 : decode cX8_betterTree 130 = .ok (.iinc 5 1, 3) := by decide +kernel
theorem dX8_betterTree_133 : decode cX8_betterTree 133 = .ok (.goto (-80), 3) := by decide +kernel
theorem dX8_betterTree_136 : decode cX8_betterTree 136 = .ok (.iinc 3 1, 3) := by decide +kernel
theorem dX8_betterTree_139 : decode cX8_betterTree 139 = .ok (.goto (-120), 3) := by decide +kernel
theorem dX8_betterTree_142 : decode cX8_betterTree 142 = .ok (.iload_n 1, 1) := by decide +kernel
theorem dX8_betterTree_143 : decode cX8_betterTree 143 = .ok (.ireturn, 1) := by decide +kernel
theorem dX8_bound_0 : decode cX8_bound 0 = .ok (.iconst 0, 1) := by decide +kernel
theorem dX8_bound_1 : decode cX8_bound 1 = .ok (.istore_n 1, 1) := by decide +kernel
theorem dX8_bound_2 : decode cX8_bound 2 = .ok (.iconst 0, 1) := by decide +kernel
theorem dX8_bound_3 : decode cX8_bound 3 = .ok (.istore_n 2, 1) := by decide +kernel
theorem dX8_bound_4 : decode cX8_bound 4 = .ok (.iload_n 2, 1) := by decide +kernel
theorem dX8_bound_5 : decode cX8_bound 5 = .ok (.aload_n 0, 1) := by decide +kernel
theorem dX8_bound_6 : decode cX8_bound 6 = .ok (.getfield 19, 3) := by decide +kernel
theorem dX8_bound_9 : decode cX8_bound 9 = .ok (.getfield 212, 3) := by decide +kernel
theorem dX8_bound_12 : decode cX8_bound 12 = .ok (.if_icmp .ge 70, 3) := by decide +kernel
theorem dX8_bound_15 : decode cX8_bound 15 = .ok (.iconst 0, 1) := by decide +kernel
theorem dX8_bound_16 : decode cX8_bound 16 = .ok (.istore_n 3, 1) := by decide +kernel
theorem dX8_bound_17 : decode cX8_bound 17 = .ok (.iconst 0, 1) := by decide +kernel
theorem dX8_bound_18 : decode cX8_bound 18 = .ok (.istore 4, 2) := by decide +kernel
theorem dX8_bound_20 : decode cX8_bound 20 = .ok (.iload 4, 2) := by decide +kernel
theorem dX8_bound_22 : decode cX8_bound 22 = .ok (.aload_n 0, 1) := by decide +kernel
theorem dX8_bound_23 : decode cX8_bound 23 = .ok (.getfield 19, 3) := by decide +kernel
theorem dX8_bound_26 : decode cX8_bound 26 = .ok (.getfield 113, 3) := by decide +kernel
theorem dX8_bound_29 : decode cX8_bound 29 = .ok (.if_icmp .ge 34, 3) := by decide +kernel
theorem dX8_bound_32 : decode cX8_bound 32 = .ok (.aload_n 0, 1) := by decide +kernel
theorem dX8_bound_33 : decode cX8_bound 33 = .ok (.getfield 19, 3) := by decide +kernel
theorem dX8_bound_36 : decode cX8_bound 36 = .ok (.iload 4, 2) := by decide +kernel
theorem dX8_bound_38 : decode cX8_bound 38 = .ok (.iload_n 2, 1) := by decide +kernel
theorem dX8_bound_39 : decode cX8_bound 39 = .ok (.invokevirtual 120, 3) := by decide +kernel
theorem dX8_bound_42 : decode cX8_bound 42 = .ok (.istore 5, 2) := by decide +kernel
theorem dX8_bound_44 : decode cX8_bound 44 = .ok (.iload 5, 2) := by decide +kernel
theorem dX8_bound_46 : decode cX8_bound 46 = .ok (.iconst 4, 1) := by decide +kernel
theorem dX8_bound_47 : decode cX8_bound 47 = .ok (.if_icmp .eq 10, 3) := by decide +kernel
theorem dX8_bound_50 : decode cX8_bound 50 = .ok (.iload_n 3, 1) := by decide +kernel
theorem dX8_bound_51 : decode cX8_bound 51 = .ok (.iconst 1, 1) := by decide +kernel
theorem dX8_bound_52 : decode cX8_bound 52 = .ok (.iload 5, 2) := by decide +kernel
theorem dX8_bound_54 : decode cX8_bound 54 = .ok (.ishl, 1) := by decide +kernel
theorem dX8_bound_55 : decode cX8_bound 55 = .ok (.ior, 1) := by decide +kernel
theorem dX8_bound_56 : decode cX8_bound 56 = .ok (.istore_n 3, 1) := by decide +kernel
theorem dX8_bound_57 : decode cX8_bound 57 = .ok (.iinc 4 1, 3) := by decide +kernel
theorem dX8_bound_60 : decode cX8_bound 60 = .ok (.goto (-40), 3) := by decide +kernel
theorem dX8_bound_63 : decode cX8_bound 63 = .ok (.iload_n 1, 1) := by decide +kernel
theorem dX8_bound_64 : decode cX8_bound 64 = .ok (.iload_n 3, 1) := by decide +kernel
theorem dX8_bound_65 : decode cX8_bound 65 = .ok (.invokestatic 283, 3) := by decide +kernel
theorem dX8_bound_68 : decode cX8_bound 68 = .ok (.iconst 1, 1) := by decide +kernel
theorem dX8_bound_69 : decode cX8_bound 69 = .ok (.isub, 1) := by decide +kernel
theorem dX8_bound_70 : decode cX8_bound 70 = .ok (.iconst 0, 1) := by decide +kernel
theorem dX8_bound_71 : decode cX8_bound 71 = .ok (.invokestatic 255, 3) := by decide +kernel
theorem dX8_bound_74 : decode cX8_bound 74 = .ok (.iadd, 1) := by decide +kernel
theorem dX8_bound_75 : decode cX8_bound 75 = .ok (.istore_n 1, 1) := by decide +kernel
theorem dX8_bound_76 : decode cX8_bound 76 = .ok (.iinc 2 1, 3) := by decide +kernel
theorem dX8_bound_79 : decode cX8_bound 79 = .ok (.goto (-75), 3) := by decide +kernel
theorem dX8_bound_82 : decode cX8_bound 82 = .ok (.iload_n 1, 1) := by decide +kernel
theorem dX8_bound_83 : decode cX8_bound 83 = .ok (.ireturn, 1) := by decide +kernel
theorem dX8_inQuarrel_0 : decode cX8_inQuarrel 0 = .ok (.iconst 0, 1) := by decide +kernel
theorem dX8_inQuarrel_1 : decode cX8_inQuarrel 1 = .ok (.istore_n 3, 1) := by decide +kernel
theorem dX8_inQuarrel_2 : decode cX8_inQuarrel 2 = .ok (.iconst 0, 1) := by decide +kernel
theorem dX8_inQuarrel_3 : decode cX8_inQuarrel 3 = .ok (.istore 4, 2) := by decide +kernel
theorem dX8_inQuarrel_5 : decode cX8_inQuarrel 5 = .ok (.iload 4, 2) := by decide +kernel
theorem dX8_inQuarrel_7 : decode cX8_inQuarrel 7 = .ok (.aload_n 0, 1) := by decide +kernel
theorem dX8_inQuarrel_8 : decode cX8_inQuarrel 8 = .ok (.getfield 19, 3) := by decide +kernel
theorem dX8_inQuarrel_11 : decode cX8_inQuarrel 11 = .ok (.getfield 113, 3) := by decide +kernel
theorem dX8_inQuarrel_14 : decode cX8_inQuarrel 14 = .ok (.if_icmp .ge 57, 3) := by decide +kernel
theorem dX8_inQuarrel_17 : decode cX8_inQuarrel 17 = .ok (.aload_n 0, 1) := by decide +kernel
theorem dX8_inQuarrel_18 : decode cX8_inQuarrel 18 = .ok (.getfield 19, 3) := by decide +kernel
theorem dX8_inQuarrel_21 : decode cX8_inQuarrel 21 = .ok (.iload 4, 2) := by decide +kernel
theorem dX8_inQuarrel_23 : decode cX8_inQuarrel 23 = .ok (.iload_n 1, 1) := by decide +kernel
theorem dX8_inQuarrel_24 : decode cX8_inQuarrel 24 = .ok (.invokevirtual 120, 3) := by decide +kernel
theorem dX8_inQuarrel_27 : decode cX8_inQuarrel 27 = .ok (.istore 5, 2) := by decide +kernel
theorem dX8_inQuarrel_29 : decode cX8_inQuarrel 29 = .ok (.aload_n 0, 1) := by decide +kernel
theorem dX8_inQuarrel_30 : decode cX8_inQuarrel 30 = .ok (.getfield 19, 3) := by decide +kernel
theorem dX8_inQuarrel_33 : decode cX8_inQuarrel 33 = .ok (.iload 4, 2) := by decide +kernel
theorem dX8_inQuarrel_35 : decode cX8_inQuarrel 35 = .ok (.iload_n 2, 1) := by decide +kernel
theorem dX8_inQuarrel_36 : decode cX8_inQuarrel 36 = .ok (.invokevirtual 120, 3) := by decide +kernel
theorem dX8_inQuarrel_39 : decode cX8_inQuarrel 39 = .ok (.istore 6, 2) := by decide +kernel
theorem dX8_inQuarrel_41 : decode cX8_inQuarrel 41 = .ok (.iload 5, 2) := by decide +kernel
theorem dX8_inQuarrel_43 : decode cX8_inQuarrel 43 = .ok (.iconst 4, 1) := by decide +kernel
theorem dX8_inQuarrel_44 : decode cX8_inQuarrel 44 = .ok (.if_icmp .eq 21, 3) := by decide +kernel
theorem dX8_inQuarrel_47 : decode cX8_inQuarrel 47 = .ok (.iload 6, 2) := by decide +kernel
theorem dX8_inQuarrel_49 : decode cX8_inQuarrel 49 = .ok (.iconst 4, 1) := by decide +kernel
theorem dX8_inQuarrel_50 : decode cX8_inQuarrel 50 = .ok (.if_icmp .eq 15, 3) := by decide +kernel
theorem dX8_inQuarrel_53 : decode cX8_inQuarrel 53 = .ok (.iload_n 3, 1) := by decide +kernel
theorem dX8_inQuarrel_54 : decode cX8_inQuarrel 54 = .ok (.iconst 1, 1) := by decide +kernel
theorem dX8_inQuarrel_55 : decode cX8_inQuarrel 55 = .ok (.iconst 4, 1) := by decide +kernel
theorem dX8_inQuarrel_56 : decode cX8_inQuarrel 56 = .ok (.iload 5, 2) := by decide +kernel
theorem dX8_inQuarrel_58 : decode cX8_inQuarrel 58 = .ok (.imul, 1) := by decide +kernel
theorem dX8_inQuarrel_59 : decode cX8_inQuarrel 59 = .ok (.iload 6, 2) := by decide +kernel
theorem dX8_inQuarrel_61 : decode cX8_inQuarrel 61 = .ok (.iadd, 1) := by decide +kernel
theorem dX8_inQuarrel_62 : decode cX8_inQuarrel 62 = .ok (.ishl, 1) := by decide +kernel
theorem dX8_inQuarrel_63 : decode cX8_inQuarrel 63 = .ok (.ior, 1) := by decide +kernel
theorem dX8_inQuarrel_64 : decode cX8_inQuarrel 64 = .ok (.istore_n 3, 1) := by decide +kernel
theorem dX8_inQuarrel_65 : decode cX8_inQuarrel 65 = .ok (.iinc 4 1, 3) := by decide +kernel
theorem dX8_inQuarrel_68 : decode cX8_inQuarrel 68 = .ok (.goto (-63), 3) := by decide +kernel
theorem dX8_inQuarrel_71 : decode cX8_inQuarrel 71 = .ok (.iconst 0, 1) := by decide +kernel
theorem dX8_inQuarrel_72 : decode cX8_inQuarrel 72 = .ok (.istore 4, 2) := by decide +kernel
theorem dX8_inQuarrel_74 : decode cX8_inQuarrel 74 = .ok (.iload 4, 2) := by decide +kernel
theorem dX8_inQuarrel_76 : decode cX8_inQuarrel 76 = .ok (.iconst 4, 1) := by decide +kernel
theorem dX8_inQuarrel_77 : decode cX8_inQuarrel 77 = .ok (.if_icmp .ge 56, 3) := by decide +kernel
theorem dX8_inQuarrel_80 : decode cX8_inQuarrel 80 = .ok (.iload 4, 2) := by decide +kernel
theorem dX8_inQuarrel_82 : decode cX8_inQuarrel 82 = .ok (.iconst 1, 1) := by decide +kernel
theorem dX8_inQuarrel_83 : decode cX8_inQuarrel 83 = .ok (.iadd, 1) := by decide +kernel
theorem dX8_inQuarrel_84 : decode cX8_inQuarrel 84 = .ok (.istore 5, 2) := by decide +kernel
theorem dX8_inQuarrel_86 : decode cX8_inQuarrel 86 = .ok (.iload 5, 2) := by decide +kernel
theorem dX8_inQuarrel_88 : decode cX8_inQuarrel 88 = .ok (.iconst 4, 1) := by decide +kernel
theorem dX8_inQuarrel_89 : decode cX8_inQuarrel 89 = .ok (.if_icmp .ge 38, 3) := by decide +kernel
theorem dX8_inQuarrel_92 : decode cX8_inQuarrel 92 = .ok (.iload_n 3, 1) := by decide +kernel
theorem dX8_inQuarrel_93 : decode cX8_inQuarrel 93 = .ok (.iconst 4, 1) := by decide +kernel
theorem dX8_inQuarrel_94 : decode cX8_inQuarrel 94 = .ok (.iload 4, 2) := by decide +kernel
theorem dX8_inQuarrel_96 : decode cX8_inQuarrel 96 = .ok (.imul, 1) := by decide +kernel
theorem dX8_inQuarrel_97 : decode cX8_inQuarrel 97 = .ok (.iushr, 1) := by decide +kernel
theorem dX8_inQuarrel_98 : decode cX8_inQuarrel 98 = .ok (.iload_n 3, 1) := by decide +kernel
theorem dX8_inQuarrel_99 : decode cX8_inQuarrel 99 = .ok (.iconst 4, 1) := by decide +kernel
theorem dX8_inQuarrel_100 : decode cX8_inQuarrel 100 = .ok (.iload 5, 2) := by decide +kernel
theorem dX8_inQuarrel_102 : decode cX8_inQuarrel 102 = .ok (.imul, 1) := by decide +kernel
theorem dX8_inQuarrel_103 : decode cX8_inQuarrel 103 = .ok (.iushr, 1) := by decide +kernel
theorem dX8_inQuarrel_104 : decode cX8_inQuarrel 104 = .ok (.iand, 1) := by decide +kernel
theorem dX8_inQuarrel_105 : decode cX8_inQuarrel 105 = .ok (.bipush 15, 2) := by decide +kernel
theorem dX8_inQuarrel_107 : decode cX8_inQuarrel 107 = .ok (.iand, 1) := by decide +kernel
theorem dX8_inQuarrel_108 : decode cX8_inQuarrel 108 = .ok (.istore 6, 2) := by decide +kernel
theorem dX8_inQuarrel_110 : decode cX8_inQuarrel 110 = .ok (.iload 6, 2) := by decide +kernel
theorem dX8_inQuarrel_112 : decode cX8_inQuarrel 112 = .ok (.invokestatic 283, 3) := by decide +kernel
theorem dX8_inQuarrel_115 : decode cX8_inQuarrel 115 = .ok (.iconst 2, 1) := by decide +kernel
theorem dX8_inQuarrel_116 : decode cX8_inQuarrel 116 = .ok (.if_icmp .lt 5, 3) := by decide +kernel
theorem dX8_inQuarrel_119 : decode cX8_inQuarrel 119 = .ok (.iconst 1, 1) := by decide +kernel
theorem dX8_inQuarrel_120 : decode cX8_inQuarrel 120 = .ok (.ireturn, 1) := by decide +kernel
theorem dX8_inQuarrel_121 : decode cX8_inQuarrel 121 = .ok (.iinc 5 1, 3) := by decide +kernel
theorem dX8_inQuarrel_124 : decode cX8_inQuarrel 124 = .ok (.goto (-38), 3) := by decide +kernel
theorem dX8_inQuarrel_127 : decode cX8_inQuarrel 127 = .ok (.iinc 4 1, 3) := by decide +kernel
theorem dX8_inQuarrel_130 : decode cX8_inQuarrel 130 = .ok (.goto (-56), 3) := by decide +kernel
theorem dX8_inQuarrel_133 : decode cX8_inQuarrel 133 = .ok (.iconst 0, 1) := by decide +kernel
theorem dX8_inQuarrel_134 : decode cX8_inQuarrel 134 = .ok (.ireturn, 1) := by decide +kernel
theorem dX8_quarrels_0 : decode cX8_quarrels 0 = .ok (.iconst 0, 1) := by decide +kernel
theorem dX8_quarrels_1 : decode cX8_quarrels 1 = .ok (.istore_n 1, 1) := by decide +kernel
theorem dX8_quarrels_2 : decode cX8_quarrels 2 = .ok (.iconst 0, 1) := by decide +kernel
theorem dX8_quarrels_3 : decode cX8_quarrels 3 = .ok (.istore_n 2, 1) := by decide +kernel
theorem dX8_quarrels_4 : decode cX8_quarrels 4 = .ok (.iload_n 2, 1) := by decide +kernel
theorem dX8_quarrels_5 : decode cX8_quarrels 5 = .ok (.aload_n 0, 1) := by decide +kernel
theorem dX8_quarrels_6 : decode cX8_quarrels 6 = .ok (.getfield 19, 3) := by decide +kernel
theorem dX8_quarrels_9 : decode cX8_quarrels 9 = .ok (.getfield 212, 3) := by decide +kernel
theorem dX8_quarrels_12 : decode cX8_quarrels 12 = .ok (.if_icmp .ge 42, 3) := by decide +kernel
theorem dX8_quarrels_15 : decode cX8_quarrels 15 = .ok (.iload_n 2, 1) := by decide +kernel
theorem dX8_quarrels_16 : decode cX8_quarrels 16 = .ok (.iconst 1, 1) := by decide +kernel
theorem dX8_quarrels_17 : decode cX8_quarrels 17 = .ok (.iadd, 1) := by decide +kernel
theorem dX8_quarrels_18 : decode cX8_quarrels 18 = .ok (.istore_n 3, 1) := by decide +kernel
theorem dX8_quarrels_19 : decode cX8_quarrels 19 = .ok (.iload_n 3, 1) := by decide +kernel
theorem dX8_quarrels_20 : decode cX8_quarrels 20 = .ok (.aload_n 0, 1) := by decide +kernel
theorem dX8_quarrels_21 : decode cX8_quarrels 21 = .ok (.getfield 19, 3) := by decide +kernel
theorem dX8_quarrels_24 : decode cX8_quarrels 24 = .ok (.getfield 212, 3) := by decide +kernel
theorem dX8_quarrels_27 : decode cX8_quarrels 27 = .ok (.if_icmp .ge 21, 3) := by decide +kernel
theorem dX8_quarrels_30 : decode cX8_quarrels 30 = .ok (.aload_n 0, 1) := by decide +kernel
theorem dX8_quarrels_31 : decode cX8_quarrels 31 = .ok (.iload_n 2, 1) := by decide +kernel
theorem dX8_quarrels_32 : decode cX8_quarrels 32 = .ok (.iload_n 3, 1) := by decide +kernel
theorem dX8_quarrels_33 : decode cX8_quarrels 33 = .ok (.invokevirtual 198, 3) := by decide +kernel
theorem dX8_quarrels_36 : decode cX8_quarrels 36 = .ok (.ifCond .eq 6, 3) := by decide +kernel
theorem dX8_quarrels_39 : decode cX8_quarrels 39 = .ok (.iinc 1 1, 3) := by decide +kernel
theorem dX8_quarrels_42 : decode cX8_quarrels 42 = .ok (.iinc 3 1, 3) := by decide +kernel
theorem dX8_quarrels_45 : decode cX8_quarrels 45 = .ok (.goto (-26), 3) := by decide +kernel
theorem dX8_quarrels_48 : decode cX8_quarrels 48 = .ok (.iinc 2 1, 3) := by decide +kernel
theorem dX8_quarrels_51 : decode cX8_quarrels 51 = .ok (.goto (-47), 3) := by decide +kernel
theorem dX8_quarrels_54 : decode cX8_quarrels 54 = .ok (.iload_n 1, 1) := by decide +kernel
theorem dX8_quarrels_55 : decode cX8_quarrels 55 = .ok (.ireturn, 1) := by decide +kernel
theorem dX8_lostOnes_0 : decode cX8_lostOnes 0 = .ok (.iconst 0, 1) := by decide +kernel
theorem dX8_lostOnes_1 : decode cX8_lostOnes 1 = .ok (.istore_n 1, 1) := by decide +kernel
theorem dX8_lostOnes_2 : decode cX8_lostOnes 2 = .ok (.iconst 0, 1) := by decide +kernel
theorem dX8_lostOnes_3 : decode cX8_lostOnes 3 = .ok (.istore_n 2, 1) := by decide +kernel
theorem dX8_lostOnes_4 : decode cX8_lostOnes 4 = .ok (.iload_n 2, 1) := by decide +kernel
theorem dX8_lostOnes_5 : decode cX8_lostOnes 5 = .ok (.aload_n 0, 1) := by decide +kernel
theorem dX8_lostOnes_6 : decode cX8_lostOnes 6 = .ok (.getfield 19, 3) := by decide +kernel
theorem dX8_lostOnes_9 : decode cX8_lostOnes 9 = .ok (.getfield 113, 3) := by decide +kernel
theorem dX8_lostOnes_12 : decode cX8_lostOnes 12 = .ok (.if_icmp .ge 44, 3) := by decide +kernel
theorem dX8_lostOnes_15 : decode cX8_lostOnes 15 = .ok (.iconst 0, 1) := by decide +kernel
theorem dX8_lostOnes_16 : decode cX8_lostOnes 16 = .ok (.istore_n 3, 1) := by decide +kernel
theorem dX8_lostOnes_17 : decode cX8_lostOnes 17 = .ok (.iload_n 3, 1) := by decide +kernel
theorem dX8_lostOnes_18 : decode cX8_lostOnes 18 = .ok (.aload_n 0, 1) := by decide +kernel
theorem dX8_lostOnes_19 : decode cX8_lostOnes 19 = .ok (.getfield 19, 3) := by decide +kernel
theorem dX8_lostOnes_22 : decode cX8_lostOnes 22 = .ok (.getfield 212, 3) := by decide +kernel
theorem dX8_lostOnes_25 : decode cX8_lostOnes 25 = .ok (.if_icmp .ge 25, 3) := by decide +kernel
theorem dX8_lostOnes_28 : decode cX8_lostOnes 28 = .ok (.aload_n 0, 1) := by decide +kernel
theorem dX8_lostOnes_29 : decode cX8_lostOnes 29 = .ok (.getfield 19, 3) := by decide +kernel
theorem dX8_lostOnes_32 : decode cX8_lostOnes 32 = .ok (.iload_n 2, 1) := by decide +kernel
theorem dX8_lostOnes_33 : decode cX8_lostOnes 33 = .ok (.iload_n 3, 1) := by decide +kernel
theorem dX8_lostOnes_34 : decode cX8_lostOnes 34 = .ok (.invokevirtual 120, 3) := by decide +kernel
theorem dX8_lostOnes_37 : decode cX8_lostOnes 37 = .ok (.iconst 4, 1) := by decide +kernel
theorem dX8_lostOnes_38 : decode cX8_lostOnes 38 = .ok (.if_icmp .ne 6, 3) := by decide +kernel
theorem dX8_lostOnes_41 : decode cX8_lostOnes 41 = .ok (.iinc 1 1, 3) := by decide +kernel
theorem dX8_lostOnes_44 : decode cX8_lostOnes 44 = .ok (.iinc 3 1, 3) := by decide +kernel
theorem dX8_lostOnes_47 : decode cX8_lostOnes 47 = .ok (.goto (-30), 3) := by decide +kernel
theorem dX8_lostOnes_50 : decode cX8_lostOnes 50 = .ok (.iinc 2 1, 3) := by decide +kernel
theorem dX8_lostOnes_53 : decode cX8_lostOnes 53 = .ok (.goto (-49), 3) := by decide +kernel
theorem dX8_lostOnes_56 : decode cX8_lostOnes 56 = .ok (.iload_n 1, 1) := by decide +kernel
theorem dX8_lostOnes_57 : decode cX8_lostOnes 57 = .ok (.ireturn, 1) := by decide +kernel
theorem dX8_mayBeMisread_0 : decode cX8_mayBeMisread 0 = .ok (.aload_n 0, 1) := by decide +kernel
theorem dX8_mayBeMisread_1 : decode cX8_mayBeMisread 1 = .ok (.getfield 19, 3) := by decide +kernel
theorem dX8_mayBeMisread_4 : decode cX8_mayBeMisread 4 = .ok (.iload_n 1, 1) := by decide +kernel
theorem dX8_mayBeMisread_5 : decode cX8_mayBeMisread 5 = .ok (.iconst 0, 1) := by decide +kernel
theorem dX8_mayBeMisread_6 : decode cX8_mayBeMisread 6 = .ok (.invokevirtual 120, 3) := by decide +kernel
theorem dX8_mayBeMisread_9 : decode cX8_mayBeMisread 9 = .ok (.istore_n 2, 1) := by decide +kernel
theorem dX8_mayBeMisread_10 : decode cX8_mayBeMisread 10 = .ok (.iload_n 2, 1) := by decide +kernel
theorem dX8_mayBeMisread_11 : decode cX8_mayBeMisread 11 = .ok (.iconst 4, 1) := by decide +kernel
theorem dX8_mayBeMisread_12 : decode cX8_mayBeMisread 12 = .ok (.if_icmp .ne 5, 3) := by decide +kernel
theorem dX8_mayBeMisread_15 : decode cX8_mayBeMisread 15 = .ok (.iconst 0, 1) := by decide +kernel
theorem dX8_mayBeMisread_16 : decode cX8_mayBeMisread 16 = .ok (.ireturn, 1) := by decide +kernel
theorem dX8_mayBeMisread_17 : decode cX8_mayBeMisread 17 = .ok (.iconst 0, 1) := by decide +kernel
theorem dX8_mayBeMisread_18 : decode cX8_mayBeMisread 18 = .ok (.istore_n 3, 1) := by decide +kernel
theorem dX8_mayBeMisread_19 : decode cX8_mayBeMisread 19 = .ok (.iload_n 3, 1) := by decide +kernel
theorem dX8_mayBeMisread_20 : decode cX8_mayBeMisread 20 = .ok (.iconst 4, 1) := by decide +kernel
theorem dX8_mayBeMisread_21 : decode cX8_mayBeMisread 21 = .ok (.if_icmp .ge 30, 3) := by decide +kernel
theorem dX8_mayBeMisread_24 : decode cX8_mayBeMisread 24 = .ok (.iload_n 3, 1) := by decide +kernel
theorem dX8_mayBeMisread_25 : decode cX8_mayBeMisread 25 = .ok (.iload_n 2, 1) := by decide +kernel
theorem dX8_mayBeMisread_26 : decode cX8_mayBeMisread 26 = .ok (.if_icmp .eq 19, 3) := by decide +kernel
theorem dX8_mayBeMisread_29 : decode cX8_mayBeMisread 29 = .ok (.aload_n 0, 1) := by decide +kernel
theorem dX8_mayBeMisread_30 : decode cX8_mayBeMisread 30 = .ok (.aload_n 0, 1) := by decide +kernel
theorem dX8_mayBeMisread_31 : decode cX8_mayBeMisread 31 = .ok (.iload_n 1, 1) := by decide +kernel
theorem dX8_mayBeMisread_32 : decode cX8_mayBeMisread 32 = .ok (.iconst 0, 1) := by decide +kernel
theorem dX8_mayBeMisread_33 : decode cX8_mayBeMisread 33 = .ok (.iload_n 3, 1) := by decide +kernel
theorem dX8_mayBeMisread_34 : decode cX8_mayBeMisread 34 = .ok (.invokevirtual 194, 3) := by decide +kernel
theorem dX8_mayBeMisread_37 : decode cX8_mayBeMisread 37 = .ok (.invokevirtual 288, 3) := by decide +kernel
theorem dX8_mayBeMisread_40 : decode cX8_mayBeMisread 40 = .ok (.ifCond .eq 5, 3) := by decide +kernel
theorem dX8_mayBeMisread_43 : decode cX8_mayBeMisread 43 = .ok (.iconst 1, 1) := by decide +kernel
theorem dX8_mayBeMisread_44 : decode cX8_mayBeMisread 44 = .ok (.ireturn, 1) := by decide +kernel
theorem dX8_mayBeMisread_45 : decode cX8_mayBeMisread 45 = .ok (.iinc 3 1, 3) := by decide +kernel
theorem dX8_mayBeMisread_48 : decode cX8_mayBeMisread 48 = .ok (.goto (-29), 3) := by decide +kernel
theorem dX8_mayBeMisread_51 : decode cX8_mayBeMisread 51 = .ok (.iconst 0, 1) := by decide +kernel
theorem dX8_mayBeMisread_52 : decode cX8_mayBeMisread 52 = .ok (.ireturn, 1) := by decide +kernel
theorem dX8_allSeenIs_0 : decode cX8_allSeenIs 0 = .ok (.iconst 0, 1) := by decide +kernel
theorem dX8_allSeenIs_1 : decode cX8_allSeenIs 1 = .ok (.istore_n 2, 1) := by decide +kernel
theorem dX8_allSeenIs_2 : decode cX8_allSeenIs 2 = .ok (.iload_n 2, 1) := by decide +kernel
theorem dX8_allSeenIs_3 : decode cX8_allSeenIs 3 = .ok (.aload_n 0, 1) := by decide +kernel
theorem dX8_allSeenIs_4 : decode cX8_allSeenIs 4 = .ok (.getfield 103, 3) := by decide +kernel
theorem dX8_allSeenIs_7 : decode cX8_allSeenIs 7 = .ok (.if_icmp .ge 23, 3) := by decide +kernel
theorem dX8_allSeenIs_10 : decode cX8_allSeenIs 10 = .ok (.aload_n 0, 1) := by decide +kernel
theorem dX8_allSeenIs_11 : decode cX8_allSeenIs 11 = .ok (.getfield 48, 3) := by decide +kernel
theorem dX8_allSeenIs_14 : decode cX8_allSeenIs 14 = .ok (.iload_n 2, 1) := by decide +kernel
theorem dX8_allSeenIs_15 : decode cX8_allSeenIs 15 = .ok (.invokevirtual 152, 3) := by decide +kernel
theorem dX8_allSeenIs_18 : decode cX8_allSeenIs 18 = .ok (.iload_n 1, 1) := by decide +kernel
theorem dX8_allSeenIs_19 : decode cX8_allSeenIs 19 = .ok (.if_icmp .eq 5, 3) := by decide +kernel
theorem dX8_allSeenIs_22 : decode cX8_allSeenIs 22 = .ok (.iconst 0, 1) := by decide +kernel
theorem dX8_allSeenIs_23 : decode cX8_allSeenIs 23 = .ok (.ireturn, 1) := by decide +kernel
theorem dX8_allSeenIs_24 : decode cX8_allSeenIs 24 = .ok (.iinc 2 1, 3) := by decide +kernel
theorem dX8_allSeenIs_27 : decode cX8_allSeenIs 27 = .ok (.goto (-25), 3) := by decide +kernel
theorem dX8_allSeenIs_30 : decode cX8_allSeenIs 30 = .ok (.iconst 1, 1) := by decide +kernel
theorem dX8_allSeenIs_31 : decode cX8_allSeenIs 31 = .ok (.ireturn, 1) := by decide +kernel
theorem dX9_init_0 : decode cX9_init 0 = .ok (.aload_n 0, 1) := by decide +kernel
theorem dX9_init_1 : decode cX9_init 1 = .ok (.invokespecial 1, 3) := by decide +kernel
theorem dX9_init_4 : decode cX9_init 4 = .ok (.aload_n 0, 1) := by decide +kernel
theorem dX9_init_5 : decode cX9_init 5 = .ok (.bipush 49, 2) := by decide +kernel
theorem dX9_init_7 : decode cX9_init 7 = .ok (.newarray .int, 2) := by decide +kernel
theorem dX9_init_9 : decode cX9_init 9 = .ok (.putfield 7, 3) := by decide +kernel
theorem dX9_init_12 : decode cX9_init 12 = .ok (.aload_n 0, 1) := by decide +kernel
theorem dX9_init_13 : decode cX9_init 13 = .ok (.sipush 490, 3) := by decide +kernel
theorem dX9_init_16 : decode cX9_init 16 = .ok (.newarray .int, 2) := by decide +kernel
theorem dX9_init_18 : decode cX9_init 18 = .ok (.putfield 13, 3) := by decide +kernel
theorem dX9_init_21 : decode cX9_init 21 = .ok (.aload_n 0, 1) := by decide +kernel
theorem dX9_init_22 : decode cX9_init 22 = .ok (.bipush 6, 2) := by decide +kernel
theorem dX9_init_24 : decode cX9_init 24 = .ok (.newarray .int, 2) := by decide +kernel
theorem dX9_init_26 : decode cX9_init 26 = .ok (.putfield 16, 3) := by decide +kernel
theorem dX9_init_29 : decode cX9_init 29 = .ok (.aload_n 0, 1) := by decide +kernel
theorem dX9_init_30 : decode cX9_init 30 = .ok (.iconst 2, 1) := by decide +kernel
theorem dX9_init_31 : decode cX9_init 31 = .ok (.newarray .boolean, 2) := by decide +kernel
theorem dX9_init_33 : decode cX9_init 33 = .ok (.putfield 19, 3) := by decide +kernel
theorem dX9_init_36 : decode cX9_init 36 = .ok (.aload_n 0, 1) := by decide +kernel
theorem dX9_init_37 : decode cX9_init 37 = .ok (.bipush 98, 2) := by decide +kernel
theorem dX9_init_39 : decode cX9_init 39 = .ok (.newarray .int, 2) := by decide +kernel
theorem dX9_init_41 : decode cX9_init 41 = .ok (.putfield 23, 3) := by decide +kernel
theorem dX9_init_44 : decode cX9_init 44 = .ok (.aload_n 0, 1) := by decide +kernel
theorem dX9_init_45 : decode cX9_init 45 = .ok (.bipush 90, 2) := by decide +kernel
theorem dX9_init_47 : decode cX9_init 47 = .ok (.newarray .int, 2) := by decide +kernel
theorem dX9_init_49 : decode cX9_init 49 = .ok (.putfield 26, 3) := by decide +kernel
theorem dX9_init_52 : decode cX9_init 52 = .ok (.aload_n 0, 1) := by decide +kernel
theorem dX9_init_53 : decode cX9_init 53 = .ok (.bipush 48, 2) := by decide +kernel
theorem dX9_init_55 : decode cX9_init 55 = .ok (.newarray .int, 2) := by decide +kernel
theorem dX9_init_57 : decode cX9_init 57 = .ok (.putfield 29, 3) := by decide +kernel
theorem dX9_init_60 : decode cX9_init 60 = .ok (.aload_n 0, 1) := by decide +kernel
theorem dX9_init_61 : decode cX9_init 61 = .ok (.bipush 10, 2) := by decide +kernel
theorem dX9_init_63 : decode cX9_init 63 = .ok (.newarray .int, 2) := by decide +kernel
theorem dX9_init_65 : decode cX9_init 65 = .ok (.putfield 32, 3) := by decide +kernel
theorem dX9_init_68 : decode cX9_init 68 = .ok (.aload_n 0, 1) := by decide +kernel
theorem dX9_init_69 : decode cX9_init 69 = .ok (.bipush 10, 2) := by decide +kernel
theorem dX9_init_71 : decode cX9_init 71 = .ok (.newarray .int, 2) := by decide +kernel
theorem dX9_init_73 : decode cX9_init 73 = .ok (.putfield 35, 3) := by decide +kernel
theorem dX9_init_76 : decode cX9_init 76 = .ok (.aload_n 0, 1) := by decide +kernel
theorem dX9_init_77 : decode cX9_init 77 = .ok (.bipush 44, 2) := by decide +kernel
theorem dX9_init_79 : decode cX9_init 79 = .ok (.newarray .int, 2) := by decide +kernel
theorem dX9_init_81 : decode cX9_init 81 = .ok (.putfield 38, 3) := by decide +kernel
theorem dX9_init_84 : decode cX9_init 84 = .ok (.aload_n 0, 1) := by decide +kernel
theorem dX9_init_85 : decode cX9_init 85 = .ok (.bipush 10, 2) := by decide +kernel
theorem dX9_init_87 : decode cX9_init 87 = .ok (.newarray .boolean, 2) := by decide +kernel
theorem dX9_init_89 : decode cX9_init 89 = .ok (.putfield 41, 3) := by decide +kernel
theorem dX9_init_92 : decode cX9_init 92 = .ok (.aload_n 0, 1) := by decide +kernel
theorem dX9_init_93 : decode cX9_init 93 = .ok (.bipush 105, 2) := by decide +kernel
theorem dX9_init_95 : decode cX9_init 95 = .ok (.newarray .int, 2) := by decide +kernel
theorem dX9_init_97 : decode cX9_init 97 = .ok (.putfield 44, 3) := by decide +kernel
theorem dX9_init_100 : decode cX9_init 100 = .ok (.aload_n 0, 1) := by decide +kernel
theorem dX9_init_101 : decode cX9_init 101 = .ok (.iconst 5, 1) := by decide +kernel
theorem dX9_init_102 : decode cX9_init 102 = .ok (.newarray .int, 2) := by decide +kernel
theorem dX9_init_104 : decode cX9_init 104 = .ok (.putfield 47, 3) := by decide +kernel
theorem dX9_init_107 : decode cX9_init 107 = .ok (.return_, 1) := by decide +kernel
theorem dX9_in_0 : decode cX9_in 0 = .ok (.iload_n 0, 1) := by decide +kernel
theorem dX9_in_1 : decode cX9_in 1 = .ok (.iload_n 1, 1) := by decide +kernel
theorem dX9_in_2 : decode cX9_in 2 = .ok (.if_icmp .lt 12, 3) := by decide +kernel
theorem dX9_in_5 : decode cX9_in 5 = .ok (.iload_n 0, 1) := by decide +kernel
theorem dX9_in_6 : decode cX9_in 6 = .ok (.iload_n 2, 1) := by decide +kernel
theorem dX9_in_7 : decode cX9_in 7 = .ok (.if_icmp .gt 7, 3) := by decide +kernel
theorem dX9_in_10 : decode cX9_in 10 = .ok (.iconst 1, 1) := by decide +kernel
theorem dX9_in_11 : decode cX9_in 11 = .ok (.goto 4, 3) := by decide +kernel
theorem dX9_in_14 : decode cX9_in 14 = .ok (.iconst 0, 1) := by decide +kernel
theorem dX9_in_15 : decode cX9_in 15 = .ok (.ireturn, 1) := by decide +kernel
theorem dX9_has_0 : decode cX9_has 0 = .ok (.iload_n 0, 1) := by decide +kernel
theorem dX9_has_1 : decode cX9_has 1 = .ok (.iload_n 1, 1) := by decide +kernel
theorem dX9_has_2 : decode cX9_has 2 = .ok (.ishr, 1) := by decide +kernel
theorem dX9_has_3 : decode cX9_has 3 = .ok (.iconst 1, 1) := by decide +kernel
theorem dX9_has_4 : decode cX9_has 4 = .ok (.iand, 1) := by decide +kernel
theorem dX9_has_5 : decode cX9_has 5 = .ok (.iconst 1, 1) := by decide +kernel
theorem dX9_has_6 : decode cX9_has 6 = .ok (.if_icmp .ne 7, 3) := by decide +kernel
theorem dX9_has_9 : decode cX9_has 9 = .ok (.iconst 1, 1) := by decide +kernel
theorem dX9_has_10 : decode cX9_has 10 = .ok (.goto 4, 3) := by decide +kernel
theorem dX9_has_13 : decode cX9_has 13 = .ok (.iconst 0, 1) := by decide +kernel
theorem dX9_has_14 : decode cX9_has 14 = .ok (.ireturn, 1) := by decide +kernel
theorem dX9_type_0 : decode cX9_type 0 = .ok (.iload_n 1, 1) := by decide +kernel
theorem dX9_type_1 : decode cX9_type 1 = .ok (.iconst 0, 1) := by decide +kernel
theorem dX9_type_2 : decode cX9_type 2 = .ok (.sipush 255, 3) := by decide +kernel
theorem dX9_type_5 : decode cX9_type 5 = .ok (.invokestatic 50, 3) := by decide +kernel
theorem dX9_type_8 : decode cX9_type 8 = .ok (.ifCond .ne 5, 3) := by decide +kernel
theorem dX9_type_11 : decode cX9_type 11 = .ok (.iconst (-1), 1) := by decide +kernel
theorem dX9_type_12 : decode cX9_type 12 = .ok (.ireturn, 1) := by decide +kernel
theorem dX9_type_13 : decode cX9_type 13 = .ok (.aload_n 0, 1) := by decide +kernel
theorem dX9_type_14 : decode cX9_type 14 = .ok (.getfield 54, 3) := by decide +kernel
theorem dX9_type_17 : decode cX9_type 17 = .ok (.bipush 90, 2) := by decide +kernel
theorem dX9_type_19 : decode cX9_type 19 = .ok (.if_icmp .ne 6, 3) := by decide +kernel
theorem dX9_type_22 : decode cX9_type 22 = .ok (.bipush (-3), 2) := by decide +kernel
theorem dX9_type_24 : decode cX9_type 24 = .ok (.ireturn, 1) := by decide +kernel
theorem dX9_type_25 : decode cX9_type 25 = .ok (.aload_n 0, 1) := by decide +kernel
theorem dX9_type_26 : decode cX9_type 26 = .ok (.getfield 26, 3) := by decide +kernel
theorem dX9_type_29 : decode cX9_type 29 = .ok (.aload_n 0, 1) := by decide +kernel
theorem dX9_type_30 : decode cX9_type 30 = .ok (.getfield 54, 3) := by decide +kernel
theorem dX9_type_33 : decode cX9_type 33 = .ok (.iload_n 1, 1) := by decide +kernel
theorem dX9_type_34 : decode cX9_type 34 = .ok (.iastore, 1) := by decide +kernel
theorem dX9_type_35 : decode cX9_type 35 = .ok (.aload_n 0, 1) := by decide +kernel
theorem dX9_type_36 : decode cX9_type 36 = .ok (.dup, 1) := by decide +kernel
theorem dX9_type_37 : decode cX9_type 37 = .ok (.getfield 54, 3) := by decide +kernel
theorem dX9_type_40 : decode cX9_type 40 = .ok (.iconst 1, 1) := by decide +kernel
theorem dX9_type_41 : decode cX9_type 41 = .ok (.iadd, 1) := by decide +kernel
theorem dX9_type_42 : decode cX9_type 42 = .ok (.putfield 54, 3) := by decide +kernel
theorem dX9_type_45 : decode cX9_type 45 = .ok (.aload_n 0, 1) := by decide +kernel
theorem dX9_type_46 : decode cX9_type 46 = .ok (.getfield 54, 3) := by decide +kernel
theorem dX9_type_49 : decode cX9_type 49 = .ok (.ireturn, 1) := by decide +kernel
theorem dX9_clear_0 : decode cX9_clear 0 = .ok (.aload_n 0, 1) := by decide +kernel
theorem dX9_clear_1 : decode cX9_clear 1 = .ok (.getfield 54, 3) := by decide +kernel
theorem dX9_clear_4 : decode cX9_clear 4 = .ok (.istore_n 1, 1) := by decide +kernel
theorem dX9_clear_5 : decode cX9_clear 5 = .ok (.aload_n 0, 1) := by decide +kernel
theorem dX9_clear_6 : decode cX9_clear 6 = .ok (.iconst 0, 1) := by decide +kernel
theorem dX9_clear_7 : decode cX9_clear 7 = .ok (.putfield 54, 3) := by decide +kernel
theorem dX9_clear_10 : decode cX9_clear 10 = .ok (.iload_n 1, 1) := by decide +kernel
theorem dX9_clear_11 : decode cX9_clear 11 = .ok (.ireturn, 1) := by decide +kernel
theorem dX9_blanks_0 : decode cX9_blanks 0 = .ok (.aload_n 0, 1) := by decide +kernel
theorem dX9_blanks_1 : decode cX9_blanks 1 = .ok (.getfield 58, 3) := by decide +kernel
theorem dX9_blanks_4 : decode cX9_blanks 4 = .ok (.aload_n 0, 1) := by decide +kernel
theorem dX9_blanks_5 : decode cX9_blanks 5 = .ok (.getfield 54, 3) := by decide +kernel
theorem dX9_blanks_8 : decode cX9_blanks 8 = .ok (.if_icmp .ge 30, 3) := by decide +kernel
theorem dX9_blanks_11 : decode cX9_blanks 11 = .ok (.aload_n 0, 1) := by decide +kernel
theorem dX9_blanks_12 : decode cX9_blanks 12 = .ok (.getfield 26, 3) := by decide +kernel
theorem dX9_blanks_15 : decode cX9_blanks 15 = .ok (.aload_n 0, 1) := by decide +kernel
theorem dX9_blanks_16 : decode cX9_blanks 16 = .ok (.getfield 58, 3) := by decide +kernel
theorem dX9_blanks_19 : decode cX9_blanks 19 = .ok (.iaload, 1) := by decide +kernel
theorem dX9_blanks_20 : decode cX9_blanks 20 = .ok (.bipush 32, 2) := by decide +kernel
theorem dX9_blanks_22 : decode cX9_blanks 22 = .ok (.if_icmp .ne 16, 3) := by decide +kernel
theorem dX9_blanks_25 : decode cX9_blanks 25 = .ok (.aload_n 0, 1) := by decide +kernel
theorem dX9_blanks_26 : decode cX9_blanks 26 = .ok (.dup, 1) := by decide +kernel
theorem dX9_blanks_27 : decode cX9_blanks 27 = .ok (.getfield 58, 3) := by decide +kernel
theorem dX9_blanks_30 : decode cX9_blanks 30 = .ok (.iconst 1, 1) := by decide +kernel
theorem dX9_blanks_31 : decode cX9_blanks 31 = .ok (.iadd, 1) := by decide +kernel
theorem dX9_blanks_32 : decode cX9_blanks 32 = .ok (.putfield 58, 3) := by decide +kernel
theorem dX9_blanks_35 : decode cX9_blanks 35 = .ok (.goto (-35), 3) := by decide +kernel
theorem dX9_blanks_38 : decode cX9_blanks 38 = .ok (.return_, 1) := by decide +kernel
theorem dX9_next_0 : decode cX9_next 0 = .ok (.aload_n 0, 1) := by decide +kernel
theorem dX9_next_1 : decode cX9_next 1 = .ok (.invokevirtual 61, 3) := by decide +kernel
theorem dX9_next_4 : decode cX9_next 4 = .ok (.aload_n 0, 1) := by decide +kernel
theorem dX9_next_5 : decode cX9_next 5 = .ok (.aload_n 0, 1) := by decide +kernel
theorem dX9_next_6 : decode cX9_next 6 = .ok (.getfield 58, 3) := by decide +kernel
theorem dX9_next_9 : decode cX9_next 9 = .ok (.putfield 64, 3) := by decide +kernel
theorem dX9_next_12 : decode cX9_next 12 = .ok (.aload_n 0, 1) := by decide +kernel
theorem dX9_next_13 : decode cX9_next 13 = .ok (.aload_n 0, 1) := by decide +kernel
theorem dX9_next_14 : decode cX9_next 14 = .ok (.getfield 58, 3) := by decide +kernel
theorem dX9_next_17 : decode cX9_next 17 = .ok (.aload_n 0, 1) := by decide +kernel
theorem dX9_next_18 : decode cX9_next 18 = .ok (.getfield 54, 3) := by decide +kernel
theorem dX9_next_21 : decode cX9_next 21 = .ok (.if_icmp .ne 7, 3) := by decide +kernel
theorem dX9_next_24 : decode cX9_next 24 = .ok (.iconst (-1), 1) := by decide +kernel
theorem dX9_next_25 : decode cX9_next 25 = .ok (.goto 12, 3) := by decide +kernel
theorem dX9_next_28 : decode cX9_next 28 = .ok (.aload_n 0, 1) := by decide +kernel
theorem dX9_next_29 : decode cX9_next 29 = .ok (.getfield 26, 3) := by decide +kernel
theorem dX9_next_32 : decode cX9_next 32 = .ok (.aload_n 0, 1) := by decide +kernel
theorem dX9_next_33 : decode cX9_next 33 = .ok (.getfield 58, 3) := by decide +kernel
theorem dX9_next_36 : decode cX9_next 36 = .ok (.iaload, 1) := by decide +kernel
theorem dX9_next_37 : decode cX9_next 37 = .ok (.putfield 67, 3) := by decide +kernel
theorem dX9_next_40 : decode cX9_next 40 = .ok (.aload_n 0, 1) := by decide +kernel
theorem dX9_next_41 : decode cX9_next 41 = .ok (.dup, 1) := by decide +kernel
theorem dX9_next_42 : decode cX9_next 42 = .ok (.getfield 58, 3) := by decide +kernel
theorem dX9_next_45 : decode cX9_next 45 = .ok (.aload_n 0, 1) := by decide +kernel
theorem dX9_next_46 : decode cX9_next 46 = .ok (.getfield 58, 3) := by decide +kernel
theorem dX9_next_49 : decode cX9_next 49 = .ok (.aload_n 0, 1) := by decide +kernel
theorem dX9_next_50 : decode cX9_next 50 = .ok (.getfield 54, 3) := by decide +kernel
theorem dX9_next_53 : decode cX9_next 53 = .ok (.if_icmp .ne 7, 3) := by decide +kernel
theorem dX9_next_56 : decode cX9_next 56 = .ok (.iconst 0, 1) := by decide +kernel
theorem dX9_next_57 : decode cX9_next 57 = .ok (.goto 4, 3) := by decide +kernel
theorem dX9_next_60 : decode cX9_next 60 = .ok (.iconst 1, 1) := by decide +kernel
theorem dX9_next_61 : decode cX9_next 61 = .ok (.iadd, 1) := by decide +kernel
theorem dX9_next_62 : decode cX9_next 62 = .ok (.putfield 58, 3) := by decide +kernel
theorem dX9_next_65 : decode cX9_next 65 = .ok (.return_, 1) := by decide +kernel
theorem dX9_readsCopy_0 : decode cX9_readsCopy 0 = .ok (.aload_n 0, 1) := by decide +kernel
theorem dX9_readsCopy_1 : decode cX9_readsCopy 1 = .ok (.invokevirtual 70, 3) := by decide +kernel
theorem dX9_readsCopy_4 : decode cX9_readsCopy 4 = .ok (.aload_n 0, 1) := by decide +kernel
theorem dX9_readsCopy_5 : decode cX9_readsCopy 5 = .ok (.getfield 67, 3) := by decide +kernel
theorem dX9_readsCopy_8 : decode cX9_readsCopy 8 = .ok (.bipush 109, 2) := by decide +kernel
theorem dX9_readsCopy_10 : decode cX9_readsCopy 10 = .ok (.if_icmp .ne 12, 3) := by decide +kernel
theorem dX9_readsCopy_13 : decode cX9_readsCopy 13 = .ok (.aload_n 0, 1) := by decide +kernel
theorem dX9_readsCopy_14 : decode cX9_readsCopy 14 = .ok (.getfield 73, 3) := by decide +kernel
theorem dX9_readsCopy_17 : decode cX9_readsCopy 17 = .ok (.bipush 6, 2) := by decide +kernel
theorem dX9_readsCopy_19 : decode cX9_readsCopy 19 = .ok (.if_icmp .ne 5, 3) := by decide +kernel
theorem dX9_readsCopy_22 : decode cX9_readsCopy 22 = .ok (.iconst 0, 1) := by decide +kernel
theorem dX9_readsCopy_23 : decode cX9_readsCopy 23 = .ok (.ireturn, 1) := by decide +kernel
theorem dX9_readsCopy_24 : decode cX9_readsCopy 24 = .ok (.iconst 0, 1) := by decide +kernel
theorem dX9_readsCopy_25 : decode cX9_readsCopy 25 = .ok (.istore_n 1, 1) := by decide +kernel
theorem dX9_readsCopy_26 : decode cX9_readsCopy 26 = .ok (.aload_n 0, 1) := by decide +kernel
theorem dX9_readsCopy_27 : decode cX9_readsCopy 27 = .ok (.invokevirtual 70, 3) := by decide +kernel
theorem dX9_readsCopy_30 : decode cX9_readsCopy 30 = .ok (.aload_n 0, 1) := by decide +kernel
theorem dX9_readsCopy_31 : decode cX9_readsCopy 31 = .ok (.getfield 67, 3) := by decide +kernel
theorem dX9_readsCopy_34 : decode cX9_readsCopy 34 = .ok (.bipush 59, 2) := by decide +kernel
theorem dX9_readsCopy_36 : decode cX9_readsCopy 36 = .ok (.if_icmp .eq 94, 3) := by decide +kernel
theorem dX9_readsCopy_39 : decode cX9_readsCopy 39 = .ok (.aload_n 0, 1) := by decide +kernel
theorem dX9_readsCopy_40 : decode cX9_readsCopy 40 = .ok (.getfield 73, 3) := by decide +kernel
theorem dX9_readsCopy_43 : decode cX9_readsCopy 43 = .ok (.ifCond .ne 8, 3) := by decide +kernel
theorem dX9_readsCopy_46 : decode cX9_readsCopy 46 = .ok (.bipush 8, 2) := by decide +kernel
theorem dX9_readsCopy_48 : decode cX9_readsCopy 48 = .ok (.goto 7, 3) := by decide +kernel
theorem dX9_readsCopy_51 : decode cX9_readsCopy 51 = .ok (.aload_n 0, 1) := by decide +kernel
theorem dX9_readsCopy_52 : decode cX9_readsCopy 52 = .ok (.getfield 76, 3) := by decide +kernel
theorem dX9_readsCopy_55 : decode cX9_readsCopy 55 = .ok (.istore_n 2, 1) := by decide +kernel
theorem dX9_readsCopy_56 : decode cX9_readsCopy 56 = .ok (.aload_n 0, 1) := by decide +kernel
theorem dX9_readsCopy_57 : decode cX9_readsCopy 57 = .ok (.getfield 67, 3) := by decide +kernel
theorem dX9_readsCopy_60 : decode cX9_readsCopy 60 = .ok (.bipush 97, 2) := by decide +kernel
theorem dX9_readsCopy_62 : decode cX9_readsCopy 62 = .ok (.bipush 100, 2) := by decide +kernel
theorem dX9_readsCopy_64 : decode cX9_readsCopy 64 = .ok (.invokestatic 50, 3) := by decide +kernel
theorem dX9_readsCopy_67 : decode cX9_readsCopy 67 = .ok (.ifCond .ne 12, 3) := by decide +kernel
theorem dX9_readsCopy_70 : decode cX9_readsCopy 70 = .ok (.aload_n 0, 1) := by decide +kernel
theorem dX9_readsCopy_71 : decode cX9_readsCopy 71 = .ok (.getfield 67, 3) := by decide +kernel
theorem dX9_readsCopy_74 : decode cX9_readsCopy 74 = .ok (.bipush 63, 2) := by decide +kernel
theorem dX9_readsCopy_76 : decode cX9_readsCopy 76 = .ok (.if_icmp .ne 8, 3) := by decide +kernel
theorem dX9_readsCopy_79 : decode cX9_readsCopy 79 = .ok (.iload_n 1, 1) := by decide +kernel
theorem dX9_readsCopy_80 : decode cX9_readsCopy 80 = .ok (.iload_n 2, 1) := by decide +kernel
theorem dX9_readsCopy_81 : decode cX9_readsCopy 81 = .ok (.if_icmp .ne 5, 3) := by decide +kernel
theorem dX9_readsCopy_84 : decode cX9_readsCopy 84 = .ok (.iconst 0, 1) := by decide +kernel
theorem dX9_readsCopy_85 : decode cX9_readsCopy 85 = .ok (.ireturn, 1) := by decide +kernel
theorem dX9_readsCopy_86 : decode cX9_readsCopy 86 = .ok (.aload_n 0, 1) := by decide +kernel
theorem dX9_readsCopy_87 : decode cX9_readsCopy 87 = .ok (.getfield 29, 3) := by decide +kernel
theorem dX9_readsCopy_90 : decode cX9_readsCopy 90 = .ok (.bipush 8, 2) := by decide +kernel
theorem dX9_readsCopy_92 : decode cX9_readsCopy 92 = .ok (.aload_n 0, 1) := by decide +kernel
theorem dX9_readsCopy_93 : decode cX9_readsCopy 93 = .ok (.getfield 73, 3) := by decide +kernel
theorem dX9_readsCopy_96 : decode cX9_readsCopy 96 = .ok (.imul, 1) := by decide +kernel
theorem dX9_readsCopy_97 : decode cX9_readsCopy 97 = .ok (.iload_n 1, 1) := by decide +kernel
theorem dX9_readsCopy_98 : decode cX9_readsCopy 98 = .ok (.iadd, 1) := by decide +kernel
theorem dX9_readsCopy_99 : decode cX9_readsCopy 99 = .ok (.aload_n 0, 1) := by decide +kernel
theorem dX9_readsCopy_100 : decode cX9_readsCopy 100 = .ok (.getfield 67, 3) := by decide +kernel
theorem dX9_readsCopy_103 : decode cX9_readsCopy 103 = .ok (.bipush 63, 2) := by decide +kernel
theorem dX9_readsCopy_105 : decode cX9_readsCopy 105 = .ok (.if_icmp .ne 7, 3) := by decide +kernel
theorem dX9_readsCopy_108 : decode cX9_readsCopy 108 = .ok (.iconst 4, 1) := by decide +kernel
theorem dX9_readsCopy_109 : decode cX9_readsCopy 109 = .ok (.goto 10, 3) := by decide +kernel
theorem dX9_readsCopy_112 : decode cX9_readsCopy 112 = .ok (.aload_n 0, 1) := by decide +kernel
theorem dX9_readsCopy_113 : decode cX9_readsCopy 113 = .ok (.getfield 67, 3) := by decide +kernel
theorem dX9_readsCopy_116 : decode cX9_readsCopy 116 = .ok (.bipush 97, 2) := by decide +kernel
theorem dX9_readsCopy_118 : decode cX9_readsCopy 118 = .ok (.isub, 1) := by decide +kernel
theorem dX9_readsCopy_119 : decode cX9_readsCopy 119 = .ok (.iastore, 1) := by decide +kernel
theorem dX9_readsCopy_120 : decode cX9_readsCopy 120 = .ok (.iinc 1 1, 3) := by decide +kernel
theorem dX9_readsCopy_123 : decode cX9_readsCopy 123 = .ok (.aload_n 0, 1) := by decide +kernel
theorem dX9_readsCopy_124 : decode cX9_readsCopy 124 = .ok (.invokevirtual 70, 3) := by decide +kernel
theorem dX9_readsCopy_127 : decode cX9_readsCopy 127 = .ok (.goto (-97), 3) := by decide +kernel
theorem dX9_readsCopy_130 : decode cX9_readsCopy 130 = .ok (.iload_n 1, 1) := by decide +kernel
theorem dX9_readsCopy_131 : decode cX9_readsCopy 131 = .ok (.ifCond .eq 18, 3) := by decide +kernel
theorem dX9_readsCopy_134 : decode cX9_readsCopy 134 = .ok (.aload_n 0, 1) := by decide +kernel
theorem dX9_readsCopy_135 : decode cX9_readsCopy 135 = .ok (.getfield 73, 3) := by decide +kernel
theorem dX9_readsCopy_138 : decode cX9_readsCopy 138 = .ok (.ifCond .le 13, 3) := by decide +kernel
theorem dX9_readsCopy_141 : decode cX9_readsCopy 141 = .ok (.iload_n 1, 1) := by decide +kernel
theorem dX9_readsCopy_142 : decode cX9_readsCopy 142 = .ok (.aload_n 0, 1) := by decide +kernel
theorem dX9_readsCopy_143 : decode cX9_readsCopy 143 = .ok (.getfield 76, 3) := by decide +kernel
theorem dX9_readsCopy_146 : decode cX9_readsCopy 146 = .ok (.if_icmp .ge 5, 3) := by decide +kernel
theorem dX9_readsCopy_149 : decode cX9_readsCopy 149 = .ok (.iconst 0, 1) := by decide +kernel
theorem dX9_readsCopy_150 : decode cX9_readsCopy 150 = .ok (.ireturn, 1) := by decide +kernel
theorem dX9_readsCopy_151 : decode cX9_readsCopy 151 = .ok (.aload_n 0, 1) := by decide +kernel
theorem dX9_readsCopy_152 : decode cX9_readsCopy 152 = .ok (.iload_n 1, 1) := by decide +kernel
theorem dX9_readsCopy_153 : decode cX9_readsCopy 153 = .ok (.putfield 76, 3) := by decide +kernel
theorem dX9_readsCopy_156 : decode cX9_readsCopy 156 = .ok (.aload_n 0, 1) := by decide +kernel
theorem dX9_readsCopy_157 : decode cX9_readsCopy 157 = .ok (.dup, 1) := by decide +kernel
theorem dX9_readsCopy_158 : decode cX9_readsCopy 158 = .ok (.getfield 73, 3) := by decide +kernel
theorem dX9_readsCopy_161 : decode cX9_readsCopy 161 = .ok (.iconst 1, 1) := by decide +kernel
theorem dX9_readsCopy_162 : decode cX9_readsCopy 162 = .ok (.iadd, 1) := by decide +kernel
theorem dX9_readsCopy_163 : decode cX9_readsCopy 163 = .ok (.putfield 73, 3) := by decide +kernel
theorem dX9_readsCopy_166 : decode cX9_readsCopy 166 = .ok (.iconst 1, 1) := by decide +kernel
theorem dX9_readsCopy_167 : decode cX9_readsCopy 167 = .ok (.ireturn, 1) := by decide +kernel
theorem dX9_copies_0 : decode cX9_copies 0 = .ok (.aload_n 0, 1) := by decide +kernel
theorem dX9_copies_1 : decode cX9_copies 1 = .ok (.iconst 0, 1) := by decide +kernel
theorem dX9_copies_2 : decode cX9_copies 2 = .ok (.putfield 58, 3) := by decide +kernel
theorem dX9_copies_5 : decode cX9_copies 5 = .ok (.aload_n 0, 1) := by decide +kernel
theorem dX9_copies_6 : decode cX9_copies 6 = .ok (.iconst 0, 1) := by decide +kernel
theorem dX9_copies_7 : decode cX9_copies 7 = .ok (.putfield 73, 3) := by decide +kernel
theorem dX9_copies_10 : decode cX9_copies 10 = .ok (.aload_n 0, 1) := by decide +kernel
theorem dX9_copies_11 : decode cX9_copies 11 = .ok (.iconst 0, 1) := by decide +kernel
theorem dX9_copies_12 : decode cX9_copies 12 = .ok (.putfield 76, 3) := by decide +kernel
theorem dX9_copies_15 : decode cX9_copies 15 = .ok (.aload_n 0, 1) := by decide +kernel
theorem dX9_copies_16 : decode cX9_copies 16 = .ok (.invokevirtual 61, 3) := by decide +kernel
theorem dX9_copies_19 : decode cX9_copies 19 = .ok (.aload_n 0, 1) := by decide +kernel
theorem dX9_copies_20 : decode cX9_copies 20 = .ok (.getfield 58, 3) := by decide +kernel
theorem dX9_copies_23 : decode cX9_copies 23 = .ok (.aload_n 0, 1) := by decide +kernel
theorem dX9_copies_24 : decode cX9_copies 24 = .ok (.getfield 54, 3) := by decide +kernel
theorem dX9_copies_27 : decode cX9_copies 27 = .ok (.if_icmp .ge 33, 3) := by decide +kernel
theorem dX9_copies_30 : decode cX9_copies 30 = .ok (.aload_n 0, 1) := by decide +kernel
theorem dX9_copies_31 : decode cX9_copies 31 = .ok (.invokevirtual 79, 3) := by decide +kernel
theorem dX9_copies_34 : decode cX9_copies 34 = .ok (.ifCond .ne 19, 3) := by decide +kernel
theorem dX9_copies_37 : decode cX9_copies 37 = .ok (.aload_n 0, 1) := by decide +kernel
theorem dX9_copies_38 : decode cX9_copies 38 = .ok (.aload_n 0, 1) := by decide +kernel
theorem dX9_copies_39 : decode cX9_copies 39 = .ok (.getfield 64, 3) := by decide +kernel
theorem dX9_copies_42 : decode cX9_copies 42 = .ok (.putfield 83, 3) := by decide +kernel
theorem dX9_copies_45 : decode cX9_copies 45 = .ok (.bipush (-10), 2) := by decide +kernel
theorem dX9_copies_47 : decode cX9_copies 47 = .ok (.aload_n 0, 1) := by decide +kernel
theorem dX9_copies_48 : decode cX9_copies 48 = .ok (.getfield 83, 3) := by decide +kernel
theorem dX9_copies_51 : decode cX9_copies 51 = .ok (.isub, 1) := by decide +kernel
theorem dX9_copies_52 : decode cX9_copies 52 = .ok (.ireturn, 1) := by decide +kernel
theorem dX9_copies_53 : decode cX9_copies 53 = .ok (.aload_n 0, 1) := by decide +kernel
theorem dX9_copies_54 : decode cX9_copies 54 = .ok (.invokevirtual 61, 3) := by decide +kernel
theorem dX9_copies_57 : decode cX9_copies 57 = .ok (.goto (-38), 3) := by decide +kernel
theorem dX9_copies_60 : decode cX9_copies 60 = .ok (.aload_n 0, 1) := by decide +kernel
theorem dX9_copies_61 : decode cX9_copies 61 = .ok (.iconst 0, 1) := by decide +kernel
theorem dX9_copies_62 : decode cX9_copies 62 = .ok (.putfield 54, 3) := by decide +kernel
theorem dX9_copies_65 : decode cX9_copies 65 = .ok (.aload_n 0, 1) := by decide +kernel
theorem dX9_copies_66 : decode cX9_copies 66 = .ok (.aload_n 0, 1) := by decide +kernel
theorem dX9_copies_67 : decode cX9_copies 67 = .ok (.getfield 73, 3) := by decide +kernel
theorem dX9_copies_70 : decode cX9_copies 70 = .ok (.putfield 86, 3) := by decide +kernel
theorem dX9_copies_73 : decode cX9_copies 73 = .ok (.aload_n 0, 1) := by decide +kernel
theorem dX9_copies_74 : decode cX9_copies 74 = .ok (.aload_n 0, 1) := by decide +kernel
theorem dX9_copies_75 : decode cX9_copies 75 = .ok (.getfield 76, 3) := by decide +kernel
theorem dX9_copies_78 : decode cX9_copies 78 = .ok (.putfield 89, 3) := by decide +kernel
theorem dX9_copies_81 : decode cX9_copies 81 = .ok (.iconst 0, 1) := by decide +kernel
theorem dX9_copies_82 : decode cX9_copies 82 = .ok (.istore_n 1, 1) := by decide +kernel
theorem dX9_copies_83 : decode cX9_copies 83 = .ok (.iload_n 1, 1) := by decide +kernel
theorem dX9_copies_84 : decode cX9_copies 84 = .ok (.bipush 48, 2) := by decide +kernel
theorem dX9_copies_86 : decode cX9_copies 86 = .ok (.if_icmp .ge 21, 3) := by decide +kernel
theorem dX9_copies_89 : decode cX9_copies 89 = .ok (.aload_n 0, 1) := by decide +kernel
theorem dX9_copies_90 : decode cX9_copies 90 = .ok (.getfield 7, 3) := by decide +kernel
theorem dX9_copies_93 : decode cX9_copies 93 = .ok (.iload_n 1, 1) := by decide +kernel
theorem dX9_copies_94 : decode cX9_copies 94 = .ok (.aload_n 0, 1) := by decide +kernel
theorem dX9_copies_95 : decode cX9_copies 95 = .ok (.getfield 29, 3) := by decide +kernel
theorem dX9_copies_98 : decode cX9_copies 98 = .ok (.iload_n 1, 1) := by decide +kernel
theorem dX9_copies_99 : decode cX9_copies 99 = .ok (.iaload, 1) := by decide +kernel
theorem dX9_copies_100 : decode cX9_copies 100 = .ok (.iastore, 1) := by decide +kernel
theorem dX9_copies_101 : decode cX9_copies 101 = .ok (.iinc 1 1, 3) := by decide +kernel
theorem dX9_copies_104 : decode cX9_copies 104 = .ok (.goto (-21), 3) := by decide +kernel
theorem dX9_copies_107 : decode cX9_copies 107 = .ok (.aload_n 0, 1) := by decide +kernel
theorem dX9_copies_108 : decode cX9_copies 108 = .ok (.getfield 7, 3) := by decide +kernel
theorem dX9_copies_111 : decode cX9_copies 111 = .ok (.bipush 48, 2) := by decide +kernel
theorem dX9_copies_113 : decode cX9_copies 113 = .ok (.iconst 0, 1) := by decide +kernel
theorem dX9_copies_114 : decode cX9_copies 114 = .ok (.iastore, 1) := by decide +kernel
theorem dX9_copies_115 : decode cX9_copies 115 = .ok (.aload_n 0, 1) := by decide +kernel
theorem dX9_copies_116 : decode cX9_copies 116 = .ok (.iconst 0, 1) := by decide +kernel
theorem dX9_copies_117 : decode cX9_copies 117 = .ok (.putfield 92, 3) := by decide +kernel
theorem dX9_copies_120 : decode cX9_copies 120 = .ok (.aload_n 0, 1) := by decide +kernel
theorem dX9_copies_121 : decode cX9_copies 121 = .ok (.iconst 0, 1) := by decide +kernel
theorem dX9_copies_122 : decode cX9_copies 122 = .ok (.putfield 95, 3) := by decide +kernel
theorem dX9_copies_125 : decode cX9_copies 125 = .ok (.aload_n 0, 1) := by decide +kernel
theorem dX9_copies_126 : decode cX9_copies 126 = .ok (.getfield 19, 3) := by decide +kernel
theorem dX9_copies_129 : decode cX9_copies 129 = .ok (.iconst 0, 1) := by decide +kernel
theorem dX9_copies_130 : decode cX9_copies 130 = .ok (.iconst 0, 1) := by decide +kernel
theorem dX9_copies_131 : decode cX9_copies 131 = .ok (.bastore, 1) := by decide +kernel
theorem dX9_copies_132 : decode cX9_copies 132 = .ok (.aload_n 0, 1) := by decide +kernel
theorem dX9_copies_133 : decode cX9_copies 133 = .ok (.getfield 19, 3) := by decide +kernel
theorem dX9_copies_136 : decode cX9_copies 136 = .ok (.iconst 1, 1) := by decide +kernel
theorem dX9_copies_137 : decode cX9_copies 137 = .ok (.iconst 0, 1) := by decide +kernel
theorem dX9_copies_138 : decode cX9_copies 138 = .ok (.bastore, 1) := by decide +kernel
theorem dX9_copies_139 : decode cX9_copies 139 = .ok (.aload_n 0, 1) := by decide +kernel
theorem dX9_copies_140 : decode cX9_copies 140 = .ok (.getfield 86, 3) := by decide +kernel
theorem dX9_copies_143 : decode cX9_copies 143 = .ok (.ireturn, 1) := by decide +kernel
theorem dX9_isCopy_0 : decode cX9_isCopy 0 = .ok (.iload_n 1, 1) := by decide +kernel
theorem dX9_isCopy_1 : decode cX9_isCopy 1 = .ok (.iconst 0, 1) := by decide +kernel
theorem dX9_isCopy_2 : decode cX9_isCopy 2 = .ok (.aload_n 0, 1) := by decide +kernel
theorem dX9_isCopy_3 : decode cX9_isCopy 3 = .ok (.getfield 86, 3) := by decide +kernel
theorem dX9_isCopy_6 : decode cX9_isCopy 6 = .ok (.iconst 1, 1) := by decide +kernel
theorem dX9_isCopy_7 : decode cX9_isCopy 7 = .ok (.isub, 1) := by decide +kernel
theorem dX9_isCopy_8 : decode cX9_isCopy 8 = .ok (.invokestatic 50, 3) := by decide +kernel
theorem dX9_isCopy_11 : decode cX9_isCopy 11 = .ok (.ireturn, 1) := by decide +kernel
theorem dX9_isPlace_0 : decode cX9_isPlace 0 = .ok (.iload_n 1, 1) := by decide +kernel
theorem dX9_isPlace_1 : decode cX9_isPlace 1 = .ok (.iconst 0, 1) := by decide +kernel
theorem dX9_isPlace_2 : decode cX9_isPlace 2 = .ok (.aload_n 0, 1) := by decide +kernel
theorem dX9_isPlace_3 : decode cX9_isPlace 3 = .ok (.getfield 89, 3) := by decide +kernel
theorem dX9_isPlace_6 : decode cX9_isPlace 6 = .ok (.iconst 1, 1) := by decide +kernel
theorem dX9_isPlace_7 : decode cX9_isPlace 7 = .ok (.isub, 1) := by decide +kernel
theorem dX9_isPlace_8 : decode cX9_isPlace 8 = .ok (.invokestatic 50, 3) := by decide +kernel
theorem dX9_isPlace_11 : decode cX9_isPlace 11 = .ok (.ireturn, 1) := by decide +kernel
theorem dX9_readingOf_0 : decode cX9_readingOf 0 = .ok (.aload_n 0, 1) := by decide +kernel
theorem dX9_readingOf_1 : decode cX9_readingOf 1 = .ok (.getfield 7, 3) := by decide +kernel
theorem dX9_readingOf_4 : decode cX9_readingOf 4 = .ok (.bipush 8, 2) := by decide +kernel
theorem dX9_readingOf_6 : decode cX9_readingOf 6 = .ok (.iload_n 1, 1) := by decide +kernel
theorem dX9_readingOf_7 : decode cX9_readingOf 7 = .ok (.imul, 1) := by decide +kernel
theorem dX9_readingOf_8 : decode cX9_readingOf 8 = .ok (.iload_n 2, 1) := by decide +kernel
theorem dX9_readingOf_9 : decode cX9_readingOf 9 = .ok (.iadd, 1) := by decide +kernel
theorem dX9_readingOf_10 : decode cX9_readingOf 10 = .ok (.iaload, 1) := by decide +kernel
theorem dX9_readingOf_11 : decode cX9_readingOf 11 = .ok (.ireturn, 1) := by decide +kernel
theorem dX9_reading_0 : decode cX9_reading 0 = .ok (.aload_n 0, 1) := by decide +kernel
theorem dX9_reading_1 : decode cX9_reading 1 = .ok (.iload_n 1, 1) := by decide +kernel
theorem dX9_reading_2 : decode cX9_reading 2 = .ok (.invokevirtual 98, 3) := by decide +kernel
theorem dX9_reading_5 : decode cX9_reading 5 = .ok (.ifCond .eq 11, 3) := by decide +kernel
theorem dX9_reading_8 : decode cX9_reading 8 = .ok (.aload_n 0, 1) := by decide +kernel
theorem dX9_reading_9 : decode cX9_reading 9 = .ok (.iload_n 2, 1) := by decide +kernel
theorem dX9_reading_10 : decode cX9_reading 10 = .ok (.invokevirtual 102, 3) := by decide +kernel
theorem dX9_reading_13 : decode cX9_reading 13 = .ok (.ifCond .ne 5, 3) := by decide +kernel
theorem dX9_reading_16 : decode cX9_reading 16 = .ok (.iconst (-1), 1) := by decide +kernel
theorem dX9_reading_17 : decode cX9_reading 17 = .ok (.ireturn, 1) := by decide +kernel
theorem dX9_reading_18 : decode cX9_reading 18 = .ok (.aload_n 0, 1) := by decide +kernel
theorem dX9_reading_19 : decode cX9_reading 19 = .ok (.iload_n 1, 1) := by decide +kernel
theorem dX9_reading_20 : decode cX9_reading 20 = .ok (.iload_n 2, 1) := by decide +kernel
theorem dX9_reading_21 : decode cX9_reading 21 = .ok (.invokevirtual 105, 3) := by decide +kernel
theorem dX9_reading_24 : decode cX9_reading 24 = .ok (.iconst 4, 1) := by decide +kernel
theorem dX9_reading_25 : decode cX9_reading 25 = .ok (.if_icmp .ne 8, 3) := by decide +kernel
theorem dX9_reading_28 : decode cX9_reading 28 = .ok (.bipush (-9), 2) := by decide +kernel
theorem dX9_reading_30 : decode cX9_reading 30 = .ok (.goto 9, 3) := by decide +kernel
theorem dX9_reading_33 : decode cX9_reading 33 = .ok (.aload_n 0, 1) := by decide +kernel
theorem dX9_reading_34 : decode cX9_reading 34 = .ok (.iload_n 1, 1) := by decide +kernel
theorem dX9_reading_35 : decode cX9_reading 35 = .ok (.iload_n 2, 1) := by decide +kernel
theorem dX9_reading_36 : decode cX9_reading 36 = .ok (.invokevirtual 105, 3) := by decide +kernel
theorem dX9_reading_39 : decode cX9_reading 39 = .ok (.ireturn, 1) := by decide +kernel
theorem dX9_trees_0 : decode cX9_trees 0 = .ok (.aload_n 0, 1) := by decide +kernel
theorem dX9_trees_1 : decode cX9_trees 1 = .ok (.getfield 86, 3) := by decide +kernel
theorem dX9_trees_4 : decode cX9_trees 4 = .ok (.iconst 4, 1) := by decide +kernel
theorem dX9_trees_5 : decode cX9_trees 5 = .ok (.if_icmp .ge 7, 3) := by decide +kernel
theorem dX9_trees_8 : decode cX9_trees 8 = .ok (.iconst 1, 1) := by decide +kernel
theorem dX9_trees_9 : decode cX9_trees 9 = .ok (.goto 30, 3) := by decide +kernel
theorem dX9_trees_12 : decode cX9_trees 12 = .ok (.aload_n 0, 1) := by decide +kernel
theorem dX9_trees_13 : decode cX9_trees 13 = .ok (.getfield 86, 3) := by decide +kernel
theorem dX9_trees_16 : decode cX9_trees 16 = .ok (.iconst 4, 1) := by decide +kernel
theorem dX9_trees_17 : decode cX9_trees 17 = .ok (.if_icmp .ne 7, 3) := by decide +kernel
theorem dX9_trees_20 : decode cX9_trees 20 = .ok (.iconst 3, 1) := by decide +kernel
theorem dX9_trees_21 : decode cX9_trees 21 = .ok (.goto 18, 3) := by decide +kernel
theorem dX9_trees_24 : decode cX9_trees 24 = .ok (.aload_n 0, 1) := by decide +kernel
theorem dX9_trees_25 : decode cX9_trees 25 = .ok (.getfield 86, 3) := by decide +kernel
theorem dX9_trees_28 : decode cX9_trees 28 = .ok (.iconst 5, 1) := by decide +kernel
theorem dX9_trees_29 : decode cX9_trees 29 = .ok (.if_icmp .ne 8, 3) := by decide +kernel
theorem dX9_trees_32 : decode cX9_trees 32 = .ok (.bipush 15, 2) := by decide +kernel
theorem dX9_trees_34 : decode cX9_trees 34 = .ok (.goto 5, 3) := by decide +kernel
theorem dX9_trees_37 : decode cX9_trees 37 = .ok (.bipush 105, 2) := by decide +kernel
theorem dX9_trees_39 : decode cX9_trees 39 = .ok (.ireturn, 1) := by decide +kernel
theorem dX9_edgeOf_0 : decode cX9_edgeOf 0 = .ok (.iload_n 1, 1) := by decide +kernel
theorem dX9_edgeOf_1 : decode cX9_edgeOf 1 = .ok (.iconst 3, 1) := by decide +kernel
theorem dX9_edgeOf_2 : decode cX9_edgeOf 2 = .ok (.if_icmp .ne 9, 3) := by decide +kernel
theorem dX9_edgeOf_5 : decode cX9_edgeOf 5 = .ok (.iload_n 0, 1) := by decide +kernel
theorem dX9_edgeOf_6 : decode cX9_edgeOf 6 = .ok (.iconst 3, 1) := by decide +kernel
theorem dX9_edgeOf_7 : decode cX9_edgeOf 7 = .ok (.irem, 1) := by decide +kernel
theorem dX9_edgeOf_8 : decode cX9_edgeOf 8 = .ok (.goto 20, 3) := by decide +kernel
theorem dX9_edgeOf_11 : decode cX9_edgeOf 11 = .ok (.iload_n 1, 1) := by decide +kernel
theorem dX9_edgeOf_12 : decode cX9_edgeOf 12 = .ok (.iconst 4, 1) := by decide +kernel
theorem dX9_edgeOf_13 : decode cX9_edgeOf 13 = .ok (.if_icmp .ne 11, 3) := by decide +kernel
theorem dX9_edgeOf_16 : decode cX9_edgeOf 16 = .ok (.iload_n 0, 1) := by decide +kernel
theorem dX9_edgeOf_17 : decode cX9_edgeOf 17 = .ok (.iconst 3, 1) := by decide +kernel
theorem dX9_edgeOf_18 : decode cX9_edgeOf 18 = .ok (.idiv, 1) := by decide +kernel
theorem dX9_edgeOf_19 : decode cX9_edgeOf 19 = .ok (.iconst 5, 1) := by decide +kernel
end
section
theorem dX9_edgeOf_20 : decode cX9_edgeOf 20 = .ok (.irem, 1) := by decide +kernel
theorem dX9_edgeOf_21 : decode cX9_edgeOf 21 = .ok (.goto 7, 3) := by decide +kernel
theorem dX9_edgeOf_24 : decode cX9_edgeOf 24 = .ok (.iload_n 0, 1) := by decide +kernel
theorem dX9_edgeOf_25 : decode cX9_edgeOf 25 = .ok (.bipush 15, 2) := by decide +kernel
theorem dX9_edgeOf_27 : decode cX9_edgeOf 27 = .ok (.idiv, 1) := by decide +kernel
theorem dX9_edgeOf_28 : decode cX9_edgeOf 28 = .ok (.ireturn, 1) := by decide +kernel
theorem dX9_edge_0 : decode cX9_edge 0 = .ok (.aload_n 0, 1) := by decide +kernel
theorem dX9_edge_1 : decode cX9_edge 1 = .ok (.getfield 32, 3) := by decide +kernel
theorem dX9_edge_4 : decode cX9_edge 4 = .ok (.aload_n 0, 1) := by decide +kernel
theorem dX9_edge_5 : decode cX9_edge 5 = .ok (.getfield 109, 3) := by decide +kernel
theorem dX9_edge_8 : decode cX9_edge 8 = .ok (.iload_n 1, 1) := by decide +kernel
theorem dX9_edge_9 : decode cX9_edge 9 = .ok (.iastore, 1) := by decide +kernel
theorem dX9_edge_10 : decode cX9_edge 10 = .ok (.aload_n 0, 1) := by decide +kernel
theorem dX9_edge_11 : decode cX9_edge 11 = .ok (.getfield 35, 3) := by decide +kernel
theorem dX9_edge_14 : decode cX9_edge 14 = .ok (.aload_n 0, 1) := by decide +kernel
theorem dX9_edge_15 : decode cX9_edge 15 = .ok (.getfield 109, 3) := by decide +kernel
theorem dX9_edge_18 : decode cX9_edge 18 = .ok (.iload_n 2, 1) := by decide +kernel
theorem dX9_edge_19 : decode cX9_edge 19 = .ok (.iastore, 1) := by decide +kernel
theorem dX9_edge_20 : decode cX9_edge 20 = .ok (.aload_n 0, 1) := by decide +kernel
theorem dX9_edge_21 : decode cX9_edge 21 = .ok (.dup, 1) := by decide +kernel
theorem dX9_edge_22 : decode cX9_edge 22 = .ok (.getfield 109, 3) := by decide +kernel
theorem dX9_edge_25 : decode cX9_edge 25 = .ok (.iconst 1, 1) := by decide +kernel
theorem dX9_edge_26 : decode cX9_edge 26 = .ok (.iadd, 1) := by decide +kernel
theorem dX9_edge_27 : decode cX9_edge 27 = .ok (.putfield 109, 3) := by decide +kernel
theorem dX9_edge_30 : decode cX9_edge 30 = .ok (.return_, 1) := by decide +kernel
theorem dX9_layTree_0 : decode cX9_layTree 0 = .ok (.aload_n 0, 1) := by decide +kernel
theorem dX9_layTree_1 : decode cX9_layTree 1 = .ok (.iconst 0, 1) := by decide +kernel
theorem dX9_layTree_2 : decode cX9_layTree 2 = .ok (.putfield 109, 3) := by decide +kernel
theorem dX9_layTree_5 : decode cX9_layTree 5 = .ok (.aload_n 0, 1) := by decide +kernel
theorem dX9_layTree_6 : decode cX9_layTree 6 = .ok (.aload_n 0, 1) := by decide +kernel
theorem dX9_layTree_7 : decode cX9_layTree 7 = .ok (.getfield 86, 3) := by decide +kernel
theorem dX9_layTree_10 : decode cX9_layTree 10 = .ok (.putfield 112, 3) := by decide +kernel
theorem dX9_layTree_13 : decode cX9_layTree 13 = .ok (.aload_n 0, 1) := by decide +kernel
theorem dX9_layTree_14 : decode cX9_layTree 14 = .ok (.getfield 86, 3) := by decide +kernel
theorem dX9_layTree_17 : decode cX9_layTree 17 = .ok (.iconst 2, 1) := by decide +kernel
theorem dX9_layTree_18 : decode cX9_layTree 18 = .ok (.if_icmp .ne 9, 3) := by decide +kernel
theorem dX9_layTree_21 : decode cX9_layTree 21 = .ok (.aload_n 0, 1) := by decide +kernel
theorem dX9_layTree_22 : decode cX9_layTree 22 = .ok (.iconst 0, 1) := by decide +kernel
theorem dX9_layTree_23 : decode cX9_layTree 23 = .ok (.iconst 1, 1) := by decide +kernel
theorem dX9_layTree_24 : decode cX9_layTree 24 = .ok (.invokevirtual 115, 3) := by decide +kernel
theorem dX9_layTree_27 : decode cX9_layTree 27 = .ok (.aload_n 0, 1) := by decide +kernel
theorem dX9_layTree_28 : decode cX9_layTree 28 = .ok (.getfield 86, 3) := by decide +kernel
theorem dX9_layTree_31 : decode cX9_layTree 31 = .ok (.iconst 3, 1) := by decide +kernel
theorem dX9_layTree_32 : decode cX9_layTree 32 = .ok (.if_icmp .ge 4, 3) := by decide +kernel
theorem dX9_layTree_35 : decode cX9_layTree 35 = .ok (.return_, 1) := by decide +kernel
theorem dX9_layTree_36 : decode cX9_layTree 36 = .ok (.aload_n 0, 1) := by decide +kernel
theorem dX9_layTree_37 : decode cX9_layTree 37 = .ok (.iconst 0, 1) := by decide +kernel
theorem dX9_layTree_38 : decode cX9_layTree 38 = .ok (.aload_n 0, 1) := by decide +kernel
theorem dX9_layTree_39 : decode cX9_layTree 39 = .ok (.getfield 86, 3) := by decide +kernel
theorem dX9_layTree_42 : decode cX9_layTree 42 = .ok (.invokevirtual 115, 3) := by decide +kernel
theorem dX9_layTree_45 : decode cX9_layTree 45 = .ok (.aload_n 0, 1) := by decide +kernel
theorem dX9_layTree_46 : decode cX9_layTree 46 = .ok (.iconst 1, 1) := by decide +kernel
theorem dX9_layTree_47 : decode cX9_layTree 47 = .ok (.aload_n 0, 1) := by decide +kernel
theorem dX9_layTree_48 : decode cX9_layTree 48 = .ok (.getfield 86, 3) := by decide +kernel
theorem dX9_layTree_51 : decode cX9_layTree 51 = .ok (.invokevirtual 115, 3) := by decide +kernel
theorem dX9_layTree_54 : decode cX9_layTree 54 = .ok (.aload_n 0, 1) := by decide +kernel
theorem dX9_layTree_55 : decode cX9_layTree 55 = .ok (.iconst 2, 1) := by decide +kernel
theorem dX9_layTree_56 : decode cX9_layTree 56 = .ok (.aload_n 0, 1) := by decide +kernel
theorem dX9_layTree_57 : decode cX9_layTree 57 = .ok (.getfield 86, 3) := by decide +kernel
theorem dX9_layTree_60 : decode cX9_layTree 60 = .ok (.invokevirtual 115, 3) := by decide +kernel
theorem dX9_layTree_63 : decode cX9_layTree 63 = .ok (.aload_n 0, 1) := by decide +kernel
theorem dX9_layTree_64 : decode cX9_layTree 64 = .ok (.dup, 1) := by decide +kernel
theorem dX9_layTree_65 : decode cX9_layTree 65 = .ok (.getfield 112, 3) := by decide +kernel
theorem dX9_layTree_68 : decode cX9_layTree 68 = .ok (.iconst 1, 1) := by decide +kernel
theorem dX9_layTree_69 : decode cX9_layTree 69 = .ok (.iadd, 1) := by decide +kernel
theorem dX9_layTree_70 : decode cX9_layTree 70 = .ok (.putfield 112, 3) := by decide +kernel
theorem dX9_layTree_73 : decode cX9_layTree 73 = .ok (.iconst 3, 1) := by decide +kernel
theorem dX9_layTree_74 : decode cX9_layTree 74 = .ok (.istore_n 2, 1) := by decide +kernel
theorem dX9_layTree_75 : decode cX9_layTree 75 = .ok (.iload_n 2, 1) := by decide +kernel
theorem dX9_layTree_76 : decode cX9_layTree 76 = .ok (.aload_n 0, 1) := by decide +kernel
theorem dX9_layTree_77 : decode cX9_layTree 77 = .ok (.getfield 86, 3) := by decide +kernel
theorem dX9_layTree_80 : decode cX9_layTree 80 = .ok (.if_icmp .ge 62, 3) := by decide +kernel
theorem dX9_layTree_83 : decode cX9_layTree 83 = .ok (.iload_n 1, 1) := by decide +kernel
theorem dX9_layTree_84 : decode cX9_layTree 84 = .ok (.iload_n 2, 1) := by decide +kernel
theorem dX9_layTree_85 : decode cX9_layTree 85 = .ok (.invokestatic 119, 3) := by decide +kernel
theorem dX9_layTree_88 : decode cX9_layTree 88 = .ok (.istore_n 3, 1) := by decide +kernel
theorem dX9_layTree_89 : decode cX9_layTree 89 = .ok (.aload_n 0, 1) := by decide +kernel
theorem dX9_layTree_90 : decode cX9_layTree 90 = .ok (.getfield 35, 3) := by decide +kernel
theorem dX9_layTree_93 : decode cX9_layTree 93 = .ok (.iload_n 3, 1) := by decide +kernel
theorem dX9_layTree_94 : decode cX9_layTree 94 = .ok (.iaload, 1) := by decide +kernel
theorem dX9_layTree_95 : decode cX9_layTree 95 = .ok (.istore 4, 2) := by decide +kernel
theorem dX9_layTree_97 : decode cX9_layTree 97 = .ok (.aload_n 0, 1) := by decide +kernel
theorem dX9_layTree_98 : decode cX9_layTree 98 = .ok (.getfield 35, 3) := by decide +kernel
theorem dX9_layTree_101 : decode cX9_layTree 101 = .ok (.iload_n 3, 1) := by decide +kernel
theorem dX9_layTree_102 : decode cX9_layTree 102 = .ok (.aload_n 0, 1) := by decide +kernel
theorem dX9_layTree_103 : decode cX9_layTree 103 = .ok (.getfield 112, 3) := by decide +kernel
theorem dX9_layTree_106 : decode cX9_layTree 106 = .ok (.iastore, 1) := by decide +kernel
theorem dX9_layTree_107 : decode cX9_layTree 107 = .ok (.aload_n 0, 1) := by decide +kernel
theorem dX9_layTree_108 : decode cX9_layTree 108 = .ok (.aload_n 0, 1) := by decide +kernel
theorem dX9_layTree_109 : decode cX9_layTree 109 = .ok (.getfield 112, 3) := by decide +kernel
theorem dX9_layTree_112 : decode cX9_layTree 112 = .ok (.iload 4, 2) := by decide +kernel
theorem dX9_layTree_114 : decode cX9_layTree 114 = .ok (.invokevirtual 115, 3) := by decide +kernel
theorem dX9_layTree_117 : decode cX9_layTree 117 = .ok (.aload_n 0, 1) := by decide +kernel
theorem dX9_layTree_118 : decode cX9_layTree 118 = .ok (.aload_n 0, 1) := by decide +kernel
theorem dX9_layTree_119 : decode cX9_layTree 119 = .ok (.getfield 112, 3) := by decide +kernel
theorem dX9_layTree_122 : decode cX9_layTree 122 = .ok (.iload_n 2, 1) := by decide +kernel
theorem dX9_layTree_123 : decode cX9_layTree 123 = .ok (.invokevirtual 115, 3) := by decide +kernel
theorem dX9_layTree_126 : decode cX9_layTree 126 = .ok (.aload_n 0, 1) := by decide +kernel
theorem dX9_layTree_127 : decode cX9_layTree 127 = .ok (.dup, 1) := by decide +kernel
theorem dX9_layTree_128 : decode cX9_layTree 128 = .ok (.getfield 112, 3) := by decide +kernel
theorem dX9_layTree_131 : decode cX9_layTree 131 = .ok (.iconst 1, 1) := by decide +kernel
theorem dX9_layTree_132 : decode cX9_layTree 132 = .ok (.iadd, 1) := by decide +kernel
theorem dX9_layTree_133 : decode cX9_layTree 133 = .ok (.putfield 112, 3) := by decide +kernel
theorem dX9_layTree_136 : decode cX9_layTree 136 = .ok (.iinc 2 1, 3) := by decide +kernel
theorem dX9_layTree_139 : decode cX9_layTree 139 = .ok (.goto (-64), 3) := by decide +kernel
theorem dX9_layTree_142 : decode cX9_layTree 142 = .ok (.return_, 1) := by decide +kernel
theorem dX9_between_0 : decode cX9_between 0 = .ok (.iload_n 0, 1) := by decide +kernel
theorem dX9_between_1 : decode cX9_between 1 = .ok (.iload_n 1, 1) := by decide +kernel
theorem dX9_between_2 : decode cX9_between 2 = .ok (.if_icmp .ne 7, 3) := by decide +kernel
theorem dX9_between_5 : decode cX9_between 5 = .ok (.iconst 0, 1) := by decide +kernel
theorem dX9_between_6 : decode cX9_between 6 = .ok (.goto 17, 3) := by decide +kernel
theorem dX9_between_9 : decode cX9_between 9 = .ok (.iload_n 2, 1) := by decide +kernel
theorem dX9_between_10 : decode cX9_between 10 = .ok (.ifCond .eq 12, 3) := by decide +kernel
theorem dX9_between_13 : decode cX9_between 13 = .ok (.iload_n 0, 1) := by decide +kernel
theorem dX9_between_14 : decode cX9_between 14 = .ok (.iload_n 1, 1) := by decide +kernel
theorem dX9_between_15 : decode cX9_between 15 = .ok (.if_icmp .le 7, 3) := by decide +kernel
theorem dX9_between_18 : decode cX9_between 18 = .ok (.iconst 2, 1) := by decide +kernel
theorem dX9_between_19 : decode cX9_between 19 = .ok (.goto 4, 3) := by decide +kernel
theorem dX9_between_22 : decode cX9_between 22 = .ok (.iconst 1, 1) := by decide +kernel
theorem dX9_between_23 : decode cX9_between 23 = .ok (.ireturn, 1) := by decide +kernel
theorem dX9_layLeaves_0 : decode cX9_layLeaves 0 = .ok (.iconst 0, 1) := by decide +kernel
theorem dX9_layLeaves_1 : decode cX9_layLeaves 1 = .ok (.istore_n 2, 1) := by decide +kernel
theorem dX9_layLeaves_2 : decode cX9_layLeaves 2 = .ok (.iload_n 2, 1) := by decide +kernel
theorem dX9_layLeaves_3 : decode cX9_layLeaves 3 = .ok (.aload_n 0, 1) := by decide +kernel
theorem dX9_layLeaves_4 : decode cX9_layLeaves 4 = .ok (.getfield 112, 3) := by decide +kernel
theorem dX9_layLeaves_7 : decode cX9_layLeaves 7 = .ok (.if_icmp .ge 79, 3) := by decide +kernel
theorem dX9_layLeaves_10 : decode cX9_layLeaves 10 = .ok (.iconst 0, 1) := by decide +kernel
theorem dX9_layLeaves_11 : decode cX9_layLeaves 11 = .ok (.istore_n 3, 1) := by decide +kernel
theorem dX9_layLeaves_12 : decode cX9_layLeaves 12 = .ok (.iload_n 3, 1) := by decide +kernel
theorem dX9_layLeaves_13 : decode cX9_layLeaves 13 = .ok (.iconst 4, 1) := by decide +kernel
theorem dX9_layLeaves_14 : decode cX9_layLeaves 14 = .ok (.if_icmp .ge 66, 3) := by decide +kernel
theorem dX9_layLeaves_17 : decode cX9_layLeaves 17 = .ok (.iload_n 2, 1) := by decide +kernel
theorem dX9_layLeaves_18 : decode cX9_layLeaves 18 = .ok (.aload_n 0, 1) := by decide +kernel
theorem dX9_layLeaves_19 : decode cX9_layLeaves 19 = .ok (.getfield 86, 3) := by decide +kernel
theorem dX9_layLeaves_22 : decode cX9_layLeaves 22 = .ok (.if_icmp .ge 23, 3) := by decide +kernel
theorem dX9_layLeaves_25 : decode cX9_layLeaves 25 = .ok (.aload_n 0, 1) := by decide +kernel
theorem dX9_layLeaves_26 : decode cX9_layLeaves 26 = .ok (.iload_n 2, 1) := by decide +kernel
theorem dX9_layLeaves_27 : decode cX9_layLeaves 27 = .ok (.iload_n 1, 1) := by decide +kernel
theorem dX9_layLeaves_28 : decode cX9_layLeaves 28 = .ok (.invokevirtual 105, 3) := by decide +kernel
theorem dX9_layLeaves_31 : decode cX9_layLeaves 31 = .ok (.iconst 4, 1) := by decide +kernel
theorem dX9_layLeaves_32 : decode cX9_layLeaves 32 = .ok (.if_icmp .eq 13, 3) := by decide +kernel
theorem dX9_layLeaves_35 : decode cX9_layLeaves 35 = .ok (.aload_n 0, 1) := by decide +kernel
theorem dX9_layLeaves_36 : decode cX9_layLeaves 36 = .ok (.iload_n 2, 1) := by decide +kernel
theorem dX9_layLeaves_37 : decode cX9_layLeaves 37 = .ok (.iload_n 1, 1) := by decide +kernel
theorem dX9_layLeaves_38 : decode cX9_layLeaves 38 = .ok (.invokevirtual 105, 3) := by decide +kernel
theorem dX9_layLeaves_41 : decode cX9_layLeaves 41 = .ok (.iload_n 3, 1) := by decide +kernel
theorem dX9_layLeaves_42 : decode cX9_layLeaves 42 = .ok (.if_icmp .ne 7, 3) := by decide +kernel
theorem dX9_layLeaves_45 : decode cX9_layLeaves 45 = .ok (.iconst 1, 1) := by decide +kernel
theorem dX9_layLeaves_46 : decode cX9_layLeaves 46 = .ok (.goto 4, 3) := by decide +kernel
theorem dX9_layLeaves_49 : decode cX9_layLeaves 49 = .ok (.iconst 0, 1) := by decide +kernel
theorem dX9_layLeaves_50 : decode cX9_layLeaves 50 = .ok (.istore 4, 2) := by decide +kernel
theorem dX9_layLeaves_52 : decode cX9_layLeaves 52 = .ok (.aload_n 0, 1) := by decide +kernel
theorem dX9_layLeaves_53 : decode cX9_layLeaves 53 = .ok (.getfield 38, 3) := by decide +kernel
theorem dX9_layLeaves_56 : decode cX9_layLeaves 56 = .ok (.iconst 4, 1) := by decide +kernel
theorem dX9_layLeaves_57 : decode cX9_layLeaves 57 = .ok (.iload_n 2, 1) := by decide +kernel
theorem dX9_layLeaves_58 : decode cX9_layLeaves 58 = .ok (.imul, 1) := by decide +kernel
theorem dX9_layLeaves_59 : decode cX9_layLeaves 59 = .ok (.iload_n 3, 1) := by decide +kernel
theorem dX9_layLeaves_60 : decode cX9_layLeaves 60 = .ok (.iadd, 1) := by decide +kernel
theorem dX9_layLeaves_61 : decode cX9_layLeaves 61 = .ok (.iload 4, 2) := by decide +kernel
theorem dX9_layLeaves_63 : decode cX9_layLeaves 63 = .ok (.ifCond .eq 7, 3) := by decide +kernel
theorem dX9_layLeaves_66 : decode cX9_layLeaves 66 = .ok (.iconst 0, 1) := by decide +kernel
theorem dX9_layLeaves_67 : decode cX9_layLeaves 67 = .ok (.goto 6, 3) := by decide +kernel
theorem dX9_layLeaves_70 : decode cX9_layLeaves 70 = .ok (.sipush 9999, 3) := by decide +kernel
theorem dX9_layLeaves_73 : decode cX9_layLeaves 73 = .ok (.iastore, 1) := by decide +kernel
theorem dX9_layLeaves_74 : decode cX9_layLeaves 74 = .ok (.iinc 3 1, 3) := by decide +kernel
theorem dX9_layLeaves_77 : decode cX9_layLeaves 77 = .ok (.goto (-65), 3) := by decide +kernel
theorem dX9_layLeaves_80 : decode cX9_layLeaves 80 = .ok (.iinc 2 1, 3) := by decide +kernel
theorem dX9_layLeaves_83 : decode cX9_layLeaves 83 = .ok (.goto (-81), 3) := by decide +kernel
theorem dX9_layLeaves_86 : decode cX9_layLeaves 86 = .ok (.return_, 1) := by decide +kernel
theorem dX9_least_0 : decode cX9_least 0 = .ok (.sipush 9999, 3) := by decide +kernel
theorem dX9_least_3 : decode cX9_least 3 = .ok (.istore_n 2, 1) := by decide +kernel
theorem dX9_least_4 : decode cX9_least 4 = .ok (.iconst 0, 1) := by decide +kernel
theorem dX9_least_5 : decode cX9_least 5 = .ok (.istore_n 3, 1) := by decide +kernel
theorem dX9_least_6 : decode cX9_least 6 = .ok (.iload_n 3, 1) := by decide +kernel
theorem dX9_least_7 : decode cX9_least 7 = .ok (.iconst 4, 1) := by decide +kernel
theorem dX9_least_8 : decode cX9_least 8 = .ok (.if_icmp .ge 38, 3) := by decide +kernel
theorem dX9_least_11 : decode cX9_least 11 = .ok (.aload_n 0, 1) := by decide +kernel
theorem dX9_least_12 : decode cX9_least 12 = .ok (.getfield 38, 3) := by decide +kernel
theorem dX9_least_15 : decode cX9_least 15 = .ok (.iconst 4, 1) := by decide +kernel
theorem dX9_least_16 : decode cX9_least 16 = .ok (.iload_n 1, 1) := by decide +kernel
theorem dX9_least_17 : decode cX9_least 17 = .ok (.imul, 1) := by decide +kernel
theorem dX9_least_18 : decode cX9_least 18 = .ok (.iload_n 3, 1) := by decide +kernel
theorem dX9_least_19 : decode cX9_least 19 = .ok (.iadd, 1) := by decide +kernel
theorem dX9_least_20 : decode cX9_least 20 = .ok (.iaload, 1) := by decide +kernel
theorem dX9_least_21 : decode cX9_least 21 = .ok (.iload_n 2, 1) := by decide +kernel
theorem dX9_least_22 : decode cX9_least 22 = .ok (.if_icmp .ge 16, 3) := by decide +kernel
theorem dX9_least_25 : decode cX9_least 25 = .ok (.aload_n 0, 1) := by decide +kernel
theorem dX9_least_26 : decode cX9_least 26 = .ok (.getfield 38, 3) := by decide +kernel
theorem dX9_least_29 : decode cX9_least 29 = .ok (.iconst 4, 1) := by decide +kernel
theorem dX9_least_30 : decode cX9_least 30 = .ok (.iload_n 1, 1) := by decide +kernel
theorem dX9_least_31 : decode cX9_least 31 = .ok (.imul, 1) := by decide +kernel
theorem dX9_least_32 : decode cX9_least 32 = .ok (.iload_n 3, 1) := by decide +kernel
theorem dX9_least_33 : decode cX9_least 33 = .ok (.iadd, 1) := by decide +kernel
theorem dX9_least_34 : decode cX9_least 34 = .ok (.iaload, 1) := by decide +kernel
theorem dX9_least_35 : decode cX9_least 35 = .ok (.goto 4, 3) := by decide +kernel
theorem dX9_least_38 : decode cX9_least 38 = .ok (.iload_n 2, 1) := by decide +kernel
theorem dX9_least_39 : decode cX9_least 39 = .ok (.istore_n 2, 1) := by decide +kernel
theorem dX9_least_40 : decode cX9_least 40 = .ok (.iinc 3 1, 3) := by decide +kernel
theorem dX9_least_43 : decode cX9_least 43 = .ok (.goto (-37), 3) := by decide +kernel
theorem dX9_least_46 : decode cX9_least 46 = .ok (.iload_n 2, 1) := by decide +kernel
theorem dX9_least_47 : decode cX9_least 47 = .ok (.ireturn, 1) := by decide +kernel
theorem dX9_takes_0 : decode cX9_takes 0 = .ok (.iconst 0, 1) := by decide +kernel
theorem dX9_takes_1 : decode cX9_takes 1 = .ok (.istore 4, 2) := by decide +kernel
theorem dX9_takes_3 : decode cX9_takes 3 = .ok (.iload 4, 2) := by decide +kernel
theorem dX9_takes_5 : decode cX9_takes 5 = .ok (.iconst 4, 1) := by decide +kernel
theorem dX9_takes_6 : decode cX9_takes 6 = .ok (.if_icmp .ge 83, 3) := by decide +kernel
theorem dX9_takes_9 : decode cX9_takes 9 = .ok (.sipush 9999, 3) := by decide +kernel
theorem dX9_takes_12 : decode cX9_takes 12 = .ok (.istore 5, 2) := by decide +kernel
theorem dX9_takes_14 : decode cX9_takes 14 = .ok (.iconst 0, 1) := by decide +kernel
theorem dX9_takes_15 : decode cX9_takes 15 = .ok (.istore 6, 2) := by decide +kernel
theorem dX9_takes_17 : decode cX9_takes 17 = .ok (.iload 6, 2) := by decide +kernel
theorem dX9_takes_19 : decode cX9_takes 19 = .ok (.iconst 4, 1) := by decide +kernel
theorem dX9_takes_20 : decode cX9_takes 20 = .ok (.if_icmp .ge 47, 3) := by decide +kernel
theorem dX9_takes_23 : decode cX9_takes 23 = .ok (.aload_n 0, 1) := by decide +kernel
theorem dX9_takes_24 : decode cX9_takes 24 = .ok (.getfield 38, 3) := by decide +kernel
theorem dX9_takes_27 : decode cX9_takes 27 = .ok (.iconst 4, 1) := by decide +kernel
theorem dX9_takes_28 : decode cX9_takes 28 = .ok (.iload_n 1, 1) := by decide +kernel
theorem dX9_takes_29 : decode cX9_takes 29 = .ok (.imul, 1) := by decide +kernel
theorem dX9_takes_30 : decode cX9_takes 30 = .ok (.iload 6, 2) := by decide +kernel
theorem dX9_takes_32 : decode cX9_takes 32 = .ok (.iadd, 1) := by decide +kernel
theorem dX9_takes_33 : decode cX9_takes 33 = .ok (.iaload, 1) := by decide +kernel
theorem dX9_takes_34 : decode cX9_takes 34 = .ok (.iload 4, 2) := by decide +kernel
theorem dX9_takes_36 : decode cX9_takes 36 = .ok (.iload 6, 2) := by decide +kernel
theorem dX9_takes_38 : decode cX9_takes 38 = .ok (.iload_n 3, 1) := by decide +kernel
theorem dX9_takes_39 : decode cX9_takes 39 = .ok (.invokestatic 122, 3) := by decide +kernel
theorem dX9_takes_42 : decode cX9_takes 42 = .ok (.iadd, 1) := by decide +kernel
theorem dX9_takes_43 : decode cX9_takes 43 = .ok (.istore 7, 2) := by decide +kernel
theorem dX9_takes_45 : decode cX9_takes 45 = .ok (.iload 7, 2) := by decide +kernel
theorem dX9_takes_47 : decode cX9_takes 47 = .ok (.iload 5, 2) := by decide +kernel
theorem dX9_takes_49 : decode cX9_takes 49 = .ok (.if_icmp .ge 8, 3) := by decide +kernel
theorem dX9_takes_52 : decode cX9_takes 52 = .ok (.iload 7, 2) := by decide +kernel
theorem dX9_takes_54 : decode cX9_takes 54 = .ok (.goto 5, 3) := by decide +kernel
theorem dX9_takes_57 : decode cX9_takes 57 = .ok (.iload 5, 2) := by decide +kernel
theorem dX9_takes_59 : decode cX9_takes 59 = .ok (.istore 5, 2) := by decide +kernel
theorem dX9_takes_61 : decode cX9_takes 61 = .ok (.iinc 6 1, 3) := by decide +kernel
theorem dX9_takes_64 : decode cX9_takes 64 = .ok (.goto (-47), 3) := by decide +kernel
theorem dX9_takes_67 : decode cX9_takes 67 = .ok (.aload_n 0, 1) := by decide +kernel
theorem dX9_takes_68 : decode cX9_takes 68 = .ok (.getfield 38, 3) := by decide +kernel
theorem dX9_takes_71 : decode cX9_takes 71 = .ok (.iconst 4, 1) := by decide +kernel
theorem dX9_takes_72 : decode cX9_takes 72 = .ok (.iload_n 2, 1) := by decide +kernel
theorem dX9_takes_73 : decode cX9_takes 73 = .ok (.imul, 1) := by decide +kernel
theorem dX9_takes_74 : decode cX9_takes 74 = .ok (.iload 4, 2) := by decide +kernel
theorem dX9_takes_76 : decode cX9_takes 76 = .ok (.iadd, 1) := by decide +kernel
theorem dX9_takes_77 : decode cX9_takes 77 = .ok (.dup2, 1) := by decide +kernel
theorem dX9_takes_78 : decode cX9_takes 78 = .ok (.iaload, 1) := by decide +kernel
theorem dX9_takes_79 : decode cX9_takes 79 = .ok (.iload 5, 2) := by decide +kernel
theorem dX9_takes_81 : decode cX9_takes 81 = .ok (.iadd, 1) := by decide +kernel
theorem dX9_takes_82 : decode cX9_takes 82 = .ok (.iastore, 1) := by decide +kernel
theorem dX9_takes_83 : decode cX9_takes 83 = .ok (.iinc 4 1, 3) := by decide +kernel
theorem dX9_takes_86 : decode cX9_takes 86 = .ok (.goto (-83), 3) := by decide +kernel
theorem dX9_takes_89 : decode cX9_takes 89 = .ok (.return_, 1) := by decide +kernel
theorem dX9_lastEdge_0 : decode cX9_lastEdge 0 = .ok (.bipush (-9), 2) := by decide +kernel
theorem dX9_lastEdge_2 : decode cX9_lastEdge 2 = .ok (.istore_n 2, 1) := by decide +kernel
theorem dX9_lastEdge_3 : decode cX9_lastEdge 3 = .ok (.iconst 0, 1) := by decide +kernel
theorem dX9_lastEdge_4 : decode cX9_lastEdge 4 = .ok (.istore_n 3, 1) := by decide +kernel
theorem dX9_lastEdge_5 : decode cX9_lastEdge 5 = .ok (.iload_n 3, 1) := by decide +kernel
theorem dX9_lastEdge_6 : decode cX9_lastEdge 6 = .ok (.aload_n 0, 1) := by decide +kernel
theorem dX9_lastEdge_7 : decode cX9_lastEdge 7 = .ok (.getfield 109, 3) := by decide +kernel
theorem dX9_lastEdge_10 : decode cX9_lastEdge 10 = .ok (.if_icmp .ge 49, 3) := by decide +kernel
theorem dX9_lastEdge_13 : decode cX9_lastEdge 13 = .ok (.aload_n 0, 1) := by decide +kernel
theorem dX9_lastEdge_14 : decode cX9_lastEdge 14 = .ok (.getfield 41, 3) := by decide +kernel
theorem dX9_lastEdge_17 : decode cX9_lastEdge 17 = .ok (.iload_n 3, 1) := by decide +kernel
theorem dX9_lastEdge_18 : decode cX9_lastEdge 18 = .ok (.baload, 1) := by decide +kernel
theorem dX9_lastEdge_19 : decode cX9_lastEdge 19 = .ok (.ifCond .ne 34, 3) := by decide +kernel
theorem dX9_lastEdge_22 : decode cX9_lastEdge 22 = .ok (.aload_n 0, 1) := by decide +kernel
theorem dX9_lastEdge_23 : decode cX9_lastEdge 23 = .ok (.getfield 32, 3) := by decide +kernel
theorem dX9_lastEdge_26 : decode cX9_lastEdge 26 = .ok (.iload_n 3, 1) := by decide +kernel
theorem dX9_lastEdge_27 : decode cX9_lastEdge 27 = .ok (.iaload, 1) := by decide +kernel
theorem dX9_lastEdge_28 : decode cX9_lastEdge 28 = .ok (.iload_n 1, 1) := by decide +kernel
theorem dX9_lastEdge_29 : decode cX9_lastEdge 29 = .ok (.if_icmp .eq 13, 3) := by decide +kernel
theorem dX9_lastEdge_32 : decode cX9_lastEdge 32 = .ok (.aload_n 0, 1) := by decide +kernel
theorem dX9_lastEdge_33 : decode cX9_lastEdge 33 = .ok (.getfield 35, 3) := by decide +kernel
theorem dX9_lastEdge_36 : decode cX9_lastEdge 36 = .ok (.iload_n 3, 1) := by decide +kernel
theorem dX9_lastEdge_37 : decode cX9_lastEdge 37 = .ok (.iaload, 1) := by decide +kernel
theorem dX9_lastEdge_38 : decode cX9_lastEdge 38 = .ok (.iload_n 1, 1) := by decide +kernel
theorem dX9_lastEdge_39 : decode cX9_lastEdge 39 = .ok (.if_icmp .ne 14, 3) := by decide +kernel
theorem dX9_lastEdge_42 : decode cX9_lastEdge 42 = .ok (.iload_n 2, 1) := by decide +kernel
theorem dX9_lastEdge_43 : decode cX9_lastEdge 43 = .ok (.bipush (-9), 2) := by decide +kernel
theorem dX9_lastEdge_45 : decode cX9_lastEdge 45 = .ok (.if_icmp .eq 6, 3) := by decide +kernel
theorem dX9_lastEdge_48 : decode cX9_lastEdge 48 = .ok (.bipush (-9), 2) := by decide +kernel
theorem dX9_lastEdge_50 : decode cX9_lastEdge 50 = .ok (.ireturn, 1) := by decide +kernel
theorem dX9_lastEdge_51 : decode cX9_lastEdge 51 = .ok (.iload_n 3, 1) := by decide +kernel
theorem dX9_lastEdge_52 : decode cX9_lastEdge 52 = .ok (.istore_n 2, 1) := by decide +kernel
theorem dX9_lastEdge_53 : decode cX9_lastEdge 53 = .ok (.iinc 3 1, 3) := by decide +kernel
theorem dX9_lastEdge_56 : decode cX9_lastEdge 56 = .ok (.goto (-51), 3) := by decide +kernel
theorem dX9_lastEdge_59 : decode cX9_lastEdge 59 = .ok (.iload_n 2, 1) := by decide +kernel
theorem dX9_lastEdge_60 : decode cX9_lastEdge 60 = .ok (.ireturn, 1) := by decide +kernel
theorem dX9_costFrom_0 : decode cX9_costFrom 0 = .ok (.aload_n 0, 1) := by decide +kernel
theorem dX9_costFrom_1 : decode cX9_costFrom 1 = .ok (.iload_n 2, 1) := by decide +kernel
theorem dX9_costFrom_2 : decode cX9_costFrom 2 = .ok (.invokevirtual 126, 3) := by decide +kernel
theorem dX9_costFrom_5 : decode cX9_costFrom 5 = .ok (.iconst 0, 1) := by decide +kernel
theorem dX9_costFrom_6 : decode cX9_costFrom 6 = .ok (.istore 4, 2) := by decide +kernel
theorem dX9_costFrom_8 : decode cX9_costFrom 8 = .ok (.iload 4, 2) := by decide +kernel
theorem dX9_costFrom_10 : decode cX9_costFrom 10 = .ok (.aload_n 0, 1) := by decide +kernel
theorem dX9_costFrom_11 : decode cX9_costFrom 11 = .ok (.getfield 109, 3) := by decide +kernel
theorem dX9_costFrom_14 : decode cX9_costFrom 14 = .ok (.if_icmp .ge 17, 3) := by decide +kernel
theorem dX9_costFrom_17 : decode cX9_costFrom 17 = .ok (.aload_n 0, 1) := by decide +kernel
theorem dX9_costFrom_18 : decode cX9_costFrom 18 = .ok (.getfield 41, 3) := by decide +kernel
theorem dX9_costFrom_21 : decode cX9_costFrom 21 = .ok (.iload 4, 2) := by decide +kernel
theorem dX9_costFrom_23 : decode cX9_costFrom 23 = .ok (.iconst 0, 1) := by decide +kernel
theorem dX9_costFrom_24 : decode cX9_costFrom 24 = .ok (.bastore, 1) := by decide +kernel
theorem dX9_costFrom_25 : decode cX9_costFrom 25 = .ok (.iinc 4 1, 3) := by decide +kernel
theorem dX9_costFrom_28 : decode cX9_costFrom 28 = .ok (.goto (-20), 3) := by decide +kernel
theorem dX9_costFrom_31 : decode cX9_costFrom 31 = .ok (.iconst 0, 1) := by decide +kernel
theorem dX9_costFrom_32 : decode cX9_costFrom 32 = .ok (.istore 4, 2) := by decide +kernel
theorem dX9_costFrom_34 : decode cX9_costFrom 34 = .ok (.iload 4, 2) := by decide +kernel
theorem dX9_costFrom_36 : decode cX9_costFrom 36 = .ok (.aload_n 0, 1) := by decide +kernel
theorem dX9_costFrom_37 : decode cX9_costFrom 37 = .ok (.getfield 109, 3) := by decide +kernel
theorem dX9_costFrom_40 : decode cX9_costFrom 40 = .ok (.if_icmp .ge 97, 3) := by decide +kernel
theorem dX9_costFrom_43 : decode cX9_costFrom 43 = .ok (.iconst 0, 1) := by decide +kernel
theorem dX9_costFrom_44 : decode cX9_costFrom 44 = .ok (.istore 5, 2) := by decide +kernel
theorem dX9_costFrom_46 : decode cX9_costFrom 46 = .ok (.iload 5, 2) := by decide +kernel
theorem dX9_costFrom_48 : decode cX9_costFrom 48 = .ok (.aload_n 0, 1) := by decide +kernel
theorem dX9_costFrom_49 : decode cX9_costFrom 49 = .ok (.getfield 112, 3) := by decide +kernel
theorem dX9_costFrom_52 : decode cX9_costFrom 52 = .ok (.if_icmp .ge 82, 3) := by decide +kernel
theorem dX9_costFrom_55 : decode cX9_costFrom 55 = .ok (.iload 5, 2) := by decide +kernel
theorem dX9_costFrom_57 : decode cX9_costFrom 57 = .ok (.iload_n 1, 1) := by decide +kernel
theorem dX9_costFrom_58 : decode cX9_costFrom 58 = .ok (.if_icmp .ne 8, 3) := by decide +kernel
theorem dX9_costFrom_61 : decode cX9_costFrom 61 = .ok (.bipush (-9), 2) := by decide +kernel
theorem dX9_costFrom_63 : decode cX9_costFrom 63 = .ok (.goto 9, 3) := by decide +kernel
theorem dX9_costFrom_66 : decode cX9_costFrom 66 = .ok (.aload_n 0, 1) := by decide +kernel
theorem dX9_costFrom_67 : decode cX9_costFrom 67 = .ok (.iload 5, 2) := by decide +kernel
theorem dX9_costFrom_69 : decode cX9_costFrom 69 = .ok (.invokevirtual 130, 3) := by decide +kernel
theorem dX9_costFrom_72 : decode cX9_costFrom 72 = .ok (.istore 6, 2) := by decide +kernel
theorem dX9_costFrom_74 : decode cX9_costFrom 74 = .ok (.iload 6, 2) := by decide +kernel
theorem dX9_costFrom_76 : decode cX9_costFrom 76 = .ok (.bipush (-9), 2) := by decide +kernel
theorem dX9_costFrom_78 : decode cX9_costFrom 78 = .ok (.if_icmp .eq 50, 3) := by decide +kernel
theorem dX9_costFrom_81 : decode cX9_costFrom 81 = .ok (.aload_n 0, 1) := by decide +kernel
theorem dX9_costFrom_82 : decode cX9_costFrom 82 = .ok (.iload 5, 2) := by decide +kernel
theorem dX9_costFrom_84 : decode cX9_costFrom 84 = .ok (.aload_n 0, 1) := by decide +kernel
theorem dX9_costFrom_85 : decode cX9_costFrom 85 = .ok (.getfield 32, 3) := by decide +kernel
theorem dX9_costFrom_88 : decode cX9_costFrom 88 = .ok (.iload 6, 2) := by decide +kernel
theorem dX9_costFrom_90 : decode cX9_costFrom 90 = .ok (.iaload, 1) := by decide +kernel
theorem dX9_costFrom_91 : decode cX9_costFrom 91 = .ok (.iload 5, 2) := by decide +kernel
theorem dX9_costFrom_93 : decode cX9_costFrom 93 = .ok (.if_icmp .ne 13, 3) := by decide +kernel
theorem dX9_costFrom_96 : decode cX9_costFrom 96 = .ok (.aload_n 0, 1) := by decide +kernel
theorem dX9_costFrom_97 : decode cX9_costFrom 97 = .ok (.getfield 35, 3) := by decide +kernel
theorem dX9_costFrom_100 : decode cX9_costFrom 100 = .ok (.iload 6, 2) := by decide +kernel
theorem dX9_costFrom_102 : decode cX9_costFrom 102 = .ok (.iaload, 1) := by decide +kernel
theorem dX9_costFrom_103 : decode cX9_costFrom 103 = .ok (.goto 10, 3) := by decide +kernel
theorem dX9_costFrom_106 : decode cX9_costFrom 106 = .ok (.aload_n 0, 1) := by decide +kernel
theorem dX9_costFrom_107 : decode cX9_costFrom 107 = .ok (.getfield 32, 3) := by decide +kernel
theorem dX9_costFrom_110 : decode cX9_costFrom 110 = .ok (.iload 6, 2) := by decide +kernel
theorem dX9_costFrom_112 : decode cX9_costFrom 112 = .ok (.iaload, 1) := by decide +kernel
theorem dX9_costFrom_113 : decode cX9_costFrom 113 = .ok (.iload_n 3, 1) := by decide +kernel
theorem dX9_costFrom_114 : decode cX9_costFrom 114 = .ok (.invokevirtual 134, 3) := by decide +kernel
theorem dX9_costFrom_117 : decode cX9_costFrom 117 = .ok (.aload_n 0, 1) := by decide +kernel
theorem dX9_costFrom_118 : decode cX9_costFrom 118 = .ok (.getfield 41, 3) := by decide +kernel
theorem dX9_costFrom_121 : decode cX9_costFrom 121 = .ok (.iload 6, 2) := by decide +kernel
theorem dX9_costFrom_123 : decode cX9_costFrom 123 = .ok (.iconst 1, 1) := by decide +kernel
theorem dX9_costFrom_124 : decode cX9_costFrom 124 = .ok (.bastore, 1) := by decide +kernel
theorem dX9_costFrom_125 : decode cX9_costFrom 125 = .ok (.iinc 4 1, 3) := by decide +kernel
theorem dX9_costFrom_128 : decode cX9_costFrom 128 = .ok (.iinc 5 1, 3) := by decide +kernel
theorem dX9_costFrom_131 : decode cX9_costFrom 131 = .ok (.goto (-85), 3) := by decide +kernel
theorem dX9_costFrom_134 : decode cX9_costFrom 134 = .ok (.goto (-100), 3) := by decide +kernel
theorem dX9_costFrom_137 : decode cX9_costFrom 137 = .ok (.aload_n 0, 1) := by decide +kernel
theorem dX9_costFrom_138 : decode cX9_costFrom 138 = .ok (.iload_n 1, 1) := by decide +kernel
theorem dX9_costFrom_139 : decode cX9_costFrom 139 = .ok (.invokevirtual 138, 3) := by decide +kernel
theorem dX9_costFrom_142 : decode cX9_costFrom 142 = .ok (.ireturn, 1) := by decide +kernel
theorem dX9_changesAt_0 : decode cX9_changesAt 0 = .ok (.aload_n 0, 1) := by decide +kernel
theorem dX9_changesAt_1 : decode cX9_changesAt 1 = .ok (.getfield 86, 3) := by decide +kernel
theorem dX9_changesAt_4 : decode cX9_changesAt 4 = .ok (.ifCond .ne 7, 3) := by decide +kernel
theorem dX9_changesAt_7 : decode cX9_changesAt 7 = .ok (.iconst 0, 1) := by decide +kernel
theorem dX9_changesAt_8 : decode cX9_changesAt 8 = .ok (.goto 10, 3) := by decide +kernel
theorem dX9_changesAt_11 : decode cX9_changesAt 11 = .ok (.aload_n 0, 1) := by decide +kernel
theorem dX9_changesAt_12 : decode cX9_changesAt 12 = .ok (.iconst 0, 1) := by decide +kernel
theorem dX9_changesAt_13 : decode cX9_changesAt 13 = .ok (.iload_n 1, 1) := by decide +kernel
theorem dX9_changesAt_14 : decode cX9_changesAt 14 = .ok (.iconst 0, 1) := by decide +kernel
theorem dX9_changesAt_15 : decode cX9_changesAt 15 = .ok (.invokevirtual 141, 3) := by decide +kernel
theorem dX9_changesAt_18 : decode cX9_changesAt 18 = .ok (.ireturn, 1) := by decide +kernel
theorem dX9_changesOf_0 : decode cX9_changesOf 0 = .ok (.aload_n 0, 1) := by decide +kernel
theorem dX9_changesOf_1 : decode cX9_changesOf 1 = .ok (.iload_n 1, 1) := by decide +kernel
theorem dX9_changesOf_2 : decode cX9_changesOf 2 = .ok (.invokevirtual 144, 3) := by decide +kernel
theorem dX9_changesOf_5 : decode cX9_changesOf 5 = .ok (.iconst 0, 1) := by decide +kernel
theorem dX9_changesOf_6 : decode cX9_changesOf 6 = .ok (.istore_n 2, 1) := by decide +kernel
theorem dX9_changesOf_7 : decode cX9_changesOf 7 = .ok (.iconst 0, 1) := by decide +kernel
theorem dX9_changesOf_8 : decode cX9_changesOf 8 = .ok (.istore_n 3, 1) := by decide +kernel
theorem dX9_changesOf_9 : decode cX9_changesOf 9 = .ok (.iload_n 3, 1) := by decide +kernel
theorem dX9_changesOf_10 : decode cX9_changesOf 10 = .ok (.aload_n 0, 1) := by decide +kernel
theorem dX9_changesOf_11 : decode cX9_changesOf 11 = .ok (.getfield 89, 3) := by decide +kernel
theorem dX9_changesOf_14 : decode cX9_changesOf 14 = .ok (.if_icmp .ge 17, 3) := by decide +kernel
theorem dX9_changesOf_17 : decode cX9_changesOf 17 = .ok (.iload_n 2, 1) := by decide +kernel
theorem dX9_changesOf_18 : decode cX9_changesOf 18 = .ok (.aload_n 0, 1) := by decide +kernel
theorem dX9_changesOf_19 : decode cX9_changesOf 19 = .ok (.iload_n 3, 1) := by decide +kernel
theorem dX9_changesOf_20 : decode cX9_changesOf 20 = .ok (.invokevirtual 147, 3) := by decide +kernel
theorem dX9_changesOf_23 : decode cX9_changesOf 23 = .ok (.iadd, 1) := by decide +kernel
theorem dX9_changesOf_24 : decode cX9_changesOf 24 = .ok (.istore_n 2, 1) := by decide +kernel
theorem dX9_changesOf_25 : decode cX9_changesOf 25 = .ok (.iinc 3 1, 3) := by decide +kernel
theorem dX9_changesOf_28 : decode cX9_changesOf 28 = .ok (.goto (-19), 3) := by decide +kernel
theorem dX9_changesOf_31 : decode cX9_changesOf 31 = .ok (.iload_n 2, 1) := by decide +kernel
theorem dX9_changesOf_32 : decode cX9_changesOf 32 = .ok (.ireturn, 1) := by decide +kernel
theorem dX9_isTree_0 : decode cX9_isTree 0 = .ok (.iload_n 1, 1) := by decide +kernel
theorem dX9_isTree_1 : decode cX9_isTree 1 = .ok (.iconst 0, 1) := by decide +kernel
theorem dX9_isTree_2 : decode cX9_isTree 2 = .ok (.aload_n 0, 1) := by decide +kernel
theorem dX9_isTree_3 : decode cX9_isTree 3 = .ok (.invokevirtual 150, 3) := by decide +kernel
theorem dX9_isTree_6 : decode cX9_isTree 6 = .ok (.iconst 1, 1) := by decide +kernel
theorem dX9_isTree_7 : decode cX9_isTree 7 = .ok (.isub, 1) := by decide +kernel
theorem dX9_isTree_8 : decode cX9_isTree 8 = .ok (.invokestatic 50, 3) := by decide +kernel
theorem dX9_isTree_11 : decode cX9_isTree 11 = .ok (.ireturn, 1) := by decide +kernel
theorem dX9_changes_0 : decode cX9_changes 0 = .ok (.aload_n 0, 1) := by decide +kernel
theorem dX9_changes_1 : decode cX9_changes 1 = .ok (.iload_n 1, 1) := by decide +kernel
theorem dX9_changes_2 : decode cX9_changes 2 = .ok (.invokevirtual 154, 3) := by decide +kernel
theorem dX9_changes_5 : decode cX9_changes 5 = .ok (.ifCond .eq 16, 3) := by decide +kernel
theorem dX9_changes_8 : decode cX9_changes 8 = .ok (.iload_n 2, 1) := by decide +kernel
theorem dX9_changes_9 : decode cX9_changes 9 = .ok (.iconst (-1), 1) := by decide +kernel
theorem dX9_changes_10 : decode cX9_changes 10 = .ok (.if_icmp .eq 13, 3) := by decide +kernel
theorem dX9_changes_13 : decode cX9_changes 13 = .ok (.aload_n 0, 1) := by decide +kernel
theorem dX9_changes_14 : decode cX9_changes 14 = .ok (.iload_n 2, 1) := by decide +kernel
theorem dX9_changes_15 : decode cX9_changes 15 = .ok (.invokevirtual 102, 3) := by decide +kernel
theorem dX9_changes_18 : decode cX9_changes 18 = .ok (.ifCond .ne 5, 3) := by decide +kernel
theorem dX9_changes_21 : decode cX9_changes 21 = .ok (.iconst (-1), 1) := by decide +kernel
theorem dX9_changes_22 : decode cX9_changes 22 = .ok (.ireturn, 1) := by decide +kernel
theorem dX9_changes_23 : decode cX9_changes 23 = .ok (.iload_n 2, 1) := by decide +kernel
theorem dX9_changes_24 : decode cX9_changes 24 = .ok (.iconst (-1), 1) := by decide +kernel
theorem dX9_changes_25 : decode cX9_changes 25 = .ok (.if_icmp .ne 9, 3) := by decide +kernel
theorem dX9_changes_28 : decode cX9_changes 28 = .ok (.aload_n 0, 1) := by decide +kernel
theorem dX9_changes_29 : decode cX9_changes 29 = .ok (.iload_n 1, 1) := by decide +kernel
theorem dX9_changes_30 : decode cX9_changes 30 = .ok (.invokevirtual 157, 3) := by decide +kernel
theorem dX9_changes_33 : decode cX9_changes 33 = .ok (.ireturn, 1) := by decide +kernel
theorem dX9_changes_34 : decode cX9_changes 34 = .ok (.aload_n 0, 1) := by decide +kernel
theorem dX9_changes_35 : decode cX9_changes 35 = .ok (.iload_n 1, 1) := by decide +kernel
theorem dX9_changes_36 : decode cX9_changes 36 = .ok (.invokevirtual 144, 3) := by decide +kernel
theorem dX9_changes_39 : decode cX9_changes 39 = .ok (.aload_n 0, 1) := by decide +kernel
theorem dX9_changes_40 : decode cX9_changes 40 = .ok (.iload_n 2, 1) := by decide +kernel
theorem dX9_changes_41 : decode cX9_changes 41 = .ok (.invokevirtual 147, 3) := by decide +kernel
theorem dX9_changes_44 : decode cX9_changes 44 = .ok (.ireturn, 1) := by decide +kernel
theorem dX9_directedOf_0 : decode cX9_directedOf 0 = .ok (.aload_n 0, 1) := by decide +kernel
theorem dX9_directedOf_1 : decode cX9_directedOf 1 = .ok (.iload_n 1, 1) := by decide +kernel
theorem dX9_directedOf_2 : decode cX9_directedOf 2 = .ok (.invokevirtual 144, 3) := by decide +kernel
theorem dX9_directedOf_5 : decode cX9_directedOf 5 = .ok (.aload_n 0, 1) := by decide +kernel
theorem dX9_directedOf_6 : decode cX9_directedOf 6 = .ok (.getfield 35, 3) := by decide +kernel
theorem dX9_directedOf_9 : decode cX9_directedOf 9 = .ok (.iload_n 2, 1) := by decide +kernel
theorem dX9_directedOf_10 : decode cX9_directedOf 10 = .ok (.iaload, 1) := by decide +kernel
theorem dX9_directedOf_11 : decode cX9_directedOf 11 = .ok (.istore_n 3, 1) := by decide +kernel
theorem dX9_directedOf_12 : decode cX9_directedOf 12 = .ok (.aload_n 0, 1) := by decide +kernel
theorem dX9_directedOf_13 : decode cX9_directedOf 13 = .ok (.getfield 35, 3) := by decide +kernel
theorem dX9_directedOf_16 : decode cX9_directedOf 16 = .ok (.iload_n 2, 1) := by decide +kernel
theorem dX9_directedOf_17 : decode cX9_directedOf 17 = .ok (.aload_n 0, 1) := by decide +kernel
theorem dX9_directedOf_18 : decode cX9_directedOf 18 = .ok (.getfield 112, 3) := by decide +kernel
theorem dX9_directedOf_21 : decode cX9_directedOf 21 = .ok (.iastore, 1) := by decide +kernel
theorem dX9_directedOf_22 : decode cX9_directedOf 22 = .ok (.aload_n 0, 1) := by decide +kernel
theorem dX9_directedOf_23 : decode cX9_directedOf 23 = .ok (.aload_n 0, 1) := by decide +kernel
theorem dX9_directedOf_24 : decode cX9_directedOf 24 = .ok (.getfield 112, 3) := by decide +kernel
theorem dX9_directedOf_27 : decode cX9_directedOf 27 = .ok (.iload_n 3, 1) := by decide +kernel
theorem dX9_directedOf_28 : decode cX9_directedOf 28 = .ok (.invokevirtual 115, 3) := by decide +kernel
theorem dX9_directedOf_31 : decode cX9_directedOf 31 = .ok (.aload_n 0, 1) := by decide +kernel
theorem dX9_directedOf_32 : decode cX9_directedOf 32 = .ok (.dup, 1) := by decide +kernel
theorem dX9_directedOf_33 : decode cX9_directedOf 33 = .ok (.getfield 112, 3) := by decide +kernel
theorem dX9_directedOf_36 : decode cX9_directedOf 36 = .ok (.iconst 1, 1) := by decide +kernel
theorem dX9_directedOf_37 : decode cX9_directedOf 37 = .ok (.iadd, 1) := by decide +kernel
theorem dX9_directedOf_38 : decode cX9_directedOf 38 = .ok (.putfield 112, 3) := by decide +kernel
theorem dX9_directedOf_41 : decode cX9_directedOf 41 = .ok (.iconst 0, 1) := by decide +kernel
theorem dX9_directedOf_42 : decode cX9_directedOf 42 = .ok (.istore 4, 2) := by decide +kernel
theorem dX9_directedOf_44 : decode cX9_directedOf 44 = .ok (.iconst 0, 1) := by decide +kernel
theorem dX9_directedOf_45 : decode cX9_directedOf 45 = .ok (.istore 5, 2) := by decide +kernel
theorem dX9_directedOf_47 : decode cX9_directedOf 47 = .ok (.iload 5, 2) := by decide +kernel
theorem dX9_directedOf_49 : decode cX9_directedOf 49 = .ok (.aload_n 0, 1) := by decide +kernel
theorem dX9_directedOf_50 : decode cX9_directedOf 50 = .ok (.getfield 89, 3) := by decide +kernel
theorem dX9_directedOf_53 : decode cX9_directedOf 53 = .ok (.if_icmp .ge 27, 3) := by decide +kernel
theorem dX9_directedOf_56 : decode cX9_directedOf 56 = .ok (.iload 4, 2) := by decide +kernel
theorem dX9_directedOf_58 : decode cX9_directedOf 58 = .ok (.aload_n 0, 1) := by decide +kernel
theorem dX9_directedOf_59 : decode cX9_directedOf 59 = .ok (.aload_n 0, 1) := by decide +kernel
theorem dX9_directedOf_60 : decode cX9_directedOf 60 = .ok (.getfield 112, 3) := by decide +kernel
theorem dX9_directedOf_63 : decode cX9_directedOf 63 = .ok (.iconst 1, 1) := by decide +kernel
theorem dX9_directedOf_64 : decode cX9_directedOf 64 = .ok (.isub, 1) := by decide +kernel
theorem dX9_directedOf_65 : decode cX9_directedOf 65 = .ok (.iload 5, 2) := by decide +kernel
theorem dX9_directedOf_67 : decode cX9_directedOf 67 = .ok (.iconst 1, 1) := by decide +kernel
theorem dX9_directedOf_68 : decode cX9_directedOf 68 = .ok (.invokevirtual 141, 3) := by decide +kernel
theorem dX9_directedOf_71 : decode cX9_directedOf 71 = .ok (.iadd, 1) := by decide +kernel
theorem dX9_directedOf_72 : decode cX9_directedOf 72 = .ok (.istore 4, 2) := by decide +kernel
theorem dX9_directedOf_74 : decode cX9_directedOf 74 = .ok (.iinc 5 1, 3) := by decide +kernel
theorem dX9_directedOf_77 : decode cX9_directedOf 77 = .ok (.goto (-30), 3) := by decide +kernel
theorem dX9_directedOf_80 : decode cX9_directedOf 80 = .ok (.iload 4, 2) := by decide +kernel
theorem dX9_directedOf_82 : decode cX9_directedOf 82 = .ok (.ireturn, 1) := by decide +kernel
theorem dX9_edges_0 : decode cX9_edges 0 = .ok (.aload_n 0, 1) := by decide +kernel
theorem dX9_edges_1 : decode cX9_edges 1 = .ok (.getfield 86, 3) := by decide +kernel
theorem dX9_edges_4 : decode cX9_edges 4 = .ok (.iconst 2, 1) := by decide +kernel
theorem dX9_edges_5 : decode cX9_edges 5 = .ok (.if_icmp .ge 7, 3) := by decide +kernel
theorem dX9_edges_8 : decode cX9_edges 8 = .ok (.iconst 0, 1) := by decide +kernel
theorem dX9_edges_9 : decode cX9_edges 9 = .ok (.goto 23, 3) := by decide +kernel
theorem dX9_edges_12 : decode cX9_edges 12 = .ok (.aload_n 0, 1) := by decide +kernel
theorem dX9_edges_13 : decode cX9_edges 13 = .ok (.getfield 86, 3) := by decide +kernel
theorem dX9_edges_16 : decode cX9_edges 16 = .ok (.iconst 2, 1) := by decide +kernel
theorem dX9_edges_17 : decode cX9_edges 17 = .ok (.if_icmp .ne 7, 3) := by decide +kernel
theorem dX9_edges_20 : decode cX9_edges 20 = .ok (.iconst 1, 1) := by decide +kernel
theorem dX9_edges_21 : decode cX9_edges 21 = .ok (.goto 11, 3) := by decide +kernel
theorem dX9_edges_24 : decode cX9_edges 24 = .ok (.iconst 2, 1) := by decide +kernel
theorem dX9_edges_25 : decode cX9_edges 25 = .ok (.aload_n 0, 1) := by decide +kernel
theorem dX9_edges_26 : decode cX9_edges 26 = .ok (.getfield 86, 3) := by decide +kernel
theorem dX9_edges_29 : decode cX9_edges 29 = .ok (.imul, 1) := by decide +kernel
theorem dX9_edges_30 : decode cX9_edges 30 = .ok (.iconst 3, 1) := by decide +kernel
theorem dX9_edges_31 : decode cX9_edges 31 = .ok (.isub, 1) := by decide +kernel
theorem dX9_edges_32 : decode cX9_edges 32 = .ok (.ireturn, 1) := by decide +kernel
theorem dX9_directed_0 : decode cX9_directed 0 = .ok (.aload_n 0, 1) := by decide +kernel
theorem dX9_directed_1 : decode cX9_directed 1 = .ok (.iload_n 1, 1) := by decide +kernel
theorem dX9_directed_2 : decode cX9_directed 2 = .ok (.invokevirtual 154, 3) := by decide +kernel
theorem dX9_directed_5 : decode cX9_directed 5 = .ok (.ifCond .eq 26, 3) := by decide +kernel
theorem dX9_directed_8 : decode cX9_directed 8 = .ok (.iload_n 2, 1) := by decide +kernel
theorem dX9_directed_9 : decode cX9_directed 9 = .ok (.iconst 0, 1) := by decide +kernel
theorem dX9_directed_10 : decode cX9_directed 10 = .ok (.aload_n 0, 1) := by decide +kernel
theorem dX9_directed_11 : decode cX9_directed 11 = .ok (.invokevirtual 160, 3) := by decide +kernel
theorem dX9_directed_14 : decode cX9_directed 14 = .ok (.iconst 1, 1) := by decide +kernel
theorem dX9_directed_15 : decode cX9_directed 15 = .ok (.isub, 1) := by decide +kernel
theorem dX9_directed_16 : decode cX9_directed 16 = .ok (.invokestatic 50, 3) := by decide +kernel
theorem dX9_directed_19 : decode cX9_directed 19 = .ok (.ifCond .eq 12, 3) := by decide +kernel
theorem dX9_directed_22 : decode cX9_directed 22 = .ok (.aload_n 0, 1) := by decide +kernel
theorem dX9_directed_23 : decode cX9_directed 23 = .ok (.iload_n 1, 1) := by decide +kernel
theorem dX9_directed_24 : decode cX9_directed 24 = .ok (.iload_n 2, 1) := by decide +kernel
theorem dX9_directed_25 : decode cX9_directed 25 = .ok (.invokevirtual 163, 3) := by decide +kernel
theorem dX9_directed_28 : decode cX9_directed 28 = .ok (.goto 4, 3) := by decide +kernel
theorem dX9_directed_31 : decode cX9_directed 31 = .ok (.iconst (-1), 1) := by decide +kernel
theorem dX9_directed_32 : decode cX9_directed 32 = .ok (.ireturn, 1) := by decide +kernel
theorem dX9_root_0 : decode cX9_root 0 = .ok (.aload_n 0, 1) := by decide +kernel
theorem dX9_root_1 : decode cX9_root 1 = .ok (.iload_n 1, 1) := by decide +kernel
theorem dX9_root_2 : decode cX9_root 2 = .ok (.invokevirtual 154, 3) := by decide +kernel
theorem dX9_root_5 : decode cX9_root 5 = .ok (.ifCond .ne 5, 3) := by decide +kernel
theorem dX9_root_8 : decode cX9_root 8 = .ok (.iconst (-1), 1) := by decide +kernel
theorem dX9_root_9 : decode cX9_root 9 = .ok (.ireturn, 1) := by decide +kernel
theorem dX9_root_10 : decode cX9_root 10 = .ok (.bipush (-9), 2) := by decide +kernel
theorem dX9_root_12 : decode cX9_root 12 = .ok (.istore_n 2, 1) := by decide +kernel
theorem dX9_root_13 : decode cX9_root 13 = .ok (.sipush 9999, 3) := by decide +kernel
theorem dX9_root_16 : decode cX9_root 16 = .ok (.istore_n 3, 1) := by decide +kernel
theorem dX9_root_17 : decode cX9_root 17 = .ok (.iconst 0, 1) := by decide +kernel
theorem dX9_root_18 : decode cX9_root 18 = .ok (.istore 4, 2) := by decide +kernel
theorem dX9_root_20 : decode cX9_root 20 = .ok (.iload 4, 2) := by decide +kernel
theorem dX9_root_22 : decode cX9_root 22 = .ok (.aload_n 0, 1) := by decide +kernel
theorem dX9_root_23 : decode cX9_root 23 = .ok (.invokevirtual 160, 3) := by decide +kernel
theorem dX9_root_26 : decode cX9_root 26 = .ok (.if_icmp .ge 44, 3) := by decide +kernel
theorem dX9_root_29 : decode cX9_root 29 = .ok (.aload_n 0, 1) := by decide +kernel
theorem dX9_root_30 : decode cX9_root 30 = .ok (.iload_n 1, 1) := by decide +kernel
theorem dX9_root_31 : decode cX9_root 31 = .ok (.iload 4, 2) := by decide +kernel
theorem dX9_root_33 : decode cX9_root 33 = .ok (.invokevirtual 163, 3) := by decide +kernel
theorem dX9_root_36 : decode cX9_root 36 = .ok (.istore 5, 2) := by decide +kernel
theorem dX9_root_38 : decode cX9_root 38 = .ok (.iload 5, 2) := by decide +kernel
theorem dX9_root_40 : decode cX9_root 40 = .ok (.iload_n 3, 1) := by decide +kernel
theorem dX9_root_41 : decode cX9_root 41 = .ok (.if_icmp .ge 8, 3) := by decide +kernel
theorem dX9_root_44 : decode cX9_root 44 = .ok (.iload 4, 2) := by decide +kernel
theorem dX9_root_46 : decode cX9_root 46 = .ok (.goto 4, 3) := by decide +kernel
theorem dX9_root_49 : decode cX9_root 49 = .ok (.iload_n 2, 1) := by decide +kernel
theorem dX9_root_50 : decode cX9_root 50 = .ok (.istore_n 2, 1) := by decide +kernel
theorem dX9_root_51 : decode cX9_root 51 = .ok (.iload 5, 2) := by decide +kernel
theorem dX9_root_53 : decode cX9_root 53 = .ok (.iload_n 3, 1) := by decide +kernel
theorem dX9_root_54 : decode cX9_root 54 = .ok (.if_icmp .ge 8, 3) := by decide +kernel
theorem dX9_root_57 : decode cX9_root 57 = .ok (.iload 5, 2) := by decide +kernel
theorem dX9_root_59 : decode cX9_root 59 = .ok (.goto 4, 3) := by decide +kernel
theorem dX9_root_62 : decode cX9_root 62 = .ok (.iload_n 3, 1) := by decide +kernel
theorem dX9_root_63 : decode cX9_root 63 = .ok (.istore_n 3, 1) := by decide +kernel
theorem dX9_root_64 : decode cX9_root 64 = .ok (.iinc 4 1, 3) := by decide +kernel
theorem dX9_root_67 : decode cX9_root 67 = .ok (.goto (-47), 3) := by decide +kernel
theorem dX9_root_70 : decode cX9_root 70 = .ok (.iload_n 2, 1) := by decide +kernel
theorem dX9_root_71 : decode cX9_root 71 = .ok (.ireturn, 1) := by decide +kernel
theorem dX9_fewest_0 : decode cX9_fewest 0 = .ok (.sipush 9999, 3) := by decide +kernel
theorem dX9_fewest_3 : decode cX9_fewest 3 = .ok (.istore_n 1, 1) := by decide +kernel
theorem dX9_fewest_4 : decode cX9_fewest 4 = .ok (.iconst 0, 1) := by decide +kernel
theorem dX9_fewest_5 : decode cX9_fewest 5 = .ok (.istore_n 2, 1) := by decide +kernel
theorem dX9_fewest_6 : decode cX9_fewest 6 = .ok (.iload_n 2, 1) := by decide +kernel
theorem dX9_fewest_7 : decode cX9_fewest 7 = .ok (.aload_n 0, 1) := by decide +kernel
theorem dX9_fewest_8 : decode cX9_fewest 8 = .ok (.invokevirtual 150, 3) := by decide +kernel
theorem dX9_fewest_11 : decode cX9_fewest 11 = .ok (.if_icmp .ge 41, 3) := by decide +kernel
theorem dX9_fewest_14 : decode cX9_fewest 14 = .ok (.aload_n 0, 1) := by decide +kernel
theorem dX9_fewest_15 : decode cX9_fewest 15 = .ok (.getfield 44, 3) := by decide +kernel
theorem dX9_fewest_18 : decode cX9_fewest 18 = .ok (.iload_n 2, 1) := by decide +kernel
theorem dX9_fewest_19 : decode cX9_fewest 19 = .ok (.aload_n 0, 1) := by decide +kernel
theorem dX9_fewest_20 : decode cX9_fewest 20 = .ok (.iload_n 2, 1) := by decide +kernel
theorem dX9_fewest_21 : decode cX9_fewest 21 = .ok (.invokevirtual 157, 3) := by decide +kernel
theorem dX9_fewest_24 : decode cX9_fewest 24 = .ok (.iastore, 1) := by decide +kernel
theorem dX9_fewest_25 : decode cX9_fewest 25 = .ok (.aload_n 0, 1) := by decide +kernel
theorem dX9_fewest_26 : decode cX9_fewest 26 = .ok (.getfield 44, 3) := by decide +kernel
theorem dX9_fewest_29 : decode cX9_fewest 29 = .ok (.iload_n 2, 1) := by decide +kernel
theorem dX9_fewest_30 : decode cX9_fewest 30 = .ok (.iaload, 1) := by decide +kernel
theorem dX9_fewest_31 : decode cX9_fewest 31 = .ok (.iload_n 1, 1) := by decide +kernel
theorem dX9_fewest_32 : decode cX9_fewest 32 = .ok (.if_icmp .ge 12, 3) := by decide +kernel
theorem dX9_fewest_35 : decode cX9_fewest 35 = .ok (.aload_n 0, 1) := by decide +kernel
theorem dX9_fewest_36 : decode cX9_fewest 36 = .ok (.getfield 44, 3) := by decide +kernel
theorem dX9_fewest_39 : decode cX9_fewest 39 = .ok (.iload_n 2, 1) := by decide +kernel
theorem dX9_fewest_40 : decode cX9_fewest 40 = .ok (.iaload, 1) := by decide +kernel
theorem dX9_fewest_41 : decode cX9_fewest 41 = .ok (.goto 4, 3) := by decide +kernel
theorem dX9_fewest_44 : decode cX9_fewest 44 = .ok (.iload_n 1, 1) := by decide +kernel
theorem dX9_fewest_45 : decode cX9_fewest 45 = .ok (.istore_n 1, 1) := by decide +kernel
theorem dX9_fewest_46 : decode cX9_fewest 46 = .ok (.iinc 2 1, 3) := by decide +kernel
theorem dX9_fewest_49 : decode cX9_fewest 49 = .ok (.goto (-43), 3) := by decide +kernel
theorem dX9_fewest_52 : decode cX9_fewest 52 = .ok (.iload_n 1, 1) := by decide +kernel
theorem dX9_fewest_53 : decode cX9_fewest 53 = .ok (.ireturn, 1) := by decide +kernel
theorem dX9_rank_0 : decode cX9_rank 0 = .ok (.iload_n 1, 1) := by decide +kernel
theorem dX9_rank_1 : decode cX9_rank 1 = .ok (.ifCond .ge 5, 3) := by decide +kernel
theorem dX9_rank_4 : decode cX9_rank 4 = .ok (.iconst (-1), 1) := by decide +kernel
theorem dX9_rank_5 : decode cX9_rank 5 = .ok (.ireturn, 1) := by decide +kernel
theorem dX9_rank_6 : decode cX9_rank 6 = .ok (.aload_n 0, 1) := by decide +kernel
theorem dX9_rank_7 : decode cX9_rank 7 = .ok (.invokevirtual 166, 3) := by decide +kernel
theorem dX9_rank_10 : decode cX9_rank 10 = .ok (.pop, 1) := by decide +kernel
theorem dX9_rank_11 : decode cX9_rank 11 = .ok (.iconst 0, 1) := by decide +kernel
theorem dX9_rank_12 : decode cX9_rank 12 = .ok (.istore_n 2, 1) := by decide +kernel
theorem dX9_rank_13 : decode cX9_rank 13 = .ok (.iload_n 2, 1) := by decide +kernel
theorem dX9_rank_14 : decode cX9_rank 14 = .ok (.aload_n 0, 1) := by decide +kernel
theorem dX9_rank_15 : decode cX9_rank 15 = .ok (.invokevirtual 150, 3) := by decide +kernel
theorem dX9_rank_18 : decode cX9_rank 18 = .ok (.if_icmp .ge 82, 3) := by decide +kernel
theorem dX9_rank_21 : decode cX9_rank 21 = .ok (.iconst 0, 1) := by decide +kernel
theorem dX9_rank_22 : decode cX9_rank 22 = .ok (.istore_n 3, 1) := by decide +kernel
theorem dX9_rank_23 : decode cX9_rank 23 = .ok (.iconst 0, 1) := by decide +kernel
theorem dX9_rank_24 : decode cX9_rank 24 = .ok (.istore 4, 2) := by decide +kernel
theorem dX9_rank_26 : decode cX9_rank 26 = .ok (.iload 4, 2) := by decide +kernel
theorem dX9_rank_28 : decode cX9_rank 28 = .ok (.aload_n 0, 1) := by decide +kernel
theorem dX9_rank_29 : decode cX9_rank 29 = .ok (.invokevirtual 150, 3) := by decide +kernel
theorem dX9_rank_32 : decode cX9_rank 32 = .ok (.if_icmp .ge 55, 3) := by decide +kernel
theorem dX9_rank_35 : decode cX9_rank 35 = .ok (.iload_n 3, 1) := by decide +kernel
theorem dX9_rank_36 : decode cX9_rank 36 = .ok (.aload_n 0, 1) := by decide +kernel
theorem dX9_rank_37 : decode cX9_rank 37 = .ok (.getfield 44, 3) := by decide +kernel
theorem dX9_rank_40 : decode cX9_rank 40 = .ok (.iload 4, 2) := by decide +kernel
theorem dX9_rank_42 : decode cX9_rank 42 = .ok (.iaload, 1) := by decide +kernel
theorem dX9_rank_43 : decode cX9_rank 43 = .ok (.aload_n 0, 1) := by decide +kernel
theorem dX9_rank_44 : decode cX9_rank 44 = .ok (.getfield 44, 3) := by decide +kernel
theorem dX9_rank_47 : decode cX9_rank 47 = .ok (.iload_n 2, 1) := by decide +kernel
theorem dX9_rank_48 : decode cX9_rank 48 = .ok (.iaload, 1) := by decide +kernel
theorem dX9_rank_49 : decode cX9_rank 49 = .ok (.if_icmp .lt 25, 3) := by decide +kernel
theorem dX9_rank_52 : decode cX9_rank 52 = .ok (.aload_n 0, 1) := by decide +kernel
theorem dX9_rank_53 : decode cX9_rank 53 = .ok (.getfield 44, 3) := by decide +kernel
theorem dX9_rank_56 : decode cX9_rank 56 = .ok (.iload 4, 2) := by decide +kernel
theorem dX9_rank_58 : decode cX9_rank 58 = .ok (.iaload, 1) := by decide +kernel
theorem dX9_rank_59 : decode cX9_rank 59 = .ok (.aload_n 0, 1) := by decide +kernel
theorem dX9_rank_60 : decode cX9_rank 60 = .ok (.getfield 44, 3) := by decide +kernel
theorem dX9_rank_63 : decode cX9_rank 63 = .ok (.iload_n 2, 1) := by decide +kernel
theorem dX9_rank_64 : decode cX9_rank 64 = .ok (.iaload, 1) := by decide +kernel
theorem dX9_rank_65 : decode cX9_rank 65 = .ok (.if_icmp .ne 13, 3) := by decide +kernel
theorem dX9_rank_68 : decode cX9_rank 68 = .ok (.iload 4, 2) := by decide +kernel
theorem dX9_rank_70 : decode cX9_rank 70 = .ok (.iload_n 2, 1) := by decide +kernel
theorem dX9_rank_71 : decode cX9_rank 71 = .ok (.if_icmp .ge 7, 3) := by decide +kernel
theorem dX9_rank_74 : decode cX9_rank 74 = .ok (.iconst 1, 1) := by decide +kernel
theorem dX9_rank_75 : decode cX9_rank 75 = .ok (.goto 4, 3) := by decide +kernel
theorem dX9_rank_78 : decode cX9_rank 78 = .ok (.iconst 0, 1) := by decide +kernel
theorem dX9_rank_79 : decode cX9_rank 79 = .ok (.iadd, 1) := by decide +kernel
theorem dX9_rank_80 : decode cX9_rank 80 = .ok (.istore_n 3, 1) := by decide +kernel
theorem dX9_rank_81 : decode cX9_rank 81 = .ok (.iinc 4 1, 3) := by decide +kernel
theorem dX9_rank_84 : decode cX9_rank 84 = .ok (.goto (-58), 3) := by decide +kernel
theorem dX9_rank_87 : decode cX9_rank 87 = .ok (.iload_n 3, 1) := by decide +kernel
theorem dX9_rank_88 : decode cX9_rank 88 = .ok (.iload_n 1, 1) := by decide +kernel
theorem dX9_rank_89 : decode cX9_rank 89 = .ok (.if_icmp .ne 5, 3) := by decide +kernel
theorem dX9_rank_92 : decode cX9_rank 92 = .ok (.iload_n 2, 1) := by decide +kernel
theorem dX9_rank_93 : decode cX9_rank 93 = .ok (.ireturn, 1) := by decide +kernel
theorem dX9_rank_94 : decode cX9_rank 94 = .ok (.iinc 2 1, 3) := by decide +kernel
theorem dX9_rank_97 : decode cX9_rank 97 = .ok (.goto (-84), 3) := by decide +kernel
theorem dX9_rank_100 : decode cX9_rank 100 = .ok (.bipush (-9), 2) := by decide +kernel
theorem dX9_rank_102 : decode cX9_rank 102 = .ok (.ireturn, 1) := by decide +kernel
theorem dX9_bound_0 : decode cX9_bound 0 = .ok (.iconst 0, 1) := by decide +kernel
theorem dX9_bound_1 : decode cX9_bound 1 = .ok (.istore_n 1, 1) := by decide +kernel
theorem dX9_bound_2 : decode cX9_bound 2 = .ok (.iconst 0, 1) := by decide +kernel
theorem dX9_bound_3 : decode cX9_bound 3 = .ok (.istore_n 2, 1) := by decide +kernel
theorem dX9_bound_4 : decode cX9_bound 4 = .ok (.iload_n 2, 1) := by decide +kernel
theorem dX9_bound_5 : decode cX9_bound 5 = .ok (.aload_n 0, 1) := by decide +kernel
theorem dX9_bound_6 : decode cX9_bound 6 = .ok (.getfield 89, 3) := by decide +kernel
theorem dX9_bound_9 : decode cX9_bound 9 = .ok (.if_icmp .ge 95, 3) := by decide +kernel
theorem dX9_bound_12 : decode cX9_bound 12 = .ok (.iconst 0, 1) := by decide +kernel
theorem dX9_bound_13 : decode cX9_bound 13 = .ok (.istore_n 3, 1) := by decide +kernel
theorem dX9_bound_14 : decode cX9_bound 14 = .ok (.iconst 0, 1) := by decide +kernel
theorem dX9_bound_15 : decode cX9_bound 15 = .ok (.istore 4, 2) := by decide +kernel
theorem dX9_bound_17 : decode cX9_bound 17 = .ok (.iload 4, 2) := by decide +kernel
theorem dX9_bound_19 : decode cX9_bound 19 = .ok (.aload_n 0, 1) := by decide +kernel
theorem dX9_bound_20 : decode cX9_bound 20 = .ok (.getfield 86, 3) := by decide +kernel
theorem dX9_bound_23 : decode cX9_bound 23 = .ok (.if_icmp .ge 21, 3) := by decide +kernel
theorem dX9_bound_26 : decode cX9_bound 26 = .ok (.iload_n 3, 1) := by decide +kernel
theorem dX9_bound_27 : decode cX9_bound 27 = .ok (.iconst 1, 1) := by decide +kernel
theorem dX9_bound_28 : decode cX9_bound 28 = .ok (.aload_n 0, 1) := by decide +kernel
theorem dX9_bound_29 : decode cX9_bound 29 = .ok (.iload 4, 2) := by decide +kernel
theorem dX9_bound_31 : decode cX9_bound 31 = .ok (.iload_n 2, 1) := by decide +kernel
theorem dX9_bound_32 : decode cX9_bound 32 = .ok (.invokevirtual 105, 3) := by decide +kernel
theorem dX9_bound_35 : decode cX9_bound 35 = .ok (.ishl, 1) := by decide +kernel
theorem dX9_bound_36 : decode cX9_bound 36 = .ok (.ior, 1) := by decide +kernel
theorem dX9_bound_37 : decode cX9_bound 37 = .ok (.istore_n 3, 1) := by decide +kernel
theorem dX9_bound_38 : decode cX9_bound 38 = .ok (.iinc 4 1, 3) := by decide +kernel
theorem dX9_bound_41 : decode cX9_bound 41 = .ok (.goto (-24), 3) := by decide +kernel
theorem dX9_bound_44 : decode cX9_bound 44 = .ok (.iconst 0, 1) := by decide +kernel
theorem dX9_bound_45 : decode cX9_bound 45 = .ok (.istore 4, 2) := by decide +kernel
theorem dX9_bound_47 : decode cX9_bound 47 = .ok (.iconst 0, 1) := by decide +kernel
theorem dX9_bound_48 : decode cX9_bound 48 = .ok (.istore 5, 2) := by decide +kernel
theorem dX9_bound_50 : decode cX9_bound 50 = .ok (.iload 5, 2) := by decide +kernel
theorem dX9_bound_52 : decode cX9_bound 52 = .ok (.iconst 4, 1) := by decide +kernel
theorem dX9_bound_53 : decode cX9_bound 53 = .ok (.if_icmp .ge 28, 3) := by decide +kernel
theorem dX9_bound_56 : decode cX9_bound 56 = .ok (.iload 4, 2) := by decide +kernel
theorem dX9_bound_58 : decode cX9_bound 58 = .ok (.iload_n 3, 1) := by decide +kernel
theorem dX9_bound_59 : decode cX9_bound 59 = .ok (.iload 5, 2) := by decide +kernel
theorem dX9_bound_61 : decode cX9_bound 61 = .ok (.invokestatic 169, 3) := by decide +kernel
theorem dX9_bound_64 : decode cX9_bound 64 = .ok (.ifCond .eq 7, 3) := by decide +kernel
theorem dX9_bound_67 : decode cX9_bound 67 = .ok (.iconst 1, 1) := by decide +kernel
theorem dX9_bound_68 : decode cX9_bound 68 = .ok (.goto 4, 3) := by decide +kernel
theorem dX9_bound_71 : decode cX9_bound 71 = .ok (.iconst 0, 1) := by decide +kernel
theorem dX9_bound_72 : decode cX9_bound 72 = .ok (.iadd, 1) := by decide +kernel
theorem dX9_bound_73 : decode cX9_bound 73 = .ok (.istore 4, 2) := by decide +kernel
theorem dX9_bound_75 : decode cX9_bound 75 = .ok (.iinc 5 1, 3) := by decide +kernel
theorem dX9_bound_78 : decode cX9_bound 78 = .ok (.goto (-28), 3) := by decide +kernel
theorem dX9_bound_81 : decode cX9_bound 81 = .ok (.iload_n 1, 1) := by decide +kernel
theorem dX9_bound_82 : decode cX9_bound 82 = .ok (.iload 4, 2) := by decide +kernel
theorem dX9_bound_84 : decode cX9_bound 84 = .ok (.iconst 1, 1) := by decide +kernel
theorem dX9_bound_85 : decode cX9_bound 85 = .ok (.if_icmp .le 10, 3) := by decide +kernel
theorem dX9_bound_88 : decode cX9_bound 88 = .ok (.iload 4, 2) := by decide +kernel
theorem dX9_bound_90 : decode cX9_bound 90 = .ok (.iconst 1, 1) := by decide +kernel
theorem dX9_bound_91 : decode cX9_bound 91 = .ok (.isub, 1) := by decide +kernel
theorem dX9_bound_92 : decode cX9_bound 92 = .ok (.goto 4, 3) := by decide +kernel
theorem dX9_bound_95 : decode cX9_bound 95 = .ok (.iconst 0, 1) := by decide +kernel
theorem dX9_bound_96 : decode cX9_bound 96 = .ok (.iadd, 1) := by decide +kernel
theorem dX9_bound_97 : decode cX9_bound 97 = .ok (.istore_n 1, 1) := by decide +kernel
theorem dX9_bound_98 : decode cX9_bound 98 = .ok (.iinc 2 1, 3) := by decide +kernel
theorem dX9_bound_101 : decode cX9_bound 101 = .ok (.goto (-97), 3) := by decide +kernel
theorem dX9_bound_104 : decode cX9_bound 104 = .ok (.iload_n 1, 1) := by decide +kernel
theorem dX9_bound_105 : decode cX9_bound 105 = .ok (.ireturn, 1) := by decide +kernel
theorem dX9_best_0 : decode cX9_best 0 = .ok (.iload_n 1, 1) := by decide +kernel
theorem dX9_best_1 : decode cX9_best 1 = .ok (.iconst 0, 1) := by decide +kernel
theorem dX9_best_2 : decode cX9_best 2 = .ok (.iconst 3, 1) := by decide +kernel
theorem dX9_best_3 : decode cX9_best 3 = .ok (.invokestatic 50, 3) := by decide +kernel
theorem dX9_best_6 : decode cX9_best 6 = .ok (.ifCond .ne 5, 3) := by decide +kernel
theorem dX9_best_9 : decode cX9_best 9 = .ok (.iconst (-1), 1) := by decide +kernel
theorem dX9_best_10 : decode cX9_best 10 = .ok (.ireturn, 1) := by decide +kernel
theorem dX9_best_11 : decode cX9_best 11 = .ok (.aload_n 0, 1) := by decide +kernel
theorem dX9_best_12 : decode cX9_best 12 = .ok (.invokevirtual 166, 3) := by decide +kernel
theorem dX9_best_15 : decode cX9_best 15 = .ok (.istore_n 2, 1) := by decide +kernel
theorem dX9_best_16 : decode cX9_best 16 = .ok (.iconst 0, 1) := by decide +kernel
theorem dX9_best_17 : decode cX9_best 17 = .ok (.istore_n 3, 1) := by decide +kernel
theorem dX9_best_18 : decode cX9_best 18 = .ok (.iconst 0, 1) := by decide +kernel
theorem dX9_best_19 : decode cX9_best 19 = .ok (.istore 4, 2) := by decide +kernel
theorem dX9_best_21 : decode cX9_best 21 = .ok (.iload 4, 2) := by decide +kernel
theorem dX9_best_23 : decode cX9_best 23 = .ok (.aload_n 0, 1) := by decide +kernel
theorem dX9_best_24 : decode cX9_best 24 = .ok (.invokevirtual 150, 3) := by decide +kernel
theorem dX9_best_27 : decode cX9_best 27 = .ok (.if_icmp .ge 28, 3) := by decide +kernel
theorem dX9_best_30 : decode cX9_best 30 = .ok (.iload_n 3, 1) := by decide +kernel
theorem dX9_best_31 : decode cX9_best 31 = .ok (.aload_n 0, 1) := by decide +kernel
theorem dX9_best_32 : decode cX9_best 32 = .ok (.getfield 44, 3) := by decide +kernel
theorem dX9_best_35 : decode cX9_best 35 = .ok (.iload 4, 2) := by decide +kernel
theorem dX9_best_37 : decode cX9_best 37 = .ok (.iaload, 1) := by decide +kernel
theorem dX9_best_38 : decode cX9_best 38 = .ok (.iload_n 2, 1) := by decide +kernel
theorem dX9_best_39 : decode cX9_best 39 = .ok (.if_icmp .ne 7, 3) := by decide +kernel
theorem dX9_best_42 : decode cX9_best 42 = .ok (.iconst 1, 1) := by decide +kernel
end
section
theorem dX9_best_43 : decode cX9_best 43 = .ok (.goto 4, 3) := by decide +kernel
theorem dX9_best_46 : decode cX9_best 46 = .ok (.iconst 0, 1) := by decide +kernel
theorem dX9_best_47 : decode cX9_best 47 = .ok (.iadd, 1) := by decide +kernel
theorem dX9_best_48 : decode cX9_best 48 = .ok (.istore_n 3, 1) := by decide +kernel
theorem dX9_best_49 : decode cX9_best 49 = .ok (.iinc 4 1, 3) := by decide +kernel
theorem dX9_best_52 : decode cX9_best 52 = .ok (.goto (-31), 3) := by decide +kernel
theorem dX9_best_55 : decode cX9_best 55 = .ok (.iload_n 1, 1) := by decide +kernel
theorem dX9_best_56 : decode cX9_best 56 = .ok (.ifCond .ne 7, 3) := by decide +kernel
theorem dX9_best_59 : decode cX9_best 59 = .ok (.iload_n 2, 1) := by decide +kernel
theorem dX9_best_60 : decode cX9_best 60 = .ok (.goto 37, 3) := by decide +kernel
theorem dX9_best_63 : decode cX9_best 63 = .ok (.iload_n 1, 1) := by decide +kernel
theorem dX9_best_64 : decode cX9_best 64 = .ok (.iconst 1, 1) := by decide +kernel
theorem dX9_best_65 : decode cX9_best 65 = .ok (.if_icmp .ne 7, 3) := by decide +kernel
theorem dX9_best_68 : decode cX9_best 68 = .ok (.iload_n 3, 1) := by decide +kernel
theorem dX9_best_69 : decode cX9_best 69 = .ok (.goto 28, 3) := by decide +kernel
theorem dX9_best_72 : decode cX9_best 72 = .ok (.iload_n 1, 1) := by decide +kernel
theorem dX9_best_73 : decode cX9_best 73 = .ok (.iconst 2, 1) := by decide +kernel
theorem dX9_best_74 : decode cX9_best 74 = .ok (.if_icmp .ne 10, 3) := by decide +kernel
theorem dX9_best_77 : decode cX9_best 77 = .ok (.aload_n 0, 1) := by decide +kernel
theorem dX9_best_78 : decode cX9_best 78 = .ok (.invokevirtual 173, 3) := by decide +kernel
theorem dX9_best_81 : decode cX9_best 81 = .ok (.goto 16, 3) := by decide +kernel
theorem dX9_best_84 : decode cX9_best 84 = .ok (.aload_n 0, 1) := by decide +kernel
theorem dX9_best_85 : decode cX9_best 85 = .ok (.invokevirtual 173, 3) := by decide +kernel
theorem dX9_best_88 : decode cX9_best 88 = .ok (.iload_n 2, 1) := by decide +kernel
theorem dX9_best_89 : decode cX9_best 89 = .ok (.if_icmp .ne 7, 3) := by decide +kernel
theorem dX9_best_92 : decode cX9_best 92 = .ok (.iconst 1, 1) := by decide +kernel
theorem dX9_best_93 : decode cX9_best 93 = .ok (.goto 4, 3) := by decide +kernel
theorem dX9_best_96 : decode cX9_best 96 = .ok (.iconst 0, 1) := by decide +kernel
theorem dX9_best_97 : decode cX9_best 97 = .ok (.ireturn, 1) := by decide +kernel
theorem dX9_remember_0 : decode cX9_remember 0 = .ok (.iconst 0, 1) := by decide +kernel
theorem dX9_remember_1 : decode cX9_remember 1 = .ok (.istore_n 1, 1) := by decide +kernel
theorem dX9_remember_2 : decode cX9_remember 2 = .ok (.iload_n 1, 1) := by decide +kernel
theorem dX9_remember_3 : decode cX9_remember 3 = .ok (.bipush 49, 2) := by decide +kernel
theorem dX9_remember_5 : decode cX9_remember 5 = .ok (.if_icmp .ge 29, 3) := by decide +kernel
theorem dX9_remember_8 : decode cX9_remember 8 = .ok (.aload_n 0, 1) := by decide +kernel
theorem dX9_remember_9 : decode cX9_remember 9 = .ok (.getfield 13, 3) := by decide +kernel
theorem dX9_remember_12 : decode cX9_remember 12 = .ok (.bipush 49, 2) := by decide +kernel
theorem dX9_remember_14 : decode cX9_remember 14 = .ok (.aload_n 0, 1) := by decide +kernel
theorem dX9_remember_15 : decode cX9_remember 15 = .ok (.getfield 176, 3) := by decide +kernel
theorem dX9_remember_18 : decode cX9_remember 18 = .ok (.imul, 1) := by decide +kernel
theorem dX9_remember_19 : decode cX9_remember 19 = .ok (.iload_n 1, 1) := by decide +kernel
theorem dX9_remember_20 : decode cX9_remember 20 = .ok (.iadd, 1) := by decide +kernel
theorem dX9_remember_21 : decode cX9_remember 21 = .ok (.aload_n 0, 1) := by decide +kernel
theorem dX9_remember_22 : decode cX9_remember 22 = .ok (.getfield 7, 3) := by decide +kernel
theorem dX9_remember_25 : decode cX9_remember 25 = .ok (.iload_n 1, 1) := by decide +kernel
theorem dX9_remember_26 : decode cX9_remember 26 = .ok (.iaload, 1) := by decide +kernel
theorem dX9_remember_27 : decode cX9_remember 27 = .ok (.iastore, 1) := by decide +kernel
theorem dX9_remember_28 : decode cX9_remember 28 = .ok (.iinc 1 1, 3) := by decide +kernel
theorem dX9_remember_31 : decode cX9_remember 31 = .ok (.goto (-29), 3) := by decide +kernel
theorem dX9_remember_34 : decode cX9_remember 34 = .ok (.aload_n 0, 1) := by decide +kernel
theorem dX9_remember_35 : decode cX9_remember 35 = .ok (.aload_n 0, 1) := by decide +kernel
theorem dX9_remember_36 : decode cX9_remember 36 = .ok (.getfield 176, 3) := by decide +kernel
theorem dX9_remember_39 : decode cX9_remember 39 = .ok (.iconst 1, 1) := by decide +kernel
theorem dX9_remember_40 : decode cX9_remember 40 = .ok (.iadd, 1) := by decide +kernel
theorem dX9_remember_41 : decode cX9_remember 41 = .ok (.bipush 10, 2) := by decide +kernel
theorem dX9_remember_43 : decode cX9_remember 43 = .ok (.irem, 1) := by decide +kernel
theorem dX9_remember_44 : decode cX9_remember 44 = .ok (.putfield 176, 3) := by decide +kernel
theorem dX9_remember_47 : decode cX9_remember 47 = .ok (.aload_n 0, 1) := by decide +kernel
theorem dX9_remember_48 : decode cX9_remember 48 = .ok (.dup, 1) := by decide +kernel
theorem dX9_remember_49 : decode cX9_remember 49 = .ok (.getfield 92, 3) := by decide +kernel
theorem dX9_remember_52 : decode cX9_remember 52 = .ok (.aload_n 0, 1) := by decide +kernel
theorem dX9_remember_53 : decode cX9_remember 53 = .ok (.getfield 92, 3) := by decide +kernel
theorem dX9_remember_56 : decode cX9_remember 56 = .ok (.bipush 10, 2) := by decide +kernel
theorem dX9_remember_58 : decode cX9_remember 58 = .ok (.if_icmp .ge 7, 3) := by decide +kernel
theorem dX9_remember_61 : decode cX9_remember 61 = .ok (.iconst 1, 1) := by decide +kernel
theorem dX9_remember_62 : decode cX9_remember 62 = .ok (.goto 4, 3) := by decide +kernel
theorem dX9_remember_65 : decode cX9_remember 65 = .ok (.iconst 0, 1) := by decide +kernel
theorem dX9_remember_66 : decode cX9_remember 66 = .ok (.iadd, 1) := by decide +kernel
theorem dX9_remember_67 : decode cX9_remember 67 = .ok (.putfield 92, 3) := by decide +kernel
theorem dX9_remember_70 : decode cX9_remember 70 = .ok (.return_, 1) := by decide +kernel
theorem dX9_becomes_0 : decode cX9_becomes 0 = .ok (.aload_n 0, 1) := by decide +kernel
theorem dX9_becomes_1 : decode cX9_becomes 1 = .ok (.getfield 7, 3) := by decide +kernel
theorem dX9_becomes_4 : decode cX9_becomes 4 = .ok (.iload_n 1, 1) := by decide +kernel
theorem dX9_becomes_5 : decode cX9_becomes 5 = .ok (.iaload, 1) := by decide +kernel
theorem dX9_becomes_6 : decode cX9_becomes 6 = .ok (.istore_n 3, 1) := by decide +kernel
theorem dX9_becomes_7 : decode cX9_becomes 7 = .ok (.iload_n 3, 1) := by decide +kernel
theorem dX9_becomes_8 : decode cX9_becomes 8 = .ok (.iload_n 2, 1) := by decide +kernel
theorem dX9_becomes_9 : decode cX9_becomes 9 = .ok (.if_icmp .ne 6, 3) := by decide +kernel
theorem dX9_becomes_12 : decode cX9_becomes 12 = .ok (.bipush (-2), 2) := by decide +kernel
theorem dX9_becomes_14 : decode cX9_becomes 14 = .ok (.ireturn, 1) := by decide +kernel
theorem dX9_becomes_15 : decode cX9_becomes 15 = .ok (.aload_n 0, 1) := by decide +kernel
theorem dX9_becomes_16 : decode cX9_becomes 16 = .ok (.invokevirtual 179, 3) := by decide +kernel
theorem dX9_becomes_19 : decode cX9_becomes 19 = .ok (.aload_n 0, 1) := by decide +kernel
theorem dX9_becomes_20 : decode cX9_becomes 20 = .ok (.getfield 7, 3) := by decide +kernel
theorem dX9_becomes_23 : decode cX9_becomes 23 = .ok (.iload_n 1, 1) := by decide +kernel
theorem dX9_becomes_24 : decode cX9_becomes 24 = .ok (.iload_n 2, 1) := by decide +kernel
theorem dX9_becomes_25 : decode cX9_becomes 25 = .ok (.iastore, 1) := by decide +kernel
theorem dX9_becomes_26 : decode cX9_becomes 26 = .ok (.iload_n 3, 1) := by decide +kernel
theorem dX9_becomes_27 : decode cX9_becomes 27 = .ok (.ireturn, 1) := by decide +kernel
theorem dX9_reads_0 : decode cX9_reads 0 = .ok (.aload_n 0, 1) := by decide +kernel
theorem dX9_reads_1 : decode cX9_reads 1 = .ok (.iload_n 1, 1) := by decide +kernel
theorem dX9_reads_2 : decode cX9_reads 2 = .ok (.invokevirtual 98, 3) := by decide +kernel
theorem dX9_reads_5 : decode cX9_reads 5 = .ok (.ifCond .eq 34, 3) := by decide +kernel
theorem dX9_reads_8 : decode cX9_reads 8 = .ok (.aload_n 0, 1) := by decide +kernel
theorem dX9_reads_9 : decode cX9_reads 9 = .ok (.iload_n 2, 1) := by decide +kernel
theorem dX9_reads_10 : decode cX9_reads 10 = .ok (.invokevirtual 102, 3) := by decide +kernel
theorem dX9_reads_13 : decode cX9_reads 13 = .ok (.ifCond .eq 26, 3) := by decide +kernel
theorem dX9_reads_16 : decode cX9_reads 16 = .ok (.iload_n 3, 1) := by decide +kernel
theorem dX9_reads_17 : decode cX9_reads 17 = .ok (.iconst 0, 1) := by decide +kernel
theorem dX9_reads_18 : decode cX9_reads 18 = .ok (.iconst 4, 1) := by decide +kernel
theorem dX9_reads_19 : decode cX9_reads 19 = .ok (.invokestatic 50, 3) := by decide +kernel
theorem dX9_reads_22 : decode cX9_reads 22 = .ok (.ifCond .eq 17, 3) := by decide +kernel
theorem dX9_reads_25 : decode cX9_reads 25 = .ok (.aload_n 0, 1) := by decide +kernel
theorem dX9_reads_26 : decode cX9_reads 26 = .ok (.bipush 8, 2) := by decide +kernel
theorem dX9_reads_28 : decode cX9_reads 28 = .ok (.iload_n 1, 1) := by decide +kernel
theorem dX9_reads_29 : decode cX9_reads 29 = .ok (.imul, 1) := by decide +kernel
theorem dX9_reads_30 : decode cX9_reads 30 = .ok (.iload_n 2, 1) := by decide +kernel
theorem dX9_reads_31 : decode cX9_reads 31 = .ok (.iadd, 1) := by decide +kernel
theorem dX9_reads_32 : decode cX9_reads 32 = .ok (.iload_n 3, 1) := by decide +kernel
theorem dX9_reads_33 : decode cX9_reads 33 = .ok (.invokevirtual 182, 3) := by decide +kernel
theorem dX9_reads_36 : decode cX9_reads 36 = .ok (.goto 4, 3) := by decide +kernel
theorem dX9_reads_39 : decode cX9_reads 39 = .ok (.iconst (-1), 1) := by decide +kernel
theorem dX9_reads_40 : decode cX9_reads 40 = .ok (.ireturn, 1) := by decide +kernel
theorem dX9_chooses_0 : decode cX9_chooses 0 = .ok (.aload_n 0, 1) := by decide +kernel
theorem dX9_chooses_1 : decode cX9_chooses 1 = .ok (.iload_n 1, 1) := by decide +kernel
theorem dX9_chooses_2 : decode cX9_chooses 2 = .ok (.invokevirtual 154, 3) := by decide +kernel
theorem dX9_chooses_5 : decode cX9_chooses 5 = .ok (.ifCond .eq 13, 3) := by decide +kernel
theorem dX9_chooses_8 : decode cX9_chooses 8 = .ok (.aload_n 0, 1) := by decide +kernel
theorem dX9_chooses_9 : decode cX9_chooses 9 = .ok (.bipush 48, 2) := by decide +kernel
theorem dX9_chooses_11 : decode cX9_chooses 11 = .ok (.iload_n 1, 1) := by decide +kernel
theorem dX9_chooses_12 : decode cX9_chooses 12 = .ok (.invokevirtual 182, 3) := by decide +kernel
theorem dX9_chooses_15 : decode cX9_chooses 15 = .ok (.goto 4, 3) := by decide +kernel
theorem dX9_chooses_18 : decode cX9_chooses 18 = .ok (.iconst (-1), 1) := by decide +kernel
theorem dX9_chooses_19 : decode cX9_chooses 19 = .ok (.ireturn, 1) := by decide +kernel
theorem dX9_isNear_0 : decode cX9_isNear 0 = .ok (.iconst 0, 1) := by decide +kernel
theorem dX9_isNear_1 : decode cX9_isNear 1 = .ok (.istore_n 2, 1) := by decide +kernel
theorem dX9_isNear_2 : decode cX9_isNear 2 = .ok (.iconst 3, 1) := by decide +kernel
theorem dX9_isNear_3 : decode cX9_isNear 3 = .ok (.istore_n 3, 1) := by decide +kernel
theorem dX9_isNear_4 : decode cX9_isNear 4 = .ok (.iload_n 3, 1) := by decide +kernel
theorem dX9_isNear_5 : decode cX9_isNear 5 = .ok (.bipush 6, 2) := by decide +kernel
theorem dX9_isNear_7 : decode cX9_isNear 7 = .ok (.if_icmp .ge 30, 3) := by decide +kernel
theorem dX9_isNear_10 : decode cX9_isNear 10 = .ok (.iload_n 2, 1) := by decide +kernel
theorem dX9_isNear_11 : decode cX9_isNear 11 = .ok (.iload_n 0, 1) := by decide +kernel
theorem dX9_isNear_12 : decode cX9_isNear 12 = .ok (.iload_n 3, 1) := by decide +kernel
theorem dX9_isNear_13 : decode cX9_isNear 13 = .ok (.invokestatic 119, 3) := by decide +kernel
theorem dX9_isNear_16 : decode cX9_isNear 16 = .ok (.iload_n 1, 1) := by decide +kernel
theorem dX9_isNear_17 : decode cX9_isNear 17 = .ok (.iload_n 3, 1) := by decide +kernel
theorem dX9_isNear_18 : decode cX9_isNear 18 = .ok (.invokestatic 119, 3) := by decide +kernel
theorem dX9_isNear_21 : decode cX9_isNear 21 = .ok (.if_icmp .eq 7, 3) := by decide +kernel
theorem dX9_isNear_24 : decode cX9_isNear 24 = .ok (.iconst 1, 1) := by decide +kernel
theorem dX9_isNear_25 : decode cX9_isNear 25 = .ok (.goto 4, 3) := by decide +kernel
theorem dX9_isNear_28 : decode cX9_isNear 28 = .ok (.iconst 0, 1) := by decide +kernel
theorem dX9_isNear_29 : decode cX9_isNear 29 = .ok (.iadd, 1) := by decide +kernel
theorem dX9_isNear_30 : decode cX9_isNear 30 = .ok (.istore_n 2, 1) := by decide +kernel
theorem dX9_isNear_31 : decode cX9_isNear 31 = .ok (.iinc 3 1, 3) := by decide +kernel
theorem dX9_isNear_34 : decode cX9_isNear 34 = .ok (.goto (-30), 3) := by decide +kernel
theorem dX9_isNear_37 : decode cX9_isNear 37 = .ok (.iload_n 2, 1) := by decide +kernel
theorem dX9_isNear_38 : decode cX9_isNear 38 = .ok (.iconst 2, 1) := by decide +kernel
theorem dX9_isNear_39 : decode cX9_isNear 39 = .ok (.if_icmp .ge 7, 3) := by decide +kernel
theorem dX9_isNear_42 : decode cX9_isNear 42 = .ok (.iconst 1, 1) := by decide +kernel
theorem dX9_isNear_43 : decode cX9_isNear 43 = .ok (.goto 4, 3) := by decide +kernel
theorem dX9_isNear_46 : decode cX9_isNear 46 = .ok (.iconst 0, 1) := by decide +kernel
theorem dX9_isNear_47 : decode cX9_isNear 47 = .ok (.ireturn, 1) := by decide +kernel
theorem dX9_betters_0 : decode cX9_betters 0 = .ok (.aload_n 0, 1) := by decide +kernel
theorem dX9_betters_1 : decode cX9_betters 1 = .ok (.getfield 7, 3) := by decide +kernel
theorem dX9_betters_4 : decode cX9_betters 4 = .ok (.bipush 48, 2) := by decide +kernel
theorem dX9_betters_6 : decode cX9_betters 6 = .ok (.iaload, 1) := by decide +kernel
theorem dX9_betters_7 : decode cX9_betters 7 = .ok (.istore_n 1, 1) := by decide +kernel
theorem dX9_betters_8 : decode cX9_betters 8 = .ok (.aload_n 0, 1) := by decide +kernel
theorem dX9_betters_9 : decode cX9_betters 9 = .ok (.iload_n 1, 1) := by decide +kernel
theorem dX9_betters_10 : decode cX9_betters 10 = .ok (.invokevirtual 157, 3) := by decide +kernel
theorem dX9_betters_13 : decode cX9_betters 13 = .ok (.istore_n 2, 1) := by decide +kernel
theorem dX9_betters_14 : decode cX9_betters 14 = .ok (.iconst 0, 1) := by decide +kernel
theorem dX9_betters_15 : decode cX9_betters 15 = .ok (.istore_n 3, 1) := by decide +kernel
theorem dX9_betters_16 : decode cX9_betters 16 = .ok (.iload_n 3, 1) := by decide +kernel
theorem dX9_betters_17 : decode cX9_betters 17 = .ok (.aload_n 0, 1) := by decide +kernel
theorem dX9_betters_18 : decode cX9_betters 18 = .ok (.invokevirtual 150, 3) := by decide +kernel
theorem dX9_betters_21 : decode cX9_betters 21 = .ok (.if_icmp .ge 61, 3) := by decide +kernel
theorem dX9_betters_24 : decode cX9_betters 24 = .ok (.iload_n 3, 1) := by decide +kernel
theorem dX9_betters_25 : decode cX9_betters 25 = .ok (.aload_n 0, 1) := by decide +kernel
theorem dX9_betters_26 : decode cX9_betters 26 = .ok (.getfield 7, 3) := by decide +kernel
theorem dX9_betters_29 : decode cX9_betters 29 = .ok (.bipush 48, 2) := by decide +kernel
theorem dX9_betters_31 : decode cX9_betters 31 = .ok (.iaload, 1) := by decide +kernel
theorem dX9_betters_32 : decode cX9_betters 32 = .ok (.invokestatic 185, 3) := by decide +kernel
theorem dX9_betters_35 : decode cX9_betters 35 = .ok (.ifCond .eq 11, 3) := by decide +kernel
theorem dX9_betters_38 : decode cX9_betters 38 = .ok (.aload_n 0, 1) := by decide +kernel
theorem dX9_betters_39 : decode cX9_betters 39 = .ok (.iload_n 3, 1) := by decide +kernel
theorem dX9_betters_40 : decode cX9_betters 40 = .ok (.invokevirtual 157, 3) := by decide +kernel
theorem dX9_betters_43 : decode cX9_betters 43 = .ok (.goto 6, 3) := by decide +kernel
theorem dX9_betters_46 : decode cX9_betters 46 = .ok (.sipush 9999, 3) := by decide +kernel
theorem dX9_betters_49 : decode cX9_betters 49 = .ok (.istore 4, 2) := by decide +kernel
theorem dX9_betters_51 : decode cX9_betters 51 = .ok (.iload 4, 2) := by decide +kernel
theorem dX9_betters_53 : decode cX9_betters 53 = .ok (.iload_n 2, 1) := by decide +kernel
theorem dX9_betters_54 : decode cX9_betters 54 = .ok (.if_icmp .ge 7, 3) := by decide +kernel
theorem dX9_betters_57 : decode cX9_betters 57 = .ok (.iload_n 3, 1) := by decide +kernel
theorem dX9_betters_58 : decode cX9_betters 58 = .ok (.goto 4, 3) := by decide +kernel
theorem dX9_betters_61 : decode cX9_betters 61 = .ok (.iload_n 1, 1) := by decide +kernel
theorem dX9_betters_62 : decode cX9_betters 62 = .ok (.istore_n 1, 1) := by decide +kernel
theorem dX9_betters_63 : decode cX9_betters 63 = .ok (.iload 4, 2) := by decide +kernel
theorem dX9_betters_65 : decode cX9_betters 65 = .ok (.iload_n 2, 1) := by decide +kernel
theorem dX9_betters_66 : decode cX9_betters 66 = .ok (.if_icmp .ge 8, 3) := by decide +kernel
theorem dX9_betters_69 : decode cX9_betters 69 = .ok (.iload 4, 2) := by decide +kernel
theorem dX9_betters_71 : decode cX9_betters 71 = .ok (.goto 4, 3) := by decide +kernel
theorem dX9_betters_74 : decode cX9_betters 74 = .ok (.iload_n 2, 1) := by decide +kernel
theorem dX9_betters_75 : decode cX9_betters 75 = .ok (.istore_n 2, 1) := by decide +kernel
theorem dX9_betters_76 : decode cX9_betters 76 = .ok (.iinc 3 1, 3) := by decide +kernel
theorem dX9_betters_79 : decode cX9_betters 79 = .ok (.goto (-63), 3) := by decide +kernel
theorem dX9_betters_82 : decode cX9_betters 82 = .ok (.iload_n 1, 1) := by decide +kernel
theorem dX9_betters_83 : decode cX9_betters 83 = .ok (.aload_n 0, 1) := by decide +kernel
theorem dX9_betters_84 : decode cX9_betters 84 = .ok (.getfield 7, 3) := by decide +kernel
theorem dX9_betters_87 : decode cX9_betters 87 = .ok (.bipush 48, 2) := by decide +kernel
theorem dX9_betters_89 : decode cX9_betters 89 = .ok (.iaload, 1) := by decide +kernel
theorem dX9_betters_90 : decode cX9_betters 90 = .ok (.if_icmp .ne 6, 3) := by decide +kernel
theorem dX9_betters_93 : decode cX9_betters 93 = .ok (.bipush (-2), 2) := by decide +kernel
theorem dX9_betters_95 : decode cX9_betters 95 = .ok (.ireturn, 1) := by decide +kernel
theorem dX9_betters_96 : decode cX9_betters 96 = .ok (.aload_n 0, 1) := by decide +kernel
theorem dX9_betters_97 : decode cX9_betters 97 = .ok (.invokevirtual 179, 3) := by decide +kernel
theorem dX9_betters_100 : decode cX9_betters 100 = .ok (.aload_n 0, 1) := by decide +kernel
theorem dX9_betters_101 : decode cX9_betters 101 = .ok (.getfield 7, 3) := by decide +kernel
theorem dX9_betters_104 : decode cX9_betters 104 = .ok (.bipush 48, 2) := by decide +kernel
theorem dX9_betters_106 : decode cX9_betters 106 = .ok (.iload_n 1, 1) := by decide +kernel
theorem dX9_betters_107 : decode cX9_betters 107 = .ok (.iastore, 1) := by decide +kernel
theorem dX9_betters_108 : decode cX9_betters 108 = .ok (.iload_n 1, 1) := by decide +kernel
theorem dX9_betters_109 : decode cX9_betters 109 = .ok (.ireturn, 1) := by decide +kernel
theorem dX9_undo_0 : decode cX9_undo 0 = .ok (.aload_n 0, 1) := by decide +kernel
theorem dX9_undo_1 : decode cX9_undo 1 = .ok (.getfield 92, 3) := by decide +kernel
theorem dX9_undo_4 : decode cX9_undo 4 = .ok (.ifCond .ne 6, 3) := by decide +kernel
theorem dX9_undo_7 : decode cX9_undo 7 = .ok (.bipush (-2), 2) := by decide +kernel
theorem dX9_undo_9 : decode cX9_undo 9 = .ok (.ireturn, 1) := by decide +kernel
theorem dX9_undo_10 : decode cX9_undo 10 = .ok (.aload_n 0, 1) := by decide +kernel
theorem dX9_undo_11 : decode cX9_undo 11 = .ok (.aload_n 0, 1) := by decide +kernel
theorem dX9_undo_12 : decode cX9_undo 12 = .ok (.getfield 176, 3) := by decide +kernel
theorem dX9_undo_15 : decode cX9_undo 15 = .ok (.bipush 10, 2) := by decide +kernel
theorem dX9_undo_17 : decode cX9_undo 17 = .ok (.iadd, 1) := by decide +kernel
theorem dX9_undo_18 : decode cX9_undo 18 = .ok (.iconst 1, 1) := by decide +kernel
theorem dX9_undo_19 : decode cX9_undo 19 = .ok (.isub, 1) := by decide +kernel
theorem dX9_undo_20 : decode cX9_undo 20 = .ok (.bipush 10, 2) := by decide +kernel
theorem dX9_undo_22 : decode cX9_undo 22 = .ok (.irem, 1) := by decide +kernel
theorem dX9_undo_23 : decode cX9_undo 23 = .ok (.putfield 176, 3) := by decide +kernel
theorem dX9_undo_26 : decode cX9_undo 26 = .ok (.aload_n 0, 1) := by decide +kernel
theorem dX9_undo_27 : decode cX9_undo 27 = .ok (.dup, 1) := by decide +kernel
theorem dX9_undo_28 : decode cX9_undo 28 = .ok (.getfield 92, 3) := by decide +kernel
theorem dX9_undo_31 : decode cX9_undo 31 = .ok (.iconst 1, 1) := by decide +kernel
theorem dX9_undo_32 : decode cX9_undo 32 = .ok (.isub, 1) := by decide +kernel
theorem dX9_undo_33 : decode cX9_undo 33 = .ok (.putfield 92, 3) := by decide +kernel
theorem dX9_undo_36 : decode cX9_undo 36 = .ok (.iconst 0, 1) := by decide +kernel
theorem dX9_undo_37 : decode cX9_undo 37 = .ok (.istore_n 1, 1) := by decide +kernel
theorem dX9_undo_38 : decode cX9_undo 38 = .ok (.iload_n 1, 1) := by decide +kernel
theorem dX9_undo_39 : decode cX9_undo 39 = .ok (.bipush 49, 2) := by decide +kernel
theorem dX9_undo_41 : decode cX9_undo 41 = .ok (.if_icmp .ge 29, 3) := by decide +kernel
theorem dX9_undo_44 : decode cX9_undo 44 = .ok (.aload_n 0, 1) := by decide +kernel
theorem dX9_undo_45 : decode cX9_undo 45 = .ok (.getfield 7, 3) := by decide +kernel
theorem dX9_undo_48 : decode cX9_undo 48 = .ok (.iload_n 1, 1) := by decide +kernel
theorem dX9_undo_49 : decode cX9_undo 49 = .ok (.aload_n 0, 1) := by decide +kernel
theorem dX9_undo_50 : decode cX9_undo 50 = .ok (.getfield 13, 3) := by decide +kernel
theorem dX9_undo_53 : decode cX9_undo 53 = .ok (.bipush 49, 2) := by decide +kernel
theorem dX9_undo_55 : decode cX9_undo 55 = .ok (.aload_n 0, 1) := by decide +kernel
theorem dX9_undo_56 : decode cX9_undo 56 = .ok (.getfield 176, 3) := by decide +kernel
theorem dX9_undo_59 : decode cX9_undo 59 = .ok (.imul, 1) := by decide +kernel
theorem dX9_undo_60 : decode cX9_undo 60 = .ok (.iload_n 1, 1) := by decide +kernel
theorem dX9_undo_61 : decode cX9_undo 61 = .ok (.iadd, 1) := by decide +kernel
theorem dX9_undo_62 : decode cX9_undo 62 = .ok (.iaload, 1) := by decide +kernel
theorem dX9_undo_63 : decode cX9_undo 63 = .ok (.iastore, 1) := by decide +kernel
theorem dX9_undo_64 : decode cX9_undo 64 = .ok (.iinc 1 1, 3) := by decide +kernel
theorem dX9_undo_67 : decode cX9_undo 67 = .ok (.goto (-29), 3) := by decide +kernel
theorem dX9_undo_70 : decode cX9_undo 70 = .ok (.aload_n 0, 1) := by decide +kernel
theorem dX9_undo_71 : decode cX9_undo 71 = .ok (.getfield 92, 3) := by decide +kernel
theorem dX9_undo_74 : decode cX9_undo 74 = .ok (.ireturn, 1) := by decide +kernel
theorem dX9_fitting_0 : decode cX9_fitting 0 = .ok (.aload_n 0, 1) := by decide +kernel
theorem dX9_fitting_1 : decode cX9_fitting 1 = .ok (.iload_n 1, 1) := by decide +kernel
theorem dX9_fitting_2 : decode cX9_fitting 2 = .ok (.invokevirtual 98, 3) := by decide +kernel
theorem dX9_fitting_5 : decode cX9_fitting 5 = .ok (.ifCond .eq 11, 3) := by decide +kernel
theorem dX9_fitting_8 : decode cX9_fitting 8 = .ok (.aload_n 0, 1) := by decide +kernel
theorem dX9_fitting_9 : decode cX9_fitting 9 = .ok (.iload_n 2, 1) := by decide +kernel
theorem dX9_fitting_10 : decode cX9_fitting 10 = .ok (.invokevirtual 102, 3) := by decide +kernel
theorem dX9_fitting_13 : decode cX9_fitting 13 = .ok (.ifCond .ne 5, 3) := by decide +kernel
theorem dX9_fitting_16 : decode cX9_fitting 16 = .ok (.iconst (-1), 1) := by decide +kernel
theorem dX9_fitting_17 : decode cX9_fitting 17 = .ok (.ireturn, 1) := by decide +kernel
theorem dX9_fitting_18 : decode cX9_fitting 18 = .ok (.bipush 8, 2) := by decide +kernel
theorem dX9_fitting_20 : decode cX9_fitting 20 = .ok (.iload_n 1, 1) := by decide +kernel
theorem dX9_fitting_21 : decode cX9_fitting 21 = .ok (.imul, 1) := by decide +kernel
theorem dX9_fitting_22 : decode cX9_fitting 22 = .ok (.iload_n 2, 1) := by decide +kernel
theorem dX9_fitting_23 : decode cX9_fitting 23 = .ok (.iadd, 1) := by decide +kernel
theorem dX9_fitting_24 : decode cX9_fitting 24 = .ok (.istore_n 3, 1) := by decide +kernel
theorem dX9_fitting_25 : decode cX9_fitting 25 = .ok (.aload_n 0, 1) := by decide +kernel
theorem dX9_fitting_26 : decode cX9_fitting 26 = .ok (.getfield 7, 3) := by decide +kernel
theorem dX9_fitting_29 : decode cX9_fitting 29 = .ok (.iload_n 3, 1) := by decide +kernel
theorem dX9_fitting_30 : decode cX9_fitting 30 = .ok (.iaload, 1) := by decide +kernel
theorem dX9_fitting_31 : decode cX9_fitting 31 = .ok (.iconst 4, 1) := by decide +kernel
theorem dX9_fitting_32 : decode cX9_fitting 32 = .ok (.if_icmp .eq 6, 3) := by decide +kernel
theorem dX9_fitting_35 : decode cX9_fitting 35 = .ok (.bipush (-9), 2) := by decide +kernel
theorem dX9_fitting_37 : decode cX9_fitting 37 = .ok (.ireturn, 1) := by decide +kernel
theorem dX9_fitting_38 : decode cX9_fitting 38 = .ok (.aload_n 0, 1) := by decide +kernel
theorem dX9_fitting_39 : decode cX9_fitting 39 = .ok (.aload_n 0, 1) := by decide +kernel
theorem dX9_fitting_40 : decode cX9_fitting 40 = .ok (.getfield 7, 3) := by decide +kernel
theorem dX9_fitting_43 : decode cX9_fitting 43 = .ok (.bipush 48, 2) := by decide +kernel
theorem dX9_fitting_45 : decode cX9_fitting 45 = .ok (.iaload, 1) := by decide +kernel
theorem dX9_fitting_46 : decode cX9_fitting 46 = .ok (.invokevirtual 144, 3) := by decide +kernel
theorem dX9_fitting_49 : decode cX9_fitting 49 = .ok (.aload_n 0, 1) := by decide +kernel
theorem dX9_fitting_50 : decode cX9_fitting 50 = .ok (.iload_n 2, 1) := by decide +kernel
theorem dX9_fitting_51 : decode cX9_fitting 51 = .ok (.invokevirtual 147, 3) := by decide +kernel
theorem dX9_fitting_54 : decode cX9_fitting 54 = .ok (.istore 4, 2) := by decide +kernel
theorem dX9_fitting_56 : decode cX9_fitting 56 = .ok (.iconst 0, 1) := by decide +kernel
theorem dX9_fitting_57 : decode cX9_fitting 57 = .ok (.istore 5, 2) := by decide +kernel
theorem dX9_fitting_59 : decode cX9_fitting 59 = .ok (.iconst 0, 1) := by decide +kernel
theorem dX9_fitting_60 : decode cX9_fitting 60 = .ok (.istore 6, 2) := by decide +kernel
theorem dX9_fitting_62 : decode cX9_fitting 62 = .ok (.iload 6, 2) := by decide +kernel
theorem dX9_fitting_64 : decode cX9_fitting 64 = .ok (.iconst 4, 1) := by decide +kernel
theorem dX9_fitting_65 : decode cX9_fitting 65 = .ok (.if_icmp .ge 40, 3) := by decide +kernel
theorem dX9_fitting_68 : decode cX9_fitting 68 = .ok (.aload_n 0, 1) := by decide +kernel
theorem dX9_fitting_69 : decode cX9_fitting 69 = .ok (.getfield 7, 3) := by decide +kernel
theorem dX9_fitting_72 : decode cX9_fitting 72 = .ok (.iload_n 3, 1) := by decide +kernel
theorem dX9_fitting_73 : decode cX9_fitting 73 = .ok (.iload 6, 2) := by decide +kernel
theorem dX9_fitting_75 : decode cX9_fitting 75 = .ok (.iastore, 1) := by decide +kernel
theorem dX9_fitting_76 : decode cX9_fitting 76 = .ok (.iload 5, 2) := by decide +kernel
theorem dX9_fitting_78 : decode cX9_fitting 78 = .ok (.aload_n 0, 1) := by decide +kernel
theorem dX9_fitting_79 : decode cX9_fitting 79 = .ok (.iload_n 2, 1) := by decide +kernel
theorem dX9_fitting_80 : decode cX9_fitting 80 = .ok (.invokevirtual 147, 3) := by decide +kernel
theorem dX9_fitting_83 : decode cX9_fitting 83 = .ok (.iload 4, 2) := by decide +kernel
theorem dX9_fitting_85 : decode cX9_fitting 85 = .ok (.if_icmp .ne 10, 3) := by decide +kernel
theorem dX9_fitting_88 : decode cX9_fitting 88 = .ok (.iconst 1, 1) := by decide +kernel
theorem dX9_fitting_89 : decode cX9_fitting 89 = .ok (.iload 6, 2) := by decide +kernel
theorem dX9_fitting_91 : decode cX9_fitting 91 = .ok (.ishl, 1) := by decide +kernel
theorem dX9_fitting_92 : decode cX9_fitting 92 = .ok (.goto 4, 3) := by decide +kernel
theorem dX9_fitting_95 : decode cX9_fitting 95 = .ok (.iconst 0, 1) := by decide +kernel
theorem dX9_fitting_96 : decode cX9_fitting 96 = .ok (.ior, 1) := by decide +kernel
theorem dX9_fitting_97 : decode cX9_fitting 97 = .ok (.istore 5, 2) := by decide +kernel
theorem dX9_fitting_99 : decode cX9_fitting 99 = .ok (.iinc 6 1, 3) := by decide +kernel
theorem dX9_fitting_102 : decode cX9_fitting 102 = .ok (.goto (-40), 3) := by decide +kernel
theorem dX9_fitting_105 : decode cX9_fitting 105 = .ok (.aload_n 0, 1) := by decide +kernel
theorem dX9_fitting_106 : decode cX9_fitting 106 = .ok (.getfield 7, 3) := by decide +kernel
theorem dX9_fitting_109 : decode cX9_fitting 109 = .ok (.iload_n 3, 1) := by decide +kernel
theorem dX9_fitting_110 : decode cX9_fitting 110 = .ok (.iconst 4, 1) := by decide +kernel
theorem dX9_fitting_111 : decode cX9_fitting 111 = .ok (.iastore, 1) := by decide +kernel
theorem dX9_fitting_112 : decode cX9_fitting 112 = .ok (.iload 5, 2) := by decide +kernel
theorem dX9_fitting_114 : decode cX9_fitting 114 = .ok (.ireturn, 1) := by decide +kernel
theorem dX9_isTold_0 : decode cX9_isTold 0 = .ok (.iconst 0, 1) := by decide +kernel
theorem dX9_isTold_1 : decode cX9_isTold 1 = .ok (.istore 5, 2) := by decide +kernel
theorem dX9_isTold_3 : decode cX9_isTold 3 = .ok (.iconst 0, 1) := by decide +kernel
theorem dX9_isTold_4 : decode cX9_isTold 4 = .ok (.istore 6, 2) := by decide +kernel
theorem dX9_isTold_6 : decode cX9_isTold 6 = .ok (.iload 6, 2) := by decide +kernel
theorem dX9_isTold_8 : decode cX9_isTold 8 = .ok (.aload_n 0, 1) := by decide +kernel
theorem dX9_isTold_9 : decode cX9_isTold 9 = .ok (.getfield 86, 3) := by decide +kernel
theorem dX9_isTold_12 : decode cX9_isTold 12 = .ok (.if_icmp .ge 44, 3) := by decide +kernel
theorem dX9_isTold_15 : decode cX9_isTold 15 = .ok (.iload 5, 2) := by decide +kernel
theorem dX9_isTold_17 : decode cX9_isTold 17 = .ok (.ifCond .ne 26, 3) := by decide +kernel
theorem dX9_isTold_20 : decode cX9_isTold 20 = .ok (.aload_n 0, 1) := by decide +kernel
theorem dX9_isTold_21 : decode cX9_isTold 21 = .ok (.iload 6, 2) := by decide +kernel
theorem dX9_isTold_23 : decode cX9_isTold 23 = .ok (.iload_n 1, 1) := by decide +kernel
theorem dX9_isTold_24 : decode cX9_isTold 24 = .ok (.invokevirtual 105, 3) := by decide +kernel
theorem dX9_isTold_27 : decode cX9_isTold 27 = .ok (.iload_n 2, 1) := by decide +kernel
theorem dX9_isTold_28 : decode cX9_isTold 28 = .ok (.if_icmp .ne 19, 3) := by decide +kernel
theorem dX9_isTold_31 : decode cX9_isTold 31 = .ok (.aload_n 0, 1) := by decide +kernel
theorem dX9_isTold_32 : decode cX9_isTold 32 = .ok (.iload 6, 2) := by decide +kernel
theorem dX9_isTold_34 : decode cX9_isTold 34 = .ok (.iload_n 3, 1) := by decide +kernel
theorem dX9_isTold_35 : decode cX9_isTold 35 = .ok (.invokevirtual 105, 3) := by decide +kernel
theorem dX9_isTold_38 : decode cX9_isTold 38 = .ok (.iload 4, 2) := by decide +kernel
theorem dX9_isTold_40 : decode cX9_isTold 40 = .ok (.if_icmp .ne 7, 3) := by decide +kernel
theorem dX9_isTold_43 : decode cX9_isTold 43 = .ok (.iconst 1, 1) := by decide +kernel
theorem dX9_isTold_44 : decode cX9_isTold 44 = .ok (.goto 4, 3) := by decide +kernel
theorem dX9_isTold_47 : decode cX9_isTold 47 = .ok (.iconst 0, 1) := by decide +kernel
theorem dX9_isTold_48 : decode cX9_isTold 48 = .ok (.istore 5, 2) := by decide +kernel
theorem dX9_isTold_50 : decode cX9_isTold 50 = .ok (.iinc 6 1, 3) := by decide +kernel
theorem dX9_isTold_53 : decode cX9_isTold 53 = .ok (.goto (-47), 3) := by decide +kernel
theorem dX9_isTold_56 : decode cX9_isTold 56 = .ok (.iload 5, 2) := by decide +kernel
theorem dX9_isTold_58 : decode cX9_isTold 58 = .ok (.ireturn, 1) := by decide +kernel
theorem dX9_quarrels_0 : decode cX9_quarrels 0 = .ok (.iconst 0, 1) := by decide +kernel
theorem dX9_quarrels_1 : decode cX9_quarrels 1 = .ok (.istore_n 3, 1) := by decide +kernel
theorem dX9_quarrels_2 : decode cX9_quarrels 2 = .ok (.iconst 0, 1) := by decide +kernel
theorem dX9_quarrels_3 : decode cX9_quarrels 3 = .ok (.istore 4, 2) := by decide +kernel
theorem dX9_quarrels_5 : decode cX9_quarrels 5 = .ok (.iload 4, 2) := by decide +kernel
theorem dX9_quarrels_7 : decode cX9_quarrels 7 = .ok (.sipush 256, 3) := by decide +kernel
theorem dX9_quarrels_10 : decode cX9_quarrels 10 = .ok (.if_icmp .ge 115, 3) := by decide +kernel
theorem dX9_quarrels_13 : decode cX9_quarrels 13 = .ok (.iload 4, 2) := by decide +kernel
theorem dX9_quarrels_15 : decode cX9_quarrels 15 = .ok (.bipush 64, 2) := by decide +kernel
theorem dX9_quarrels_17 : decode cX9_quarrels 17 = .ok (.idiv, 1) := by decide +kernel
theorem dX9_quarrels_18 : decode cX9_quarrels 18 = .ok (.istore 5, 2) := by decide +kernel
theorem dX9_quarrels_20 : decode cX9_quarrels 20 = .ok (.iload 4, 2) := by decide +kernel
theorem dX9_quarrels_22 : decode cX9_quarrels 22 = .ok (.bipush 16, 2) := by decide +kernel
theorem dX9_quarrels_24 : decode cX9_quarrels 24 = .ok (.idiv, 1) := by decide +kernel
theorem dX9_quarrels_25 : decode cX9_quarrels 25 = .ok (.iconst 4, 1) := by decide +kernel
theorem dX9_quarrels_26 : decode cX9_quarrels 26 = .ok (.irem, 1) := by decide +kernel
theorem dX9_quarrels_27 : decode cX9_quarrels 27 = .ok (.istore 6, 2) := by decide +kernel
theorem dX9_quarrels_29 : decode cX9_quarrels 29 = .ok (.iload 4, 2) := by decide +kernel
theorem dX9_quarrels_31 : decode cX9_quarrels 31 = .ok (.iconst 4, 1) := by decide +kernel
theorem dX9_quarrels_32 : decode cX9_quarrels 32 = .ok (.idiv, 1) := by decide +kernel
theorem dX9_quarrels_33 : decode cX9_quarrels 33 = .ok (.iconst 4, 1) := by decide +kernel
theorem dX9_quarrels_34 : decode cX9_quarrels 34 = .ok (.irem, 1) := by decide +kernel
theorem dX9_quarrels_35 : decode cX9_quarrels 35 = .ok (.istore 7, 2) := by decide +kernel
theorem dX9_quarrels_37 : decode cX9_quarrels 37 = .ok (.iload 4, 2) := by decide +kernel
theorem dX9_quarrels_39 : decode cX9_quarrels 39 = .ok (.iconst 4, 1) := by decide +kernel
theorem dX9_quarrels_40 : decode cX9_quarrels 40 = .ok (.irem, 1) := by decide +kernel
theorem dX9_quarrels_41 : decode cX9_quarrels 41 = .ok (.istore 8, 2) := by decide +kernel
theorem dX9_quarrels_43 : decode cX9_quarrels 43 = .ok (.iload_n 3, 1) := by decide +kernel
theorem dX9_quarrels_44 : decode cX9_quarrels 44 = .ok (.ifCond .ne 69, 3) := by decide +kernel
theorem dX9_quarrels_47 : decode cX9_quarrels 47 = .ok (.iload 5, 2) := by decide +kernel
theorem dX9_quarrels_49 : decode cX9_quarrels 49 = .ok (.iload 6, 2) := by decide +kernel
theorem dX9_quarrels_51 : decode cX9_quarrels 51 = .ok (.if_icmp .ge 66, 3) := by decide +kernel
theorem dX9_quarrels_54 : decode cX9_quarrels 54 = .ok (.iload 7, 2) := by decide +kernel
theorem dX9_quarrels_56 : decode cX9_quarrels 56 = .ok (.iload 8, 2) := by decide +kernel
theorem dX9_quarrels_58 : decode cX9_quarrels 58 = .ok (.if_icmp .ge 59, 3) := by decide +kernel
theorem dX9_quarrels_61 : decode cX9_quarrels 61 = .ok (.aload_n 0, 1) := by decide +kernel
theorem dX9_quarrels_62 : decode cX9_quarrels 62 = .ok (.iload_n 1, 1) := by decide +kernel
theorem dX9_quarrels_63 : decode cX9_quarrels 63 = .ok (.iload 5, 2) := by decide +kernel
theorem dX9_quarrels_65 : decode cX9_quarrels 65 = .ok (.iload_n 2, 1) := by decide +kernel
theorem dX9_quarrels_66 : decode cX9_quarrels 66 = .ok (.iload 7, 2) := by decide +kernel
theorem dX9_quarrels_68 : decode cX9_quarrels 68 = .ok (.invokevirtual 188, 3) := by decide +kernel
theorem dX9_quarrels_71 : decode cX9_quarrels 71 = .ok (.ifCond .eq 46, 3) := by decide +kernel
theorem dX9_quarrels_74 : decode cX9_quarrels 74 = .ok (.aload_n 0, 1) := by decide +kernel
theorem dX9_quarrels_75 : decode cX9_quarrels 75 = .ok (.iload_n 1, 1) := by decide +kernel
theorem dX9_quarrels_76 : decode cX9_quarrels 76 = .ok (.iload 5, 2) := by decide +kernel
theorem dX9_quarrels_78 : decode cX9_quarrels 78 = .ok (.iload_n 2, 1) := by decide +kernel
theorem dX9_quarrels_79 : decode cX9_quarrels 79 = .ok (.iload 8, 2) := by decide +kernel
theorem dX9_quarrels_81 : decode cX9_quarrels 81 = .ok (.invokevirtual 188, 3) := by decide +kernel
theorem dX9_quarrels_84 : decode cX9_quarrels 84 = .ok (.ifCond .eq 33, 3) := by decide +kernel
theorem dX9_quarrels_87 : decode cX9_quarrels 87 = .ok (.aload_n 0, 1) := by decide +kernel
theorem dX9_quarrels_88 : decode cX9_quarrels 88 = .ok (.iload_n 1, 1) := by decide +kernel
theorem dX9_quarrels_89 : decode cX9_quarrels 89 = .ok (.iload 6, 2) := by decide +kernel
theorem dX9_quarrels_91 : decode cX9_quarrels 91 = .ok (.iload_n 2, 1) := by decide +kernel
theorem dX9_quarrels_92 : decode cX9_quarrels 92 = .ok (.iload 7, 2) := by decide +kernel
theorem dX9_quarrels_94 : decode cX9_quarrels 94 = .ok (.invokevirtual 188, 3) := by decide +kernel
theorem dX9_quarrels_97 : decode cX9_quarrels 97 = .ok (.ifCond .eq 20, 3) := by decide +kernel
theorem dX9_quarrels_100 : decode cX9_quarrels 100 = .ok (.aload_n 0, 1) := by decide +kernel
theorem dX9_quarrels_101 : decode cX9_quarrels 101 = .ok (.iload_n 1, 1) := by decide +kernel
theorem dX9_quarrels_102 : decode cX9_quarrels 102 = .ok (.iload 6, 2) := by decide +kernel
theorem dX9_quarrels_104 : decode cX9_quarrels 104 = .ok (.iload_n 2, 1) := by decide +kernel
theorem dX9_quarrels_105 : decode cX9_quarrels 105 = .ok (.iload 8, 2) := by decide +kernel
theorem dX9_quarrels_107 : decode cX9_quarrels 107 = .ok (.invokevirtual 188, 3) := by decide +kernel
theorem dX9_quarrels_110 : decode cX9_quarrels 110 = .ok (.ifCond .eq 7, 3) := by decide +kernel
theorem dX9_quarrels_113 : decode cX9_quarrels 113 = .ok (.iconst 1, 1) := by decide +kernel
theorem dX9_quarrels_114 : decode cX9_quarrels 114 = .ok (.goto 4, 3) := by decide +kernel
theorem dX9_quarrels_117 : decode cX9_quarrels 117 = .ok (.iconst 0, 1) := by decide +kernel
theorem dX9_quarrels_118 : decode cX9_quarrels 118 = .ok (.istore_n 3, 1) := by decide +kernel
theorem dX9_quarrels_119 : decode cX9_quarrels 119 = .ok (.iinc 4 1, 3) := by decide +kernel
theorem dX9_quarrels_122 : decode cX9_quarrels 122 = .ok (.goto (-117), 3) := by decide +kernel
theorem dX9_quarrels_125 : decode cX9_quarrels 125 = .ok (.iload_n 3, 1) := by decide +kernel
theorem dX9_quarrels_126 : decode cX9_quarrels 126 = .ok (.ireturn, 1) := by decide +kernel
theorem dX9_quarrel_0 : decode cX9_quarrel 0 = .ok (.aload_n 0, 1) := by decide +kernel
theorem dX9_quarrel_1 : decode cX9_quarrel 1 = .ok (.iload_n 1, 1) := by decide +kernel
theorem dX9_quarrel_2 : decode cX9_quarrel 2 = .ok (.invokevirtual 102, 3) := by decide +kernel
theorem dX9_quarrel_5 : decode cX9_quarrel 5 = .ok (.ifCond .eq 16, 3) := by decide +kernel
theorem dX9_quarrel_8 : decode cX9_quarrel 8 = .ok (.aload_n 0, 1) := by decide +kernel
theorem dX9_quarrel_9 : decode cX9_quarrel 9 = .ok (.iload_n 2, 1) := by decide +kernel
theorem dX9_quarrel_10 : decode cX9_quarrel 10 = .ok (.invokevirtual 102, 3) := by decide +kernel
theorem dX9_quarrel_13 : decode cX9_quarrel 13 = .ok (.ifCond .eq 8, 3) := by decide +kernel
theorem dX9_quarrel_16 : decode cX9_quarrel 16 = .ok (.iload_n 1, 1) := by decide +kernel
theorem dX9_quarrel_17 : decode cX9_quarrel 17 = .ok (.iload_n 2, 1) := by decide +kernel
theorem dX9_quarrel_18 : decode cX9_quarrel 18 = .ok (.if_icmp .ne 5, 3) := by decide +kernel
theorem dX9_quarrel_21 : decode cX9_quarrel 21 = .ok (.iconst (-1), 1) := by decide +kernel
theorem dX9_quarrel_22 : decode cX9_quarrel 22 = .ok (.ireturn, 1) := by decide +kernel
theorem dX9_quarrel_23 : decode cX9_quarrel 23 = .ok (.aload_n 0, 1) := by decide +kernel
theorem dX9_quarrel_24 : decode cX9_quarrel 24 = .ok (.iload_n 1, 1) := by decide +kernel
theorem dX9_quarrel_25 : decode cX9_quarrel 25 = .ok (.iload_n 2, 1) := by decide +kernel
theorem dX9_quarrel_26 : decode cX9_quarrel 26 = .ok (.invokevirtual 192, 3) := by decide +kernel
theorem dX9_quarrel_29 : decode cX9_quarrel 29 = .ok (.ifCond .eq 7, 3) := by decide +kernel
theorem dX9_quarrel_32 : decode cX9_quarrel 32 = .ok (.iconst 1, 1) := by decide +kernel
theorem dX9_quarrel_33 : decode cX9_quarrel 33 = .ok (.goto 4, 3) := by decide +kernel
theorem dX9_quarrel_36 : decode cX9_quarrel 36 = .ok (.iconst 0, 1) := by decide +kernel
theorem dX9_quarrel_37 : decode cX9_quarrel 37 = .ok (.ireturn, 1) := by decide +kernel
theorem dX9_shared_0 : decode cX9_shared 0 = .ok (.aload_n 0, 1) := by decide +kernel
theorem dX9_shared_1 : decode cX9_shared 1 = .ok (.iload_n 1, 1) := by decide +kernel
theorem dX9_shared_2 : decode cX9_shared 2 = .ok (.invokevirtual 102, 3) := by decide +kernel
theorem dX9_shared_5 : decode cX9_shared 5 = .ok (.ifCond .eq 11, 3) := by decide +kernel
theorem dX9_shared_8 : decode cX9_shared 8 = .ok (.aload_n 0, 1) := by decide +kernel
theorem dX9_shared_9 : decode cX9_shared 9 = .ok (.iload_n 2, 1) := by decide +kernel
theorem dX9_shared_10 : decode cX9_shared 10 = .ok (.invokevirtual 98, 3) := by decide +kernel
theorem dX9_shared_13 : decode cX9_shared 13 = .ok (.ifCond .ne 5, 3) := by decide +kernel
theorem dX9_shared_16 : decode cX9_shared 16 = .ok (.iconst (-1), 1) := by decide +kernel
theorem dX9_shared_17 : decode cX9_shared 17 = .ok (.ireturn, 1) := by decide +kernel
theorem dX9_shared_18 : decode cX9_shared 18 = .ok (.iconst 0, 1) := by decide +kernel
theorem dX9_shared_19 : decode cX9_shared 19 = .ok (.istore_n 3, 1) := by decide +kernel
theorem dX9_shared_20 : decode cX9_shared 20 = .ok (.iconst 0, 1) := by decide +kernel
theorem dX9_shared_21 : decode cX9_shared 21 = .ok (.istore 4, 2) := by decide +kernel
theorem dX9_shared_23 : decode cX9_shared 23 = .ok (.iload 4, 2) := by decide +kernel
theorem dX9_shared_25 : decode cX9_shared 25 = .ok (.aload_n 0, 1) := by decide +kernel
theorem dX9_shared_26 : decode cX9_shared 26 = .ok (.getfield 86, 3) := by decide +kernel
theorem dX9_shared_29 : decode cX9_shared 29 = .ok (.if_icmp .ge 36, 3) := by decide +kernel
theorem dX9_shared_32 : decode cX9_shared 32 = .ok (.iload_n 3, 1) := by decide +kernel
theorem dX9_shared_33 : decode cX9_shared 33 = .ok (.aload_n 0, 1) := by decide +kernel
theorem dX9_shared_34 : decode cX9_shared 34 = .ok (.iload 4, 2) := by decide +kernel
theorem dX9_shared_36 : decode cX9_shared 36 = .ok (.iload_n 1, 1) := by decide +kernel
theorem dX9_shared_37 : decode cX9_shared 37 = .ok (.invokevirtual 105, 3) := by decide +kernel
theorem dX9_shared_40 : decode cX9_shared 40 = .ok (.aload_n 0, 1) := by decide +kernel
theorem dX9_shared_41 : decode cX9_shared 41 = .ok (.iload_n 2, 1) := by decide +kernel
theorem dX9_shared_42 : decode cX9_shared 42 = .ok (.iload_n 1, 1) := by decide +kernel
theorem dX9_shared_43 : decode cX9_shared 43 = .ok (.invokevirtual 105, 3) := by decide +kernel
theorem dX9_shared_46 : decode cX9_shared 46 = .ok (.if_icmp .ne 10, 3) := by decide +kernel
theorem dX9_shared_49 : decode cX9_shared 49 = .ok (.iconst 1, 1) := by decide +kernel
theorem dX9_shared_50 : decode cX9_shared 50 = .ok (.iload 4, 2) := by decide +kernel
theorem dX9_shared_52 : decode cX9_shared 52 = .ok (.ishl, 1) := by decide +kernel
theorem dX9_shared_53 : decode cX9_shared 53 = .ok (.goto 4, 3) := by decide +kernel
theorem dX9_shared_56 : decode cX9_shared 56 = .ok (.iconst 0, 1) := by decide +kernel
theorem dX9_shared_57 : decode cX9_shared 57 = .ok (.ior, 1) := by decide +kernel
theorem dX9_shared_58 : decode cX9_shared 58 = .ok (.istore_n 3, 1) := by decide +kernel
theorem dX9_shared_59 : decode cX9_shared 59 = .ok (.iinc 4 1, 3) := by decide +kernel
theorem dX9_shared_62 : decode cX9_shared 62 = .ok (.goto (-39), 3) := by decide +kernel
theorem dX9_shared_65 : decode cX9_shared 65 = .ok (.aload_n 0, 1) := by decide +kernel
theorem dX9_shared_66 : decode cX9_shared 66 = .ok (.iload_n 2, 1) := by decide +kernel
theorem dX9_shared_67 : decode cX9_shared 67 = .ok (.iload_n 1, 1) := by decide +kernel
theorem dX9_shared_68 : decode cX9_shared 68 = .ok (.invokevirtual 105, 3) := by decide +kernel
theorem dX9_shared_71 : decode cX9_shared 71 = .ok (.iconst 4, 1) := by decide +kernel
theorem dX9_shared_72 : decode cX9_shared 72 = .ok (.if_icmp .ne 7, 3) := by decide +kernel
theorem dX9_shared_75 : decode cX9_shared 75 = .ok (.iconst 0, 1) := by decide +kernel
theorem dX9_shared_76 : decode cX9_shared 76 = .ok (.goto 4, 3) := by decide +kernel
theorem dX9_shared_79 : decode cX9_shared 79 = .ok (.iload_n 3, 1) := by decide +kernel
theorem dX9_shared_80 : decode cX9_shared 80 = .ok (.ireturn, 1) := by decide +kernel
theorem dX9_unlikes_0 : decode cX9_unlikes 0 = .ok (.iconst 0, 1) := by decide +kernel
theorem dX9_unlikes_1 : decode cX9_unlikes 1 = .ok (.istore 5, 2) := by decide +kernel
theorem dX9_unlikes_3 : decode cX9_unlikes 3 = .ok (.iload_n 3, 1) := by decide +kernel
theorem dX9_unlikes_4 : decode cX9_unlikes 4 = .ok (.istore 6, 2) := by decide +kernel
theorem dX9_unlikes_6 : decode cX9_unlikes 6 = .ok (.iload 6, 2) := by decide +kernel
theorem dX9_unlikes_8 : decode cX9_unlikes 8 = .ok (.iload 4, 2) := by decide +kernel
theorem dX9_unlikes_10 : decode cX9_unlikes 10 = .ok (.if_icmp .ge 56, 3) := by decide +kernel
theorem dX9_unlikes_13 : decode cX9_unlikes 13 = .ok (.aload_n 0, 1) := by decide +kernel
theorem dX9_unlikes_14 : decode cX9_unlikes 14 = .ok (.iload_n 1, 1) := by decide +kernel
theorem dX9_unlikes_15 : decode cX9_unlikes 15 = .ok (.iload 6, 2) := by decide +kernel
theorem dX9_unlikes_17 : decode cX9_unlikes 17 = .ok (.invokevirtual 105, 3) := by decide +kernel
theorem dX9_unlikes_20 : decode cX9_unlikes 20 = .ok (.istore 7, 2) := by decide +kernel
theorem dX9_unlikes_22 : decode cX9_unlikes 22 = .ok (.aload_n 0, 1) := by decide +kernel
theorem dX9_unlikes_23 : decode cX9_unlikes 23 = .ok (.iload_n 2, 1) := by decide +kernel
theorem dX9_unlikes_24 : decode cX9_unlikes 24 = .ok (.iload 6, 2) := by decide +kernel
theorem dX9_unlikes_26 : decode cX9_unlikes 26 = .ok (.invokevirtual 105, 3) := by decide +kernel
theorem dX9_unlikes_29 : decode cX9_unlikes 29 = .ok (.istore 8, 2) := by decide +kernel
theorem dX9_unlikes_31 : decode cX9_unlikes 31 = .ok (.iload 5, 2) := by decide +kernel
theorem dX9_unlikes_33 : decode cX9_unlikes 33 = .ok (.iload 7, 2) := by decide +kernel
theorem dX9_unlikes_35 : decode cX9_unlikes 35 = .ok (.iconst 4, 1) := by decide +kernel
theorem dX9_unlikes_36 : decode cX9_unlikes 36 = .ok (.if_icmp .eq 20, 3) := by decide +kernel
theorem dX9_unlikes_39 : decode cX9_unlikes 39 = .ok (.iload 8, 2) := by decide +kernel
theorem dX9_unlikes_41 : decode cX9_unlikes 41 = .ok (.iconst 4, 1) := by decide +kernel
theorem dX9_unlikes_42 : decode cX9_unlikes 42 = .ok (.if_icmp .eq 14, 3) := by decide +kernel
theorem dX9_unlikes_45 : decode cX9_unlikes 45 = .ok (.iload 7, 2) := by decide +kernel
theorem dX9_unlikes_47 : decode cX9_unlikes 47 = .ok (.iload 8, 2) := by decide +kernel
theorem dX9_unlikes_49 : decode cX9_unlikes 49 = .ok (.if_icmp .eq 7, 3) := by decide +kernel
theorem dX9_unlikes_52 : decode cX9_unlikes 52 = .ok (.iconst 1, 1) := by decide +kernel
theorem dX9_unlikes_53 : decode cX9_unlikes 53 = .ok (.goto 4, 3) := by decide +kernel
theorem dX9_unlikes_56 : decode cX9_unlikes 56 = .ok (.iconst 0, 1) := by decide +kernel
theorem dX9_unlikes_57 : decode cX9_unlikes 57 = .ok (.iadd, 1) := by decide +kernel
theorem dX9_unlikes_58 : decode cX9_unlikes 58 = .ok (.istore 5, 2) := by decide +kernel
theorem dX9_unlikes_60 : decode cX9_unlikes 60 = .ok (.iinc 6 1, 3) := by decide +kernel
theorem dX9_unlikes_63 : decode cX9_unlikes 63 = .ok (.goto (-57), 3) := by decide +kernel
theorem dX9_unlikes_66 : decode cX9_unlikes 66 = .ok (.iload 5, 2) := by decide +kernel
theorem dX9_unlikes_68 : decode cX9_unlikes 68 = .ok (.ireturn, 1) := by decide +kernel
theorem dX9_mixed_0 : decode cX9_mixed 0 = .ok (.aload_n 0, 1) := by decide +kernel
theorem dX9_mixed_1 : decode cX9_mixed 1 = .ok (.iload_n 1, 1) := by decide +kernel
theorem dX9_mixed_2 : decode cX9_mixed 2 = .ok (.invokevirtual 98, 3) := by decide +kernel
theorem dX9_mixed_5 : decode cX9_mixed 5 = .ok (.ifCond .eq 12, 3) := by decide +kernel
theorem dX9_mixed_8 : decode cX9_mixed 8 = .ok (.iload_n 2, 1) := by decide +kernel
theorem dX9_mixed_9 : decode cX9_mixed 9 = .ok (.iconst 0, 1) := by decide +kernel
theorem dX9_mixed_10 : decode cX9_mixed 10 = .ok (.iconst 4, 1) := by decide +kernel
theorem dX9_mixed_11 : decode cX9_mixed 11 = .ok (.invokestatic 50, 3) := by decide +kernel
theorem dX9_mixed_14 : decode cX9_mixed 14 = .ok (.ifCond .ne 5, 3) := by decide +kernel
theorem dX9_mixed_17 : decode cX9_mixed 17 = .ok (.iconst (-1), 1) := by decide +kernel
theorem dX9_mixed_18 : decode cX9_mixed 18 = .ok (.ireturn, 1) := by decide +kernel
theorem dX9_mixed_19 : decode cX9_mixed 19 = .ok (.aload_n 0, 1) := by decide +kernel
theorem dX9_mixed_20 : decode cX9_mixed 20 = .ok (.getfield 47, 3) := by decide +kernel
theorem dX9_mixed_23 : decode cX9_mixed 23 = .ok (.astore_n 3, 1) := by decide +kernel
theorem dX9_mixed_24 : decode cX9_mixed 24 = .ok (.aload_n 3, 1) := by decide +kernel
theorem dX9_mixed_25 : decode cX9_mixed 25 = .ok (.iconst 0, 1) := by decide +kernel
theorem dX9_mixed_26 : decode cX9_mixed 26 = .ok (.sipush 9999, 3) := by decide +kernel
theorem dX9_mixed_29 : decode cX9_mixed 29 = .ok (.iastore, 1) := by decide +kernel
theorem dX9_mixed_30 : decode cX9_mixed 30 = .ok (.aload_n 3, 1) := by decide +kernel
theorem dX9_mixed_31 : decode cX9_mixed 31 = .ok (.iconst 4, 1) := by decide +kernel
theorem dX9_mixed_32 : decode cX9_mixed 32 = .ok (.sipush 9999, 3) := by decide +kernel
theorem dX9_mixed_35 : decode cX9_mixed 35 = .ok (.iastore, 1) := by decide +kernel
theorem dX9_mixed_36 : decode cX9_mixed 36 = .ok (.iconst 0, 1) := by decide +kernel
theorem dX9_mixed_37 : decode cX9_mixed 37 = .ok (.istore 4, 2) := by decide +kernel
theorem dX9_mixed_39 : decode cX9_mixed 39 = .ok (.iload 4, 2) := by decide +kernel
theorem dX9_mixed_41 : decode cX9_mixed 41 = .ok (.aload_n 0, 1) := by decide +kernel
theorem dX9_mixed_42 : decode cX9_mixed 42 = .ok (.getfield 86, 3) := by decide +kernel
theorem dX9_mixed_45 : decode cX9_mixed 45 = .ok (.if_icmp .ge 163, 3) := by decide +kernel
theorem dX9_mixed_48 : decode cX9_mixed 48 = .ok (.iload 4, 2) := by decide +kernel
theorem dX9_mixed_50 : decode cX9_mixed 50 = .ok (.iload_n 1, 1) := by decide +kernel
theorem dX9_mixed_51 : decode cX9_mixed 51 = .ok (.if_icmp .ne 9, 3) := by decide +kernel
theorem dX9_mixed_54 : decode cX9_mixed 54 = .ok (.sipush 9999, 3) := by decide +kernel
theorem dX9_mixed_57 : decode cX9_mixed 57 = .ok (.goto 15, 3) := by decide +kernel
theorem dX9_mixed_60 : decode cX9_mixed 60 = .ok (.aload_n 0, 1) := by decide +kernel
theorem dX9_mixed_61 : decode cX9_mixed 61 = .ok (.iload_n 1, 1) := by decide +kernel
theorem dX9_mixed_62 : decode cX9_mixed 62 = .ok (.iload 4, 2) := by decide +kernel
theorem dX9_mixed_64 : decode cX9_mixed 64 = .ok (.iconst 0, 1) := by decide +kernel
theorem dX9_mixed_65 : decode cX9_mixed 65 = .ok (.aload_n 0, 1) := by decide +kernel
theorem dX9_mixed_66 : decode cX9_mixed 66 = .ok (.getfield 89, 3) := by decide +kernel
theorem dX9_mixed_69 : decode cX9_mixed 69 = .ok (.invokevirtual 195, 3) := by decide +kernel
theorem dX9_mixed_72 : decode cX9_mixed 72 = .ok (.istore 5, 2) := by decide +kernel
theorem dX9_mixed_74 : decode cX9_mixed 74 = .ok (.aload_n 3, 1) := by decide +kernel
theorem dX9_mixed_75 : decode cX9_mixed 75 = .ok (.iconst 4, 1) := by decide +kernel
theorem dX9_mixed_76 : decode cX9_mixed 76 = .ok (.iload 5, 2) := by decide +kernel
theorem dX9_mixed_78 : decode cX9_mixed 78 = .ok (.aload_n 3, 1) := by decide +kernel
theorem dX9_mixed_79 : decode cX9_mixed 79 = .ok (.iconst 4, 1) := by decide +kernel
theorem dX9_mixed_80 : decode cX9_mixed 80 = .ok (.iaload, 1) := by decide +kernel
theorem dX9_mixed_81 : decode cX9_mixed 81 = .ok (.if_icmp .ge 8, 3) := by decide +kernel
theorem dX9_mixed_84 : decode cX9_mixed 84 = .ok (.iload 5, 2) := by decide +kernel
theorem dX9_mixed_86 : decode cX9_mixed 86 = .ok (.goto 6, 3) := by decide +kernel
theorem dX9_mixed_89 : decode cX9_mixed 89 = .ok (.aload_n 3, 1) := by decide +kernel
theorem dX9_mixed_90 : decode cX9_mixed 90 = .ok (.iconst 4, 1) := by decide +kernel
theorem dX9_mixed_91 : decode cX9_mixed 91 = .ok (.iaload, 1) := by decide +kernel
theorem dX9_mixed_92 : decode cX9_mixed 92 = .ok (.iastore, 1) := by decide +kernel
theorem dX9_mixed_93 : decode cX9_mixed 93 = .ok (.iconst 0, 1) := by decide +kernel
theorem dX9_mixed_94 : decode cX9_mixed 94 = .ok (.istore 6, 2) := by decide +kernel
theorem dX9_mixed_96 : decode cX9_mixed 96 = .ok (.iload 6, 2) := by decide +kernel
theorem dX9_mixed_98 : decode cX9_mixed 98 = .ok (.aload_n 0, 1) := by decide +kernel
theorem dX9_mixed_99 : decode cX9_mixed 99 = .ok (.getfield 86, 3) := by decide +kernel
theorem dX9_mixed_102 : decode cX9_mixed 102 = .ok (.if_icmp .ge 100, 3) := by decide +kernel
theorem dX9_mixed_105 : decode cX9_mixed 105 = .ok (.iload 4, 2) := by decide +kernel
theorem dX9_mixed_107 : decode cX9_mixed 107 = .ok (.iload_n 1, 1) := by decide +kernel
theorem dX9_mixed_108 : decode cX9_mixed 108 = .ok (.if_icmp .eq 94, 3) := by decide +kernel
theorem dX9_mixed_111 : decode cX9_mixed 111 = .ok (.iconst 1, 1) := by decide +kernel
theorem dX9_mixed_112 : decode cX9_mixed 112 = .ok (.istore 7, 2) := by decide +kernel
theorem dX9_mixed_114 : decode cX9_mixed 114 = .ok (.iload 7, 2) := by decide +kernel
theorem dX9_mixed_116 : decode cX9_mixed 116 = .ok (.aload_n 0, 1) := by decide +kernel
theorem dX9_mixed_117 : decode cX9_mixed 117 = .ok (.getfield 89, 3) := by decide +kernel
theorem dX9_mixed_120 : decode cX9_mixed 120 = .ok (.if_icmp .ge 76, 3) := by decide +kernel
theorem dX9_mixed_123 : decode cX9_mixed 123 = .ok (.iload 6, 2) := by decide +kernel
theorem dX9_mixed_125 : decode cX9_mixed 125 = .ok (.iload 4, 2) := by decide +kernel
theorem dX9_mixed_127 : decode cX9_mixed 127 = .ok (.if_icmp .eq 69, 3) := by decide +kernel
theorem dX9_mixed_130 : decode cX9_mixed 130 = .ok (.iload 6, 2) := by decide +kernel
theorem dX9_mixed_132 : decode cX9_mixed 132 = .ok (.iload_n 1, 1) := by decide +kernel
theorem dX9_mixed_133 : decode cX9_mixed 133 = .ok (.if_icmp .eq 63, 3) := by decide +kernel
theorem dX9_mixed_136 : decode cX9_mixed 136 = .ok (.aload_n 0, 1) := by decide +kernel
theorem dX9_mixed_137 : decode cX9_mixed 137 = .ok (.iload_n 1, 1) := by decide +kernel
theorem dX9_mixed_138 : decode cX9_mixed 138 = .ok (.iload 4, 2) := by decide +kernel
theorem dX9_mixed_140 : decode cX9_mixed 140 = .ok (.iconst 0, 1) := by decide +kernel
theorem dX9_mixed_141 : decode cX9_mixed 141 = .ok (.iload 7, 2) := by decide +kernel
theorem dX9_mixed_143 : decode cX9_mixed 143 = .ok (.invokevirtual 195, 3) := by decide +kernel
theorem dX9_mixed_146 : decode cX9_mixed 146 = .ok (.aload_n 0, 1) := by decide +kernel
theorem dX9_mixed_147 : decode cX9_mixed 147 = .ok (.iload_n 1, 1) := by decide +kernel
theorem dX9_mixed_148 : decode cX9_mixed 148 = .ok (.iload 6, 2) := by decide +kernel
theorem dX9_mixed_150 : decode cX9_mixed 150 = .ok (.iload 7, 2) := by decide +kernel
theorem dX9_mixed_152 : decode cX9_mixed 152 = .ok (.aload_n 0, 1) := by decide +kernel
theorem dX9_mixed_153 : decode cX9_mixed 153 = .ok (.getfield 89, 3) := by decide +kernel
theorem dX9_mixed_156 : decode cX9_mixed 156 = .ok (.invokevirtual 195, 3) := by decide +kernel
theorem dX9_mixed_159 : decode cX9_mixed 159 = .ok (.iadd, 1) := by decide +kernel
theorem dX9_mixed_160 : decode cX9_mixed 160 = .ok (.istore 8, 2) := by decide +kernel
theorem dX9_mixed_162 : decode cX9_mixed 162 = .ok (.iload 8, 2) := by decide +kernel
theorem dX9_mixed_164 : decode cX9_mixed 164 = .ok (.aload_n 3, 1) := by decide +kernel
theorem dX9_mixed_165 : decode cX9_mixed 165 = .ok (.iconst 0, 1) := by decide +kernel
theorem dX9_mixed_166 : decode cX9_mixed 166 = .ok (.iaload, 1) := by decide +kernel
theorem dX9_mixed_167 : decode cX9_mixed 167 = .ok (.if_icmp .ge 23, 3) := by decide +kernel
theorem dX9_mixed_170 : decode cX9_mixed 170 = .ok (.aload_n 3, 1) := by decide +kernel
theorem dX9_mixed_171 : decode cX9_mixed 171 = .ok (.iconst 0, 1) := by decide +kernel
theorem dX9_mixed_172 : decode cX9_mixed 172 = .ok (.iload 8, 2) := by decide +kernel
theorem dX9_mixed_174 : decode cX9_mixed 174 = .ok (.iastore, 1) := by decide +kernel
theorem dX9_mixed_175 : decode cX9_mixed 175 = .ok (.aload_n 3, 1) := by decide +kernel
theorem dX9_mixed_176 : decode cX9_mixed 176 = .ok (.iconst 1, 1) := by decide +kernel
theorem dX9_mixed_177 : decode cX9_mixed 177 = .ok (.iload 4, 2) := by decide +kernel
theorem dX9_mixed_179 : decode cX9_mixed 179 = .ok (.iastore, 1) := by decide +kernel
theorem dX9_mixed_180 : decode cX9_mixed 180 = .ok (.aload_n 3, 1) := by decide +kernel
theorem dX9_mixed_181 : decode cX9_mixed 181 = .ok (.iconst 2, 1) := by decide +kernel
theorem dX9_mixed_182 : decode cX9_mixed 182 = .ok (.iload 6, 2) := by decide +kernel
theorem dX9_mixed_184 : decode cX9_mixed 184 = .ok (.iastore, 1) := by decide +kernel
theorem dX9_mixed_185 : decode cX9_mixed 185 = .ok (.aload_n 3, 1) := by decide +kernel
theorem dX9_mixed_186 : decode cX9_mixed 186 = .ok (.iconst 3, 1) := by decide +kernel
theorem dX9_mixed_187 : decode cX9_mixed 187 = .ok (.iload 7, 2) := by decide +kernel
theorem dX9_mixed_189 : decode cX9_mixed 189 = .ok (.iastore, 1) := by decide +kernel
theorem dX9_mixed_190 : decode cX9_mixed 190 = .ok (.iinc 7 1, 3) := by decide +kernel
theorem dX9_mixed_193 : decode cX9_mixed 193 = .ok (.goto (-79), 3) := by decide +kernel
theorem dX9_mixed_196 : decode cX9_mixed 196 = .ok (.iinc 6 1, 3) := by decide +kernel
theorem dX9_mixed_199 : decode cX9_mixed 199 = .ok (.goto (-103), 3) := by decide +kernel
theorem dX9_mixed_202 : decode cX9_mixed 202 = .ok (.iinc 4 1, 3) := by decide +kernel
theorem dX9_mixed_205 : decode cX9_mixed 205 = .ok (.goto (-166), 3) := by decide +kernel
theorem dX9_mixed_208 : decode cX9_mixed 208 = .ok (.aload_n 3, 1) := by decide +kernel
theorem dX9_mixed_209 : decode cX9_mixed 209 = .ok (.iload_n 2, 1) := by decide +kernel
theorem dX9_mixed_210 : decode cX9_mixed 210 = .ok (.iconst 4, 1) := by decide +kernel
theorem dX9_mixed_211 : decode cX9_mixed 211 = .ok (.if_icmp .ne 7, 3) := by decide +kernel
theorem dX9_mixed_214 : decode cX9_mixed 214 = .ok (.iconst 4, 1) := by decide +kernel
theorem dX9_mixed_215 : decode cX9_mixed 215 = .ok (.goto 4, 3) := by decide +kernel
theorem dX9_mixed_218 : decode cX9_mixed 218 = .ok (.iconst 0, 1) := by decide +kernel
theorem dX9_mixed_219 : decode cX9_mixed 219 = .ok (.iaload, 1) := by decide +kernel
theorem dX9_mixed_220 : decode cX9_mixed 220 = .ok (.sipush 9999, 3) := by decide +kernel
theorem dX9_mixed_223 : decode cX9_mixed 223 = .ok (.if_icmp .ne 8, 3) := by decide +kernel
theorem dX9_mixed_226 : decode cX9_mixed 226 = .ok (.bipush (-9), 2) := by decide +kernel
theorem dX9_mixed_228 : decode cX9_mixed 228 = .ok (.goto 6, 3) := by decide +kernel
theorem dX9_mixed_231 : decode cX9_mixed 231 = .ok (.aload_n 3, 1) := by decide +kernel
theorem dX9_mixed_232 : decode cX9_mixed 232 = .ok (.iload_n 2, 1) := by decide +kernel
theorem dX9_mixed_233 : decode cX9_mixed 233 = .ok (.iaload, 1) := by decide +kernel
theorem dX9_mixed_234 : decode cX9_mixed 234 = .ok (.ireturn, 1) := by decide +kernel
theorem dX9_sees_0 : decode cX9_sees 0 = .ok (.iload_n 1, 1) := by decide +kernel
theorem dX9_sees_1 : decode cX9_sees 1 = .ok (.iconst 0, 1) := by decide +kernel
theorem dX9_sees_2 : decode cX9_sees 2 = .ok (.bipush 6, 2) := by decide +kernel
theorem dX9_sees_4 : decode cX9_sees 4 = .ok (.invokestatic 50, 3) := by decide +kernel
theorem dX9_sees_7 : decode cX9_sees 7 = .ok (.ifCond .ne 5, 3) := by decide +kernel
theorem dX9_sees_10 : decode cX9_sees 10 = .ok (.iconst (-1), 1) := by decide +kernel
theorem dX9_sees_11 : decode cX9_sees 11 = .ok (.ireturn, 1) := by decide +kernel
theorem dX9_sees_12 : decode cX9_sees 12 = .ok (.aload_n 0, 1) := by decide +kernel
theorem dX9_sees_13 : decode cX9_sees 13 = .ok (.getfield 95, 3) := by decide +kernel
theorem dX9_sees_16 : decode cX9_sees 16 = .ok (.bipush 6, 2) := by decide +kernel
theorem dX9_sees_18 : decode cX9_sees 18 = .ok (.if_icmp .ne 6, 3) := by decide +kernel
theorem dX9_sees_21 : decode cX9_sees 21 = .ok (.bipush (-3), 2) := by decide +kernel
theorem dX9_sees_23 : decode cX9_sees 23 = .ok (.ireturn, 1) := by decide +kernel
theorem dX9_sees_24 : decode cX9_sees 24 = .ok (.aload_n 0, 1) := by decide +kernel
theorem dX9_sees_25 : decode cX9_sees 25 = .ok (.getfield 16, 3) := by decide +kernel
theorem dX9_sees_28 : decode cX9_sees 28 = .ok (.aload_n 0, 1) := by decide +kernel
theorem dX9_sees_29 : decode cX9_sees 29 = .ok (.getfield 95, 3) := by decide +kernel
theorem dX9_sees_32 : decode cX9_sees 32 = .ok (.iload_n 1, 1) := by decide +kernel
theorem dX9_sees_33 : decode cX9_sees 33 = .ok (.iastore, 1) := by decide +kernel
theorem dX9_sees_34 : decode cX9_sees 34 = .ok (.aload_n 0, 1) := by decide +kernel
theorem dX9_sees_35 : decode cX9_sees 35 = .ok (.dup, 1) := by decide +kernel
theorem dX9_sees_36 : decode cX9_sees 36 = .ok (.getfield 95, 3) := by decide +kernel
theorem dX9_sees_39 : decode cX9_sees 39 = .ok (.iconst 1, 1) := by decide +kernel
theorem dX9_sees_40 : decode cX9_sees 40 = .ok (.iadd, 1) := by decide +kernel
theorem dX9_sees_41 : decode cX9_sees 41 = .ok (.putfield 95, 3) := by decide +kernel
theorem dX9_sees_44 : decode cX9_sees 44 = .ok (.aload_n 0, 1) := by decide +kernel
theorem dX9_sees_45 : decode cX9_sees 45 = .ok (.getfield 95, 3) := by decide +kernel
theorem dX9_sees_48 : decode cX9_sees 48 = .ok (.ireturn, 1) := by decide +kernel
theorem dX9_forget_0 : decode cX9_forget 0 = .ok (.aload_n 0, 1) := by decide +kernel
theorem dX9_forget_1 : decode cX9_forget 1 = .ok (.getfield 95, 3) := by decide +kernel
theorem dX9_forget_4 : decode cX9_forget 4 = .ok (.istore_n 1, 1) := by decide +kernel
theorem dX9_forget_5 : decode cX9_forget 5 = .ok (.aload_n 0, 1) := by decide +kernel
theorem dX9_forget_6 : decode cX9_forget 6 = .ok (.iconst 0, 1) := by decide +kernel
theorem dX9_forget_7 : decode cX9_forget 7 = .ok (.putfield 95, 3) := by decide +kernel
theorem dX9_forget_10 : decode cX9_forget 10 = .ok (.iload_n 1, 1) := by decide +kernel
theorem dX9_forget_11 : decode cX9_forget 11 = .ok (.ireturn, 1) := by decide +kernel
theorem dX9_isSeen_0 : decode cX9_isSeen 0 = .ok (.iconst 1, 1) := by decide +kernel
theorem dX9_isSeen_1 : decode cX9_isSeen 1 = .ok (.istore_n 2, 1) := by decide +kernel
theorem dX9_isSeen_2 : decode cX9_isSeen 2 = .ok (.iconst 0, 1) := by decide +kernel
theorem dX9_isSeen_3 : decode cX9_isSeen 3 = .ok (.istore_n 3, 1) := by decide +kernel
theorem dX9_isSeen_4 : decode cX9_isSeen 4 = .ok (.iload_n 3, 1) := by decide +kernel
theorem dX9_isSeen_5 : decode cX9_isSeen 5 = .ok (.aload_n 0, 1) := by decide +kernel
theorem dX9_isSeen_6 : decode cX9_isSeen 6 = .ok (.getfield 95, 3) := by decide +kernel
theorem dX9_isSeen_9 : decode cX9_isSeen 9 = .ok (.if_icmp .ge 29, 3) := by decide +kernel
theorem dX9_isSeen_12 : decode cX9_isSeen 12 = .ok (.iload_n 2, 1) := by decide +kernel
theorem dX9_isSeen_13 : decode cX9_isSeen 13 = .ok (.ifCond .eq 17, 3) := by decide +kernel
theorem dX9_isSeen_16 : decode cX9_isSeen 16 = .ok (.aload_n 0, 1) := by decide +kernel
theorem dX9_isSeen_17 : decode cX9_isSeen 17 = .ok (.getfield 16, 3) := by decide +kernel
theorem dX9_isSeen_20 : decode cX9_isSeen 20 = .ok (.iload_n 3, 1) := by decide +kernel
theorem dX9_isSeen_21 : decode cX9_isSeen 21 = .ok (.iaload, 1) := by decide +kernel
theorem dX9_isSeen_22 : decode cX9_isSeen 22 = .ok (.iload_n 1, 1) := by decide +kernel
theorem dX9_isSeen_23 : decode cX9_isSeen 23 = .ok (.if_icmp .ne 7, 3) := by decide +kernel
theorem dX9_isSeen_26 : decode cX9_isSeen 26 = .ok (.iconst 1, 1) := by decide +kernel
theorem dX9_isSeen_27 : decode cX9_isSeen 27 = .ok (.goto 4, 3) := by decide +kernel
theorem dX9_isSeen_30 : decode cX9_isSeen 30 = .ok (.iconst 0, 1) := by decide +kernel
theorem dX9_isSeen_31 : decode cX9_isSeen 31 = .ok (.istore_n 2, 1) := by decide +kernel
theorem dX9_isSeen_32 : decode cX9_isSeen 32 = .ok (.iinc 3 1, 3) := by decide +kernel
theorem dX9_isSeen_35 : decode cX9_isSeen 35 = .ok (.goto (-31), 3) := by decide +kernel
theorem dX9_isSeen_38 : decode cX9_isSeen 38 = .ok (.iload_n 2, 1) := by decide +kernel
theorem dX9_isSeen_39 : decode cX9_isSeen 39 = .ok (.ireturn, 1) := by decide +kernel
theorem dX9_unseen_0 : decode cX9_unseen 0 = .ok (.aload_n 0, 1) := by decide +kernel
theorem dX9_unseen_1 : decode cX9_unseen 1 = .ok (.aload_n 0, 1) := by decide +kernel
theorem dX9_unseen_2 : decode cX9_unseen 2 = .ok (.getfield 7, 3) := by decide +kernel
theorem dX9_unseen_5 : decode cX9_unseen 5 = .ok (.bipush 48, 2) := by decide +kernel
end
section
theorem dX9_unseen_7 : decode cX9_unseen 7 = .ok (.iaload, 1) := by decide +kernel
theorem dX9_unseen_8 : decode cX9_unseen 8 = .ok (.invokevirtual 144, 3) := by decide +kernel
theorem dX9_unseen_11 : decode cX9_unseen 11 = .ok (.iconst 0, 1) := by decide +kernel
theorem dX9_unseen_12 : decode cX9_unseen 12 = .ok (.istore_n 1, 1) := by decide +kernel
theorem dX9_unseen_13 : decode cX9_unseen 13 = .ok (.iconst 0, 1) := by decide +kernel
theorem dX9_unseen_14 : decode cX9_unseen 14 = .ok (.istore_n 2, 1) := by decide +kernel
theorem dX9_unseen_15 : decode cX9_unseen 15 = .ok (.iload_n 2, 1) := by decide +kernel
theorem dX9_unseen_16 : decode cX9_unseen 16 = .ok (.aload_n 0, 1) := by decide +kernel
theorem dX9_unseen_17 : decode cX9_unseen 17 = .ok (.getfield 86, 3) := by decide +kernel
theorem dX9_unseen_20 : decode cX9_unseen 20 = .ok (.if_icmp .ge 88, 3) := by decide +kernel
theorem dX9_unseen_23 : decode cX9_unseen 23 = .ok (.aload_n 0, 1) := by decide +kernel
theorem dX9_unseen_24 : decode cX9_unseen 24 = .ok (.getfield 7, 3) := by decide +kernel
theorem dX9_unseen_27 : decode cX9_unseen 27 = .ok (.bipush 8, 2) := by decide +kernel
theorem dX9_unseen_29 : decode cX9_unseen 29 = .ok (.iload_n 2, 1) := by decide +kernel
theorem dX9_unseen_30 : decode cX9_unseen 30 = .ok (.imul, 1) := by decide +kernel
theorem dX9_unseen_31 : decode cX9_unseen 31 = .ok (.iaload, 1) := by decide +kernel
theorem dX9_unseen_32 : decode cX9_unseen 32 = .ok (.istore_n 3, 1) := by decide +kernel
theorem dX9_unseen_33 : decode cX9_unseen 33 = .ok (.iconst 0, 1) := by decide +kernel
theorem dX9_unseen_34 : decode cX9_unseen 34 = .ok (.istore 4, 2) := by decide +kernel
theorem dX9_unseen_36 : decode cX9_unseen 36 = .ok (.iload 4, 2) := by decide +kernel
theorem dX9_unseen_38 : decode cX9_unseen 38 = .ok (.iconst 4, 1) := by decide +kernel
theorem dX9_unseen_39 : decode cX9_unseen 39 = .ok (.if_icmp .ge 53, 3) := by decide +kernel
theorem dX9_unseen_42 : decode cX9_unseen 42 = .ok (.iload_n 3, 1) := by decide +kernel
theorem dX9_unseen_43 : decode cX9_unseen 43 = .ok (.iconst 4, 1) := by decide +kernel
theorem dX9_unseen_44 : decode cX9_unseen 44 = .ok (.if_icmp .eq 48, 3) := by decide +kernel
theorem dX9_unseen_47 : decode cX9_unseen 47 = .ok (.aload_n 0, 1) := by decide +kernel
theorem dX9_unseen_48 : decode cX9_unseen 48 = .ok (.getfield 7, 3) := by decide +kernel
theorem dX9_unseen_51 : decode cX9_unseen 51 = .ok (.bipush 8, 2) := by decide +kernel
theorem dX9_unseen_53 : decode cX9_unseen 53 = .ok (.iload_n 2, 1) := by decide +kernel
theorem dX9_unseen_54 : decode cX9_unseen 54 = .ok (.imul, 1) := by decide +kernel
theorem dX9_unseen_55 : decode cX9_unseen 55 = .ok (.iload 4, 2) := by decide +kernel
theorem dX9_unseen_57 : decode cX9_unseen 57 = .ok (.iastore, 1) := by decide +kernel
theorem dX9_unseen_58 : decode cX9_unseen 58 = .ok (.iload_n 1, 1) := by decide +kernel
theorem dX9_unseen_59 : decode cX9_unseen 59 = .ok (.iload 4, 2) := by decide +kernel
theorem dX9_unseen_61 : decode cX9_unseen 61 = .ok (.iload_n 3, 1) := by decide +kernel
theorem dX9_unseen_62 : decode cX9_unseen 62 = .ok (.if_icmp .eq 21, 3) := by decide +kernel
theorem dX9_unseen_65 : decode cX9_unseen 65 = .ok (.aload_n 0, 1) := by decide +kernel
theorem dX9_unseen_66 : decode cX9_unseen 66 = .ok (.aload_n 0, 1) := by decide +kernel
theorem dX9_unseen_67 : decode cX9_unseen 67 = .ok (.iconst 0, 1) := by decide +kernel
theorem dX9_unseen_68 : decode cX9_unseen 68 = .ok (.invokevirtual 147, 3) := by decide +kernel
theorem dX9_unseen_71 : decode cX9_unseen 71 = .ok (.invokevirtual 199, 3) := by decide +kernel
theorem dX9_unseen_74 : decode cX9_unseen 74 = .ok (.ifCond .eq 9, 3) := by decide +kernel
theorem dX9_unseen_77 : decode cX9_unseen 77 = .ok (.iconst 1, 1) := by decide +kernel
theorem dX9_unseen_78 : decode cX9_unseen 78 = .ok (.iload_n 2, 1) := by decide +kernel
theorem dX9_unseen_79 : decode cX9_unseen 79 = .ok (.ishl, 1) := by decide +kernel
theorem dX9_unseen_80 : decode cX9_unseen 80 = .ok (.goto 4, 3) := by decide +kernel
theorem dX9_unseen_83 : decode cX9_unseen 83 = .ok (.iconst 0, 1) := by decide +kernel
theorem dX9_unseen_84 : decode cX9_unseen 84 = .ok (.ior, 1) := by decide +kernel
theorem dX9_unseen_85 : decode cX9_unseen 85 = .ok (.istore_n 1, 1) := by decide +kernel
theorem dX9_unseen_86 : decode cX9_unseen 86 = .ok (.iinc 4 1, 3) := by decide +kernel
theorem dX9_unseen_89 : decode cX9_unseen 89 = .ok (.goto (-53), 3) := by decide +kernel
theorem dX9_unseen_92 : decode cX9_unseen 92 = .ok (.aload_n 0, 1) := by decide +kernel
theorem dX9_unseen_93 : decode cX9_unseen 93 = .ok (.getfield 7, 3) := by decide +kernel
theorem dX9_unseen_96 : decode cX9_unseen 96 = .ok (.bipush 8, 2) := by decide +kernel
theorem dX9_unseen_98 : decode cX9_unseen 98 = .ok (.iload_n 2, 1) := by decide +kernel
theorem dX9_unseen_99 : decode cX9_unseen 99 = .ok (.imul, 1) := by decide +kernel
theorem dX9_unseen_100 : decode cX9_unseen 100 = .ok (.iload_n 3, 1) := by decide +kernel
theorem dX9_unseen_101 : decode cX9_unseen 101 = .ok (.iastore, 1) := by decide +kernel
theorem dX9_unseen_102 : decode cX9_unseen 102 = .ok (.iinc 2 1, 3) := by decide +kernel
theorem dX9_unseen_105 : decode cX9_unseen 105 = .ok (.goto (-90), 3) := by decide +kernel
theorem dX9_unseen_108 : decode cX9_unseen 108 = .ok (.iload_n 1, 1) := by decide +kernel
theorem dX9_unseen_109 : decode cX9_unseen 109 = .ok (.ireturn, 1) := by decide +kernel
theorem dX9_keep_0 : decode cX9_keep 0 = .ok (.iload_n 1, 1) := by decide +kernel
theorem dX9_keep_1 : decode cX9_keep 1 = .ok (.iconst 0, 1) := by decide +kernel
theorem dX9_keep_2 : decode cX9_keep 2 = .ok (.iconst 1, 1) := by decide +kernel
theorem dX9_keep_3 : decode cX9_keep 3 = .ok (.invokestatic 50, 3) := by decide +kernel
theorem dX9_keep_6 : decode cX9_keep 6 = .ok (.ifCond .ne 5, 3) := by decide +kernel
theorem dX9_keep_9 : decode cX9_keep 9 = .ok (.iconst (-1), 1) := by decide +kernel
theorem dX9_keep_10 : decode cX9_keep 10 = .ok (.ireturn, 1) := by decide +kernel
theorem dX9_keep_11 : decode cX9_keep 11 = .ok (.aload_n 0, 1) := by decide +kernel
theorem dX9_keep_12 : decode cX9_keep 12 = .ok (.getfield 19, 3) := by decide +kernel
theorem dX9_keep_15 : decode cX9_keep 15 = .ok (.iload_n 1, 1) := by decide +kernel
theorem dX9_keep_16 : decode cX9_keep 16 = .ok (.iconst 1, 1) := by decide +kernel
theorem dX9_keep_17 : decode cX9_keep 17 = .ok (.bastore, 1) := by decide +kernel
theorem dX9_keep_18 : decode cX9_keep 18 = .ok (.iconst 0, 1) := by decide +kernel
theorem dX9_keep_19 : decode cX9_keep 19 = .ok (.istore_n 2, 1) := by decide +kernel
theorem dX9_keep_20 : decode cX9_keep 20 = .ok (.iload_n 2, 1) := by decide +kernel
theorem dX9_keep_21 : decode cX9_keep 21 = .ok (.bipush 49, 2) := by decide +kernel
theorem dX9_keep_23 : decode cX9_keep 23 = .ok (.if_icmp .ge 26, 3) := by decide +kernel
theorem dX9_keep_26 : decode cX9_keep 26 = .ok (.aload_n 0, 1) := by decide +kernel
theorem dX9_keep_27 : decode cX9_keep 27 = .ok (.getfield 23, 3) := by decide +kernel
theorem dX9_keep_30 : decode cX9_keep 30 = .ok (.bipush 49, 2) := by decide +kernel
theorem dX9_keep_32 : decode cX9_keep 32 = .ok (.iload_n 1, 1) := by decide +kernel
theorem dX9_keep_33 : decode cX9_keep 33 = .ok (.imul, 1) := by decide +kernel
theorem dX9_keep_34 : decode cX9_keep 34 = .ok (.iload_n 2, 1) := by decide +kernel
theorem dX9_keep_35 : decode cX9_keep 35 = .ok (.iadd, 1) := by decide +kernel
theorem dX9_keep_36 : decode cX9_keep 36 = .ok (.aload_n 0, 1) := by decide +kernel
theorem dX9_keep_37 : decode cX9_keep 37 = .ok (.getfield 7, 3) := by decide +kernel
theorem dX9_keep_40 : decode cX9_keep 40 = .ok (.iload_n 2, 1) := by decide +kernel
theorem dX9_keep_41 : decode cX9_keep 41 = .ok (.iaload, 1) := by decide +kernel
theorem dX9_keep_42 : decode cX9_keep 42 = .ok (.iastore, 1) := by decide +kernel
theorem dX9_keep_43 : decode cX9_keep 43 = .ok (.iinc 2 1, 3) := by decide +kernel
theorem dX9_keep_46 : decode cX9_keep 46 = .ok (.goto (-26), 3) := by decide +kernel
theorem dX9_keep_49 : decode cX9_keep 49 = .ok (.aload_n 0, 1) := by decide +kernel
theorem dX9_keep_50 : decode cX9_keep 50 = .ok (.getfield 86, 3) := by decide +kernel
theorem dX9_keep_53 : decode cX9_keep 53 = .ok (.ireturn, 1) := by decide +kernel
theorem dX9_back_0 : decode cX9_back 0 = .ok (.iload_n 1, 1) := by decide +kernel
theorem dX9_back_1 : decode cX9_back 1 = .ok (.iconst 0, 1) := by decide +kernel
theorem dX9_back_2 : decode cX9_back 2 = .ok (.iconst 1, 1) := by decide +kernel
theorem dX9_back_3 : decode cX9_back 3 = .ok (.invokestatic 50, 3) := by decide +kernel
theorem dX9_back_6 : decode cX9_back 6 = .ok (.ifCond .ne 5, 3) := by decide +kernel
theorem dX9_back_9 : decode cX9_back 9 = .ok (.iconst (-1), 1) := by decide +kernel
theorem dX9_back_10 : decode cX9_back 10 = .ok (.ireturn, 1) := by decide +kernel
theorem dX9_back_11 : decode cX9_back 11 = .ok (.aload_n 0, 1) := by decide +kernel
theorem dX9_back_12 : decode cX9_back 12 = .ok (.getfield 19, 3) := by decide +kernel
theorem dX9_back_15 : decode cX9_back 15 = .ok (.iload_n 1, 1) := by decide +kernel
theorem dX9_back_16 : decode cX9_back 16 = .ok (.baload, 1) := by decide +kernel
theorem dX9_back_17 : decode cX9_back 17 = .ok (.ifCond .ne 6, 3) := by decide +kernel
theorem dX9_back_20 : decode cX9_back 20 = .ok (.bipush (-2), 2) := by decide +kernel
theorem dX9_back_22 : decode cX9_back 22 = .ok (.ireturn, 1) := by decide +kernel
theorem dX9_back_23 : decode cX9_back 23 = .ok (.iconst 0, 1) := by decide +kernel
theorem dX9_back_24 : decode cX9_back 24 = .ok (.istore_n 2, 1) := by decide +kernel
theorem dX9_back_25 : decode cX9_back 25 = .ok (.iload_n 2, 1) := by decide +kernel
theorem dX9_back_26 : decode cX9_back 26 = .ok (.bipush 49, 2) := by decide +kernel
theorem dX9_back_28 : decode cX9_back 28 = .ok (.if_icmp .ge 26, 3) := by decide +kernel
theorem dX9_back_31 : decode cX9_back 31 = .ok (.aload_n 0, 1) := by decide +kernel
theorem dX9_back_32 : decode cX9_back 32 = .ok (.getfield 7, 3) := by decide +kernel
theorem dX9_back_35 : decode cX9_back 35 = .ok (.iload_n 2, 1) := by decide +kernel
theorem dX9_back_36 : decode cX9_back 36 = .ok (.aload_n 0, 1) := by decide +kernel
theorem dX9_back_37 : decode cX9_back 37 = .ok (.getfield 23, 3) := by decide +kernel
theorem dX9_back_40 : decode cX9_back 40 = .ok (.bipush 49, 2) := by decide +kernel
theorem dX9_back_42 : decode cX9_back 42 = .ok (.iload_n 1, 1) := by decide +kernel
theorem dX9_back_43 : decode cX9_back 43 = .ok (.imul, 1) := by decide +kernel
theorem dX9_back_44 : decode cX9_back 44 = .ok (.iload_n 2, 1) := by decide +kernel
theorem dX9_back_45 : decode cX9_back 45 = .ok (.iadd, 1) := by decide +kernel
theorem dX9_back_46 : decode cX9_back 46 = .ok (.iaload, 1) := by decide +kernel
theorem dX9_back_47 : decode cX9_back 47 = .ok (.iastore, 1) := by decide +kernel
theorem dX9_back_48 : decode cX9_back 48 = .ok (.iinc 2 1, 3) := by decide +kernel
theorem dX9_back_51 : decode cX9_back 51 = .ok (.goto (-26), 3) := by decide +kernel
theorem dX9_back_54 : decode cX9_back 54 = .ok (.aload_n 0, 1) := by decide +kernel
theorem dX9_back_55 : decode cX9_back 55 = .ok (.iconst 0, 1) := by decide +kernel
theorem dX9_back_56 : decode cX9_back 56 = .ok (.putfield 92, 3) := by decide +kernel
theorem dX9_back_59 : decode cX9_back 59 = .ok (.aload_n 0, 1) := by decide +kernel
theorem dX9_back_60 : decode cX9_back 60 = .ok (.getfield 86, 3) := by decide +kernel
theorem dX9_back_63 : decode cX9_back 63 = .ok (.ireturn, 1) := by decide +kernel
theorem dX9_ofAll_0 : decode cX9_ofAll 0 = .ok (.iconst 0, 1) := by decide +kernel
theorem dX9_ofAll_1 : decode cX9_ofAll 1 = .ok (.istore_n 2, 1) := by decide +kernel
theorem dX9_ofAll_2 : decode cX9_ofAll 2 = .ok (.iconst 0, 1) := by decide +kernel
theorem dX9_ofAll_3 : decode cX9_ofAll 3 = .ok (.istore_n 3, 1) := by decide +kernel
theorem dX9_ofAll_4 : decode cX9_ofAll 4 = .ok (.iload_n 3, 1) := by decide +kernel
theorem dX9_ofAll_5 : decode cX9_ofAll 5 = .ok (.aload_n 0, 1) := by decide +kernel
theorem dX9_ofAll_6 : decode cX9_ofAll 6 = .ok (.getfield 89, 3) := by decide +kernel
theorem dX9_ofAll_9 : decode cX9_ofAll 9 = .ok (.if_icmp .ge 90, 3) := by decide +kernel
theorem dX9_ofAll_12 : decode cX9_ofAll 12 = .ok (.iconst 0, 1) := by decide +kernel
theorem dX9_ofAll_13 : decode cX9_ofAll 13 = .ok (.istore 4, 2) := by decide +kernel
theorem dX9_ofAll_15 : decode cX9_ofAll 15 = .ok (.iload 4, 2) := by decide +kernel
theorem dX9_ofAll_17 : decode cX9_ofAll 17 = .ok (.aload_n 0, 1) := by decide +kernel
theorem dX9_ofAll_18 : decode cX9_ofAll 18 = .ok (.getfield 86, 3) := by decide +kernel
theorem dX9_ofAll_21 : decode cX9_ofAll 21 = .ok (.if_icmp .ge 33, 3) := by decide +kernel
theorem dX9_ofAll_24 : decode cX9_ofAll 24 = .ok (.iload_n 1, 1) := by decide +kernel
theorem dX9_ofAll_25 : decode cX9_ofAll 25 = .ok (.iconst 5, 1) := by decide +kernel
theorem dX9_ofAll_26 : decode cX9_ofAll 26 = .ok (.if_icmp .ne 28, 3) := by decide +kernel
theorem dX9_ofAll_29 : decode cX9_ofAll 29 = .ok (.iload_n 2, 1) := by decide +kernel
theorem dX9_ofAll_30 : decode cX9_ofAll 30 = .ok (.aload_n 0, 1) := by decide +kernel
theorem dX9_ofAll_31 : decode cX9_ofAll 31 = .ok (.iload 4, 2) := by decide +kernel
theorem dX9_ofAll_33 : decode cX9_ofAll 33 = .ok (.iload_n 3, 1) := by decide +kernel
theorem dX9_ofAll_34 : decode cX9_ofAll 34 = .ok (.invokevirtual 105, 3) := by decide +kernel
theorem dX9_ofAll_37 : decode cX9_ofAll 37 = .ok (.iconst 4, 1) := by decide +kernel
theorem dX9_ofAll_38 : decode cX9_ofAll 38 = .ok (.if_icmp .ne 7, 3) := by decide +kernel
theorem dX9_ofAll_41 : decode cX9_ofAll 41 = .ok (.iconst 1, 1) := by decide +kernel
theorem dX9_ofAll_42 : decode cX9_ofAll 42 = .ok (.goto 4, 3) := by decide +kernel
theorem dX9_ofAll_45 : decode cX9_ofAll 45 = .ok (.iconst 0, 1) := by decide +kernel
theorem dX9_ofAll_46 : decode cX9_ofAll 46 = .ok (.iadd, 1) := by decide +kernel
theorem dX9_ofAll_47 : decode cX9_ofAll 47 = .ok (.istore_n 2, 1) := by decide +kernel
theorem dX9_ofAll_48 : decode cX9_ofAll 48 = .ok (.iinc 4 1, 3) := by decide +kernel
theorem dX9_ofAll_51 : decode cX9_ofAll 51 = .ok (.goto (-36), 3) := by decide +kernel
theorem dX9_ofAll_54 : decode cX9_ofAll 54 = .ok (.iconst 0, 1) := by decide +kernel
theorem dX9_ofAll_55 : decode cX9_ofAll 55 = .ok (.istore 4, 2) := by decide +kernel
theorem dX9_ofAll_57 : decode cX9_ofAll 57 = .ok (.iload 4, 2) := by decide +kernel
theorem dX9_ofAll_59 : decode cX9_ofAll 59 = .ok (.iload_n 3, 1) := by decide +kernel
theorem dX9_ofAll_60 : decode cX9_ofAll 60 = .ok (.if_icmp .ge 33, 3) := by decide +kernel
theorem dX9_ofAll_63 : decode cX9_ofAll 63 = .ok (.iload_n 1, 1) := by decide +kernel
theorem dX9_ofAll_64 : decode cX9_ofAll 64 = .ok (.bipush 6, 2) := by decide +kernel
theorem dX9_ofAll_66 : decode cX9_ofAll 66 = .ok (.if_icmp .ne 27, 3) := by decide +kernel
theorem dX9_ofAll_69 : decode cX9_ofAll 69 = .ok (.iload_n 2, 1) := by decide +kernel
theorem dX9_ofAll_70 : decode cX9_ofAll 70 = .ok (.aload_n 0, 1) := by decide +kernel
theorem dX9_ofAll_71 : decode cX9_ofAll 71 = .ok (.iload_n 3, 1) := by decide +kernel
theorem dX9_ofAll_72 : decode cX9_ofAll 72 = .ok (.iload 4, 2) := by decide +kernel
theorem dX9_ofAll_74 : decode cX9_ofAll 74 = .ok (.invokevirtual 192, 3) := by decide +kernel
theorem dX9_ofAll_77 : decode cX9_ofAll 77 = .ok (.ifCond .eq 7, 3) := by decide +kernel
theorem dX9_ofAll_80 : decode cX9_ofAll 80 = .ok (.iconst 1, 1) := by decide +kernel
theorem dX9_ofAll_81 : decode cX9_ofAll 81 = .ok (.goto 4, 3) := by decide +kernel
theorem dX9_ofAll_84 : decode cX9_ofAll 84 = .ok (.iconst 0, 1) := by decide +kernel
theorem dX9_ofAll_85 : decode cX9_ofAll 85 = .ok (.iadd, 1) := by decide +kernel
theorem dX9_ofAll_86 : decode cX9_ofAll 86 = .ok (.istore_n 2, 1) := by decide +kernel
theorem dX9_ofAll_87 : decode cX9_ofAll 87 = .ok (.iinc 4 1, 3) := by decide +kernel
theorem dX9_ofAll_90 : decode cX9_ofAll 90 = .ok (.goto (-33), 3) := by decide +kernel
theorem dX9_ofAll_93 : decode cX9_ofAll 93 = .ok (.iinc 3 1, 3) := by decide +kernel
theorem dX9_ofAll_96 : decode cX9_ofAll 96 = .ok (.goto (-92), 3) := by decide +kernel
theorem dX9_ofAll_99 : decode cX9_ofAll 99 = .ok (.iload_n 2, 1) := by decide +kernel
theorem dX9_ofAll_100 : decode cX9_ofAll 100 = .ok (.ireturn, 1) := by decide +kernel
theorem dX9_count_0 : decode cX9_count 0 = .ok (.iload_n 1, 1) := by decide +kernel
theorem dX9_count_1 : decode cX9_count 1 = .ok (.tableswitch 104 0 9 #[55, 60, 65, 70, 78, 83, 83, 89, 94, 99], 55) := by decide +kernel
theorem dX9_count_56 : decode cX9_count 56 = .ok (.aload_n 0, 1) := by decide +kernel
theorem dX9_count_57 : decode cX9_count 57 = .ok (.getfield 86, 3) := by decide +kernel
theorem dX9_count_60 : decode cX9_count 60 = .ok (.ireturn, 1) := by decide +kernel
theorem dX9_count_61 : decode cX9_count 61 = .ok (.aload_n 0, 1) := by decide +kernel
theorem dX9_count_62 : decode cX9_count 62 = .ok (.getfield 89, 3) := by decide +kernel
theorem dX9_count_65 : decode cX9_count 65 = .ok (.ireturn, 1) := by decide +kernel
theorem dX9_count_66 : decode cX9_count 66 = .ok (.aload_n 0, 1) := by decide +kernel
theorem dX9_count_67 : decode cX9_count 67 = .ok (.invokevirtual 150, 3) := by decide +kernel
theorem dX9_count_70 : decode cX9_count 70 = .ok (.ireturn, 1) := by decide +kernel
theorem dX9_count_71 : decode cX9_count 71 = .ok (.aload_n 0, 1) := by decide +kernel
theorem dX9_count_72 : decode cX9_count 72 = .ok (.getfield 7, 3) := by decide +kernel
theorem dX9_count_75 : decode cX9_count 75 = .ok (.bipush 48, 2) := by decide +kernel
theorem dX9_count_77 : decode cX9_count 77 = .ok (.iaload, 1) := by decide +kernel
theorem dX9_count_78 : decode cX9_count 78 = .ok (.ireturn, 1) := by decide +kernel
theorem dX9_count_79 : decode cX9_count 79 = .ok (.aload_n 0, 1) := by decide +kernel
theorem dX9_count_80 : decode cX9_count 80 = .ok (.invokevirtual 160, 3) := by decide +kernel
theorem dX9_count_83 : decode cX9_count 83 = .ok (.ireturn, 1) := by decide +kernel
theorem dX9_count_84 : decode cX9_count 84 = .ok (.aload_n 0, 1) := by decide +kernel
theorem dX9_count_85 : decode cX9_count 85 = .ok (.iload_n 1, 1) := by decide +kernel
theorem dX9_count_86 : decode cX9_count 86 = .ok (.invokevirtual 202, 3) := by decide +kernel
theorem dX9_count_89 : decode cX9_count 89 = .ok (.ireturn, 1) := by decide +kernel
theorem dX9_count_90 : decode cX9_count 90 = .ok (.aload_n 0, 1) := by decide +kernel
theorem dX9_count_91 : decode cX9_count 91 = .ok (.getfield 95, 3) := by decide +kernel
theorem dX9_count_94 : decode cX9_count 94 = .ok (.ireturn, 1) := by decide +kernel
theorem dX9_count_95 : decode cX9_count 95 = .ok (.aload_n 0, 1) := by decide +kernel
theorem dX9_count_96 : decode cX9_count 96 = .ok (.getfield 54, 3) := by decide +kernel
theorem dX9_count_99 : decode cX9_count 99 = .ok (.ireturn, 1) := by decide +kernel
theorem dX9_count_100 : decode cX9_count 100 = .ok (.aload_n 0, 1) := by decide +kernel
theorem dX9_count_101 : decode cX9_count 101 = .ok (.getfield 92, 3) := by decide +kernel
theorem dX9_count_104 : decode cX9_count 104 = .ok (.ireturn, 1) := by decide +kernel
theorem dX9_count_105 : decode cX9_count 105 = .ok (.iconst (-1), 1) := by decide +kernel
theorem dX9_count_106 : decode cX9_count 106 = .ok (.ireturn, 1) := by decide +kernel
theorem dJ6_bitCount_0f7a4_0 : decode cJ6_bitCount_0f7a4 0 = .ok (.iload_n 0, 1) := by decide +kernel
theorem dJ6_bitCount_0f7a4_1 : decode cJ6_bitCount_0f7a4 1 = .ok (.iload_n 0, 1) := by decide +kernel
theorem dJ6_bitCount_0f7a4_2 : decode cJ6_bitCount_0f7a4 2 = .ok (.iconst 1, 1) := by decide +kernel
theorem dJ6_bitCount_0f7a4_3 : decode cJ6_bitCount_0f7a4 3 = .ok (.iushr, 1) := by decide +kernel
theorem dJ6_bitCount_0f7a4_4 : decode cJ6_bitCount_0f7a4 4 = .ok (.ldc_w 265, 3) := by decide +kernel
theorem dJ6_bitCount_0f7a4_7 : decode cJ6_bitCount_0f7a4 7 = .ok (.iand, 1) := by decide +kernel
theorem dJ6_bitCount_0f7a4_8 : decode cJ6_bitCount_0f7a4 8 = .ok (.isub, 1) := by decide +kernel
theorem dJ6_bitCount_0f7a4_9 : decode cJ6_bitCount_0f7a4 9 = .ok (.istore_n 0, 1) := by decide +kernel
theorem dJ6_bitCount_0f7a4_10 : decode cJ6_bitCount_0f7a4 10 = .ok (.iload_n 0, 1) := by decide +kernel
theorem dJ6_bitCount_0f7a4_11 : decode cJ6_bitCount_0f7a4 11 = .ok (.ldc_w 266, 3) := by decide +kernel
theorem dJ6_bitCount_0f7a4_14 : decode cJ6_bitCount_0f7a4 14 = .ok (.iand, 1) := by decide +kernel
theorem dJ6_bitCount_0f7a4_15 : decode cJ6_bitCount_0f7a4 15 = .ok (.iload_n 0, 1) := by decide +kernel
theorem dJ6_bitCount_0f7a4_16 : decode cJ6_bitCount_0f7a4 16 = .ok (.iconst 2, 1) := by decide +kernel
theorem dJ6_bitCount_0f7a4_17 : decode cJ6_bitCount_0f7a4 17 = .ok (.iushr, 1) := by decide +kernel
theorem dJ6_bitCount_0f7a4_18 : decode cJ6_bitCount_0f7a4 18 = .ok (.ldc_w 266, 3) := by decide +kernel
theorem dJ6_bitCount_0f7a4_21 : decode cJ6_bitCount_0f7a4 21 = .ok (.iand, 1) := by decide +kernel
theorem dJ6_bitCount_0f7a4_22 : decode cJ6_bitCount_0f7a4 22 = .ok (.iadd, 1) := by decide +kernel
theorem dJ6_bitCount_0f7a4_23 : decode cJ6_bitCount_0f7a4 23 = .ok (.istore_n 0, 1) := by decide +kernel
theorem dJ6_bitCount_0f7a4_24 : decode cJ6_bitCount_0f7a4 24 = .ok (.iload_n 0, 1) := by decide +kernel
theorem dJ6_bitCount_0f7a4_25 : decode cJ6_bitCount_0f7a4 25 = .ok (.iload_n 0, 1) := by decide +kernel
theorem dJ6_bitCount_0f7a4_26 : decode cJ6_bitCount_0f7a4 26 = .ok (.iconst 4, 1) := by decide +kernel
theorem dJ6_bitCount_0f7a4_27 : decode cJ6_bitCount_0f7a4 27 = .ok (.iushr, 1) := by decide +kernel
theorem dJ6_bitCount_0f7a4_28 : decode cJ6_bitCount_0f7a4 28 = .ok (.iadd, 1) := by decide +kernel
theorem dJ6_bitCount_0f7a4_29 : decode cJ6_bitCount_0f7a4 29 = .ok (.ldc_w 267, 3) := by decide +kernel
theorem dJ6_bitCount_0f7a4_32 : decode cJ6_bitCount_0f7a4 32 = .ok (.iand, 1) := by decide +kernel
theorem dJ6_bitCount_0f7a4_33 : decode cJ6_bitCount_0f7a4 33 = .ok (.istore_n 0, 1) := by decide +kernel
theorem dJ6_bitCount_0f7a4_34 : decode cJ6_bitCount_0f7a4 34 = .ok (.iload_n 0, 1) := by decide +kernel
theorem dJ6_bitCount_0f7a4_35 : decode cJ6_bitCount_0f7a4 35 = .ok (.iload_n 0, 1) := by decide +kernel
theorem dJ6_bitCount_0f7a4_36 : decode cJ6_bitCount_0f7a4 36 = .ok (.bipush 8, 2) := by decide +kernel
theorem dJ6_bitCount_0f7a4_38 : decode cJ6_bitCount_0f7a4 38 = .ok (.iushr, 1) := by decide +kernel
theorem dJ6_bitCount_0f7a4_39 : decode cJ6_bitCount_0f7a4 39 = .ok (.iadd, 1) := by decide +kernel
theorem dJ6_bitCount_0f7a4_40 : decode cJ6_bitCount_0f7a4 40 = .ok (.istore_n 0, 1) := by decide +kernel
theorem dJ6_bitCount_0f7a4_41 : decode cJ6_bitCount_0f7a4 41 = .ok (.iload_n 0, 1) := by decide +kernel
theorem dJ6_bitCount_0f7a4_42 : decode cJ6_bitCount_0f7a4 42 = .ok (.iload_n 0, 1) := by decide +kernel
theorem dJ6_bitCount_0f7a4_43 : decode cJ6_bitCount_0f7a4 43 = .ok (.bipush 16, 2) := by decide +kernel
theorem dJ6_bitCount_0f7a4_45 : decode cJ6_bitCount_0f7a4 45 = .ok (.iushr, 1) := by decide +kernel
theorem dJ6_bitCount_0f7a4_46 : decode cJ6_bitCount_0f7a4 46 = .ok (.iadd, 1) := by decide +kernel
theorem dJ6_bitCount_0f7a4_47 : decode cJ6_bitCount_0f7a4 47 = .ok (.istore_n 0, 1) := by decide +kernel
theorem dJ6_bitCount_0f7a4_48 : decode cJ6_bitCount_0f7a4 48 = .ok (.iload_n 0, 1) := by decide +kernel
theorem dJ6_bitCount_0f7a4_49 : decode cJ6_bitCount_0f7a4 49 = .ok (.bipush 63, 2) := by decide +kernel
theorem dJ6_bitCount_0f7a4_51 : decode cJ6_bitCount_0f7a4 51 = .ok (.iand, 1) := by decide +kernel
theorem dJ6_bitCount_0f7a4_52 : decode cJ6_bitCount_0f7a4 52 = .ok (.ireturn, 1) := by decide +kernel
theorem dJ9_max_7cf53_0 : decode cJ9_max_7cf53 0 = .ok (.iload_n 0, 1) := by decide +kernel
theorem dJ9_max_7cf53_1 : decode cJ9_max_7cf53 1 = .ok (.iload_n 1, 1) := by decide +kernel
theorem dJ9_max_7cf53_2 : decode cJ9_max_7cf53 2 = .ok (.if_icmp .lt 7, 3) := by decide +kernel
theorem dJ9_max_7cf53_5 : decode cJ9_max_7cf53 5 = .ok (.iload_n 0, 1) := by decide +kernel
theorem dJ9_max_7cf53_6 : decode cJ9_max_7cf53 6 = .ok (.goto 4, 3) := by decide +kernel
theorem dJ9_max_7cf53_9 : decode cJ9_max_7cf53 9 = .ok (.iload_n 1, 1) := by decide +kernel
theorem dJ9_max_7cf53_10 : decode cJ9_max_7cf53 10 = .ok (.ireturn, 1) := by decide +kernel
theorem dJ9_min_7cf53_0 : decode cJ9_min_7cf53 0 = .ok (.iload_n 0, 1) := by decide +kernel
theorem dJ9_min_7cf53_1 : decode cJ9_min_7cf53 1 = .ok (.iload_n 1, 1) := by decide +kernel
theorem dJ9_min_7cf53_2 : decode cJ9_min_7cf53 2 = .ok (.if_icmp .gt 7, 3) := by decide +kernel
theorem dJ9_min_7cf53_5 : decode cJ9_min_7cf53 5 = .ok (.iload_n 0, 1) := by decide +kernel
theorem dJ9_min_7cf53_6 : decode cJ9_min_7cf53 6 = .ok (.goto 4, 3) := by decide +kernel
theorem dJ9_min_7cf53_9 : decode cJ9_min_7cf53 9 = .ok (.iload_n 1, 1) := by decide +kernel
theorem dJ9_min_7cf53_10 : decode cJ9_min_7cf53 10 = .ok (.ireturn, 1) := by decide +kernel
theorem dL_law_0 : decode cL_law 0 = .ok (.new 7, 3) := by decide +kernel
theorem dL_law_3 : decode cL_law 3 = .ok (.dup, 1) := by decide +kernel
theorem dL_law_4 : decode cL_law 4 = .ok (.invokespecial 9, 3) := by decide +kernel
theorem dL_law_7 : decode cL_law 7 = .ok (.astore_n 1, 1) := by decide +kernel
theorem dL_law_8 : decode cL_law 8 = .ok (.new 10, 3) := by decide +kernel
theorem dL_law_11 : decode cL_law 11 = .ok (.dup, 1) := by decide +kernel
theorem dL_law_12 : decode cL_law 12 = .ok (.invokespecial 12, 3) := by decide +kernel
theorem dL_law_15 : decode cL_law 15 = .ok (.astore_n 2, 1) := by decide +kernel
theorem dL_law_16 : decode cL_law 16 = .ok (.iconst 0, 1) := by decide +kernel
theorem dL_law_17 : decode cL_law 17 = .ok (.istore_n 3, 1) := by decide +kernel
theorem dL_law_18 : decode cL_law 18 = .ok (.iload_n 3, 1) := by decide +kernel
theorem dL_law_19 : decode cL_law 19 = .ok (.aload_n 0, 1) := by decide +kernel
theorem dL_law_20 : decode cL_law 20 = .ok (.arraylength, 1) := by decide +kernel
theorem dL_law_21 : decode cL_law 21 = .ok (.iconst 4, 1) := by decide +kernel
theorem dL_law_22 : decode cL_law 22 = .ok (.isub, 1) := by decide +kernel
theorem dL_law_23 : decode cL_law 23 = .ok (.if_icmp .gt 682, 3) := by decide +kernel
theorem dL_law_26 : decode cL_law 26 = .ok (.aload_n 0, 1) := by decide +kernel
theorem dL_law_27 : decode cL_law 27 = .ok (.iload_n 3, 1) := by decide +kernel
theorem dL_law_28 : decode cL_law 28 = .ok (.iaload, 1) := by decide +kernel
theorem dL_law_29 : decode cL_law 29 = .ok (.bipush 31, 2) := by decide +kernel
theorem dL_law_31 : decode cL_law 31 = .ok (.iand, 1) := by decide +kernel
theorem dL_law_32 : decode cL_law 32 = .ok (.tableswitch 667 0 22 #[108, 131, 144, 157, 190, 233, 256, 269, 282, 315, 348, 371, 394, 417, 450, 483, 516, 549, 572, 585, 598, 621, 644], 108) := by decide +kernel
theorem dL_law_140 : decode cL_law 140 = .ok (.aload_n 1, 1) := by decide +kernel
theorem dL_law_141 : decode cL_law 141 = .ok (.aload_n 0, 1) := by decide +kernel
theorem dL_law_142 : decode cL_law 142 = .ok (.iload_n 3, 1) := by decide +kernel
theorem dL_law_143 : decode cL_law 143 = .ok (.iconst 1, 1) := by decide +kernel
theorem dL_law_144 : decode cL_law 144 = .ok (.iadd, 1) := by decide +kernel
theorem dL_law_145 : decode cL_law 145 = .ok (.iaload, 1) := by decide +kernel
theorem dL_law_146 : decode cL_law 146 = .ok (.invokevirtual 13, 3) := by decide +kernel
theorem dL_law_149 : decode cL_law 149 = .ok (.aload_n 2, 1) := by decide +kernel
theorem dL_law_150 : decode cL_law 150 = .ok (.aload_n 0, 1) := by decide +kernel
theorem dL_law_151 : decode cL_law 151 = .ok (.iload_n 3, 1) := by decide +kernel
theorem dL_law_152 : decode cL_law 152 = .ok (.iconst 1, 1) := by decide +kernel
theorem dL_law_153 : decode cL_law 153 = .ok (.iadd, 1) := by decide +kernel
theorem dL_law_154 : decode cL_law 154 = .ok (.iaload, 1) := by decide +kernel
theorem dL_law_155 : decode cL_law 155 = .ok (.invokevirtual 17, 3) := by decide +kernel
theorem dL_law_158 : decode cL_law 158 = .ok (.if_icmp .eq 541, 3) := by decide +kernel
theorem dL_law_161 : decode cL_law 161 = .ok (.iconst 0, 1) := by decide +kernel
theorem dL_law_162 : decode cL_law 162 = .ok (.ireturn, 1) := by decide +kernel
theorem dL_law_163 : decode cL_law 163 = .ok (.aload_n 1, 1) := by decide +kernel
theorem dL_law_164 : decode cL_law 164 = .ok (.invokevirtual 18, 3) := by decide +kernel
theorem dL_law_167 : decode cL_law 167 = .ok (.aload_n 2, 1) := by decide +kernel
theorem dL_law_168 : decode cL_law 168 = .ok (.invokevirtual 22, 3) := by decide +kernel
theorem dL_law_171 : decode cL_law 171 = .ok (.if_icmp .eq 528, 3) := by decide +kernel
theorem dL_law_174 : decode cL_law 174 = .ok (.iconst 0, 1) := by decide +kernel
theorem dL_law_175 : decode cL_law 175 = .ok (.ireturn, 1) := by decide +kernel
theorem dL_law_176 : decode cL_law 176 = .ok (.aload_n 1, 1) := by decide +kernel
theorem dL_law_177 : decode cL_law 177 = .ok (.invokevirtual 23, 3) := by decide +kernel
theorem dL_law_180 : decode cL_law 180 = .ok (.aload_n 2, 1) := by decide +kernel
theorem dL_law_181 : decode cL_law 181 = .ok (.invokevirtual 26, 3) := by decide +kernel
theorem dL_law_184 : decode cL_law 184 = .ok (.if_icmp .eq 515, 3) := by decide +kernel
theorem dL_law_187 : decode cL_law 187 = .ok (.iconst 0, 1) := by decide +kernel
theorem dL_law_188 : decode cL_law 188 = .ok (.ireturn, 1) := by decide +kernel
theorem dL_law_189 : decode cL_law 189 = .ok (.aload_n 1, 1) := by decide +kernel
theorem dL_law_190 : decode cL_law 190 = .ok (.aload_n 0, 1) := by decide +kernel
theorem dL_law_191 : decode cL_law 191 = .ok (.iload_n 3, 1) := by decide +kernel
theorem dL_law_192 : decode cL_law 192 = .ok (.iconst 1, 1) := by decide +kernel
theorem dL_law_193 : decode cL_law 193 = .ok (.iadd, 1) := by decide +kernel
theorem dL_law_194 : decode cL_law 194 = .ok (.iaload, 1) := by decide +kernel
theorem dL_law_195 : decode cL_law 195 = .ok (.aload_n 0, 1) := by decide +kernel
theorem dL_law_196 : decode cL_law 196 = .ok (.iload_n 3, 1) := by decide +kernel
theorem dL_law_197 : decode cL_law 197 = .ok (.iconst 2, 1) := by decide +kernel
theorem dL_law_198 : decode cL_law 198 = .ok (.iadd, 1) := by decide +kernel
theorem dL_law_199 : decode cL_law 199 = .ok (.iaload, 1) := by decide +kernel
theorem dL_law_200 : decode cL_law 200 = .ok (.invokevirtual 27, 3) := by decide +kernel
theorem dL_law_203 : decode cL_law 203 = .ok (.aload_n 2, 1) := by decide +kernel
theorem dL_law_204 : decode cL_law 204 = .ok (.aload_n 0, 1) := by decide +kernel
theorem dL_law_205 : decode cL_law 205 = .ok (.iload_n 3, 1) := by decide +kernel
theorem dL_law_206 : decode cL_law 206 = .ok (.iconst 1, 1) := by decide +kernel
theorem dL_law_207 : decode cL_law 207 = .ok (.iadd, 1) := by decide +kernel
theorem dL_law_208 : decode cL_law 208 = .ok (.iaload, 1) := by decide +kernel
theorem dL_law_209 : decode cL_law 209 = .ok (.aload_n 0, 1) := by decide +kernel
theorem dL_law_210 : decode cL_law 210 = .ok (.iload_n 3, 1) := by decide +kernel
theorem dL_law_211 : decode cL_law 211 = .ok (.iconst 2, 1) := by decide +kernel
theorem dL_law_212 : decode cL_law 212 = .ok (.iadd, 1) := by decide +kernel
theorem dL_law_213 : decode cL_law 213 = .ok (.iaload, 1) := by decide +kernel
theorem dL_law_214 : decode cL_law 214 = .ok (.invokevirtual 31, 3) := by decide +kernel
theorem dL_law_217 : decode cL_law 217 = .ok (.if_icmp .eq 482, 3) := by decide +kernel
theorem dL_law_220 : decode cL_law 220 = .ok (.iconst 0, 1) := by decide +kernel
theorem dL_law_221 : decode cL_law 221 = .ok (.ireturn, 1) := by decide +kernel
theorem dL_law_222 : decode cL_law 222 = .ok (.aload_n 1, 1) := by decide +kernel
theorem dL_law_223 : decode cL_law 223 = .ok (.aload_n 0, 1) := by decide +kernel
theorem dL_law_224 : decode cL_law 224 = .ok (.iload_n 3, 1) := by decide +kernel
theorem dL_law_225 : decode cL_law 225 = .ok (.iconst 1, 1) := by decide +kernel
theorem dL_law_226 : decode cL_law 226 = .ok (.iadd, 1) := by decide +kernel
theorem dL_law_227 : decode cL_law 227 = .ok (.iaload, 1) := by decide +kernel
theorem dL_law_228 : decode cL_law 228 = .ok (.aload_n 0, 1) := by decide +kernel
theorem dL_law_229 : decode cL_law 229 = .ok (.iload_n 3, 1) := by decide +kernel
theorem dL_law_230 : decode cL_law 230 = .ok (.iconst 2, 1) := by decide +kernel
theorem dL_law_231 : decode cL_law 231 = .ok (.iadd, 1) := by decide +kernel
theorem dL_law_232 : decode cL_law 232 = .ok (.iaload, 1) := by decide +kernel
theorem dL_law_233 : decode cL_law 233 = .ok (.aload_n 0, 1) := by decide +kernel
theorem dL_law_234 : decode cL_law 234 = .ok (.iload_n 3, 1) := by decide +kernel
theorem dL_law_235 : decode cL_law 235 = .ok (.iconst 3, 1) := by decide +kernel
theorem dL_law_236 : decode cL_law 236 = .ok (.iadd, 1) := by decide +kernel
theorem dL_law_237 : decode cL_law 237 = .ok (.iaload, 1) := by decide +kernel
theorem dL_law_238 : decode cL_law 238 = .ok (.invokevirtual 32, 3) := by decide +kernel
theorem dL_law_241 : decode cL_law 241 = .ok (.aload_n 2, 1) := by decide +kernel
theorem dL_law_242 : decode cL_law 242 = .ok (.aload_n 0, 1) := by decide +kernel
theorem dL_law_243 : decode cL_law 243 = .ok (.iload_n 3, 1) := by decide +kernel
theorem dL_law_244 : decode cL_law 244 = .ok (.iconst 1, 1) := by decide +kernel
theorem dL_law_245 : decode cL_law 245 = .ok (.iadd, 1) := by decide +kernel
theorem dL_law_246 : decode cL_law 246 = .ok (.iaload, 1) := by decide +kernel
theorem dL_law_247 : decode cL_law 247 = .ok (.aload_n 0, 1) := by decide +kernel
theorem dL_law_248 : decode cL_law 248 = .ok (.iload_n 3, 1) := by decide +kernel
theorem dL_law_249 : decode cL_law 249 = .ok (.iconst 2, 1) := by decide +kernel
theorem dL_law_250 : decode cL_law 250 = .ok (.iadd, 1) := by decide +kernel
theorem dL_law_251 : decode cL_law 251 = .ok (.iaload, 1) := by decide +kernel
theorem dL_law_252 : decode cL_law 252 = .ok (.aload_n 0, 1) := by decide +kernel
theorem dL_law_253 : decode cL_law 253 = .ok (.iload_n 3, 1) := by decide +kernel
theorem dL_law_254 : decode cL_law 254 = .ok (.iconst 3, 1) := by decide +kernel
theorem dL_law_255 : decode cL_law 255 = .ok (.iadd, 1) := by decide +kernel
theorem dL_law_256 : decode cL_law 256 = .ok (.iaload, 1) := by decide +kernel
theorem dL_law_257 : decode cL_law 257 = .ok (.invokevirtual 36, 3) := by decide +kernel
theorem dL_law_260 : decode cL_law 260 = .ok (.if_icmp .eq 439, 3) := by decide +kernel
theorem dL_law_263 : decode cL_law 263 = .ok (.iconst 0, 1) := by decide +kernel
theorem dL_law_264 : decode cL_law 264 = .ok (.ireturn, 1) := by decide +kernel
theorem dL_law_265 : decode cL_law 265 = .ok (.aload_n 1, 1) := by decide +kernel
theorem dL_law_266 : decode cL_law 266 = .ok (.aload_n 0, 1) := by decide +kernel
theorem dL_law_267 : decode cL_law 267 = .ok (.iload_n 3, 1) := by decide +kernel
theorem dL_law_268 : decode cL_law 268 = .ok (.iconst 1, 1) := by decide +kernel
theorem dL_law_269 : decode cL_law 269 = .ok (.iadd, 1) := by decide +kernel
theorem dL_law_270 : decode cL_law 270 = .ok (.iaload, 1) := by decide +kernel
theorem dL_law_271 : decode cL_law 271 = .ok (.invokevirtual 37, 3) := by decide +kernel
theorem dL_law_274 : decode cL_law 274 = .ok (.aload_n 2, 1) := by decide +kernel
theorem dL_law_275 : decode cL_law 275 = .ok (.aload_n 0, 1) := by decide +kernel
theorem dL_law_276 : decode cL_law 276 = .ok (.iload_n 3, 1) := by decide +kernel
theorem dL_law_277 : decode cL_law 277 = .ok (.iconst 1, 1) := by decide +kernel
theorem dL_law_278 : decode cL_law 278 = .ok (.iadd, 1) := by decide +kernel
theorem dL_law_279 : decode cL_law 279 = .ok (.iaload, 1) := by decide +kernel
theorem dL_law_280 : decode cL_law 280 = .ok (.invokevirtual 40, 3) := by decide +kernel
theorem dL_law_283 : decode cL_law 283 = .ok (.if_icmp .eq 416, 3) := by decide +kernel
theorem dL_law_286 : decode cL_law 286 = .ok (.iconst 0, 1) := by decide +kernel
theorem dL_law_287 : decode cL_law 287 = .ok (.ireturn, 1) := by decide +kernel
theorem dL_law_288 : decode cL_law 288 = .ok (.aload_n 1, 1) := by decide +kernel
theorem dL_law_289 : decode cL_law 289 = .ok (.invokevirtual 41, 3) := by decide +kernel
theorem dL_law_292 : decode cL_law 292 = .ok (.aload_n 2, 1) := by decide +kernel
theorem dL_law_293 : decode cL_law 293 = .ok (.invokevirtual 44, 3) := by decide +kernel
theorem dL_law_296 : decode cL_law 296 = .ok (.if_icmp .eq 403, 3) := by decide +kernel
theorem dL_law_299 : decode cL_law 299 = .ok (.iconst 0, 1) := by decide +kernel
theorem dL_law_300 : decode cL_law 300 = .ok (.ireturn, 1) := by decide +kernel
theorem dL_law_301 : decode cL_law 301 = .ok (.aload_n 1, 1) := by decide +kernel
theorem dL_law_302 : decode cL_law 302 = .ok (.invokevirtual 45, 3) := by decide +kernel
theorem dL_law_305 : decode cL_law 305 = .ok (.aload_n 2, 1) := by decide +kernel
theorem dL_law_306 : decode cL_law 306 = .ok (.invokevirtual 48, 3) := by decide +kernel
theorem dL_law_309 : decode cL_law 309 = .ok (.if_icmp .eq 390, 3) := by decide +kernel
theorem dL_law_312 : decode cL_law 312 = .ok (.iconst 0, 1) := by decide +kernel
theorem dL_law_313 : decode cL_law 313 = .ok (.ireturn, 1) := by decide +kernel
theorem dL_law_314 : decode cL_law 314 = .ok (.aload_n 1, 1) := by decide +kernel
theorem dL_law_315 : decode cL_law 315 = .ok (.aload_n 0, 1) := by decide +kernel
theorem dL_law_316 : decode cL_law 316 = .ok (.iload_n 3, 1) := by decide +kernel
theorem dL_law_317 : decode cL_law 317 = .ok (.iconst 1, 1) := by decide +kernel
theorem dL_law_318 : decode cL_law 318 = .ok (.iadd, 1) := by decide +kernel
theorem dL_law_319 : decode cL_law 319 = .ok (.iaload, 1) := by decide +kernel
theorem dL_law_320 : decode cL_law 320 = .ok (.aload_n 0, 1) := by decide +kernel
theorem dL_law_321 : decode cL_law 321 = .ok (.iload_n 3, 1) := by decide +kernel
theorem dL_law_322 : decode cL_law 322 = .ok (.iconst 2, 1) := by decide +kernel
theorem dL_law_323 : decode cL_law 323 = .ok (.iadd, 1) := by decide +kernel
theorem dL_law_324 : decode cL_law 324 = .ok (.iaload, 1) := by decide +kernel
theorem dL_law_325 : decode cL_law 325 = .ok (.invokevirtual 49, 3) := by decide +kernel
theorem dL_law_328 : decode cL_law 328 = .ok (.aload_n 2, 1) := by decide +kernel
theorem dL_law_329 : decode cL_law 329 = .ok (.aload_n 0, 1) := by decide +kernel
theorem dL_law_330 : decode cL_law 330 = .ok (.iload_n 3, 1) := by decide +kernel
theorem dL_law_331 : decode cL_law 331 = .ok (.iconst 1, 1) := by decide +kernel
theorem dL_law_332 : decode cL_law 332 = .ok (.iadd, 1) := by decide +kernel
theorem dL_law_333 : decode cL_law 333 = .ok (.iaload, 1) := by decide +kernel
theorem dL_law_334 : decode cL_law 334 = .ok (.aload_n 0, 1) := by decide +kernel
theorem dL_law_335 : decode cL_law 335 = .ok (.iload_n 3, 1) := by decide +kernel
theorem dL_law_336 : decode cL_law 336 = .ok (.iconst 2, 1) := by decide +kernel
theorem dL_law_337 : decode cL_law 337 = .ok (.iadd, 1) := by decide +kernel
theorem dL_law_338 : decode cL_law 338 = .ok (.iaload, 1) := by decide +kernel
theorem dL_law_339 : decode cL_law 339 = .ok (.invokevirtual 52, 3) := by decide +kernel
theorem dL_law_342 : decode cL_law 342 = .ok (.if_icmp .eq 357, 3) := by decide +kernel
theorem dL_law_345 : decode cL_law 345 = .ok (.iconst 0, 1) := by decide +kernel
theorem dL_law_346 : decode cL_law 346 = .ok (.ireturn, 1) := by decide +kernel
theorem dL_law_347 : decode cL_law 347 = .ok (.aload_n 1, 1) := by decide +kernel
theorem dL_law_348 : decode cL_law 348 = .ok (.aload_n 0, 1) := by decide +kernel
theorem dL_law_349 : decode cL_law 349 = .ok (.iload_n 3, 1) := by decide +kernel
theorem dL_law_350 : decode cL_law 350 = .ok (.iconst 1, 1) := by decide +kernel
theorem dL_law_351 : decode cL_law 351 = .ok (.iadd, 1) := by decide +kernel
theorem dL_law_352 : decode cL_law 352 = .ok (.iaload, 1) := by decide +kernel
theorem dL_law_353 : decode cL_law 353 = .ok (.aload_n 0, 1) := by decide +kernel
theorem dL_law_354 : decode cL_law 354 = .ok (.iload_n 3, 1) := by decide +kernel
theorem dL_law_355 : decode cL_law 355 = .ok (.iconst 2, 1) := by decide +kernel
theorem dL_law_356 : decode cL_law 356 = .ok (.iadd, 1) := by decide +kernel
theorem dL_law_357 : decode cL_law 357 = .ok (.iaload, 1) := by decide +kernel
theorem dL_law_358 : decode cL_law 358 = .ok (.invokevirtual 53, 3) := by decide +kernel
theorem dL_law_361 : decode cL_law 361 = .ok (.aload_n 2, 1) := by decide +kernel
theorem dL_law_362 : decode cL_law 362 = .ok (.aload_n 0, 1) := by decide +kernel
theorem dL_law_363 : decode cL_law 363 = .ok (.iload_n 3, 1) := by decide +kernel
theorem dL_law_364 : decode cL_law 364 = .ok (.iconst 1, 1) := by decide +kernel
theorem dL_law_365 : decode cL_law 365 = .ok (.iadd, 1) := by decide +kernel
theorem dL_law_366 : decode cL_law 366 = .ok (.iaload, 1) := by decide +kernel
theorem dL_law_367 : decode cL_law 367 = .ok (.aload_n 0, 1) := by decide +kernel
theorem dL_law_368 : decode cL_law 368 = .ok (.iload_n 3, 1) := by decide +kernel
theorem dL_law_369 : decode cL_law 369 = .ok (.iconst 2, 1) := by decide +kernel
theorem dL_law_370 : decode cL_law 370 = .ok (.iadd, 1) := by decide +kernel
theorem dL_law_371 : decode cL_law 371 = .ok (.iaload, 1) := by decide +kernel
theorem dL_law_372 : decode cL_law 372 = .ok (.invokevirtual 56, 3) := by decide +kernel
theorem dL_law_375 : decode cL_law 375 = .ok (.if_icmp .eq 324, 3) := by decide +kernel
theorem dL_law_378 : decode cL_law 378 = .ok (.iconst 0, 1) := by decide +kernel
theorem dL_law_379 : decode cL_law 379 = .ok (.ireturn, 1) := by decide +kernel
theorem dL_law_380 : decode cL_law 380 = .ok (.aload_n 1, 1) := by decide +kernel
theorem dL_law_381 : decode cL_law 381 = .ok (.aload_n 0, 1) := by decide +kernel
theorem dL_law_382 : decode cL_law 382 = .ok (.iload_n 3, 1) := by decide +kernel
theorem dL_law_383 : decode cL_law 383 = .ok (.iconst 1, 1) := by decide +kernel
theorem dL_law_384 : decode cL_law 384 = .ok (.iadd, 1) := by decide +kernel
theorem dL_law_385 : decode cL_law 385 = .ok (.iaload, 1) := by decide +kernel
theorem dL_law_386 : decode cL_law 386 = .ok (.invokevirtual 57, 3) := by decide +kernel
theorem dL_law_389 : decode cL_law 389 = .ok (.aload_n 2, 1) := by decide +kernel
theorem dL_law_390 : decode cL_law 390 = .ok (.aload_n 0, 1) := by decide +kernel
theorem dL_law_391 : decode cL_law 391 = .ok (.iload_n 3, 1) := by decide +kernel
theorem dL_law_392 : decode cL_law 392 = .ok (.iconst 1, 1) := by decide +kernel
theorem dL_law_393 : decode cL_law 393 = .ok (.iadd, 1) := by decide +kernel
theorem dL_law_394 : decode cL_law 394 = .ok (.iaload, 1) := by decide +kernel
theorem dL_law_395 : decode cL_law 395 = .ok (.invokevirtual 60, 3) := by decide +kernel
theorem dL_law_398 : decode cL_law 398 = .ok (.if_icmp .eq 301, 3) := by decide +kernel
theorem dL_law_401 : decode cL_law 401 = .ok (.iconst 0, 1) := by decide +kernel
theorem dL_law_402 : decode cL_law 402 = .ok (.ireturn, 1) := by decide +kernel
theorem dL_law_403 : decode cL_law 403 = .ok (.aload_n 1, 1) := by decide +kernel
theorem dL_law_404 : decode cL_law 404 = .ok (.aload_n 0, 1) := by decide +kernel
theorem dL_law_405 : decode cL_law 405 = .ok (.iload_n 3, 1) := by decide +kernel
theorem dL_law_406 : decode cL_law 406 = .ok (.iconst 1, 1) := by decide +kernel
theorem dL_law_407 : decode cL_law 407 = .ok (.iadd, 1) := by decide +kernel
theorem dL_law_408 : decode cL_law 408 = .ok (.iaload, 1) := by decide +kernel
theorem dL_law_409 : decode cL_law 409 = .ok (.invokevirtual 61, 3) := by decide +kernel
theorem dL_law_412 : decode cL_law 412 = .ok (.aload_n 2, 1) := by decide +kernel
theorem dL_law_413 : decode cL_law 413 = .ok (.aload_n 0, 1) := by decide +kernel
theorem dL_law_414 : decode cL_law 414 = .ok (.iload_n 3, 1) := by decide +kernel
theorem dL_law_415 : decode cL_law 415 = .ok (.iconst 1, 1) := by decide +kernel
theorem dL_law_416 : decode cL_law 416 = .ok (.iadd, 1) := by decide +kernel
theorem dL_law_417 : decode cL_law 417 = .ok (.iaload, 1) := by decide +kernel
theorem dL_law_418 : decode cL_law 418 = .ok (.invokevirtual 64, 3) := by decide +kernel
theorem dL_law_421 : decode cL_law 421 = .ok (.if_icmp .eq 278, 3) := by decide +kernel
theorem dL_law_424 : decode cL_law 424 = .ok (.iconst 0, 1) := by decide +kernel
theorem dL_law_425 : decode cL_law 425 = .ok (.ireturn, 1) := by decide +kernel
theorem dL_law_426 : decode cL_law 426 = .ok (.aload_n 1, 1) := by decide +kernel
theorem dL_law_427 : decode cL_law 427 = .ok (.aload_n 0, 1) := by decide +kernel
theorem dL_law_428 : decode cL_law 428 = .ok (.iload_n 3, 1) := by decide +kernel
theorem dL_law_429 : decode cL_law 429 = .ok (.iconst 1, 1) := by decide +kernel
theorem dL_law_430 : decode cL_law 430 = .ok (.iadd, 1) := by decide +kernel
theorem dL_law_431 : decode cL_law 431 = .ok (.iaload, 1) := by decide +kernel
theorem dL_law_432 : decode cL_law 432 = .ok (.invokevirtual 65, 3) := by decide +kernel
theorem dL_law_435 : decode cL_law 435 = .ok (.aload_n 2, 1) := by decide +kernel
theorem dL_law_436 : decode cL_law 436 = .ok (.aload_n 0, 1) := by decide +kernel
theorem dL_law_437 : decode cL_law 437 = .ok (.iload_n 3, 1) := by decide +kernel
theorem dL_law_438 : decode cL_law 438 = .ok (.iconst 1, 1) := by decide +kernel
theorem dL_law_439 : decode cL_law 439 = .ok (.iadd, 1) := by decide +kernel
theorem dL_law_440 : decode cL_law 440 = .ok (.iaload, 1) := by decide +kernel
theorem dL_law_441 : decode cL_law 441 = .ok (.invokevirtual 68, 3) := by decide +kernel
theorem dL_law_444 : decode cL_law 444 = .ok (.if_icmp .eq 255, 3) := by decide +kernel
theorem dL_law_447 : decode cL_law 447 = .ok (.iconst 0, 1) := by decide +kernel
theorem dL_law_448 : decode cL_law 448 = .ok (.ireturn, 1) := by decide +kernel
theorem dL_law_449 : decode cL_law 449 = .ok (.aload_n 1, 1) := by decide +kernel
theorem dL_law_450 : decode cL_law 450 = .ok (.aload_n 0, 1) := by decide +kernel
theorem dL_law_451 : decode cL_law 451 = .ok (.iload_n 3, 1) := by decide +kernel
theorem dL_law_452 : decode cL_law 452 = .ok (.iconst 1, 1) := by decide +kernel
theorem dL_law_453 : decode cL_law 453 = .ok (.iadd, 1) := by decide +kernel
theorem dL_law_454 : decode cL_law 454 = .ok (.iaload, 1) := by decide +kernel
theorem dL_law_455 : decode cL_law 455 = .ok (.aload_n 0, 1) := by decide +kernel
theorem dL_law_456 : decode cL_law 456 = .ok (.iload_n 3, 1) := by decide +kernel
theorem dL_law_457 : decode cL_law 457 = .ok (.iconst 2, 1) := by decide +kernel
theorem dL_law_458 : decode cL_law 458 = .ok (.iadd, 1) := by decide +kernel
theorem dL_law_459 : decode cL_law 459 = .ok (.iaload, 1) := by decide +kernel
theorem dL_law_460 : decode cL_law 460 = .ok (.invokevirtual 69, 3) := by decide +kernel
theorem dL_law_463 : decode cL_law 463 = .ok (.aload_n 2, 1) := by decide +kernel
theorem dL_law_464 : decode cL_law 464 = .ok (.aload_n 0, 1) := by decide +kernel
theorem dL_law_465 : decode cL_law 465 = .ok (.iload_n 3, 1) := by decide +kernel
theorem dL_law_466 : decode cL_law 466 = .ok (.iconst 1, 1) := by decide +kernel
theorem dL_law_467 : decode cL_law 467 = .ok (.iadd, 1) := by decide +kernel
theorem dL_law_468 : decode cL_law 468 = .ok (.iaload, 1) := by decide +kernel
theorem dL_law_469 : decode cL_law 469 = .ok (.aload_n 0, 1) := by decide +kernel
theorem dL_law_470 : decode cL_law 470 = .ok (.iload_n 3, 1) := by decide +kernel
theorem dL_law_471 : decode cL_law 471 = .ok (.iconst 2, 1) := by decide +kernel
theorem dL_law_472 : decode cL_law 472 = .ok (.iadd, 1) := by decide +kernel
theorem dL_law_473 : decode cL_law 473 = .ok (.iaload, 1) := by decide +kernel
theorem dL_law_474 : decode cL_law 474 = .ok (.invokevirtual 72, 3) := by decide +kernel
theorem dL_law_477 : decode cL_law 477 = .ok (.if_icmp .eq 222, 3) := by decide +kernel
theorem dL_law_480 : decode cL_law 480 = .ok (.iconst 0, 1) := by decide +kernel
theorem dL_law_481 : decode cL_law 481 = .ok (.ireturn, 1) := by decide +kernel
theorem dL_law_482 : decode cL_law 482 = .ok (.aload_n 1, 1) := by decide +kernel
theorem dL_law_483 : decode cL_law 483 = .ok (.aload_n 0, 1) := by decide +kernel
theorem dL_law_484 : decode cL_law 484 = .ok (.iload_n 3, 1) := by decide +kernel
theorem dL_law_485 : decode cL_law 485 = .ok (.iconst 1, 1) := by decide +kernel
theorem dL_law_486 : decode cL_law 486 = .ok (.iadd, 1) := by decide +kernel
theorem dL_law_487 : decode cL_law 487 = .ok (.iaload, 1) := by decide +kernel
theorem dL_law_488 : decode cL_law 488 = .ok (.aload_n 0, 1) := by decide +kernel
theorem dL_law_489 : decode cL_law 489 = .ok (.iload_n 3, 1) := by decide +kernel
theorem dL_law_490 : decode cL_law 490 = .ok (.iconst 2, 1) := by decide +kernel
theorem dL_law_491 : decode cL_law 491 = .ok (.iadd, 1) := by decide +kernel
theorem dL_law_492 : decode cL_law 492 = .ok (.iaload, 1) := by decide +kernel
theorem dL_law_493 : decode cL_law 493 = .ok (.invokevirtual 73, 3) := by decide +kernel
theorem dL_law_496 : decode cL_law 496 = .ok (.aload_n 2, 1) := by decide +kernel
theorem dL_law_497 : decode cL_law 497 = .ok (.aload_n 0, 1) := by decide +kernel
theorem dL_law_498 : decode cL_law 498 = .ok (.iload_n 3, 1) := by decide +kernel
theorem dL_law_499 : decode cL_law 499 = .ok (.iconst 1, 1) := by decide +kernel
theorem dL_law_500 : decode cL_law 500 = .ok (.iadd, 1) := by decide +kernel
theorem dL_law_501 : decode cL_law 501 = .ok (.iaload, 1) := by decide +kernel
theorem dL_law_502 : decode cL_law 502 = .ok (.aload_n 0, 1) := by decide +kernel
theorem dL_law_503 : decode cL_law 503 = .ok (.iload_n 3, 1) := by decide +kernel
theorem dL_law_504 : decode cL_law 504 = .ok (.iconst 2, 1) := by decide +kernel
theorem dL_law_505 : decode cL_law 505 = .ok (.iadd, 1) := by decide +kernel
theorem dL_law_506 : decode cL_law 506 = .ok (.iaload, 1) := by decide +kernel
theorem dL_law_507 : decode cL_law 507 = .ok (.invokevirtual 76, 3) := by decide +kernel
theorem dL_law_510 : decode cL_law 510 = .ok (.if_icmp .eq 189, 3) := by decide +kernel
theorem dL_law_513 : decode cL_law 513 = .ok (.iconst 0, 1) := by decide +kernel
theorem dL_law_514 : decode cL_law 514 = .ok (.ireturn, 1) := by decide +kernel
theorem dL_law_515 : decode cL_law 515 = .ok (.aload_n 1, 1) := by decide +kernel
theorem dL_law_516 : decode cL_law 516 = .ok (.aload_n 0, 1) := by decide +kernel
theorem dL_law_517 : decode cL_law 517 = .ok (.iload_n 3, 1) := by decide +kernel
theorem dL_law_518 : decode cL_law 518 = .ok (.iconst 1, 1) := by decide +kernel
theorem dL_law_519 : decode cL_law 519 = .ok (.iadd, 1) := by decide +kernel
theorem dL_law_520 : decode cL_law 520 = .ok (.iaload, 1) := by decide +kernel
theorem dL_law_521 : decode cL_law 521 = .ok (.aload_n 0, 1) := by decide +kernel
theorem dL_law_522 : decode cL_law 522 = .ok (.iload_n 3, 1) := by decide +kernel
theorem dL_law_523 : decode cL_law 523 = .ok (.iconst 2, 1) := by decide +kernel
theorem dL_law_524 : decode cL_law 524 = .ok (.iadd, 1) := by decide +kernel
theorem dL_law_525 : decode cL_law 525 = .ok (.iaload, 1) := by decide +kernel
theorem dL_law_526 : decode cL_law 526 = .ok (.invokevirtual 77, 3) := by decide +kernel
theorem dL_law_529 : decode cL_law 529 = .ok (.aload_n 2, 1) := by decide +kernel
theorem dL_law_530 : decode cL_law 530 = .ok (.aload_n 0, 1) := by decide +kernel
theorem dL_law_531 : decode cL_law 531 = .ok (.iload_n 3, 1) := by decide +kernel
theorem dL_law_532 : decode cL_law 532 = .ok (.iconst 1, 1) := by decide +kernel
theorem dL_law_533 : decode cL_law 533 = .ok (.iadd, 1) := by decide +kernel
theorem dL_law_534 : decode cL_law 534 = .ok (.iaload, 1) := by decide +kernel
theorem dL_law_535 : decode cL_law 535 = .ok (.aload_n 0, 1) := by decide +kernel
theorem dL_law_536 : decode cL_law 536 = .ok (.iload_n 3, 1) := by decide +kernel
theorem dL_law_537 : decode cL_law 537 = .ok (.iconst 2, 1) := by decide +kernel
theorem dL_law_538 : decode cL_law 538 = .ok (.iadd, 1) := by decide +kernel
theorem dL_law_539 : decode cL_law 539 = .ok (.iaload, 1) := by decide +kernel
theorem dL_law_540 : decode cL_law 540 = .ok (.invokevirtual 80, 3) := by decide +kernel
theorem dL_law_543 : decode cL_law 543 = .ok (.if_icmp .eq 156, 3) := by decide +kernel
theorem dL_law_546 : decode cL_law 546 = .ok (.iconst 0, 1) := by decide +kernel
theorem dL_law_547 : decode cL_law 547 = .ok (.ireturn, 1) := by decide +kernel
theorem dL_law_548 : decode cL_law 548 = .ok (.aload_n 1, 1) := by decide +kernel
theorem dL_law_549 : decode cL_law 549 = .ok (.aload_n 0, 1) := by decide +kernel
theorem dL_law_550 : decode cL_law 550 = .ok (.iload_n 3, 1) := by decide +kernel
theorem dL_law_551 : decode cL_law 551 = .ok (.iconst 1, 1) := by decide +kernel
theorem dL_law_552 : decode cL_law 552 = .ok (.iadd, 1) := by decide +kernel
theorem dL_law_553 : decode cL_law 553 = .ok (.iaload, 1) := by decide +kernel
theorem dL_law_554 : decode cL_law 554 = .ok (.aload_n 0, 1) := by decide +kernel
theorem dL_law_555 : decode cL_law 555 = .ok (.iload_n 3, 1) := by decide +kernel
theorem dL_law_556 : decode cL_law 556 = .ok (.iconst 2, 1) := by decide +kernel
theorem dL_law_557 : decode cL_law 557 = .ok (.iadd, 1) := by decide +kernel
theorem dL_law_558 : decode cL_law 558 = .ok (.iaload, 1) := by decide +kernel
theorem dL_law_559 : decode cL_law 559 = .ok (.invokevirtual 81, 3) := by decide +kernel
theorem dL_law_562 : decode cL_law 562 = .ok (.aload_n 2, 1) := by decide +kernel
theorem dL_law_563 : decode cL_law 563 = .ok (.aload_n 0, 1) := by decide +kernel
theorem dL_law_564 : decode cL_law 564 = .ok (.iload_n 3, 1) := by decide +kernel
theorem dL_law_565 : decode cL_law 565 = .ok (.iconst 1, 1) := by decide +kernel
theorem dL_law_566 : decode cL_law 566 = .ok (.iadd, 1) := by decide +kernel
theorem dL_law_567 : decode cL_law 567 = .ok (.iaload, 1) := by decide +kernel
theorem dL_law_568 : decode cL_law 568 = .ok (.aload_n 0, 1) := by decide +kernel
theorem dL_law_569 : decode cL_law 569 = .ok (.iload_n 3, 1) := by decide +kernel
theorem dL_law_570 : decode cL_law 570 = .ok (.iconst 2, 1) := by decide +kernel
theorem dL_law_571 : decode cL_law 571 = .ok (.iadd, 1) := by decide +kernel
theorem dL_law_572 : decode cL_law 572 = .ok (.iaload, 1) := by decide +kernel
theorem dL_law_573 : decode cL_law 573 = .ok (.invokevirtual 84, 3) := by decide +kernel
theorem dL_law_576 : decode cL_law 576 = .ok (.if_icmp .eq 123, 3) := by decide +kernel
theorem dL_law_579 : decode cL_law 579 = .ok (.iconst 0, 1) := by decide +kernel
theorem dL_law_580 : decode cL_law 580 = .ok (.ireturn, 1) := by decide +kernel
theorem dL_law_581 : decode cL_law 581 = .ok (.aload_n 1, 1) := by decide +kernel
theorem dL_law_582 : decode cL_law 582 = .ok (.aload_n 0, 1) := by decide +kernel
theorem dL_law_583 : decode cL_law 583 = .ok (.iload_n 3, 1) := by decide +kernel
theorem dL_law_584 : decode cL_law 584 = .ok (.iconst 1, 1) := by decide +kernel
theorem dL_law_585 : decode cL_law 585 = .ok (.iadd, 1) := by decide +kernel
theorem dL_law_586 : decode cL_law 586 = .ok (.iaload, 1) := by decide +kernel
theorem dL_law_587 : decode cL_law 587 = .ok (.invokevirtual 85, 3) := by decide +kernel
theorem dL_law_590 : decode cL_law 590 = .ok (.aload_n 2, 1) := by decide +kernel
theorem dL_law_591 : decode cL_law 591 = .ok (.aload_n 0, 1) := by decide +kernel
theorem dL_law_592 : decode cL_law 592 = .ok (.iload_n 3, 1) := by decide +kernel
theorem dL_law_593 : decode cL_law 593 = .ok (.iconst 1, 1) := by decide +kernel
theorem dL_law_594 : decode cL_law 594 = .ok (.iadd, 1) := by decide +kernel
theorem dL_law_595 : decode cL_law 595 = .ok (.iaload, 1) := by decide +kernel
theorem dL_law_596 : decode cL_law 596 = .ok (.invokevirtual 88, 3) := by decide +kernel
theorem dL_law_599 : decode cL_law 599 = .ok (.if_icmp .eq 100, 3) := by decide +kernel
theorem dL_law_602 : decode cL_law 602 = .ok (.iconst 0, 1) := by decide +kernel
theorem dL_law_603 : decode cL_law 603 = .ok (.ireturn, 1) := by decide +kernel
theorem dL_law_604 : decode cL_law 604 = .ok (.aload_n 1, 1) := by decide +kernel
theorem dL_law_605 : decode cL_law 605 = .ok (.invokevirtual 89, 3) := by decide +kernel
theorem dL_law_608 : decode cL_law 608 = .ok (.aload_n 2, 1) := by decide +kernel
theorem dL_law_609 : decode cL_law 609 = .ok (.invokevirtual 92, 3) := by decide +kernel
theorem dL_law_612 : decode cL_law 612 = .ok (.if_icmp .eq 87, 3) := by decide +kernel
theorem dL_law_615 : decode cL_law 615 = .ok (.iconst 0, 1) := by decide +kernel
theorem dL_law_616 : decode cL_law 616 = .ok (.ireturn, 1) := by decide +kernel
theorem dL_law_617 : decode cL_law 617 = .ok (.aload_n 1, 1) := by decide +kernel
theorem dL_law_618 : decode cL_law 618 = .ok (.invokevirtual 93, 3) := by decide +kernel
theorem dL_law_621 : decode cL_law 621 = .ok (.aload_n 2, 1) := by decide +kernel
theorem dL_law_622 : decode cL_law 622 = .ok (.invokevirtual 96, 3) := by decide +kernel
theorem dL_law_625 : decode cL_law 625 = .ok (.if_icmp .eq 74, 3) := by decide +kernel
theorem dL_law_628 : decode cL_law 628 = .ok (.iconst 0, 1) := by decide +kernel
theorem dL_law_629 : decode cL_law 629 = .ok (.ireturn, 1) := by decide +kernel
theorem dL_law_630 : decode cL_law 630 = .ok (.aload_n 1, 1) := by decide +kernel
theorem dL_law_631 : decode cL_law 631 = .ok (.aload_n 0, 1) := by decide +kernel
theorem dL_law_632 : decode cL_law 632 = .ok (.iload_n 3, 1) := by decide +kernel
theorem dL_law_633 : decode cL_law 633 = .ok (.iconst 1, 1) := by decide +kernel
theorem dL_law_634 : decode cL_law 634 = .ok (.iadd, 1) := by decide +kernel
theorem dL_law_635 : decode cL_law 635 = .ok (.iaload, 1) := by decide +kernel
theorem dL_law_636 : decode cL_law 636 = .ok (.invokevirtual 97, 3) := by decide +kernel
theorem dL_law_639 : decode cL_law 639 = .ok (.aload_n 2, 1) := by decide +kernel
theorem dL_law_640 : decode cL_law 640 = .ok (.aload_n 0, 1) := by decide +kernel
theorem dL_law_641 : decode cL_law 641 = .ok (.iload_n 3, 1) := by decide +kernel
theorem dL_law_642 : decode cL_law 642 = .ok (.iconst 1, 1) := by decide +kernel
theorem dL_law_643 : decode cL_law 643 = .ok (.iadd, 1) := by decide +kernel
theorem dL_law_644 : decode cL_law 644 = .ok (.iaload, 1) := by decide +kernel
theorem dL_law_645 : decode cL_law 645 = .ok (.invokevirtual 100, 3) := by decide +kernel
theorem dL_law_648 : decode cL_law 648 = .ok (.if_icmp .eq 51, 3) := by decide +kernel
theorem dL_law_651 : decode cL_law 651 = .ok (.iconst 0, 1) := by decide +kernel
theorem dL_law_652 : decode cL_law 652 = .ok (.ireturn, 1) := by decide +kernel
theorem dL_law_653 : decode cL_law 653 = .ok (.aload_n 1, 1) := by decide +kernel
theorem dL_law_654 : decode cL_law 654 = .ok (.aload_n 0, 1) := by decide +kernel
theorem dL_law_655 : decode cL_law 655 = .ok (.iload_n 3, 1) := by decide +kernel
theorem dL_law_656 : decode cL_law 656 = .ok (.iconst 1, 1) := by decide +kernel
theorem dL_law_657 : decode cL_law 657 = .ok (.iadd, 1) := by decide +kernel
theorem dL_law_658 : decode cL_law 658 = .ok (.iaload, 1) := by decide +kernel
theorem dL_law_659 : decode cL_law 659 = .ok (.invokevirtual 101, 3) := by decide +kernel
theorem dL_law_662 : decode cL_law 662 = .ok (.aload_n 2, 1) := by decide +kernel
theorem dL_law_663 : decode cL_law 663 = .ok (.aload_n 0, 1) := by decide +kernel
theorem dL_law_664 : decode cL_law 664 = .ok (.iload_n 3, 1) := by decide +kernel
theorem dL_law_665 : decode cL_law 665 = .ok (.iconst 1, 1) := by decide +kernel
theorem dL_law_666 : decode cL_law 666 = .ok (.iadd, 1) := by decide +kernel
theorem dL_law_667 : decode cL_law 667 = .ok (.iaload, 1) := by decide +kernel
theorem dL_law_668 : decode cL_law 668 = .ok (.invokevirtual 104, 3) := by decide +kernel
theorem dL_law_671 : decode cL_law 671 = .ok (.if_icmp .eq 28, 3) := by decide +kernel
theorem dL_law_674 : decode cL_law 674 = .ok (.iconst 0, 1) := by decide +kernel
theorem dL_law_675 : decode cL_law 675 = .ok (.ireturn, 1) := by decide +kernel
theorem dL_law_676 : decode cL_law 676 = .ok (.aload_n 1, 1) := by decide +kernel
theorem dL_law_677 : decode cL_law 677 = .ok (.aload_n 0, 1) := by decide +kernel
theorem dL_law_678 : decode cL_law 678 = .ok (.iload_n 3, 1) := by decide +kernel
theorem dL_law_679 : decode cL_law 679 = .ok (.iconst 1, 1) := by decide +kernel
theorem dL_law_680 : decode cL_law 680 = .ok (.iadd, 1) := by decide +kernel
theorem dL_law_681 : decode cL_law 681 = .ok (.iaload, 1) := by decide +kernel
theorem dL_law_682 : decode cL_law 682 = .ok (.invokevirtual 105, 3) := by decide +kernel
theorem dL_law_685 : decode cL_law 685 = .ok (.aload_n 2, 1) := by decide +kernel
theorem dL_law_686 : decode cL_law 686 = .ok (.aload_n 0, 1) := by decide +kernel
theorem dL_law_687 : decode cL_law 687 = .ok (.iload_n 3, 1) := by decide +kernel
theorem dL_law_688 : decode cL_law 688 = .ok (.iconst 1, 1) := by decide +kernel
theorem dL_law_689 : decode cL_law 689 = .ok (.iadd, 1) := by decide +kernel
theorem dL_law_690 : decode cL_law 690 = .ok (.iaload, 1) := by decide +kernel
theorem dL_law_691 : decode cL_law 691 = .ok (.invokevirtual 108, 3) := by decide +kernel
theorem dL_law_694 : decode cL_law 694 = .ok (.if_icmp .eq 5, 3) := by decide +kernel
theorem dL_law_697 : decode cL_law 697 = .ok (.iconst 0, 1) := by decide +kernel
theorem dL_law_698 : decode cL_law 698 = .ok (.ireturn, 1) := by decide +kernel
theorem dL_law_699 : decode cL_law 699 = .ok (.iinc 3 4, 3) := by decide +kernel
theorem dL_law_702 : decode cL_law 702 = .ok (.goto (-684), 3) := by decide +kernel
theorem dL_law_705 : decode cL_law 705 = .ok (.iconst 1, 1) := by decide +kernel
theorem dL_law_706 : decode cL_law 706 = .ok (.ireturn, 1) := by decide +kernel
end
section
/-- all that may change is whole numbers: cell c, place k -/
abbrev Mem : Type := Nat → Nat → Int32
def stm (σ : Mem) (c k : Nat) (v : Int32) : Mem := fun c' => if c' = c then upd (σ c) k v else σ c'
theorem stm_at (σ : Mem) (c k : Nat) (v : Int32) : stm σ c k v c = upd (σ c) k v := by simp [stm]
theorem stm_ne {σ : Mem} {c k : Nat} {v : Int32} {c' : Nat} (h : c' ≠ c) : stm σ c k v c' = σ c' := by simp [stm, h]
/-- a cell of the one world: an array (ints or booleans, its length), or an object (its class's number, its fields: a cell's number, or a whole number) -/
abbrev LD : Type := (Bool × Nat) ⊕ (Nat × List (Option Nat))
def LY : List LD :=
  [.inr (8, [some 1, some 4, some 7, some 10, some 15, some 19, some 23, some 25, some 30, some 41, some 43, some 45, some 47, none, none, none]),
   .inr (6, [some 2, none]), .inr (5, [some 3]), .inl (true, 90),
   .inr (4, [some 5, none, none]), .inr (5, [some 6]), .inl (true, 48),
   .inr (4, [some 8, none, none]), .inr (5, [some 9]), .inl (true, 48),
   .inr (1, [some 11, some 13, none]), .inr (5, [some 12]), .inl (true, 10), .inr (5, [some 14]), .inl (true, 10),
   .inr (2, [some 16, none, none]), .inr (4, [some 17, none, none]), .inr (5, [some 18]), .inl (true, 48),
   .inr (2, [some 20, none, none]), .inr (4, [some 21, none, none]), .inr (5, [some 22]), .inl (true, 48),
   .inr (5, [some 24]), .inl (true, 6),
   .inr (7, [some 26, some 28, none]), .inr (5, [some 27]), .inl (true, 9), .inr (5, [some 29]), .inl (true, 9),
   .inr (0, [some 31, some 33, some 35, some 37, some 39, none]), .inr (5, [some 32]), .inl (true, 11), .inr (5, [some 34]), .inl (true, 11), .inr (5, [some 36]), .inl (true, 11), .inr (5, [some 38]), .inl (true, 11), .inr (5, [some 40]), .inl (true, 44),
   .inr (5, [some 42]), .inl (true, 6),
   .inr (5, [some 44]), .inl (true, 105),
   .inr (5, [some 46]), .inl (true, 49),
   .inr (3, [some 48, none, none, none, none]), .inr (5, [some 49]), .inl (true, 6),
   .inr (9, [none, none, some 51, none, none, some 52, none, some 53, some 54, some 55, none, some 56, none, none, none, none, none, none, some 57, none, none, some 58, some 59, some 60, some 61, some 62, some 63]),
   .inl (true, 49), .inl (true, 490), .inl (true, 6), .inl (false, 2), .inl (true, 98), .inl (true, 90), .inl (true, 48), .inl (true, 10), .inl (true, 10), .inl (true, 44), .inl (false, 10), .inl (true, 105), .inl (true, 5)]

def cellV (ad : Nat → Nat) (f : Nat → Int32) : Nat → List (Option Nat) → List Value
  | _, [] => []
  | k, some c :: fs => .ref (ad c) :: cellV ad f (k + 1) fs
  | k, none :: fs => .int (f k) :: cellV ad f (k + 1) fs
def cellE (cI cZ : ClassId) (ad : Nat → Nat) (f : Nat → Int32) : LD → va_E
  | .inl (true, n) => .inl (cI, n, .inl f)
  | .inl (false, n) => .inl (cZ, n, .inl f)
  | .inr (ci, fs) => .inr (ci, cellV ad f 0 fs)
/-- the one world: all cells of the class and of the reference -/
def WS (cI cZ : ClassId) (ad : Nat → Nat) (σ : Mem) : va_W := LY.mapIdx (fun c d => (ad c, cellE cI cZ ad (σ c) d))
theorem cellV_int {ad : Nat → Nat} {f : Nat → Int32} : ∀ (fs : List (Option Nat)) (j k : Nat), fs[k]? = some none → (cellV ad f j fs)[k]? = some (.int (f (j + k))) := by
  intro fs
  induction fs with
  | nil => intro j k h; simp at h
  | cons a t ih =>
    intro j k h
    cases k with
    | zero => cases a with
      | none => simp [cellV]
      | some c => simp at h
    | succ k =>
      have h2 : t[k]? = some none := by simpa using h
      have := ih (j + 1) k h2
      cases a <;> simp only [cellV, List.getElem?_cons_succ] <;> rw [this] <;> congr 3 <;> omega
theorem cellV_ref {ad : Nat → Nat} {f : Nat → Int32} : ∀ (fs : List (Option Nat)) (j k c : Nat), fs[k]? = some (some c) → (cellV ad f j fs)[k]? = some (.ref (ad c)) := by
  intro fs
  induction fs with
  | nil => intro j k c h; simp at h
  | cons a t ih =>
    intro j k c h
    cases k with
    | zero => cases a with
      | none => simp at h
      | some c2 => simp at h; subst h; simp [cellV]
    | succ k =>
      have h2 : t[k]? = some (some c) := by simpa using h
      have := ih (j + 1) k c h2
      cases a <;> simp only [cellV, List.getElem?_cons_succ] <;> rw [this]
theorem cellV_len {ad : Nat → Nat} {f : Nat → Int32} : ∀ (fs : List (Option Nat)) (j : Nat), (cellV ad f j fs).length = fs.length := by
  intro fs
  induction fs with
  | nil => intro j; rfl
  | cons a t ih => intro j; cases a <;> simp [cellV, ih]
theorem cellV_hi {ad : Nat → Nat} {f g : Nat → Int32} : ∀ (fs : List (Option Nat)) (j : Nat), (∀ q, j ≤ q → f q = g q) → cellV ad f j fs = cellV ad g j fs := by
  intro fs
  induction fs with
  | nil => intro j _; rfl
  | cons a t ih =>
    intro j h
    have := ih (j + 1) (fun q hq => h q (by omega))
    cases a with
    | none => simp only [cellV]; rw [this, h j (Nat.le_refl j)]
    | some c => simp only [cellV]; rw [this]
theorem cellV_set {ad : Nat → Nat} {f : Nat → Int32} {v : Int32} : ∀ (fs : List (Option Nat)) (j k : Nat), fs[k]? = some none → (cellV ad f j fs).set k (.int v) = cellV ad (upd f (j + k) v) j fs := by
  intro fs
  induction fs with
  | nil => intro j k h; simp at h
  | cons a t ih =>
    intro j k h
    cases k with
    | zero => cases a with
      | none =>
        simp only [cellV, List.set_cons_zero]
        rw [cellV_hi (f := f) (g := upd f (j + 0) v) t (j + 1) (fun q hq => by unfold upd; rw [if_neg (by omega)])]
        simp [upd]
      | some c => simp at h
    | succ k =>
      have h2 : t[k]? = some none := by simpa using h
      have := ih (j + 1) k h2
      have e : j + 1 + k = j + (k + 1) := by omega
      rw [e] at this
      cases a with
      | none =>
        simp only [cellV, List.set_cons_succ]
        rw [this]
        congr 2
        unfold upd
        rw [if_neg (by omega)]
      | some c =>
        simp only [cellV, List.set_cons_succ]
        rw [this]
theorem ws_at {cI cZ : ClassId} {ad : Nat → Nat} {σ : Mem} {c : Nat} {d : LD} (h : LY[c]? = some d) : (WS cI cZ ad σ)[c]? = some (ad c, cellE cI cZ ad (σ c) d) := by
  unfold WS
  rw [List.getElem?_mapIdx, h]
  rfl
theorem ws_inv {cI cZ : ClassId} {ad : Nat → Nat} {σ : Mem} {c : Nat} {q : Nat × va_E} (h : (WS cI cZ ad σ)[c]? = some q) : c < 64 ∧ q.1 = ad c := by
  unfold WS at h
  rw [List.getElem?_mapIdx] at h
  cases hd : LY[c]? with
  | none => rw [hd] at h; cases h
  | some d =>
    rw [hd] at h
    have h2 := Option.some.inj h
    have hl : c < LY.length := (List.getElem?_eq_some_iff.mp hd).1
    exact ⟨hl, by rw [← h2]⟩
theorem ws_set {cI cZ : ClassId} {ad : Nat → Nat} {σ : Mem} {c k : Nat} {v : Int32} {d : LD} (h : LY[c]? = some d) {x : va_E} (hx : x = cellE cI cZ ad (upd (σ c) k v) d) : (WS cI cZ ad σ).set c (ad c, x) = WS cI cZ ad (stm σ c k v) := by
  apply List.ext_getElem?
  intro j
  rw [List.getElem?_set]
  by_cases hj : c = j
  · subst hj
    have hl : c < (WS cI cZ ad σ).length := (List.getElem?_eq_some_iff.mp (ws_at h)).1
    rw [if_pos rfl, if_pos hl, ws_at h, stm_at, hx]
  · rw [if_neg hj]
    unfold WS
    rw [List.getElem?_mapIdx, List.getElem?_mapIdx]
    cases hd : LY[j]? with
    | none => rfl
    | some d2 => simp only [Option.map_some]; rw [stm_ne (Ne.symm hj)]
/-- which cells a method may change -/
def AA (ad : Nat → Nat) (sz : Nat) : Nat → Prop := fun q => (∃ i, i < 64 ∧ ad i = q) ∨ sz ≤ q
def INJ (ad : Nat → Nat) : Prop := ∀ i j, i < 64 → j < 64 → ad i = ad j → i = j
theorem ws_D {cI cZ : ClassId} {ad : Nat → Nat} {A : Nat → Prop} (hi : INJ ad) (hA : ∀ i, i < 64 → A (ad i)) (σ : Mem) : va_D A (WS cI cZ ad σ) := by
  refine ⟨fun i j x y hx hy hxy => ?_, fun k q hq => ?_⟩
  · obtain ⟨a1, a2⟩ := ws_inv hx
    obtain ⟨b1, b2⟩ := ws_inv hy
    exact hi i j a1 b1 (by rw [← a2, ← b2]; exact hxy)
  · obtain ⟨a1, a2⟩ := ws_inv hq
    rw [a2]
    exact hA k a1
/-- the tables' words that stay good at any later state -/
def UW : List Cond := lw_tbl.filter goodWord
theorem uw_in {w : Cond} (h : w ∈ UW) : w ∈ lw_tbl := (List.mem_filter.mp h).1
theorem uw_good {w : Cond} (h : w ∈ UW) : (w.onTables && w.keeps) = true ∨ ∃ ty, w = .arrayClass ty := good_of_word (List.mem_filter.mp h).2
theorem uw_mk {w : Cond} (i : Nat) (h : lw_tbl[i]? = some w) (hg : goodWord w = true) : w ∈ UW := List.mem_filter.mpr ⟨List.mem_of_getElem? h, hg⟩
theorem uw_all {ws : List Cond} (ps : List Nat) (h : ws = ps.filterMap (fun i => lw_tbl[i]?)) (hg : ws.all goodWord = true) : ∀ w ∈ ws, w ∈ UW := by
  intro w hw
  have h1 := List.all_eq_true.mp hg w hw
  rw [h] at hw
  obtain ⟨i, -, hi⟩ := List.mem_filterMap.mp hw
  exact uw_mk i hi h1
/-- private members of nest mates -/
def NFw (q : String × Nat × String × String × String × String) : Cond := .fieldLinkNest q.1 q.2.1 q.2.2.1 q.2.2.2.1 q.2.2.2.2.1 q.2.2.2.2.2
def NMw (q : String × Nat × MethodName × String) : Cond := .methodLinkNest q.1 q.2.1 q.2.2.1 q.2.2.2
def NF : List (String × Nat × String × String × String × String) := [("StemmaTree", 82, "StemmaTree$Text", "length", "I", "StemmaTree"), ("StemmaTree", 158, "StemmaTree$Readings", "cells", "LStemmaTree$Row;", "StemmaTree"), ("StemmaTree$Mix", 20, "StemmaTree$Readings", "copyCount", "I", "StemmaTree"), ("StemmaTree$Text", 28, "StemmaTree$Readings", "copyCount", "I", "StemmaTree"), ("StemmaTree", 113, "StemmaTree$Readings", "copyCount", "I", "StemmaTree"), ("StemmaTree$Mix", 26, "StemmaTree$Readings", "placeCount", "I", "StemmaTree"), ("StemmaTree$Text", 33, "StemmaTree$Readings", "placeCount", "I", "StemmaTree"), ("StemmaTree", 212, "StemmaTree$Readings", "placeCount", "I", "StemmaTree"), ("StemmaTree", 149, "StemmaTree$Done", "cells", "LStemmaTree$Row;", "StemmaTree"), ("StemmaTree", 155, "StemmaTree$Done", "befores", "LStemmaTree$Row;", "StemmaTree"), ("StemmaTree", 100, "StemmaTree$Done", "size", "I", "StemmaTree"), ("StemmaTree", 241, "StemmaTree$Image", "readings", "LStemmaTree$Readings;", "StemmaTree"), ("StemmaTree", 244, "StemmaTree$Image", "chosen", "I", "StemmaTree"), ("StemmaTree", 106, "StemmaTree$Image", "kept", "Z", "StemmaTree"), ("StemmaTree$Descent", 48, "StemmaTree$Tree", "firstEnds", "LStemmaTree$Row;", "StemmaTree"), ("StemmaTree$Descent", 55, "StemmaTree$Tree", "secondEnds", "LStemmaTree$Row;", "StemmaTree"), ("StemmaTree$Descent", 36, "StemmaTree$Tree", "edgeCount", "I", "StemmaTree"), ("StemmaTree", 179, "StemmaTree$Tree", "edgeCount", "I", "StemmaTree"), ("StemmaTree", 218, "StemmaTree$Mix", "unlikes", "I", "StemmaTree"), ("StemmaTree", 221, "StemmaTree$Mix", "first", "I", "StemmaTree"), ("StemmaTree", 224, "StemmaTree$Mix", "second", "I", "StemmaTree"), ("StemmaTree", 227, "StemmaTree$Mix", "goesOver", "I", "StemmaTree")]
def NM : List (String × Nat × MethodName × String) := [("StemmaTree", 11, ⟨"StemmaTree$Text", "<init>", "()V"⟩, "StemmaTree"), ("StemmaTree", 18, ⟨"StemmaTree$Readings", "<init>", "()V"⟩, "StemmaTree"), ("StemmaTree", 28, ⟨"StemmaTree$Done", "<init>", "()V"⟩, "StemmaTree"), ("StemmaTree", 35, ⟨"StemmaTree$Image", "<init>", "()V"⟩, "StemmaTree"), ("StemmaTree$Image", 9, ⟨"StemmaTree$Readings", "<init>", "()V"⟩, "StemmaTree"), ("StemmaTree", 54, ⟨"StemmaTree$Tree", "<init>", "()V"⟩, "StemmaTree"), ("StemmaTree", 61, ⟨"StemmaTree$Descent", "<init>", "()V"⟩, "StemmaTree"), ("StemmaTree", 77, ⟨"StemmaTree$Mix", "<init>", "()V"⟩, "StemmaTree"), ("StemmaTree$Readings", 56, ⟨"StemmaTree", "bitsOf", "(I)I"⟩, "StemmaTree"), ("StemmaTree$Readings", 59, ⟨"StemmaTree", "bitOf", "(II)I"⟩, "StemmaTree"), ("StemmaTree$Descent", 81, ⟨"StemmaTree", "bitOf", "(II)I"⟩, "StemmaTree")]
def NW : List Cond := NF.map NFw ++ NM.map NMw
theorem nw_warm {s U : State} (hW : s.WarmedH U.vm) {w : Cond} (hw : w ∈ NW) (h : va_Nw w s) : va_Nw w U := by
  rcases List.mem_append.mp hw with hw | hw
  · obtain ⟨q, -, rfl⟩ := List.mem_map.mp hw
    exact va_Nw.warmF hW h
  · obtain ⟨q, -, rfl⟩ := List.mem_map.mp hw
    exact va_Nw.warmM hW h
theorem nw_same {u U : State} (hv : u.vm = U.vm) {w : Cond} (hw : w ∈ NW) (h : va_Nw w u) : va_Nw w U := by
  rcases List.mem_append.mp hw with hw | hw
  · obtain ⟨q, -, rfl⟩ := List.mem_map.mp hw
    exact va_Nw.same rfl hv h
  · obtain ⟨q, -, rfl⟩ := List.mem_map.mp hw
    exact va_Nw.same rfl hv h
/-- the table TREES -/
def TRi (j : Nat) : Int32 := ([1, 1, 1, 1, 3, 15, 105] : List Int32).getD j 0
/-- what every method needs beside the world: nest mates' links, the table -/
def EN (tT : Nat) (A : Nat → Prop) (U : State) (H : Heap) : Prop := (∀ w ∈ NW, va_Nw w U) ∧ va_Z RX8 "TREES" "[I" (.ref tT) A U H ∧ va_T .int tT 7 (fun j => .int (TRi j)) A U H
theorem EN.warm {tT : Nat} {A : Nat → Prop} {s U : State} {H : Heap} (hW : s.WarmedH U.vm) (h : EN tT A s H) : EN tT A U H := ⟨fun w hw => nw_warm hW hw (h.1 w hw), va_Z.moved hW.alike h.2.1, va_T.moved hW.alike h.2.2⟩
theorem EN.same {tT : Nat} {A : Nat → Prop} {s U : State} {H : Heap} (hv : s.vm = U.vm) (h : EN tT A s H) : EN tT A U H := ⟨fun w hw => nw_same hv hw (h.1 w hw), va_Z.moved (by rw [hv]; exact Vm.Alike.refl _) h.2.1, va_T.moved (by rw [hv]; exact Vm.Alike.refl _) h.2.2⟩
theorem EN.kept {tT : Nat} {A : Nat → Prop} {U : State} {H H1 : Heap} (h : EN tT A U H) (hq : ∀ a : Nat, a < H.size → ¬ A a → H1[a]? = H[a]?) : EN tT A U H1 := ⟨h.1, h.2.1.kept hq, h.2.2.kept hq⟩
theorem EN.narrow {tT : Nat} {A B : Nat → Prop} {U : State} {H : Heap} (h : EN tT A U H) (hAB : ∀ q, B q → A q) : EN tT B U H := ⟨h.1, h.2.1.narrow hAB, h.2.2.narrow hAB⟩
/-- a method's start and end -/
def PRE (D : va_G) (cI cZ : ClassId) (ad : Nat → Nat) (tT sz : Nat) (σ : Mem) (U : State) : Prop := U.heap.size = sz ∧ va_P D vwCl (WS cI cZ ad σ) U.heap ∧ va_K D vwCl [(cI, .int), (cZ, .boolean)] U ∧ EN tT (AA ad sz) U U.heap
def QQ (D : va_G) (cI cZ : ClassId) (ad : Nat → Nat) (A : Nat → Prop) (v : Option Value) (σ' : Mem) : Array Value → State → Outcome → State → Prop := fun _ st oc t => (oc = .returned v ∧ va_P D vwCl (WS cI cZ ad σ') t.heap) ∧ va_F A st t
/-- a method's contract: whenever the pure computation o ends, the method ends with its answer and its memory -/
def GM (l : Launch) (D : va_G) (cI cZ : ClassId) (ad : Nat → Nat) (tT : Nat) (y : MethodName) (cc : ByteArray) (nL : Nat) (ret : Option FieldType) (fr lo : Nat) (rv : Int32 → Option Value) (As : List Value) (σ : Mem) (o : Option (Int32 × Mem)) : Prop :=
  ∀ (r : Int32) (σ' : Mem), o = some (r, σ') → ∀ sz : Nat, Met l y (.code y cc nL ret :: UW) { frames := fr, cells := 0, slots := 0, locals := lo } (va_Pc As (PRE D cI cZ ad tT sz σ)) (QQ D cI cZ ad (AA ad sz) (rv r) σ') 0 0 (AA ad sz)
def rvi (r : Int32) : Option Value := some (.int r)
def rvv (_ : Int32) : Option Value := none
/-- from this frame and this memory the machine comes to the end that o tells -/
def WR (p : Program) (l : Launch) (e : Env) (R : Room) (s : State) (m : MethodId) (args : Array Value) (below : List Frame) (meth : Method) (c : Code) (D : va_G) (cI cZ : ClassId) (ad : Nat → Nat) (A : Nat → Prop) (kc ks : Nat) (Q : Int32 → Mem → State → Prop) (o : Option (Int32 × Mem)) (σ : Mem) (g : JFrame) : Prop :=
  ∀ (r : Int32) (σ' : Mem), o = some (r, σ') → ∀ (H : Heap) (locs : List Loc), va_P D vwCl (WS cI cZ ad σ) H → va_S A s.heap H locs → W p l e R s m args below meth c H locs kc ks (Q r σ') g
def CX (p : Program) (s : State) (m : MethodId) (args : Array Value) (meth : Method) (c : Code) (cc : ByteArray) (nL : Nat) (own : String) (ret : Option FieldType) (D : va_G) (cI cZ : ClassId) (ad : Nat → Nat) (tT : Nat) (A : Nat → Prop) : Prop :=
  p.tables.exec = Jvm.exec ∧ c.code = cc ∧ c.maxLocals = nL ∧ s.vm.findClass own = some m.cls ∧ (∀ w ∈ UW, w.before args s = true) ∧ va_K D vwCl [(cI, .int), (cZ, .boolean)] s ∧ INJ ad ∧ (∀ i, i < 64 → A (ad i)) ∧ (∀ q, s.heap.size ≤ q → A q) ∧ EN tT A s s.heap ∧ meth.sig.returnType = ret ∧ meth.locks = false
/-- a guard: a place in a row of n -/
def gd {α : Type} (n : Nat) (i : Int32) (o : Option α) : Option α := if i < 0 ∨ n ≤ i.toNatClampNeg then none else o
theorem gd_ok {α : Type} {n : Nat} {i : Int32} {o : Option α} (h : vp_in i n) : gd n i o = o := if_neg h
theorem gd_some {α : Type} {n : Nat} {i : Int32} {o : Option α} {x : α} (h : gd n i o = some x) : vp_in i n ∧ o = some x := by
  unfold gd at h
  by_cases q : i < 0 ∨ n ≤ i.toNatClampNeg
  · rw [if_pos q] at h; cases h
  · rw [if_neg q] at h; exact ⟨q, h⟩
/-- a call -/
def bnd (o : Option (Int32 × Mem)) (k : Int32 → Mem → Option (Int32 × Mem)) : Option (Int32 × Mem) := match o with
  | none => none
  | some (r, σ) => k r σ
theorem bnd_some {o : Option (Int32 × Mem)} {k : Int32 → Mem → Option (Int32 × Mem)} {x : Int32 × Mem} (h : bnd o k = some x) : ∃ r σ, o = some (r, σ) ∧ k r σ = some x := by
  unfold bnd at h
  split at h
  · cases h
  · exact ⟨_, _, rfl, h⟩
theorem bnd_eq {r : Int32} {σ : Mem} {k : Int32 → Mem → Option (Int32 × Mem)} : bnd (some (r, σ)) k = k r σ := rfl
/-- roads that come together -/
def jn {α : Type} (k : α) (f : α → Option (Int32 × Mem)) : Option (Int32 × Mem) := f k
section RL
variable {p : Program} {l : Launch} {e : Env} {R : Room} {s : State} {m : MethodId} {args : Array Value} {below : List Frame} {meth : Method} {c : Code} {cc : ByteArray} {nL : Nat} {own : String} {ret : Option FieldType} {D : va_G} {cI cZ : ClassId} {ad : Nat → Nat} {tT : Nat} {A : Nat → Prop} {kc ks : Nat} {Q : Int32 → Mem → State → Prop} {o o1 o2 : Option (Int32 × Mem)} {σ : Mem} {pc : Nat} {ls : Array Slot} {rest : List Value}
theorem CX.Dd (C : CX p s m args meth c cc nL own ret D cI cZ ad tT A) (σ : Mem) : va_D A (WS cI cZ ad σ) := ws_D C.2.2.2.2.2.2.1 C.2.2.2.2.2.2.2.1 σ
theorem CX.K (C : CX p s m args meth c cc nL own ret D cI cZ ad tT A) : va_K D vwCl [(cI, .int), (cZ, .boolean)] s := C.2.2.2.2.2.1
theorem CX.N (C : CX p s m args meth c cc nL own ret D cI cZ ad tT A) : EN tT A s s.heap := C.2.2.2.2.2.2.2.2.2.1

theorem r_iconst (C : CX p s m args meth c cc nL own ret D cI cZ ad tT A) {n : Int} {v : Int32} (hdg : decode cc pc = .ok (.iconst n, 1)) (hv : Int32.ofInt n = v) (k : WR p l e R s m args below meth c D cI cZ ad A kc ks Q o σ (F0 m (pc + 1) ls (.int v :: rest))) : WR p l e R s m args below meth c D cI cZ ad A kc ks Q o σ (F0 m pc ls (rest)) := fun r σ' ho H locs hP hS => lv_iconst C.1 C.2.1 hdg hv (k r σ' ho H locs hP hS)
theorem r_bipush (C : CX p s m args meth c cc nL own ret D cI cZ ad tT A) {n : Int} {v : Int32} (hdg : decode cc pc = .ok (.bipush n, 2)) (hv : (Int8.ofInt n).toInt32 = v) (k : WR p l e R s m args below meth c D cI cZ ad A kc ks Q o σ (F0 m (pc + 2) ls (.int v :: rest))) : WR p l e R s m args below meth c D cI cZ ad A kc ks Q o σ (F0 m pc ls (rest)) := fun r σ' ho H locs hP hS => lv_bipush C.1 C.2.1 hdg hv (k r σ' ho H locs hP hS)
theorem r_sipush (C : CX p s m args meth c cc nL own ret D cI cZ ad tT A) {n : Int} {v : Int32} (hdg : decode cc pc = .ok (.sipush n, 3)) (hv : (Int16.ofInt n).toInt32 = v) (k : WR p l e R s m args below meth c D cI cZ ad A kc ks Q o σ (F0 m (pc + 3) ls (.int v :: rest))) : WR p l e R s m args below meth c D cI cZ ad A kc ks Q o σ (F0 m pc ls (rest)) := fun r σ' ho H locs hP hS => lv_sipush C.1 C.2.1 hdg hv (k r σ' ho H locs hP hS)
theorem r_iload_n (C : CX p s m args meth c cc nL own ret D cI cZ ad tT A) {kf : Fin 4} {i : Nat} {x : Int32} (hdg : decode cc pc = .ok (.iload_n kf, 1)) (hi : (kf : Nat) = i) (hl : ls[i]? = some (.val (.int x))) (k : WR p l e R s m args below meth c D cI cZ ad A kc ks Q o σ (F0 m (pc + 1) ls (.int x :: rest))) : WR p l e R s m args below meth c D cI cZ ad A kc ks Q o σ (F0 m pc ls (rest)) := fun r σ' ho H locs hP hS => lv_iload_n C.1 C.2.1 hdg hi hl (k r σ' ho H locs hP hS)
theorem r_iload (C : CX p s m args meth c cc nL own ret D cI cZ ad tT A) {i : Nat} {x : Int32} (hdg : decode cc pc = .ok (.iload i, 2)) (hl : ls[i]? = some (.val (.int x))) (k : WR p l e R s m args below meth c D cI cZ ad A kc ks Q o σ (F0 m (pc + 2) ls (.int x :: rest))) : WR p l e R s m args below meth c D cI cZ ad A kc ks Q o σ (F0 m pc ls (rest)) := fun r σ' ho H locs hP hS => lv_iload C.1 C.2.1 hdg hl (k r σ' ho H locs hP hS)
theorem r_aload_n (C : CX p s m args meth c cc nL own ret D cI cZ ad tT A) {kf : Fin 4} {i : Nat} {x : Nat} (hdg : decode cc pc = .ok (.aload_n kf, 1)) (hi : (kf : Nat) = i) (hl : ls[i]? = some (.val (.ref x))) (k : WR p l e R s m args below meth c D cI cZ ad A kc ks Q o σ (F0 m (pc + 1) ls (.ref x :: rest))) : WR p l e R s m args below meth c D cI cZ ad A kc ks Q o σ (F0 m pc ls (rest)) := fun r σ' ho H locs hP hS => lv_aload_n C.1 C.2.1 hdg hi hl (k r σ' ho H locs hP hS)
theorem r_aload (C : CX p s m args meth c cc nL own ret D cI cZ ad tT A) {i : Nat} {x : Nat} (hdg : decode cc pc = .ok (.aload i, 2)) (hl : ls[i]? = some (.val (.ref x))) (k : WR p l e R s m args below meth c D cI cZ ad A kc ks Q o σ (F0 m (pc + 2) ls (.ref x :: rest))) : WR p l e R s m args below meth c D cI cZ ad A kc ks Q o σ (F0 m pc ls (rest)) := fun r σ' ho H locs hP hS => lv_aload C.1 C.2.1 hdg hl (k r σ' ho H locs hP hS)
theorem r_istore_n (C : CX p s m args meth c cc nL own ret D cI cZ ad tT A) {kf : Fin 4} {i : Nat} {x : Int32} {lv lv' : List (Nat × Value)} (hdg : decode cc pc = .ok (.istore_n kf, 1)) (hi : (kf : Nat) = i) (h : lv_has ls nL lv) (hn : i < nL) (hl : (i, Value.int x) :: lv.filter (fun q => !(q.1 == i) && !(q.1 + 1 == i && q.2.category == 2)) = lv') (kk : ∀ ls' : Array Slot, lv_has ls' nL lv' → WR p l e R s m args below meth c D cI cZ ad A kc ks Q o σ (F0 m (pc + 1) ls' rest)) : WR p l e R s m args below meth c D cI cZ ad A kc ks Q o σ (F0 m pc ls (.int x :: rest)) := fun r σ' ho H locs hP hS => lv_istore_n C.1 C.2.1 hdg hi h hn hl (fun ls' hl' => kk ls' hl' r σ' ho H locs hP hS)
theorem r_istore (C : CX p s m args meth c cc nL own ret D cI cZ ad tT A) {i : Nat} {x : Int32} {lv lv' : List (Nat × Value)} (hdg : decode cc pc = .ok (.istore i, 2)) (h : lv_has ls nL lv) (hn : i < nL) (hl : (i, Value.int x) :: lv.filter (fun q => !(q.1 == i) && !(q.1 + 1 == i && q.2.category == 2)) = lv') (kk : ∀ ls' : Array Slot, lv_has ls' nL lv' → WR p l e R s m args below meth c D cI cZ ad A kc ks Q o σ (F0 m (pc + 2) ls' rest)) : WR p l e R s m args below meth c D cI cZ ad A kc ks Q o σ (F0 m pc ls (.int x :: rest)) := fun r σ' ho H locs hP hS => lv_istore C.1 C.2.1 hdg h hn hl (fun ls' hl' => kk ls' hl' r σ' ho H locs hP hS)
theorem r_astore_n (C : CX p s m args meth c cc nL own ret D cI cZ ad tT A) {kf : Fin 4} {i : Nat} {x : Nat} {lv lv' : List (Nat × Value)} (hdg : decode cc pc = .ok (.astore_n kf, 1)) (hi : (kf : Nat) = i) (h : lv_has ls nL lv) (hn : i < nL) (hl : (i, Value.ref x) :: lv.filter (fun q => !(q.1 == i) && !(q.1 + 1 == i && q.2.category == 2)) = lv') (kk : ∀ ls' : Array Slot, lv_has ls' nL lv' → WR p l e R s m args below meth c D cI cZ ad A kc ks Q o σ (F0 m (pc + 1) ls' rest)) : WR p l e R s m args below meth c D cI cZ ad A kc ks Q o σ (F0 m pc ls (.ref x :: rest)) := fun r σ' ho H locs hP hS => lv_astore_n C.1 C.2.1 hdg hi h hn hl (fun ls' hl' => kk ls' hl' r σ' ho H locs hP hS)
theorem r_astore (C : CX p s m args meth c cc nL own ret D cI cZ ad tT A) {i : Nat} {x : Nat} {lv lv' : List (Nat × Value)} (hdg : decode cc pc = .ok (.astore i, 2)) (h : lv_has ls nL lv) (hn : i < nL) (hl : (i, Value.ref x) :: lv.filter (fun q => !(q.1 == i) && !(q.1 + 1 == i && q.2.category == 2)) = lv') (kk : ∀ ls' : Array Slot, lv_has ls' nL lv' → WR p l e R s m args below meth c D cI cZ ad A kc ks Q o σ (F0 m (pc + 2) ls' rest)) : WR p l e R s m args below meth c D cI cZ ad A kc ks Q o σ (F0 m pc ls (.ref x :: rest)) := fun r σ' ho H locs hP hS => lv_astore C.1 C.2.1 hdg h hn hl (fun ls' hl' => kk ls' hl' r σ' ho H locs hP hS)
theorem r_iinc (C : CX p s m args meth c cc nL own ret D cI cZ ad tT A) {i k : Nat} {n : Int} {x v : Int32} {lv lv' : List (Nat × Value)} (hdg : decode cc pc = .ok (.iinc i n, 3)) (h : lv_has ls nL lv) (hk : lv[k]? = some (i, .int x)) (hv : x + Int32.ofInt n = v) (hn : i < nL) (hl : (i, Value.int v) :: lv.filter (fun q => !(q.1 == i) && !(q.1 + 1 == i && q.2.category == 2)) = lv') (kk : ∀ ls' : Array Slot, lv_has ls' nL lv' → WR p l e R s m args below meth c D cI cZ ad A kc ks Q o σ (F0 m (pc + 3) ls' rest)) : WR p l e R s m args below meth c D cI cZ ad A kc ks Q o σ (F0 m pc ls rest) := fun r σ' ho H locs hP hS => lv_iinc C.1 C.2.1 hdg h hk hv hn hl (fun ls' hl' => kk ls' hl' r σ' ho H locs hP hS)
theorem r_iadd (C : CX p s m args meth c cc nL own ret D cI cZ ad tT A) {x y : Int32} (hdg : decode cc pc = .ok (.iadd, 1)) (k : WR p l e R s m args below meth c D cI cZ ad A kc ks Q o σ (F0 m (pc + 1) ls (.int (x + y) :: rest))) : WR p l e R s m args below meth c D cI cZ ad A kc ks Q o σ (F0 m pc ls (.int y :: .int x :: rest)) := fun r σ' ho H locs hP hS => lv_iadd C.1 C.2.1 hdg (k r σ' ho H locs hP hS)
theorem r_isub (C : CX p s m args meth c cc nL own ret D cI cZ ad tT A) {x y : Int32} (hdg : decode cc pc = .ok (.isub, 1)) (k : WR p l e R s m args below meth c D cI cZ ad A kc ks Q o σ (F0 m (pc + 1) ls (.int (x - y) :: rest))) : WR p l e R s m args below meth c D cI cZ ad A kc ks Q o σ (F0 m pc ls (.int y :: .int x :: rest)) := fun r σ' ho H locs hP hS => lv_isub C.1 C.2.1 hdg (k r σ' ho H locs hP hS)
theorem r_imul (C : CX p s m args meth c cc nL own ret D cI cZ ad tT A) {x y : Int32} (hdg : decode cc pc = .ok (.imul, 1)) (k : WR p l e R s m args below meth c D cI cZ ad A kc ks Q o σ (F0 m (pc + 1) ls (.int (x * y) :: rest))) : WR p l e R s m args below meth c D cI cZ ad A kc ks Q o σ (F0 m pc ls (.int y :: .int x :: rest)) := fun r σ' ho H locs hP hS => lv_imul C.1 C.2.1 hdg (k r σ' ho H locs hP hS)
theorem r_iand (C : CX p s m args meth c cc nL own ret D cI cZ ad tT A) {x y : Int32} (hdg : decode cc pc = .ok (.iand, 1)) (k : WR p l e R s m args below meth c D cI cZ ad A kc ks Q o σ (F0 m (pc + 1) ls (.int (x &&& y) :: rest))) : WR p l e R s m args below meth c D cI cZ ad A kc ks Q o σ (F0 m pc ls (.int y :: .int x :: rest)) := fun r σ' ho H locs hP hS => lv_iand C.1 C.2.1 hdg (k r σ' ho H locs hP hS)
theorem r_ior (C : CX p s m args meth c cc nL own ret D cI cZ ad tT A) {x y : Int32} (hdg : decode cc pc = .ok (.ior, 1)) (k : WR p l e R s m args below meth c D cI cZ ad A kc ks Q o σ (F0 m (pc + 1) ls (.int (x ||| y) :: rest))) : WR p l e R s m args below meth c D cI cZ ad A kc ks Q o σ (F0 m pc ls (.int y :: .int x :: rest)) := fun r σ' ho H locs hP hS => lv_ior C.1 C.2.1 hdg (k r σ' ho H locs hP hS)
theorem r_ixor (C : CX p s m args meth c cc nL own ret D cI cZ ad tT A) {x y : Int32} (hdg : decode cc pc = .ok (.ixor, 1)) (k : WR p l e R s m args below meth c D cI cZ ad A kc ks Q o σ (F0 m (pc + 1) ls (.int (x ^^^ y) :: rest))) : WR p l e R s m args below meth c D cI cZ ad A kc ks Q o σ (F0 m pc ls (.int y :: .int x :: rest)) := fun r σ' ho H locs hP hS => lv_ixor C.1 C.2.1 hdg (k r σ' ho H locs hP hS)
theorem r_idiv (C : CX p s m args meth c cc nL own ret D cI cZ ad tT A) {x y : Int32} (hdg : decode cc pc = .ok (.idiv, 1)) (hne : ¬ y = 0) (k : WR p l e R s m args below meth c D cI cZ ad A kc ks Q o σ (F0 m (pc + 1) ls (.int (x / y) :: rest))) : WR p l e R s m args below meth c D cI cZ ad A kc ks Q o σ (F0 m pc ls (.int y :: .int x :: rest)) := fun r σ' ho H locs hP hS => lv_idiv C.1 C.2.1 hdg hne (k r σ' ho H locs hP hS)
theorem r_irem (C : CX p s m args meth c cc nL own ret D cI cZ ad tT A) {x y : Int32} (hdg : decode cc pc = .ok (.irem, 1)) (hne : ¬ y = 0) (k : WR p l e R s m args below meth c D cI cZ ad A kc ks Q o σ (F0 m (pc + 1) ls (.int (x - x / y * y) :: rest))) : WR p l e R s m args below meth c D cI cZ ad A kc ks Q o σ (F0 m pc ls (.int y :: .int x :: rest)) := fun r σ' ho H locs hP hS => lv_irem C.1 C.2.1 hdg hne (k r σ' ho H locs hP hS)
theorem r_ishl (C : CX p s m args meth c cc nL own ret D cI cZ ad tT A) {x y : Int32} (hdg : decode cc pc = .ok (.ishl, 1)) (k : WR p l e R s m args below meth c D cI cZ ad A kc ks Q o σ (F0 m (pc + 1) ls (.int (x <<< (y &&& 31)) :: rest))) : WR p l e R s m args below meth c D cI cZ ad A kc ks Q o σ (F0 m pc ls (.int y :: .int x :: rest)) := fun r σ' ho H locs hP hS => lv_ishl C.1 C.2.1 hdg (k r σ' ho H locs hP hS)
theorem r_ishr (C : CX p s m args meth c cc nL own ret D cI cZ ad tT A) {x y : Int32} (hdg : decode cc pc = .ok (.ishr, 1)) (k : WR p l e R s m args below meth c D cI cZ ad A kc ks Q o σ (F0 m (pc + 1) ls (.int (x >>> (y &&& 31)) :: rest))) : WR p l e R s m args below meth c D cI cZ ad A kc ks Q o σ (F0 m pc ls (.int y :: .int x :: rest)) := fun r σ' ho H locs hP hS => lv_ishr C.1 C.2.1 hdg (k r σ' ho H locs hP hS)
theorem r_iushr (C : CX p s m args meth c cc nL own ret D cI cZ ad tT A) {x y v : Int32} (hdg : decode cc pc = .ok (.iushr, 1)) (hv : (x.toUInt32 >>> (y.toUInt32 &&& Int32.toUInt32 31)).toInt32 = v) (k : WR p l e R s m args below meth c D cI cZ ad A kc ks Q o σ (F0 m (pc + 1) ls (.int v :: rest))) : WR p l e R s m args below meth c D cI cZ ad A kc ks Q o σ (F0 m pc ls (.int y :: .int x :: rest)) := fun r σ' ho H locs hP hS => lv_iushr C.1 C.2.1 hdg hv (k r σ' ho H locs hP hS)
theorem r_dup (C : CX p s m args meth c cc nL own ret D cI cZ ad tT A) {va : Value} (hdg : decode cc pc = .ok (.dup, 1)) (hva : va.category = 1) (k : WR p l e R s m args below meth c D cI cZ ad A kc ks Q o σ (F0 m (pc + 1) ls (va :: va :: rest))) : WR p l e R s m args below meth c D cI cZ ad A kc ks Q o σ (F0 m pc ls (va :: rest)) := fun r σ' ho H locs hP hS => lv_dup C.1 C.2.1 hdg hva (k r σ' ho H locs hP hS)
theorem r_pop (C : CX p s m args meth c cc nL own ret D cI cZ ad tT A) {va : Value} (hdg : decode cc pc = .ok (.pop, 1)) (hva : va.category = 1) (k : WR p l e R s m args below meth c D cI cZ ad A kc ks Q o σ (F0 m (pc + 1) ls (rest))) : WR p l e R s m args below meth c D cI cZ ad A kc ks Q o σ (F0 m pc ls (va :: rest)) := fun r σ' ho H locs hP hS => lv_pop C.1 C.2.1 hdg hva (k r σ' ho H locs hP hS)
theorem r_dup2_11 (C : CX p s m args meth c cc nL own ret D cI cZ ad tT A) {va vb : Value} (hdg : decode cc pc = .ok (.dup2, 1)) (hva : va.category = 1) (hvb : vb.category = 1) (k : WR p l e R s m args below meth c D cI cZ ad A kc ks Q o σ (F0 m (pc + 1) ls (va :: vb :: va :: vb :: rest))) : WR p l e R s m args below meth c D cI cZ ad A kc ks Q o σ (F0 m pc ls (va :: vb :: rest)) := fun r σ' ho H locs hP hS => lv_dup2_11 C.1 C.2.1 hdg hva hvb (k r σ' ho H locs hP hS)
theorem r_goto (C : CX p s m args meth c cc nL own ret D cI cZ ad tT A) {off : Int} {tgt : Nat} (hdg : decode cc pc = .ok (.goto off, 3)) (ht : (pc : Int) + off = (tgt : Int)) (k : WR p l e R s m args below meth c D cI cZ ad A kc ks Q o σ (F0 m tgt ls rest)) : WR p l e R s m args below meth c D cI cZ ad A kc ks Q o σ (F0 m pc ls rest) := fun r σ' ho H locs hP hS => lv_goto C.1 C.2.1 hdg ht (k r σ' ho H locs hP hS)
theorem r_ldc (C : CX p s m args meth c cc nL own ret D cI cZ ad tT A) {index : Nat} {v : Int32}  (hconst : Jvm.Cond.constant own index v ∈ UW) (hdg : decode cc pc = .ok (.ldc index, 2)) (k : WR p l e R s m args below meth c D cI cZ ad A kc ks Q o σ (F0 m (pc + 2) ls (.int v :: rest))) : WR p l e R s m args below meth c D cI cZ ad A kc ks Q o σ (F0 m pc ls rest) := fun r σ' ho H locs hP hS => lv_ldc C.1 C.2.1 C.2.2.2.1 (C.2.2.2.2.1 _ hconst) hdg (k r σ' ho H locs hP hS)
theorem r_ldcw (C : CX p s m args meth c cc nL own ret D cI cZ ad tT A) {index : Nat} {v : Int32}  (hconst : Jvm.Cond.constant own index v ∈ UW) (hdg : decode cc pc = .ok (.ldc_w index, 3)) (k : WR p l e R s m args below meth c D cI cZ ad A kc ks Q o σ (F0 m (pc + 3) ls (.int v :: rest))) : WR p l e R s m args below meth c D cI cZ ad A kc ks Q o σ (F0 m pc ls rest) := fun r σ' ho H locs hP hS => lv_ldcw C.1 C.2.1 C.2.2.2.1 (C.2.2.2.2.1 _ hconst) hdg (k r σ' ho H locs hP hS)
theorem r_if_eq (C : CX p s m args meth c cc nL own ret D cI cZ ad tT A) {x : Int32} {off : Int} {tgt : Nat} (hdg : decode cc pc = .ok (.ifCond .eq off, 3)) (ht : (pc : Int) + off = (tgt : Int)) (kt : WR p l e R s m args below meth c D cI cZ ad A kc ks Q o1 σ (F0 m tgt ls rest)) (kf : WR p l e R s m args below meth c D cI cZ ad A kc ks Q o2 σ (F0 m (pc + 3) ls rest)) : WR p l e R s m args below meth c D cI cZ ad A kc ks Q (if x = 0 then o1 else o2) σ (F0 m pc ls (.int x :: rest)) := fun r σ' ho H locs hP hS => lv_if_eq C.1 C.2.1 hdg ht (fun h => kt r σ' (by rw [if_pos h] at ho; exact ho) H locs hP hS) (fun h => kf r σ' (by rw [if_neg h] at ho; exact ho) H locs hP hS)
theorem r_if_ne (C : CX p s m args meth c cc nL own ret D cI cZ ad tT A) {x : Int32} {off : Int} {tgt : Nat} (hdg : decode cc pc = .ok (.ifCond .ne off, 3)) (ht : (pc : Int) + off = (tgt : Int)) (kt : WR p l e R s m args below meth c D cI cZ ad A kc ks Q o1 σ (F0 m tgt ls rest)) (kf : WR p l e R s m args below meth c D cI cZ ad A kc ks Q o2 σ (F0 m (pc + 3) ls rest)) : WR p l e R s m args below meth c D cI cZ ad A kc ks Q (if x = 0 then o2 else o1) σ (F0 m pc ls (.int x :: rest)) := fun r σ' ho H locs hP hS => lv_if_ne C.1 C.2.1 hdg ht (fun h => kt r σ' (by rw [if_neg h] at ho; exact ho) H locs hP hS) (fun h => kf r σ' (by rw [if_pos h] at ho; exact ho) H locs hP hS)
theorem r_if_lt (C : CX p s m args meth c cc nL own ret D cI cZ ad tT A) {x : Int32} {off : Int} {tgt : Nat} (hdg : decode cc pc = .ok (.ifCond .lt off, 3)) (ht : (pc : Int) + off = (tgt : Int)) (kt : WR p l e R s m args below meth c D cI cZ ad A kc ks Q o1 σ (F0 m tgt ls rest)) (kf : WR p l e R s m args below meth c D cI cZ ad A kc ks Q o2 σ (F0 m (pc + 3) ls rest)) : WR p l e R s m args below meth c D cI cZ ad A kc ks Q (if x < 0 then o1 else o2) σ (F0 m pc ls (.int x :: rest)) := fun r σ' ho H locs hP hS => lv_if_lt C.1 C.2.1 hdg ht (fun h => kt r σ' (by rw [if_pos h] at ho; exact ho) H locs hP hS) (fun h => kf r σ' (by rw [if_neg h] at ho; exact ho) H locs hP hS)
theorem r_if_ge (C : CX p s m args meth c cc nL own ret D cI cZ ad tT A) {x : Int32} {off : Int} {tgt : Nat} (hdg : decode cc pc = .ok (.ifCond .ge off, 3)) (ht : (pc : Int) + off = (tgt : Int)) (kt : WR p l e R s m args below meth c D cI cZ ad A kc ks Q o1 σ (F0 m tgt ls rest)) (kf : WR p l e R s m args below meth c D cI cZ ad A kc ks Q o2 σ (F0 m (pc + 3) ls rest)) : WR p l e R s m args below meth c D cI cZ ad A kc ks Q (if 0 ≤ x then o1 else o2) σ (F0 m pc ls (.int x :: rest)) := fun r σ' ho H locs hP hS => lv_if_ge C.1 C.2.1 hdg ht (fun h => kt r σ' (by rw [if_pos h] at ho; exact ho) H locs hP hS) (fun h => kf r σ' (by rw [if_neg h] at ho; exact ho) H locs hP hS)
theorem r_if_gt (C : CX p s m args meth c cc nL own ret D cI cZ ad tT A) {x : Int32} {off : Int} {tgt : Nat} (hdg : decode cc pc = .ok (.ifCond .gt off, 3)) (ht : (pc : Int) + off = (tgt : Int)) (kt : WR p l e R s m args below meth c D cI cZ ad A kc ks Q o1 σ (F0 m tgt ls rest)) (kf : WR p l e R s m args below meth c D cI cZ ad A kc ks Q o2 σ (F0 m (pc + 3) ls rest)) : WR p l e R s m args below meth c D cI cZ ad A kc ks Q (if 0 < x then o1 else o2) σ (F0 m pc ls (.int x :: rest)) := fun r σ' ho H locs hP hS => lv_if_gt C.1 C.2.1 hdg ht (fun h => kt r σ' (by rw [if_pos h] at ho; exact ho) H locs hP hS) (fun h => kf r σ' (by rw [if_neg h] at ho; exact ho) H locs hP hS)
theorem r_if_le (C : CX p s m args meth c cc nL own ret D cI cZ ad tT A) {x : Int32} {off : Int} {tgt : Nat} (hdg : decode cc pc = .ok (.ifCond .le off, 3)) (ht : (pc : Int) + off = (tgt : Int)) (kt : WR p l e R s m args below meth c D cI cZ ad A kc ks Q o1 σ (F0 m tgt ls rest)) (kf : WR p l e R s m args below meth c D cI cZ ad A kc ks Q o2 σ (F0 m (pc + 3) ls rest)) : WR p l e R s m args below meth c D cI cZ ad A kc ks Q (if x ≤ 0 then o1 else o2) σ (F0 m pc ls (.int x :: rest)) := fun r σ' ho H locs hP hS => lv_if_le C.1 C.2.1 hdg ht (fun h => kt r σ' (by rw [if_pos h] at ho; exact ho) H locs hP hS) (fun h => kf r σ' (by rw [if_neg h] at ho; exact ho) H locs hP hS)
theorem r_icmp_eq (C : CX p s m args meth c cc nL own ret D cI cZ ad tT A) {x y : Int32} {off : Int} {tgt : Nat} (hdg : decode cc pc = .ok (.if_icmp .eq off, 3)) (ht : (pc : Int) + off = (tgt : Int)) (kt : WR p l e R s m args below meth c D cI cZ ad A kc ks Q o1 σ (F0 m tgt ls rest)) (kf : WR p l e R s m args below meth c D cI cZ ad A kc ks Q o2 σ (F0 m (pc + 3) ls rest)) : WR p l e R s m args below meth c D cI cZ ad A kc ks Q (if x = y then o1 else o2) σ (F0 m pc ls (.int y :: .int x :: rest)) := fun r σ' ho H locs hP hS => lv_icmp_eq C.1 C.2.1 hdg ht (fun h => kt r σ' (by rw [if_pos h] at ho; exact ho) H locs hP hS) (fun h => kf r σ' (by rw [if_neg h] at ho; exact ho) H locs hP hS)
theorem r_icmp_ne (C : CX p s m args meth c cc nL own ret D cI cZ ad tT A) {x y : Int32} {off : Int} {tgt : Nat} (hdg : decode cc pc = .ok (.if_icmp .ne off, 3)) (ht : (pc : Int) + off = (tgt : Int)) (kt : WR p l e R s m args below meth c D cI cZ ad A kc ks Q o1 σ (F0 m tgt ls rest)) (kf : WR p l e R s m args below meth c D cI cZ ad A kc ks Q o2 σ (F0 m (pc + 3) ls rest)) : WR p l e R s m args below meth c D cI cZ ad A kc ks Q (if x = y then o2 else o1) σ (F0 m pc ls (.int y :: .int x :: rest)) := fun r σ' ho H locs hP hS => lv_icmp_ne C.1 C.2.1 hdg ht (fun h => kt r σ' (by rw [if_neg h] at ho; exact ho) H locs hP hS) (fun h => kf r σ' (by rw [if_pos h] at ho; exact ho) H locs hP hS)
theorem r_icmp_lt (C : CX p s m args meth c cc nL own ret D cI cZ ad tT A) {x y : Int32} {off : Int} {tgt : Nat} (hdg : decode cc pc = .ok (.if_icmp .lt off, 3)) (ht : (pc : Int) + off = (tgt : Int)) (kt : WR p l e R s m args below meth c D cI cZ ad A kc ks Q o1 σ (F0 m tgt ls rest)) (kf : WR p l e R s m args below meth c D cI cZ ad A kc ks Q o2 σ (F0 m (pc + 3) ls rest)) : WR p l e R s m args below meth c D cI cZ ad A kc ks Q (if x < y then o1 else o2) σ (F0 m pc ls (.int y :: .int x :: rest)) := fun r σ' ho H locs hP hS => lv_icmp_lt C.1 C.2.1 hdg ht (fun h => kt r σ' (by rw [if_pos h] at ho; exact ho) H locs hP hS) (fun h => kf r σ' (by rw [if_neg h] at ho; exact ho) H locs hP hS)
theorem r_icmp_ge (C : CX p s m args meth c cc nL own ret D cI cZ ad tT A) {x y : Int32} {off : Int} {tgt : Nat} (hdg : decode cc pc = .ok (.if_icmp .ge off, 3)) (ht : (pc : Int) + off = (tgt : Int)) (kt : WR p l e R s m args below meth c D cI cZ ad A kc ks Q o1 σ (F0 m tgt ls rest)) (kf : WR p l e R s m args below meth c D cI cZ ad A kc ks Q o2 σ (F0 m (pc + 3) ls rest)) : WR p l e R s m args below meth c D cI cZ ad A kc ks Q (if y ≤ x then o1 else o2) σ (F0 m pc ls (.int y :: .int x :: rest)) := fun r σ' ho H locs hP hS => lv_icmp_ge C.1 C.2.1 hdg ht (fun h => kt r σ' (by rw [if_pos h] at ho; exact ho) H locs hP hS) (fun h => kf r σ' (by rw [if_neg h] at ho; exact ho) H locs hP hS)
theorem r_icmp_gt (C : CX p s m args meth c cc nL own ret D cI cZ ad tT A) {x y : Int32} {off : Int} {tgt : Nat} (hdg : decode cc pc = .ok (.if_icmp .gt off, 3)) (ht : (pc : Int) + off = (tgt : Int)) (kt : WR p l e R s m args below meth c D cI cZ ad A kc ks Q o1 σ (F0 m tgt ls rest)) (kf : WR p l e R s m args below meth c D cI cZ ad A kc ks Q o2 σ (F0 m (pc + 3) ls rest)) : WR p l e R s m args below meth c D cI cZ ad A kc ks Q (if y < x then o1 else o2) σ (F0 m pc ls (.int y :: .int x :: rest)) := fun r σ' ho H locs hP hS => lv_icmp_gt C.1 C.2.1 hdg ht (fun h => kt r σ' (by rw [if_pos h] at ho; exact ho) H locs hP hS) (fun h => kf r σ' (by rw [if_neg h] at ho; exact ho) H locs hP hS)
theorem r_icmp_le (C : CX p s m args meth c cc nL own ret D cI cZ ad tT A) {x y : Int32} {off : Int} {tgt : Nat} (hdg : decode cc pc = .ok (.if_icmp .le off, 3)) (ht : (pc : Int) + off = (tgt : Int)) (kt : WR p l e R s m args below meth c D cI cZ ad A kc ks Q o1 σ (F0 m tgt ls rest)) (kf : WR p l e R s m args below meth c D cI cZ ad A kc ks Q o2 σ (F0 m (pc + 3) ls rest)) : WR p l e R s m args below meth c D cI cZ ad A kc ks Q (if x ≤ y then o1 else o2) σ (F0 m pc ls (.int y :: .int x :: rest)) := fun r σ' ho H locs hP hS => lv_icmp_le C.1 C.2.1 hdg ht (fun h => kt r σ' (by rw [if_pos h] at ho; exact ho) H locs hP hS) (fun h => kf r σ' (by rw [if_neg h] at ho; exact ho) H locs hP hS)
/-- a field by its link: class ci, place k -/
def FLD (own : String) (index ci k : Nat) : Prop := ∃ (C : String) (T : u_T) (N : Nat), vwCl[ci]? = some (C, T, N) ∧ (∀ w ∈ u_ws C T N, w ∈ UW) ∧ k < N ∧ Cond.fieldLink own index (T k).1 (T k).2.1 (T k).2.2.1 ∈ UW
def FLN (own : String) (index ci k : Nat) : Prop := ∃ (C : String) (T : u_T) (N : Nat) (host : String), vwCl[ci]? = some (C, T, N) ∧ (∀ w ∈ u_ws C T N, w ∈ UW) ∧ k < N ∧ Cond.fieldLinkNest own index (T k).1 (T k).2.1 (T k).2.2.1 host ∈ NW
/-- a field that may be put -/
def FPT (ci k : Nat) (ty : FieldType) : Prop := ∃ (C : String) (T : u_T) (N : Nat) (ty0 : Nat → FieldType), vwCl[ci]? = some (C, T, N) ∧ (∀ k, k < N → parseFieldDescriptor (T k).2.2.1 = some (ty0 k)) ∧ (∀ a, a < N → ∀ b, b < N → a ≠ b → (T a).2.1 ≠ (T b).2.1) ∧ (T k).2.2.2 = false ∧ parseFieldDescriptor (T k).2.2.1 = some ty
def LF (c ci k : Nat) (x : Option Nat) : Prop := ∃ fs : List (Option Nat), LY[c]? = some (.inr (ci, fs)) ∧ fs[k]? = some x
theorem r_getI (C : CX p s m args meth c cc nL own ret D cI cZ ad tT A) {index ci c0 k : Nat} (hF : FLD own index ci k) (hL : LF c0 ci k none) (hdg : decode cc pc = .ok (.getfield index, 3)) (kk : WR p l e R s m args below meth c D cI cZ ad A kc ks Q o σ (F0 m (pc + 3) ls (.int (σ c0 k) :: rest))) : WR p l e R s m args below meth c D cI cZ ad A kc ks Q o σ (F0 m pc ls (.ref (ad c0) :: rest)) := by
  intro r σ' ho H locs hP hS
  obtain ⟨C1, T, N, hc, hu, hk, hw⟩ := hF
  obtain ⟨fs, h1, h2⟩ := hL
  have h3 := cellV_int (ad := ad) (f := σ c0) fs 0 k h2
  rw [Nat.zero_add] at h3
  exact va_get C.1 C.2.1 C.2.2.2.2.1 hu C.2.2.2.1 C.K hP c0 (ws_at h1) hc k hk (C.2.2.2.2.1 _ hw) (fun _ h => h) h3 hdg (kk r σ' ho H locs hP hS)
theorem r_getR (C : CX p s m args meth c cc nL own ret D cI cZ ad tT A) {index ci c0 c1 k : Nat} (hF : FLD own index ci k) (hL : LF c0 ci k (some c1)) (hdg : decode cc pc = .ok (.getfield index, 3)) (kk : WR p l e R s m args below meth c D cI cZ ad A kc ks Q o σ (F0 m (pc + 3) ls (.ref (ad c1) :: rest))) : WR p l e R s m args below meth c D cI cZ ad A kc ks Q o σ (F0 m pc ls (.ref (ad c0) :: rest)) := by
  intro r σ' ho H locs hP hS
  obtain ⟨C1, T, N, hc, hu, hk, hw⟩ := hF
  obtain ⟨fs, h1, h2⟩ := hL
  exact va_get C.1 C.2.1 C.2.2.2.2.1 hu C.2.2.2.1 C.K hP c0 (ws_at h1) hc k hk (C.2.2.2.2.1 _ hw) (fun _ h => h) (cellV_ref (ad := ad) (f := σ c0) fs 0 k c1 h2) hdg (kk r σ' ho H locs hP hS)
theorem r_getIN (C : CX p s m args meth c cc nL own ret D cI cZ ad tT A) {index ci c0 k : Nat} (hF : FLN own index ci k) (hL : LF c0 ci k none) (hdg : decode cc pc = .ok (.getfield index, 3)) (kk : WR p l e R s m args below meth c D cI cZ ad A kc ks Q o σ (F0 m (pc + 3) ls (.int (σ c0 k) :: rest))) : WR p l e R s m args below meth c D cI cZ ad A kc ks Q o σ (F0 m pc ls (.ref (ad c0) :: rest)) := by
  intro r σ' ho H locs hP hS
  obtain ⟨C1, T, N, host, hc, hu, hk, hw⟩ := hF
  obtain ⟨fs, h1, h2⟩ := hL
  have h3 := cellV_int (ad := ad) (f := σ c0) fs 0 k h2
  rw [Nat.zero_add] at h3
  exact va_getN C.1 C.2.1 C.2.2.2.2.1 hu C.2.2.2.1 C.K hP c0 (ws_at h1) hc k hk (va_Nw.use rfl (C.N.1 _ hw)) (fun _ h => h) h3 hdg (kk r σ' ho H locs hP hS)
theorem r_getRN (C : CX p s m args meth c cc nL own ret D cI cZ ad tT A) {index ci c0 c1 k : Nat} (hF : FLN own index ci k) (hL : LF c0 ci k (some c1)) (hdg : decode cc pc = .ok (.getfield index, 3)) (kk : WR p l e R s m args below meth c D cI cZ ad A kc ks Q o σ (F0 m (pc + 3) ls (.ref (ad c1) :: rest))) : WR p l e R s m args below meth c D cI cZ ad A kc ks Q o σ (F0 m pc ls (.ref (ad c0) :: rest)) := by
  intro r σ' ho H locs hP hS
  obtain ⟨C1, T, N, host, hc, hu, hk, hw⟩ := hF
  obtain ⟨fs, h1, h2⟩ := hL
  exact va_getN C.1 C.2.1 C.2.2.2.2.1 hu C.2.2.2.1 C.K hP c0 (ws_at h1) hc k hk (va_Nw.use rfl (C.N.1 _ hw)) (fun _ h => h) (cellV_ref (ad := ad) (f := σ c0) fs 0 k c1 h2) hdg (kk r σ' ho H locs hP hS)
theorem r_putI (C : CX p s m args meth c cc nL own ret D cI cZ ad tT A) {index ci c0 k : Nat} {v : Int32} {ty : FieldType} (hF : FLD own index ci k) (hT : FPT ci k ty) (hn : narrow ty (.int v) = .int v) (hfit : fits ty (.int v) = true) (hL : LF c0 ci k none) (hdg : decode cc pc = .ok (.putfield index, 3)) (kk : WR p l e R s m args below meth c D cI cZ ad A kc ks Q o (stm σ c0 k v) (F0 m (pc + 3) ls rest)) : WR p l e R s m args below meth c D cI cZ ad A kc ks Q o σ (F0 m pc ls (.int v :: .ref (ad c0) :: rest)) := by
  intro r σ' ho H locs hP hS
  obtain ⟨C1, T, N, hc, hu, hk, hw⟩ := hF
  obtain ⟨C2, T2, N2, ty0, hc2, hty, hnm, hfin, hd⟩ := hT
  cases hc.symm.trans hc2
  obtain ⟨fs, h1, h2⟩ := hL
  have hlen : k < (cellV ad (σ c0) 0 fs).length := by rw [cellV_len]; exact (List.getElem?_eq_some_iff.mp h2).1
  refine va_put C.1 C.2.1 C.2.2.2.2.1 hu ty0 hty hnm C.2.2.2.1 C.K hP (C.Dd σ) hS c0 (ws_at h1) hc k hk (C.2.2.2.2.1 _ hw) (fun _ h => h) hfin hd hn hfit hlen hdg (fun H1 locs1 hP1 _ hS1 => ?_)
  have h4 := cellV_set (ad := ad) (f := σ c0) (v := v) fs 0 k h2
  rw [Nat.zero_add] at h4
  rw [ws_set (k := k) (v := v) h1 (show (Sum.inr (ci, (cellV ad (σ c0) 0 fs).set k (.int v)) : va_E) = cellE cI cZ ad (upd (σ c0) k v) (.inr (ci, fs)) by rw [h4]; rfl)] at hP1
  exact kk r σ' ho H1 locs1 hP1 hS1
theorem r_putIN (C : CX p s m args meth c cc nL own ret D cI cZ ad tT A) {index ci c0 k : Nat} {v : Int32} {ty : FieldType} (hF : FLN own index ci k) (hT : FPT ci k ty) (hn : narrow ty (.int v) = .int v) (hfit : fits ty (.int v) = true) (hL : LF c0 ci k none) (hdg : decode cc pc = .ok (.putfield index, 3)) (kk : WR p l e R s m args below meth c D cI cZ ad A kc ks Q o (stm σ c0 k v) (F0 m (pc + 3) ls rest)) : WR p l e R s m args below meth c D cI cZ ad A kc ks Q o σ (F0 m pc ls (.int v :: .ref (ad c0) :: rest)) := by
  intro r σ' ho H locs hP hS
  obtain ⟨C1, T, N, host, hc, hu, hk, hw⟩ := hF
  obtain ⟨C2, T2, N2, ty0, hc2, hty, hnm, hfin, hd⟩ := hT
  cases hc.symm.trans hc2
  obtain ⟨fs, h1, h2⟩ := hL
  have hlen : k < (cellV ad (σ c0) 0 fs).length := by rw [cellV_len]; exact (List.getElem?_eq_some_iff.mp h2).1
  refine va_putN C.1 C.2.1 C.2.2.2.2.1 hu ty0 hty hnm C.2.2.2.1 C.K hP (C.Dd σ) hS c0 (ws_at h1) hc k hk (va_Nw.use rfl (C.N.1 _ hw)) (fun _ h => h) hfin hd hn hfit hlen hdg (fun H1 locs1 hP1 _ hS1 => ?_)
  have h4 := cellV_set (ad := ad) (f := σ c0) (v := v) fs 0 k h2
  rw [Nat.zero_add] at h4
  rw [ws_set (k := k) (v := v) h1 (show (Sum.inr (ci, (cellV ad (σ c0) 0 fs).set k (.int v)) : va_E) = cellE cI cZ ad (upd (σ c0) k v) (.inr (ci, fs)) by rw [h4]; rfl)] at hP1
  exact kk r σ' ho H1 locs1 hP1 hS1
theorem r_iald (C : CX p s m args meth c cc nL own ret D cI cZ ad tT A) {c0 n : Nat} {i : Int32} (hL : LY[c0]? = some (.inl (true, n))) (hdg : decode cc pc = .ok (.iaload, 1)) (kk : WR p l e R s m args below meth c D cI cZ ad A kc ks Q o σ (F0 m (pc + 1) ls (.int (σ c0 i.toNatClampNeg) :: rest))) : WR p l e R s m args below meth c D cI cZ ad A kc ks Q (gd n i o) σ (F0 m pc ls (.int i :: .ref (ad c0) :: rest)) := by
  intro r σ' ho H locs hP hS
  obtain ⟨hin, ho⟩ := gd_some ho
  exact va_iald C.1 C.2.1 C.K hP c0 0 (ws_at hL) rfl hin hdg (kk r σ' ho H locs hP hS)
theorem r_zald (C : CX p s m args meth c cc nL own ret D cI cZ ad tT A) {c0 n : Nat} {i : Int32} (hL : LY[c0]? = some (.inl (false, n))) (hdg : decode cc pc = .ok (.baload, 1)) (kk : WR p l e R s m args below meth c D cI cZ ad A kc ks Q o σ (F0 m (pc + 1) ls (.int (σ c0 i.toNatClampNeg) :: rest))) : WR p l e R s m args below meth c D cI cZ ad A kc ks Q (gd n i o) σ (F0 m pc ls (.int i :: .ref (ad c0) :: rest)) := by
  intro r σ' ho H locs hP hS
  obtain ⟨hin, ho⟩ := gd_some ho
  exact va_zald C.1 C.2.1 C.K hP c0 1 (ws_at hL) rfl hin hdg (kk r σ' ho H locs hP hS)
theorem r_iast (C : CX p s m args meth c cc nL own ret D cI cZ ad tT A) {c0 n : Nat} {i x : Int32} (hL : LY[c0]? = some (.inl (true, n))) (hdg : decode cc pc = .ok (.iastore, 1)) (kk : WR p l e R s m args below meth c D cI cZ ad A kc ks Q o (stm σ c0 i.toNatClampNeg x) (F0 m (pc + 1) ls rest)) : WR p l e R s m args below meth c D cI cZ ad A kc ks Q (gd n i o) σ (F0 m pc ls (.int x :: .int i :: .ref (ad c0) :: rest)) := by
  intro r σ' ho H locs hP hS
  obtain ⟨hin, ho⟩ := gd_some ho
  refine va_iast C.1 C.2.1 C.K hP (C.Dd σ) hS c0 0 (ws_at hL) rfl hin hdg (fun H1 locs1 hP1 _ hS1 => ?_)
  rw [ws_set (k := i.toNatClampNeg) (v := x) hL (x := (Sum.inl (cI, n, Sum.inl (upd (σ c0) i.toNatClampNeg x)) : va_E)) rfl] at hP1
  exact kk r σ' ho H1 locs1 hP1 hS1
theorem r_zast (C : CX p s m args meth c cc nL own ret D cI cZ ad tT A) {c0 n : Nat} {i x : Int32} (hL : LY[c0]? = some (.inl (false, n))) (hx : vp_nar .boolean x = x) (hdg : decode cc pc = .ok (.bastore, 1)) (kk : WR p l e R s m args below meth c D cI cZ ad A kc ks Q o (stm σ c0 i.toNatClampNeg x) (F0 m (pc + 1) ls rest)) : WR p l e R s m args below meth c D cI cZ ad A kc ks Q (gd n i o) σ (F0 m pc ls (.int x :: .int i :: .ref (ad c0) :: rest)) := by
  intro r σ' ho H locs hP hS
  obtain ⟨hin, ho⟩ := gd_some ho
  refine va_zast C.1 C.2.1 C.K hP (C.Dd σ) hS c0 1 (ws_at hL) rfl hin hdg (fun H1 locs1 hP1 _ hS1 => ?_)
  rw [hx, ws_set (k := i.toNatClampNeg) (v := x) hL (x := (Sum.inl (cZ, n, Sum.inl (upd (σ c0) i.toNatClampNeg x)) : va_E)) rfl] at hP1
  exact kk r σ' ho H1 locs1 hP1 hS1
theorem r_alen (C : CX p s m args meth c cc nL own ret D cI cZ ad tT A) {c0 n : Nat} {v : Int32} (hL : LY[c0]? = some (.inl (true, n))) (hv : nI n = v) (hdg : decode cc pc = .ok (.arraylength, 1)) (kk : WR p l e R s m args below meth c D cI cZ ad A kc ks Q o σ (F0 m (pc + 1) ls (.int v :: rest))) : WR p l e R s m args below meth c D cI cZ ad A kc ks Q o σ (F0 m pc ls (.ref (ad c0) :: rest)) := fun r σ' ho H locs hP hS => va_alen C.1 C.2.1 C.K hP c0 0 (ws_at hL) (ty := .int) rfl hv hdg (kk r σ' ho H locs hP hS)
theorem r_gett (C : CX p s m args meth c cc nL own ret D cI cZ ad tT A) {index : Nat} (hw : Cond.fieldLink own index RX8 "TREES" "[I" ∈ UW) (hdg : decode cc pc = .ok (.getstatic index, 3)) (kk : WR p l e R s m args below meth c D cI cZ ad A kc ks Q o σ (F0 m (pc + 3) ls (.ref tT :: rest))) : WR p l e R s m args below meth c D cI cZ ad A kc ks Q o σ (F0 m pc ls rest) := fun r σ' ho H locs hP hS => va_gets C.1 C.2.1 C.N.2.1 hS C.2.2.2.1 (C.2.2.2.2.1 _ hw) (fun _ h => h) hdg (kk r σ' ho H locs hP hS)
theorem r_tald (C : CX p s m args meth c cc nL own ret D cI cZ ad tT A) {i : Int32} (hdg : decode cc pc = .ok (.iaload, 1)) (kk : WR p l e R s m args below meth c D cI cZ ad A kc ks Q o σ (F0 m (pc + 1) ls (.int (TRi i.toNatClampNeg) :: rest))) : WR p l e R s m args below meth c D cI cZ ad A kc ks Q (gd 7 i o) σ (F0 m pc ls (.int i :: .ref tT :: rest)) := by
  intro r σ' ho H locs hP hS
  obtain ⟨hin, ho⟩ := gd_some ho
  exact va_ti C.1 C.2.1 C.N.2.2 hS hin rfl hdg (kk r σ' ho H locs hP hS)
theorem r_tlen (C : CX p s m args meth c cc nL own ret D cI cZ ad tT A) {v : Int32} (hv : nI 7 = v) (hdg : decode cc pc = .ok (.arraylength, 1)) (kk : WR p l e R s m args below meth c D cI cZ ad A kc ks Q o σ (F0 m (pc + 1) ls (.int v :: rest))) : WR p l e R s m args below meth c D cI cZ ad A kc ks Q o σ (F0 m pc ls (.ref tT :: rest)) := fun r σ' ho H locs hP hS => va_tlen C.1 C.2.1 C.N.2.2 hS hv hdg (kk r σ' ho H locs hP hS)
theorem r_mmax (C : CX p s m args meth c cc nL own ret D cI cZ ad tT A) {lv : List (Nat × Value)} (hl : lv_has ls nL lv) {index : Nat} (hM : Cond.methodLink own index Lib.Math.max.name ∈ UW ∧ Cond.static Lib.Math.max.name ∈ UW ∧ Cond.initialized "java/lang/Math" ∈ UW ∧ Cond.code Lib.Math.max.name Lib.Math.max.code 2 (some .int) ∈ UW) (hR : 1 ≤ R.frames ∧ (rest.map fun v => v.category).sum + 13 ≤ R.locals ∧ kc ≤ R.cells ∧ ks ≤ R.slots) {x y : Int32} (hdg : decode cc pc = .ok (.invokestatic index, 3)) (kk : WR p l e R s m args below meth c D cI cZ ad A kc ks Q o σ (F0 m (pc + 3) ls (.int (if x < y then y else x) :: rest))) : WR p l e R s m args below meth c D cI cZ ad A kc ks Q o σ (F0 m pc ls (.int y :: .int x :: rest)) := fun r σ' ho H locs hP hS => va_mmax C.1 C.2.1 (C.2.2.1.trans hl.1.symm) C.2.2.2.1 (C.2.2.2.2.1 _ hM.1) (C.2.2.2.2.1 _ hM.2.1) (C.2.2.2.2.1 _ hM.2.2.1) (C.2.2.2.2.1 _ hM.2.2.2) hR.1 hR.2.1 hR.2.2.1 hR.2.2.2 hdg (kk r σ' ho H locs hP hS)
theorem r_mmin (C : CX p s m args meth c cc nL own ret D cI cZ ad tT A) {lv : List (Nat × Value)} (hl : lv_has ls nL lv) {index : Nat} (hM : Cond.methodLink own index Lib.Math.min.name ∈ UW ∧ Cond.static Lib.Math.min.name ∈ UW ∧ Cond.initialized "java/lang/Math" ∈ UW ∧ Cond.code Lib.Math.min.name Lib.Math.min.code 2 (some .int) ∈ UW) (hR : 1 ≤ R.frames ∧ (rest.map fun v => v.category).sum + 13 ≤ R.locals ∧ kc ≤ R.cells ∧ ks ≤ R.slots) {x y : Int32} (hdg : decode cc pc = .ok (.invokestatic index, 3)) (kk : WR p l e R s m args below meth c D cI cZ ad A kc ks Q o σ (F0 m (pc + 3) ls (.int (if y < x then y else x) :: rest))) : WR p l e R s m args below meth c D cI cZ ad A kc ks Q o σ (F0 m pc ls (.int y :: .int x :: rest)) := fun r σ' ho H locs hP hS => va_mmin C.1 C.2.1 (C.2.2.1.trans hl.1.symm) C.2.2.2.1 (C.2.2.2.2.1 _ hM.1) (C.2.2.2.2.1 _ hM.2.1) (C.2.2.2.2.1 _ hM.2.2.1) (C.2.2.2.2.1 _ hM.2.2.2) hR.1 hR.2.1 hR.2.2.1 hR.2.2.2 hdg (kk r σ' ho H locs hP hS)
theorem r_tableIn (C : CX p s m args meth c cc nL own ret D cI cZ ad tT A) {dflt lo hi : Int} {offs : Array Int} {len : Nat} {x : Int32} {off : Int} {tgt : Nat} (hdg : decode cc pc = .ok (.tableswitch dflt lo hi offs, len)) (h1 : ¬ x.toInt < lo) (h2 : ¬ hi < x.toInt) (hof : offs[(x.toInt - lo).toNat]? = some off) (ht : (pc : Int) + off = (tgt : Int)) (k : WR p l e R s m args below meth c D cI cZ ad A kc ks Q o σ (F0 m tgt ls rest)) : WR p l e R s m args below meth c D cI cZ ad A kc ks Q o σ (F0 m pc ls (.int x :: rest)) := fun r σ' ho H locs hP hS => lv_tableIn C.1 C.2.1 hdg h1 h2 hof ht (k r σ' ho H locs hP hS)
theorem r_tableOut (C : CX p s m args meth c cc nL own ret D cI cZ ad tT A) {dflt lo hi : Int} {offs : Array Int} {len : Nat} {x : Int32} {tgt : Nat} (hdg : decode cc pc = .ok (.tableswitch dflt lo hi offs, len)) (h : x.toInt < lo ∨ hi < x.toInt) (ht : (pc : Int) + dflt = (tgt : Int)) (k : WR p l e R s m args below meth c D cI cZ ad A kc ks Q o σ (F0 m tgt ls rest)) : WR p l e R s m args below meth c D cI cZ ad A kc ks Q o σ (F0 m pc ls (.int x :: rest)) := fun r σ' ho H locs hP hS => lv_tableOut C.1 C.2.1 hdg h ht (k r σ' ho H locs hP hS)
theorem r_split {q : Prop} [Decidable q] {g : JFrame} (k1 : q → WR p l e R s m args below meth c D cI cZ ad A kc ks Q o1 σ g) (k2 : ¬ q → WR p l e R s m args below meth c D cI cZ ad A kc ks Q o2 σ g) : WR p l e R s m args below meth c D cI cZ ad A kc ks Q (if q then o1 else o2) σ g := by
  by_cases h : q
  · rw [if_pos h]; exact k1 h
  · rw [if_neg h]; exact k2 h
theorem r_none {g : JFrame} : WR p l e R s m args below meth c D cI cZ ad A kc ks Q none σ g := fun _ _ h => by cases h
theorem r_jn {α : Type} {k : α} {f : α → Option (Int32 × Mem)} {g : JFrame} (P : α → Prop) (hk : P k) (hf : ∀ k', P k' → WR p l e R s m args below meth c D cI cZ ad A kc ks Q (f k') σ g) : WR p l e R s m args below meth c D cI cZ ad A kc ks Q (jn k f) σ g := hf k hk
/-- returns -/
theorem r_iret (C : CX p s m args meth c cc nL own ret D cI cZ ad tT A) {v : Int32} (hret : ret = some .int) (hdg : decode cc pc = .ok (.ireturn, 1)) : WR p l e R s m args below meth c D cI cZ ad A 0 0 (fun r σ' => MQ below (QQ D cI cZ ad A (rvi r) σ') args s 0 0 A) (some (v, σ)) σ (F0 m pc ls [.int v]) := by
  intro r σ' ho H locs hP hS
  cases ho
  exact W.iret (Qc := QQ D cI cZ ad A (rvi v) σ) C.1 C.2.1 (by rw [← hret]; exact C.2.2.2.2.2.2.2.2.2.2.1) (fun t ht hW => ⟨⟨rfl, by rw [ht]; exact hP⟩, hS.F ht⟩) hS.2.2 hdg C.2.2.2.2.2.2.2.2.2.2.2
theorem r_zret (C : CX p s m args meth c cc nL own ret D cI cZ ad tT A) {v : Int32} (hret : ret = some .boolean) (hn : narrow .boolean (.int v) = .int v) (hdg : decode cc pc = .ok (.ireturn, 1)) : WR p l e R s m args below meth c D cI cZ ad A 0 0 (fun r σ' => MQ below (QQ D cI cZ ad A (rvi r) σ') args s 0 0 A) (some (v, σ)) σ (F0 m pc ls [.int v]) := by
  intro r σ' ho H locs hP hS
  cases ho
  exact W.zret (Qc := QQ D cI cZ ad A (rvi v) σ) (ty := .boolean) C.1 C.2.1 (by rw [← hret]; exact C.2.2.2.2.2.2.2.2.2.2.1) hn (fun t ht hW => ⟨⟨rfl, by rw [ht]; exact hP⟩, hS.F ht⟩) hS.2.2 hdg C.2.2.2.2.2.2.2.2.2.2.2
theorem r_vret (C : CX p s m args meth c cc nL own ret D cI cZ ad tT A) {v : Int32} (hret : ret = none) (hdg : decode cc pc = .ok (.return_, 1)) : WR p l e R s m args below meth c D cI cZ ad A 0 0 (fun r σ' => MQ below (QQ D cI cZ ad A (rvv r) σ') args s 0 0 A) (some (v, σ)) σ (F0 m pc ls []) := by
  intro r σ' ho H locs hP hS
  cases ho
  exact W.vret (Qc := QQ D cI cZ ad A (rvv v) σ) C.1 C.2.1 (by rw [← hret]; exact C.2.2.2.2.2.2.2.2.2.2.1) (fun t ht hW => ⟨⟨rfl, by rw [ht]; exact hP⟩, hS.F ht⟩) hS.2.2 hdg C.2.2.2.2.2.2.2.2.2.2.2
theorem r_aret (C : CX p s m args meth c cc nL own ret D cI cZ ad tT A) {q : Nat} {v : Int32} {rt : FieldType} (hret : ret = some rt) (hrt : ∃ n, rt = .object n) (hdg : decode cc pc = .ok (.areturn, 1)) : WR p l e R s m args below meth c D cI cZ ad A 0 0 (fun _ σ' => MQ below (QQ D cI cZ ad A (some (.ref q)) σ') args s 0 0 A) (some (v, σ)) σ (F0 m pc ls [.ref q]) := by
  intro r σ' ho H locs hP hS
  cases ho
  exact W.aret (Qc := QQ D cI cZ ad A (some (.ref q)) σ) (rt := rt) C.1 C.2.1 (by rw [← hret]; exact C.2.2.2.2.2.2.2.2.2.2.1) (Or.inl hrt) (Or.inr ⟨q, rfl⟩) (fun t ht hW => ⟨⟨rfl, by rw [ht]; exact hP⟩, hS.F ht⟩) hS.2.2 hdg C.2.2.2.2.2.2.2.2.2.2.2
/-- calls -/
def MLV (own : String) (index : Nat) (y : MethodName) (cy : ByteArray) (nLy : Nat) (rety : Option FieldType) (n : Nat) : Prop := Cond.methodLink own index y ∈ UW ∧ Cond.instanceMethod y ∈ UW ∧ Cond.selects y.cls y y ∈ UW ∧ Cond.initialized y.cls ∈ UW ∧ Cond.code y cy nLy rety ∈ UW ∧ (y.cls ≠ "java/lang/invoke/MethodHandle" ∧ y.cls ≠ "java/lang/invoke/VarHandle" ∧ (parseMethodDescriptor y.desc).map (fun d => d.parameters.length) = some n)
def MLS (own : String) (index : Nat) (y : MethodName) (cy : ByteArray) (nLy : Nat) (rety : Option FieldType) (n : Nat) : Prop := Cond.methodLink own index y ∈ UW ∧ Cond.static y ∈ UW ∧ Cond.initialized y.cls ∈ UW ∧ Cond.code y cy nLy rety ∈ UW ∧ (y.cls ≠ "java/lang/invoke/MethodHandle" ∧ y.cls ≠ "java/lang/invoke/VarHandle" ∧ (parseMethodDescriptor y.desc).map (fun d => d.parameters.length) = some n)
def MLSN (own : String) (index : Nat) (y : MethodName) (cy : ByteArray) (nLy : Nat) (rety : Option FieldType) (n : Nat) : Prop := (∃ host : String, Cond.methodLinkNest own index y host ∈ NW) ∧ Cond.static y ∈ UW ∧ Cond.initialized y.cls ∈ UW ∧ Cond.code y cy nLy rety ∈ UW ∧ (y.cls ≠ "java/lang/invoke/MethodHandle" ∧ y.cls ≠ "java/lang/invoke/VarHandle" ∧ (parseMethodDescriptor y.desc).map (fun d => d.parameters.length) = some n)
def RCV (c0 : Nat) (cls : String) : Prop := ∃ (ci : Nat) (fs : List (Option Nat)) (T : u_T) (N : Nat), LY[c0]? = some (.inr (ci, fs)) ∧ vwCl[ci]? = some (cls, T, N)
theorem good_cons {y : MethodName} {cy : ByteArray} {nLy : Nat} {rety : Option FieldType} {l0 : List Cond} (h0 : ∀ w ∈ l0, w ∈ UW) (h : Cond.code y cy nLy rety ∈ UW) : GoodIn UW (l0 ++ (.code y cy nLy rety :: UW)) := by
  intro w hw
  have hm : w ∈ UW := by
    rcases List.mem_append.mp hw with a | a
    · exact h0 w a
    · rcases List.mem_cons.mp a with a | a
      · rw [a]; exact h
      · exact a
  exact ⟨hm, uw_good hm⟩
theorem pre_blind {As : List Value} {sz : Nat} : FrameBlind (va_Pc As (PRE D cI cZ ad tT sz σ)) := fun a U g mk q => ⟨q.1, q.2.1, q.2.2.1, va_K.moved (u := U) (U := U.calling g mk a) (Vm.Alike.refl U.vm) q.2.2.2.1, EN.same (s := U) (U := U.calling g mk a) rfl q.2.2.2.2⟩
theorem aa_in (C : CX p s m args meth c cc nL own ret D cI cZ ad tT A) {H : Heap} {locs : List Loc} (hS : va_S A s.heap H locs) : ∀ q, AA ad H.size q → A q := by
  intro q h
  rcases h with ⟨i, h1, h2⟩ | h
  · rw [← h2]; exact C.2.2.2.2.2.2.2.1 i h1
  · exact C.2.2.2.2.2.2.2.2.1 q (Nat.le_trans hS.1 h)
theorem pre_at (C : CX p s m args meth c cc nL own ret D cI cZ ad tT A) {H : Heap} {locs : List Loc} (hP : va_P D vwCl (WS cI cZ ad σ) H) (hS : va_S A s.heap H locs) {U : State} (hU : U.heap = H) (hW : s.WarmedH U.vm) : PRE D cI cZ ad tT H.size σ U := ⟨by rw [hU], by rw [hU]; exact hP, va_K.moved hW.alike C.K, by rw [hU]; exact EN.warm hW ((C.N.kept hS.2.1).narrow (aa_in C hS))⟩
theorem call_go (C : CX p s m args meth c cc nL own ret D cI cZ ad tT A) {H : Heap} {locs : List Loc} {st : List Value} {v1 : Option Value} {σ1 : Mem} {a : Array Value} {Q1 : State → Prop} (hS : va_S A s.heap H locs) (run : va_Run p l e R s m args below meth c H locs kc ks 0 0 (F0 m pc ls st) rest (QQ D cI cZ ad (AA ad H.size) v1 σ1 a) (AA ad H.size)) (kk : ∀ (H : Heap) (locs : List Loc), va_P D vwCl (WS cI cZ ad σ1) H → va_S A s.heap H locs → W p l e R s m args below meth c H locs kc ks Q1 (F0 m (pc + 3) ls (v1.toList ++ rest))) : W p l e R s m args below meth c H locs kc ks Q1 (F0 m pc ls st) := by
  intro T hT X
  obtain ⟨v, st₀, t, T', L, h0, X', hL, e1, e2, ⟨⟨hv, hP1⟩, hz, hk⟩, gs⟩ := run T hT X
  have hv2 : v = v1 := by injection hv
  subst hv2
  rw [h0] at hz hk
  have hAA := aa_in C hS
  obtain ⟨t2, a1, b1⟩ := kk T'.heap (locs ++ L) (by rw [e1]; exact hP1)
    ⟨Nat.le_trans hS.1 (by rw [e1]; exact hz), fun q h1 h2 => by rw [e1, hk q (Nat.lt_of_lt_of_le h1 hS.1) (fun z => h2 (hAA q z))]; exact hS.2.1 q h1 h2, fun q hq => by
      rcases List.mem_append.mp hq with h | h
      · exact hS.2.2 q h
      · exact hAA _ (hL q h)⟩ T' rfl X'
  exact ⟨t2, gs t2 a1, b1⟩
theorem r_callV (C : CX p s m args meth c cc nL own ret D cI cZ ad tT A) {lv : List (Nat × Value)} (hl : lv_has ls nL lv) {index n c0 nLy fr lo : Nat} {y : MethodName} {cy : ByteArray} {rety : Option FieldType} {rv : Int32 → Option Value} {As : List Value} {k : Int32 → Mem → Option (Int32 × Mem)} {st : List Value} (hM : MLV own index y cy nLy rety n) (hc : RCV c0 y.cls) (hG : GM l D cI cZ ad tT y cy nLy rety fr lo rv (.ref (ad c0) :: As) σ o1) (hR : fr + 1 ≤ R.frames ∧ 8 + (nLy + 11) + lo ≤ R.locals) (hz : kc ≤ R.cells ∧ ks ≤ R.slots) (hn : As.length = n) (hst : st = As.reverse ++ .ref (ad c0) :: rest) (hrm : (rest.map fun v => v.category).sum ≤ 8) (hdg : decode cc pc = .ok (.invokevirtual index, 3)) (kk : ∀ (r : Int32) (σ1 : Mem), WR p l e R s m args below meth c D cI cZ ad A kc ks Q (k r σ1) σ1 (F0 m (pc + 3) ls ((rv r).toList ++ rest))) : WR p l e R s m args below meth c D cI cZ ad A kc ks Q (bnd o1 k) σ (F0 m pc ls st) := by
  intro r σ' ho H locs hP hS
  obtain ⟨r1, σ1, h1, h2⟩ := bnd_some ho
  have hMet := hG r1 σ1 h1 H.size
  obtain ⟨ci, fs, T, N, hL, hcl⟩ := hc
  obtain ⟨w1, w2, w3, w4, w5, hd⟩ := hM
  have hG2 : GoodIn UW (wsV own index y.cls y (.code y cy nLy rety :: UW)) := good_cons (by intro w hw; simp only [List.mem_cons, List.not_mem_nil, or_false] at hw; rcases hw with rfl | rfl | rfl | rfl <;> assumption) w5
  have run := va_runV (p := p) (l := l) (e := e) (R := R) (below := below) (meth := meth) (H := H) (locs := locs) (cells := kc) (slots := ks) (As := As) (rest := rest) (g := F0 m pc ls st) (nL := nL) (cc := cc) (own := own) (C := y.cls) (b := ad c0) (n := n) (index := index) (bytes := cy) (maxL := nLy) (ret := rety) (Ts := UW) ⟨C.1, C.2.1, C.2.2.1, C.2.2.2.1, C.2.2.2.2.1⟩ hMet (cwV n C.2.2.2.2.1 hG2 rfl rfl rfl ⟨rfl, hd⟩ hR) ⟨pre_blind, va_recv C.K hP hcl (ws_at hL), fun U hU hW => ⟨rfl, pre_at C hP hS hU hW⟩⟩ rfl hn hl.1 hst (lv_room hrm) hdg hz
  exact call_go C hS run (fun H locs hP hS => kk r1 σ1 r σ' h2 H locs hP hS)
theorem r_callS (C : CX p s m args meth c cc nL own ret D cI cZ ad tT A) {lv : List (Nat × Value)} (hl : lv_has ls nL lv) {index n nLy fr lo : Nat} {y : MethodName} {cy : ByteArray} {rety : Option FieldType} {rv : Int32 → Option Value} {As : List Value} {k : Int32 → Mem → Option (Int32 × Mem)} {st : List Value} (hM : MLS own index y cy nLy rety n) (hG : GM l D cI cZ ad tT y cy nLy rety fr lo rv As σ o1) (hR : fr + 1 ≤ R.frames ∧ 8 + (nLy + 11) + lo ≤ R.locals) (hz : kc ≤ R.cells ∧ ks ≤ R.slots) (hn : As.length = n) (hst : st = As.reverse ++ rest) (hrm : (rest.map fun v => v.category).sum ≤ 8) (hdg : decode cc pc = .ok (.invokestatic index, 3)) (kk : ∀ (r : Int32) (σ1 : Mem), WR p l e R s m args below meth c D cI cZ ad A kc ks Q (k r σ1) σ1 (F0 m (pc + 3) ls ((rv r).toList ++ rest))) : WR p l e R s m args below meth c D cI cZ ad A kc ks Q (bnd o1 k) σ (F0 m pc ls st) := by
  intro r σ' ho H locs hP hS
  obtain ⟨r1, σ1, h1, h2⟩ := bnd_some ho
  have hMet := hG r1 σ1 h1 H.size
  obtain ⟨w1, w2, w4, w5, hd⟩ := hM
  have hG2 : GoodIn UW (va_wsS own index y (.code y cy nLy rety :: UW)) := good_cons (by intro w hw; simp only [List.mem_cons, List.not_mem_nil, or_false] at hw; rcases hw with rfl | rfl | rfl <;> assumption) w5
  have run := va_runS (p := p) (l := l) (e := e) (R := R) (below := below) (meth := meth) (H := H) (locs := locs) (cells := kc) (slots := ks) (As := As) (rest := rest) (g := F0 m pc ls st) (nL := nL) (cc := cc) (own := own) (n := n) (index := index) (bytes := cy) (maxL := nLy) (ret := rety) (Ts := UW) ⟨C.1, C.2.1, C.2.2.1, C.2.2.2.1, C.2.2.2.2.1⟩ hMet (va_cwS n C.2.2.2.2.1 hG2 rfl rfl rfl hd hR) ⟨pre_blind, fun U hU hW => ⟨rfl, pre_at C hP hS hU hW⟩⟩ rfl hn hl.1 hst (lv_room hrm) hdg hz
  exact call_go C hS run (fun H locs hP hS => kk r1 σ1 r σ' h2 H locs hP hS)
theorem r_callSN (C : CX p s m args meth c cc nL own ret D cI cZ ad tT A) {lv : List (Nat × Value)} (hl : lv_has ls nL lv) {index n nLy fr lo : Nat} {y : MethodName} {cy : ByteArray} {rety : Option FieldType} {rv : Int32 → Option Value} {As : List Value} {k : Int32 → Mem → Option (Int32 × Mem)} {st : List Value} (hM : MLSN own index y cy nLy rety n) (hG : GM l D cI cZ ad tT y cy nLy rety fr lo rv As σ o1) (hR : fr + 1 ≤ R.frames ∧ 8 + (nLy + 11) + lo ≤ R.locals) (hz : kc ≤ R.cells ∧ ks ≤ R.slots) (hn : As.length = n) (hst : st = As.reverse ++ rest) (hrm : (rest.map fun v => v.category).sum ≤ 8) (hdg : decode cc pc = .ok (.invokestatic index, 3)) (kk : ∀ (r : Int32) (σ1 : Mem), WR p l e R s m args below meth c D cI cZ ad A kc ks Q (k r σ1) σ1 (F0 m (pc + 3) ls ((rv r).toList ++ rest))) : WR p l e R s m args below meth c D cI cZ ad A kc ks Q (bnd o1 k) σ (F0 m pc ls st) := by
  intro r σ' ho H locs hP hS
  obtain ⟨r1, σ1, h1, h2⟩ := bnd_some ho
  have hMet := hG r1 σ1 h1 H.size
  obtain ⟨⟨host, w1⟩, w2, w4, w5, hd⟩ := hM
  have hG2 : GoodIn UW (.code y cy nLy rety :: UW) := good_cons (l0 := []) (fun w hw => by cases hw) w5
  have run := va_runSN (p := p) (l := l) (e := e) (R := R) (below := below) (meth := meth) (H := H) (locs := locs) (cells := kc) (slots := ks) (As := As) (rest := rest) (g := F0 m pc ls st) (nL := nL) (cc := cc) (own := own) (n := n) (index := index) (bytes := cy) (maxL := nLy) (ret := rety) (Ts := UW) ⟨C.1, C.2.1, C.2.2.1, C.2.2.2.1, C.2.2.2.2.1⟩ hMet ⟨va_cnB n C.2.2.2.2.1 hG2 rfl rfl rfl (C.N.1 _ w1) (C.2.2.2.2.1 _ w4) hd hR, C.2.2.2.2.1 _ w2, trivial⟩ ⟨pre_blind, fun U hU hW => ⟨rfl, pre_at C hP hS hU hW⟩⟩ rfl hn hl.1 hst (lv_room hrm) hdg hz
  exact call_go C hS run (fun H locs hP hS => kk r1 σ1 r σ' h2 H locs hP hS)
end RL
/-- a contract out of a walk from the entry -/
theorem gm_of {l : Launch} {D : va_G} {cI cZ : ClassId} {ad : Nat → Nat} {tT : Nat} {y : MethodName} {cc : ByteArray} {nL : Nat} {ret : Option FieldType} {fr lo : Nat} {rv : Int32 → Option Value} {As : List Value} {σ : Mem} {o : Option (Int32 × Mem)} {lv : List (Nat × Value)} {own : String} (hi : INJ ad) (hy : plainName y.cls = true) (hown : y.cls = own) (hlen : (lg_sl As).length ≤ nL) (hlv : lv_args 0 As = lv)
    (h : ∀ (p : Program) (e : Env) (s : State) (m : MethodId) (args : Array Value) (below : List Frame) (meth : Method) (c : Code) (A : Nat → Prop), CX p s m args meth c cc nL own ret D cI cZ ad tT A → ∀ ls : Array Slot, lv_has ls nL lv → WR p l e { frames := fr, cells := 0, slots := 0, locals := lo } s m args below meth c D cI cZ ad A 0 0 (fun r σ' => MQ below (QQ D cI cZ ad A (rv r) σ') args s 0 0 A) o σ (F0 m 0 ls [])) : GM l D cI cZ ad tT y cc nL ret fr lo rv As σ o := by
  intro r σ' ho sz
  refine Met.ofW (cc := cc) (maxL := nL) (ret := ret) hy rfl ?_
  intro p e s m args below meth c s₁ B hml hv
  obtain ⟨rfl, hsz, hP, hK, hE⟩ := hv
  have hts := atoms_spec (ws := .code y cc nL ret :: UW) B.pre
  subst hsz
  have C : CX p s m As.toArray meth c cc nL own ret D cI cZ ad tT (AA ad s.heap.size) := ⟨B.exec, B.bytes, hml, by rw [← hown]; exact findClass_of_methodNamed B.named, fun w hw => hts w (List.mem_cons_of_mem _ hw), hK, hi, fun i h => Or.inl ⟨i, h, rfl⟩, fun q hq => Or.inr hq, hE, B.returns, B.notSynchronized⟩
  have hl := lv_entry As (n := nL) hlen
  rw [hlv] at hl
  rw [lg_entry_eq]
  exact h p e s m _ below meth c _ C _ hl r σ' ho s.heap [] hP va_S.rf
/-- a method's own end -/
def letv (x : Int32) (k : Int32 → Option (Int32 × Mem)) : Option (Int32 × Mem) := k x
def letm (x : Mem) (k : Mem → Option (Int32 × Mem)) : Option (Int32 × Mem) := k x
def ush (x y : Int32) : Int32 := (x.toUInt32 >>> (y.toUInt32 &&& Int32.toUInt32 31)).toInt32
def remi (x y : Int32) : Int32 := x - x / y * y
def mx (x y : Int32) : Int32 := if x < y then y else x
def mn (x y : Int32) : Int32 := if y < x then y else x
def gb (x : Int32) (o : Option (Int32 × Mem)) : Option (Int32 × Mem) := if x = 0 ∨ x = 1 then o else none
theorem ne_toInt {x : Int32} (k : Int32) (h : ¬ x = k) {j : Int} (hj : k.toInt = j) : x.toInt ≠ j := fun q => h (Int32.toInt_inj.mp (q.trans hj.symm))
abbrev QM (rv : Int32 → Option Value) (D : va_G) (cI cZ : ClassId) (ad : Nat → Nat) (A : Nat → Prop) (below : List Frame) (args : Array Value) (s : State) : Int32 → Mem → State → Prop := fun r σ' => MQ below (QQ D cI cZ ad A (rv r) σ') args s 0 0 A
abbrev WM (p : Program) (l : Launch) (e : Env) (fr lo : Nat) (s : State) (m : MethodId) (args : Array Value) (below : List Frame) (meth : Method) (c : Code) (D : va_G) (cI cZ : ClassId) (ad : Nat → Nat) (A : Nat → Prop) (rv : Int32 → Option Value) (o : Option (Int32 × Mem)) (σ : Mem) (g : JFrame) : Prop :=
  WR p l e { frames := fr, cells := 0, slots := 0, locals := lo } s m args below meth c D cI cZ ad A 0 0 (QM rv D cI cZ ad A below args s) o σ g
section RM
variable {p : Program} {l : Launch} {e : Env} {R : Room} {s : State} {m : MethodId} {args : Array Value} {below : List Frame} {meth : Method} {c : Code} {cc : ByteArray} {nL : Nat} {own : String} {ret : Option FieldType} {D : va_G} {cI cZ : ClassId} {ad : Nat → Nat} {tT : Nat} {A : Nat → Prop} {kc ks : Nat} {Q : Int32 → Mem → State → Prop} {o o1 o2 : Option (Int32 × Mem)} {σ : Mem} {pc : Nat} {ls : Array Slot} {rest : List Value}
theorem CX.inj (C : CX p s m args meth c cc nL own ret D cI cZ ad tT A) : INJ ad := C.2.2.2.2.2.2.1
theorem r_letv {x : Int32} {k : Int32 → Option (Int32 × Mem)} (h : ∀ v : Int32, WR p l e R s m args below meth c D cI cZ ad A kc ks Q (k v) σ (F0 m pc ls (.int v :: rest))) : WR p l e R s m args below meth c D cI cZ ad A kc ks Q (letv x k) σ (F0 m pc ls (.int x :: rest)) := h x
theorem r_letm {k : Mem → Option (Int32 × Mem)} {g : JFrame} (h : ∀ σ : Mem, WR p l e R s m args below meth c D cI cZ ad A kc ks Q (k σ) σ g) : WR p l e R s m args below meth c D cI cZ ad A kc ks Q (letm σ k) σ g := h σ
theorem r_irem2 (C : CX p s m args meth c cc nL own ret D cI cZ ad tT A) {x y : Int32} (hdg : decode cc pc = .ok (.irem, 1)) (hne : ¬ y = 0) (k : WR p l e R s m args below meth c D cI cZ ad A kc ks Q o σ (F0 m (pc + 1) ls (.int (remi x y) :: rest))) : WR p l e R s m args below meth c D cI cZ ad A kc ks Q o σ (F0 m pc ls (.int y :: .int x :: rest)) := r_irem C hdg hne k
theorem r_iushr2 (C : CX p s m args meth c cc nL own ret D cI cZ ad tT A) {x y : Int32} (hdg : decode cc pc = .ok (.iushr, 1)) (k : WR p l e R s m args below meth c D cI cZ ad A kc ks Q o σ (F0 m (pc + 1) ls (.int (ush x y) :: rest))) : WR p l e R s m args below meth c D cI cZ ad A kc ks Q o σ (F0 m pc ls (.int y :: .int x :: rest)) := r_iushr C hdg rfl k
theorem r_mmax2 (C : CX p s m args meth c cc nL own ret D cI cZ ad tT A) {lv : List (Nat × Value)} (hl : lv_has ls nL lv) {index : Nat} (hM : Cond.methodLink own index Lib.Math.max.name ∈ UW ∧ Cond.static Lib.Math.max.name ∈ UW ∧ Cond.initialized "java/lang/Math" ∈ UW ∧ Cond.code Lib.Math.max.name Lib.Math.max.code 2 (some .int) ∈ UW) (hR : 1 ≤ R.frames ∧ (rest.map fun v => v.category).sum + 13 ≤ R.locals ∧ kc ≤ R.cells ∧ ks ≤ R.slots) {x y : Int32} (hdg : decode cc pc = .ok (.invokestatic index, 3)) (kk : WR p l e R s m args below meth c D cI cZ ad A kc ks Q o σ (F0 m (pc + 3) ls (.int (mx x y) :: rest))) : WR p l e R s m args below meth c D cI cZ ad A kc ks Q o σ (F0 m pc ls (.int y :: .int x :: rest)) := r_mmax C hl hM hR hdg kk
theorem r_mmin2 (C : CX p s m args meth c cc nL own ret D cI cZ ad tT A) {lv : List (Nat × Value)} (hl : lv_has ls nL lv) {index : Nat} (hM : Cond.methodLink own index Lib.Math.min.name ∈ UW ∧ Cond.static Lib.Math.min.name ∈ UW ∧ Cond.initialized "java/lang/Math" ∈ UW ∧ Cond.code Lib.Math.min.name Lib.Math.min.code 2 (some .int) ∈ UW) (hR : 1 ≤ R.frames ∧ (rest.map fun v => v.category).sum + 13 ≤ R.locals ∧ kc ≤ R.cells ∧ ks ≤ R.slots) {x y : Int32} (hdg : decode cc pc = .ok (.invokestatic index, 3)) (kk : WR p l e R s m args below meth c D cI cZ ad A kc ks Q o σ (F0 m (pc + 3) ls (.int (mn x y) :: rest))) : WR p l e R s m args below meth c D cI cZ ad A kc ks Q o σ (F0 m pc ls (.int y :: .int x :: rest)) := r_mmin C hl hM hR hdg kk
theorem gb_some {x : Int32} {o : Option (Int32 × Mem)} {q : Int32 × Mem} (h : gb x o = some q) : (x = 0 ∨ x = 1) ∧ o = some q := by
  unfold gb at h
  by_cases z : x = 0 ∨ x = 1
  · rw [if_pos z] at h; exact ⟨z, h⟩
  · rw [if_neg z] at h; cases h
theorem r_zretG (C : CX p s m args meth c cc nL own ret D cI cZ ad tT A) {v : Int32} (hret : ret = some .boolean) (hdg : decode cc pc = .ok (.ireturn, 1)) : WR p l e R s m args below meth c D cI cZ ad A 0 0 (fun r σ' => MQ below (QQ D cI cZ ad A (rvi r) σ') args s 0 0 A) (gb v (some (v, σ))) σ (F0 m pc ls [.int v]) := by
  intro r σ' ho
  obtain ⟨h, h2⟩ := gb_some ho
  rcases h with h | h
  · subst h; exact r_zret C hret (by decide) hdg r σ' h2
  · subst h; exact r_zret C hret (by decide) hdg r σ' h2
theorem r_callVi (C : CX p s m args meth c cc nL own ret D cI cZ ad tT A) {lv : List (Nat × Value)} (hl : lv_has ls nL lv) {index n c0 nLy fr lo : Nat} {y : MethodName} {cy : ByteArray} {rety : Option FieldType} {As : List Value} {k : Int32 → Mem → Option (Int32 × Mem)} {st : List Value} (hM : MLV own index y cy nLy rety n) (hc : RCV c0 y.cls) (hG : GM l D cI cZ ad tT y cy nLy rety fr lo rvi (.ref (ad c0) :: As) σ o1) (hR : fr + 1 ≤ R.frames ∧ 8 + (nLy + 11) + lo ≤ R.locals) (hz : kc ≤ R.cells ∧ ks ≤ R.slots) (hn : As.length = n) (hst : st = As.reverse ++ .ref (ad c0) :: rest) (hrm : (rest.map fun v => v.category).sum ≤ 8) (hdg : decode cc pc = .ok (.invokevirtual index, 3)) (kk : ∀ (r : Int32) (σ1 : Mem), WR p l e R s m args below meth c D cI cZ ad A kc ks Q (k r σ1) σ1 (F0 m (pc + 3) ls (.int r :: rest))) : WR p l e R s m args below meth c D cI cZ ad A kc ks Q (bnd o1 k) σ (F0 m pc ls st) := r_callV C hl hM hc hG hR hz hn hst hrm hdg kk
theorem r_callVv (C : CX p s m args meth c cc nL own ret D cI cZ ad tT A) {lv : List (Nat × Value)} (hl : lv_has ls nL lv) {index n c0 nLy fr lo : Nat} {y : MethodName} {cy : ByteArray} {rety : Option FieldType} {As : List Value} {k : Int32 → Mem → Option (Int32 × Mem)} {st : List Value} (hM : MLV own index y cy nLy rety n) (hc : RCV c0 y.cls) (hG : GM l D cI cZ ad tT y cy nLy rety fr lo rvv (.ref (ad c0) :: As) σ o1) (hR : fr + 1 ≤ R.frames ∧ 8 + (nLy + 11) + lo ≤ R.locals) (hz : kc ≤ R.cells ∧ ks ≤ R.slots) (hn : As.length = n) (hst : st = As.reverse ++ .ref (ad c0) :: rest) (hrm : (rest.map fun v => v.category).sum ≤ 8) (hdg : decode cc pc = .ok (.invokevirtual index, 3)) (kk : ∀ (r : Int32) (σ1 : Mem), WR p l e R s m args below meth c D cI cZ ad A kc ks Q (k r σ1) σ1 (F0 m (pc + 3) ls rest)) : WR p l e R s m args below meth c D cI cZ ad A kc ks Q (bnd o1 k) σ (F0 m pc ls st) := r_callV C hl hM hc hG hR hz hn hst hrm hdg kk
theorem r_callSi (C : CX p s m args meth c cc nL own ret D cI cZ ad tT A) {lv : List (Nat × Value)} (hl : lv_has ls nL lv) {index n nLy fr lo : Nat} {y : MethodName} {cy : ByteArray} {rety : Option FieldType} {As : List Value} {k : Int32 → Mem → Option (Int32 × Mem)} {st : List Value} (hM : MLS own index y cy nLy rety n) (hG : GM l D cI cZ ad tT y cy nLy rety fr lo rvi As σ o1) (hR : fr + 1 ≤ R.frames ∧ 8 + (nLy + 11) + lo ≤ R.locals) (hz : kc ≤ R.cells ∧ ks ≤ R.slots) (hn : As.length = n) (hst : st = As.reverse ++ rest) (hrm : (rest.map fun v => v.category).sum ≤ 8) (hdg : decode cc pc = .ok (.invokestatic index, 3)) (kk : ∀ (r : Int32) (σ1 : Mem), WR p l e R s m args below meth c D cI cZ ad A kc ks Q (k r σ1) σ1 (F0 m (pc + 3) ls (.int r :: rest))) : WR p l e R s m args below meth c D cI cZ ad A kc ks Q (bnd o1 k) σ (F0 m pc ls st) := r_callS C hl hM hG hR hz hn hst hrm hdg kk
theorem r_callSv (C : CX p s m args meth c cc nL own ret D cI cZ ad tT A) {lv : List (Nat × Value)} (hl : lv_has ls nL lv) {index n nLy fr lo : Nat} {y : MethodName} {cy : ByteArray} {rety : Option FieldType} {As : List Value} {k : Int32 → Mem → Option (Int32 × Mem)} {st : List Value} (hM : MLS own index y cy nLy rety n) (hG : GM l D cI cZ ad tT y cy nLy rety fr lo rvv As σ o1) (hR : fr + 1 ≤ R.frames ∧ 8 + (nLy + 11) + lo ≤ R.locals) (hz : kc ≤ R.cells ∧ ks ≤ R.slots) (hn : As.length = n) (hst : st = As.reverse ++ rest) (hrm : (rest.map fun v => v.category).sum ≤ 8) (hdg : decode cc pc = .ok (.invokestatic index, 3)) (kk : ∀ (r : Int32) (σ1 : Mem), WR p l e R s m args below meth c D cI cZ ad A kc ks Q (k r σ1) σ1 (F0 m (pc + 3) ls rest)) : WR p l e R s m args below meth c D cI cZ ad A kc ks Q (bnd o1 k) σ (F0 m pc ls st) := r_callS C hl hM hG hR hz hn hst hrm hdg kk
theorem r_callNi (C : CX p s m args meth c cc nL own ret D cI cZ ad tT A) {lv : List (Nat × Value)} (hl : lv_has ls nL lv) {index n nLy fr lo : Nat} {y : MethodName} {cy : ByteArray} {rety : Option FieldType} {As : List Value} {k : Int32 → Mem → Option (Int32 × Mem)} {st : List Value} (hM : MLSN own index y cy nLy rety n) (hG : GM l D cI cZ ad tT y cy nLy rety fr lo rvi As σ o1) (hR : fr + 1 ≤ R.frames ∧ 8 + (nLy + 11) + lo ≤ R.locals) (hz : kc ≤ R.cells ∧ ks ≤ R.slots) (hn : As.length = n) (hst : st = As.reverse ++ rest) (hrm : (rest.map fun v => v.category).sum ≤ 8) (hdg : decode cc pc = .ok (.invokestatic index, 3)) (kk : ∀ (r : Int32) (σ1 : Mem), WR p l e R s m args below meth c D cI cZ ad A kc ks Q (k r σ1) σ1 (F0 m (pc + 3) ls (.int r :: rest))) : WR p l e R s m args below meth c D cI cZ ad A kc ks Q (bnd o1 k) σ (F0 m pc ls st) := r_callSN C hl hM hG hR hz hn hst hrm hdg kk
theorem r_callNv (C : CX p s m args meth c cc nL own ret D cI cZ ad tT A) {lv : List (Nat × Value)} (hl : lv_has ls nL lv) {index n nLy fr lo : Nat} {y : MethodName} {cy : ByteArray} {rety : Option FieldType} {As : List Value} {k : Int32 → Mem → Option (Int32 × Mem)} {st : List Value} (hM : MLSN own index y cy nLy rety n) (hG : GM l D cI cZ ad tT y cy nLy rety fr lo rvv As σ o1) (hR : fr + 1 ≤ R.frames ∧ 8 + (nLy + 11) + lo ≤ R.locals) (hz : kc ≤ R.cells ∧ ks ≤ R.slots) (hn : As.length = n) (hst : st = As.reverse ++ rest) (hrm : (rest.map fun v => v.category).sum ≤ 8) (hdg : decode cc pc = .ok (.invokestatic index, 3)) (kk : ∀ (r : Int32) (σ1 : Mem), WR p l e R s m args below meth c D cI cZ ad A kc ks Q (k r σ1) σ1 (F0 m (pc + 3) ls rest)) : WR p l e R s m args below meth c D cI cZ ad A kc ks Q (bnd o1 k) σ (F0 m pc ls st) := r_callSN C hl hM hG hR hz hn hst hrm hdg kk
end RM
end
section
def ROW (c n : Nat) : Prop := LY[c]? = some (.inr (5, [some (c + 1)])) ∧ LY[c + 1]? = some (.inl (true, n))
def RDG (c : Nat) : Prop := LY[c]? = some (.inr (4, [some (c + 1), none, none])) ∧ ROW (c + 1) 48
theorem lf5 {c n : Nat} (h : ROW c n) : LF c 5 0 (some (c + 1)) := ⟨_, h.1, rfl⟩
theorem lf4_0 {c : Nat} (h : RDG c) : LF c 4 0 (some (c + 1)) := ⟨_, h.1, rfl⟩
theorem lf4_1 {c : Nat} (h : RDG c) : LF c 4 1 none := ⟨_, h.1, rfl⟩
theorem lf4_2 {c : Nat} (h : RDG c) : LF c 4 2 none := ⟨_, h.1, rfl⟩
theorem rc5 {c n : Nat} (h : ROW c n) : RCV c RX5 := ⟨5, _, TX5, 1, h.1, rfl⟩
theorem rc4 {c : Nat} (h : RDG c) : RCV c RX4 := ⟨4, _, TX4, 3, h.1, rfl⟩
theorem rc_0 : RCV 0 RX8 := ⟨8, _, TX8, 16, rfl, rfl⟩
theorem lf_0_0 : LF 0 8 0 (some 1) := ⟨_, rfl, rfl⟩
theorem lf_0_1 : LF 0 8 1 (some 4) := ⟨_, rfl, rfl⟩
theorem lf_0_2 : LF 0 8 2 (some 7) := ⟨_, rfl, rfl⟩
theorem lf_0_3 : LF 0 8 3 (some 10) := ⟨_, rfl, rfl⟩
theorem lf_0_4 : LF 0 8 4 (some 15) := ⟨_, rfl, rfl⟩
theorem lf_0_5 : LF 0 8 5 (some 19) := ⟨_, rfl, rfl⟩
theorem lf_0_6 : LF 0 8 6 (some 23) := ⟨_, rfl, rfl⟩
theorem lf_0_7 : LF 0 8 7 (some 25) := ⟨_, rfl, rfl⟩
theorem lf_0_8 : LF 0 8 8 (some 30) := ⟨_, rfl, rfl⟩
theorem lf_0_9 : LF 0 8 9 (some 41) := ⟨_, rfl, rfl⟩
theorem lf_0_10 : LF 0 8 10 (some 43) := ⟨_, rfl, rfl⟩
theorem lf_0_11 : LF 0 8 11 (some 45) := ⟨_, rfl, rfl⟩
theorem lf_0_12 : LF 0 8 12 (some 47) := ⟨_, rfl, rfl⟩
theorem lf_0_13 : LF 0 8 13 (none) := ⟨_, rfl, rfl⟩
theorem lf_0_14 : LF 0 8 14 (none) := ⟨_, rfl, rfl⟩
theorem lf_0_15 : LF 0 8 15 (none) := ⟨_, rfl, rfl⟩
theorem rc_1 : RCV 1 RX6 := ⟨6, _, TX6, 2, rfl, rfl⟩
theorem lf_1_0 : LF 1 6 0 (some 2) := ⟨_, rfl, rfl⟩
theorem lf_1_1 : LF 1 6 1 (none) := ⟨_, rfl, rfl⟩
theorem rc_2 : RCV 2 RX5 := ⟨5, _, TX5, 1, rfl, rfl⟩
theorem lf_2_0 : LF 2 5 0 (some 3) := ⟨_, rfl, rfl⟩
theorem row_2 : ROW 2 90 := ⟨rfl, rfl⟩
theorem la_3 : LY[3]? = some (.inl (true, 90)) := rfl
theorem rc_4 : RCV 4 RX4 := ⟨4, _, TX4, 3, rfl, rfl⟩
theorem lf_4_0 : LF 4 4 0 (some 5) := ⟨_, rfl, rfl⟩
theorem lf_4_1 : LF 4 4 1 (none) := ⟨_, rfl, rfl⟩
theorem lf_4_2 : LF 4 4 2 (none) := ⟨_, rfl, rfl⟩
theorem rc_5 : RCV 5 RX5 := ⟨5, _, TX5, 1, rfl, rfl⟩
theorem lf_5_0 : LF 5 5 0 (some 6) := ⟨_, rfl, rfl⟩
theorem row_5 : ROW 5 48 := ⟨rfl, rfl⟩
theorem la_6 : LY[6]? = some (.inl (true, 48)) := rfl
theorem rc_7 : RCV 7 RX4 := ⟨4, _, TX4, 3, rfl, rfl⟩
theorem lf_7_0 : LF 7 4 0 (some 8) := ⟨_, rfl, rfl⟩
theorem lf_7_1 : LF 7 4 1 (none) := ⟨_, rfl, rfl⟩
theorem lf_7_2 : LF 7 4 2 (none) := ⟨_, rfl, rfl⟩
theorem rc_8 : RCV 8 RX5 := ⟨5, _, TX5, 1, rfl, rfl⟩
theorem lf_8_0 : LF 8 5 0 (some 9) := ⟨_, rfl, rfl⟩
theorem row_8 : ROW 8 48 := ⟨rfl, rfl⟩
theorem la_9 : LY[9]? = some (.inl (true, 48)) := rfl
theorem rc_10 : RCV 10 RX1 := ⟨1, _, TX1, 3, rfl, rfl⟩
theorem lf_10_0 : LF 10 1 0 (some 11) := ⟨_, rfl, rfl⟩
theorem lf_10_1 : LF 10 1 1 (some 13) := ⟨_, rfl, rfl⟩
theorem lf_10_2 : LF 10 1 2 (none) := ⟨_, rfl, rfl⟩
theorem rc_11 : RCV 11 RX5 := ⟨5, _, TX5, 1, rfl, rfl⟩
theorem lf_11_0 : LF 11 5 0 (some 12) := ⟨_, rfl, rfl⟩
theorem row_11 : ROW 11 10 := ⟨rfl, rfl⟩
theorem la_12 : LY[12]? = some (.inl (true, 10)) := rfl
theorem rc_13 : RCV 13 RX5 := ⟨5, _, TX5, 1, rfl, rfl⟩
theorem lf_13_0 : LF 13 5 0 (some 14) := ⟨_, rfl, rfl⟩
theorem row_13 : ROW 13 10 := ⟨rfl, rfl⟩
theorem la_14 : LY[14]? = some (.inl (true, 10)) := rfl
theorem rc_15 : RCV 15 RX2 := ⟨2, _, TX2, 3, rfl, rfl⟩
theorem lf_15_0 : LF 15 2 0 (some 16) := ⟨_, rfl, rfl⟩
theorem lf_15_1 : LF 15 2 1 (none) := ⟨_, rfl, rfl⟩
theorem lf_15_2 : LF 15 2 2 (none) := ⟨_, rfl, rfl⟩
theorem rc_16 : RCV 16 RX4 := ⟨4, _, TX4, 3, rfl, rfl⟩
theorem lf_16_0 : LF 16 4 0 (some 17) := ⟨_, rfl, rfl⟩
theorem lf_16_1 : LF 16 4 1 (none) := ⟨_, rfl, rfl⟩
theorem lf_16_2 : LF 16 4 2 (none) := ⟨_, rfl, rfl⟩
theorem rc_17 : RCV 17 RX5 := ⟨5, _, TX5, 1, rfl, rfl⟩
theorem lf_17_0 : LF 17 5 0 (some 18) := ⟨_, rfl, rfl⟩
theorem row_17 : ROW 17 48 := ⟨rfl, rfl⟩
theorem la_18 : LY[18]? = some (.inl (true, 48)) := rfl
theorem rc_19 : RCV 19 RX2 := ⟨2, _, TX2, 3, rfl, rfl⟩
theorem lf_19_0 : LF 19 2 0 (some 20) := ⟨_, rfl, rfl⟩
theorem lf_19_1 : LF 19 2 1 (none) := ⟨_, rfl, rfl⟩
theorem lf_19_2 : LF 19 2 2 (none) := ⟨_, rfl, rfl⟩
theorem rc_20 : RCV 20 RX4 := ⟨4, _, TX4, 3, rfl, rfl⟩
theorem lf_20_0 : LF 20 4 0 (some 21) := ⟨_, rfl, rfl⟩
theorem lf_20_1 : LF 20 4 1 (none) := ⟨_, rfl, rfl⟩
theorem lf_20_2 : LF 20 4 2 (none) := ⟨_, rfl, rfl⟩
theorem rc_21 : RCV 21 RX5 := ⟨5, _, TX5, 1, rfl, rfl⟩
theorem lf_21_0 : LF 21 5 0 (some 22) := ⟨_, rfl, rfl⟩
theorem row_21 : ROW 21 48 := ⟨rfl, rfl⟩
theorem la_22 : LY[22]? = some (.inl (true, 48)) := rfl
theorem rc_23 : RCV 23 RX5 := ⟨5, _, TX5, 1, rfl, rfl⟩
theorem lf_23_0 : LF 23 5 0 (some 24) := ⟨_, rfl, rfl⟩
theorem row_23 : ROW 23 6 := ⟨rfl, rfl⟩
theorem la_24 : LY[24]? = some (.inl (true, 6)) := rfl
theorem rc_25 : RCV 25 RX7 := ⟨7, _, TX7, 3, rfl, rfl⟩
theorem lf_25_0 : LF 25 7 0 (some 26) := ⟨_, rfl, rfl⟩
theorem lf_25_1 : LF 25 7 1 (some 28) := ⟨_, rfl, rfl⟩
theorem lf_25_2 : LF 25 7 2 (none) := ⟨_, rfl, rfl⟩
theorem rc_26 : RCV 26 RX5 := ⟨5, _, TX5, 1, rfl, rfl⟩
theorem lf_26_0 : LF 26 5 0 (some 27) := ⟨_, rfl, rfl⟩
theorem row_26 : ROW 26 9 := ⟨rfl, rfl⟩
theorem la_27 : LY[27]? = some (.inl (true, 9)) := rfl
theorem rc_28 : RCV 28 RX5 := ⟨5, _, TX5, 1, rfl, rfl⟩
theorem lf_28_0 : LF 28 5 0 (some 29) := ⟨_, rfl, rfl⟩
theorem row_28 : ROW 28 9 := ⟨rfl, rfl⟩
theorem la_29 : LY[29]? = some (.inl (true, 9)) := rfl
theorem rc_30 : RCV 30 RX0 := ⟨0, _, TX0, 6, rfl, rfl⟩
theorem lf_30_0 : LF 30 0 0 (some 31) := ⟨_, rfl, rfl⟩
theorem lf_30_1 : LF 30 0 1 (some 33) := ⟨_, rfl, rfl⟩
theorem lf_30_2 : LF 30 0 2 (some 35) := ⟨_, rfl, rfl⟩
theorem lf_30_3 : LF 30 0 3 (some 37) := ⟨_, rfl, rfl⟩
theorem lf_30_4 : LF 30 0 4 (some 39) := ⟨_, rfl, rfl⟩
theorem lf_30_5 : LF 30 0 5 (none) := ⟨_, rfl, rfl⟩
theorem rc_31 : RCV 31 RX5 := ⟨5, _, TX5, 1, rfl, rfl⟩
theorem lf_31_0 : LF 31 5 0 (some 32) := ⟨_, rfl, rfl⟩
theorem row_31 : ROW 31 11 := ⟨rfl, rfl⟩
theorem la_32 : LY[32]? = some (.inl (true, 11)) := rfl
theorem rc_33 : RCV 33 RX5 := ⟨5, _, TX5, 1, rfl, rfl⟩
theorem lf_33_0 : LF 33 5 0 (some 34) := ⟨_, rfl, rfl⟩
theorem row_33 : ROW 33 11 := ⟨rfl, rfl⟩
theorem la_34 : LY[34]? = some (.inl (true, 11)) := rfl
theorem rc_35 : RCV 35 RX5 := ⟨5, _, TX5, 1, rfl, rfl⟩
theorem lf_35_0 : LF 35 5 0 (some 36) := ⟨_, rfl, rfl⟩
theorem row_35 : ROW 35 11 := ⟨rfl, rfl⟩
theorem la_36 : LY[36]? = some (.inl (true, 11)) := rfl
theorem rc_37 : RCV 37 RX5 := ⟨5, _, TX5, 1, rfl, rfl⟩
theorem lf_37_0 : LF 37 5 0 (some 38) := ⟨_, rfl, rfl⟩
theorem row_37 : ROW 37 11 := ⟨rfl, rfl⟩
theorem la_38 : LY[38]? = some (.inl (true, 11)) := rfl
theorem rc_39 : RCV 39 RX5 := ⟨5, _, TX5, 1, rfl, rfl⟩
theorem lf_39_0 : LF 39 5 0 (some 40) := ⟨_, rfl, rfl⟩
theorem row_39 : ROW 39 44 := ⟨rfl, rfl⟩
theorem la_40 : LY[40]? = some (.inl (true, 44)) := rfl
theorem rc_41 : RCV 41 RX5 := ⟨5, _, TX5, 1, rfl, rfl⟩
theorem lf_41_0 : LF 41 5 0 (some 42) := ⟨_, rfl, rfl⟩
theorem row_41 : ROW 41 6 := ⟨rfl, rfl⟩
theorem la_42 : LY[42]? = some (.inl (true, 6)) := rfl
theorem rc_43 : RCV 43 RX5 := ⟨5, _, TX5, 1, rfl, rfl⟩
theorem lf_43_0 : LF 43 5 0 (some 44) := ⟨_, rfl, rfl⟩
theorem row_43 : ROW 43 105 := ⟨rfl, rfl⟩
theorem la_44 : LY[44]? = some (.inl (true, 105)) := rfl
theorem rc_45 : RCV 45 RX5 := ⟨5, _, TX5, 1, rfl, rfl⟩
theorem lf_45_0 : LF 45 5 0 (some 46) := ⟨_, rfl, rfl⟩
theorem row_45 : ROW 45 49 := ⟨rfl, rfl⟩
theorem la_46 : LY[46]? = some (.inl (true, 49)) := rfl
theorem rc_47 : RCV 47 RX3 := ⟨3, _, TX3, 5, rfl, rfl⟩
theorem lf_47_0 : LF 47 3 0 (some 48) := ⟨_, rfl, rfl⟩
theorem lf_47_1 : LF 47 3 1 (none) := ⟨_, rfl, rfl⟩
theorem lf_47_2 : LF 47 3 2 (none) := ⟨_, rfl, rfl⟩
theorem lf_47_3 : LF 47 3 3 (none) := ⟨_, rfl, rfl⟩
theorem lf_47_4 : LF 47 3 4 (none) := ⟨_, rfl, rfl⟩
theorem rc_48 : RCV 48 RX5 := ⟨5, _, TX5, 1, rfl, rfl⟩
theorem lf_48_0 : LF 48 5 0 (some 49) := ⟨_, rfl, rfl⟩
theorem row_48 : ROW 48 6 := ⟨rfl, rfl⟩
theorem la_49 : LY[49]? = some (.inl (true, 6)) := rfl
theorem rc_50 : RCV 50 RX9 := ⟨9, _, TX9, 27, rfl, rfl⟩
theorem lf_50_0 : LF 50 9 0 (none) := ⟨_, rfl, rfl⟩
theorem lf_50_1 : LF 50 9 1 (none) := ⟨_, rfl, rfl⟩
theorem lf_50_2 : LF 50 9 2 (some 51) := ⟨_, rfl, rfl⟩
theorem lf_50_3 : LF 50 9 3 (none) := ⟨_, rfl, rfl⟩
theorem lf_50_4 : LF 50 9 4 (none) := ⟨_, rfl, rfl⟩
theorem lf_50_5 : LF 50 9 5 (some 52) := ⟨_, rfl, rfl⟩
theorem lf_50_6 : LF 50 9 6 (none) := ⟨_, rfl, rfl⟩
theorem lf_50_7 : LF 50 9 7 (some 53) := ⟨_, rfl, rfl⟩
theorem lf_50_8 : LF 50 9 8 (some 54) := ⟨_, rfl, rfl⟩
theorem lf_50_9 : LF 50 9 9 (some 55) := ⟨_, rfl, rfl⟩
theorem lf_50_10 : LF 50 9 10 (none) := ⟨_, rfl, rfl⟩
theorem lf_50_11 : LF 50 9 11 (some 56) := ⟨_, rfl, rfl⟩
theorem lf_50_12 : LF 50 9 12 (none) := ⟨_, rfl, rfl⟩
theorem lf_50_13 : LF 50 9 13 (none) := ⟨_, rfl, rfl⟩
theorem lf_50_14 : LF 50 9 14 (none) := ⟨_, rfl, rfl⟩
theorem lf_50_15 : LF 50 9 15 (none) := ⟨_, rfl, rfl⟩
theorem lf_50_16 : LF 50 9 16 (none) := ⟨_, rfl, rfl⟩
theorem lf_50_17 : LF 50 9 17 (none) := ⟨_, rfl, rfl⟩
theorem lf_50_18 : LF 50 9 18 (some 57) := ⟨_, rfl, rfl⟩
theorem lf_50_19 : LF 50 9 19 (none) := ⟨_, rfl, rfl⟩
theorem lf_50_20 : LF 50 9 20 (none) := ⟨_, rfl, rfl⟩
theorem lf_50_21 : LF 50 9 21 (some 58) := ⟨_, rfl, rfl⟩
theorem lf_50_22 : LF 50 9 22 (some 59) := ⟨_, rfl, rfl⟩
theorem lf_50_23 : LF 50 9 23 (some 60) := ⟨_, rfl, rfl⟩
theorem lf_50_24 : LF 50 9 24 (some 61) := ⟨_, rfl, rfl⟩
theorem lf_50_25 : LF 50 9 25 (some 62) := ⟨_, rfl, rfl⟩
theorem lf_50_26 : LF 50 9 26 (some 63) := ⟨_, rfl, rfl⟩
theorem la_51 : LY[51]? = some (.inl (true, 49)) := rfl
theorem la_52 : LY[52]? = some (.inl (true, 490)) := rfl
theorem la_53 : LY[53]? = some (.inl (true, 6)) := rfl
theorem la_54 : LY[54]? = some (.inl (false, 2)) := rfl
theorem la_55 : LY[55]? = some (.inl (true, 98)) := rfl
theorem la_56 : LY[56]? = some (.inl (true, 90)) := rfl
theorem la_57 : LY[57]? = some (.inl (true, 48)) := rfl
theorem la_58 : LY[58]? = some (.inl (true, 10)) := rfl
theorem la_59 : LY[59]? = some (.inl (true, 10)) := rfl
theorem la_60 : LY[60]? = some (.inl (true, 44)) := rfl
theorem la_61 : LY[61]? = some (.inl (false, 10)) := rfl
theorem la_62 : LY[62]? = some (.inl (true, 105)) := rfl
theorem la_63 : LY[63]? = some (.inl (true, 5)) := rfl
theorem rdg_4 : RDG 4 := ⟨rfl, rfl, rfl⟩
theorem rdg_7 : RDG 7 := ⟨rfl, rfl, rfl⟩
theorem rdg_16 : RDG 16 := ⟨rfl, rfl, rfl⟩
theorem rdg_20 : RDG 20 := ⟨rfl, rfl, rfl⟩
theorem uwX0 : ∀ w ∈ u_ws RX0 TX0 6, w ∈ UW := uw_all [205, 207, 209, 211, 213, 215] (by decide +kernel) (by decide +kernel)
theorem uwX1 : ∀ w ∈ u_ws RX1 TX1 3, w ∈ UW := uw_all [141, 143, 145] (by decide +kernel) (by decide +kernel)
theorem uwX2 : ∀ w ∈ u_ws RX2 TX2 3, w ∈ UW := uw_all [160, 162, 164] (by decide +kernel) (by decide +kernel)
theorem uwX3 : ∀ w ∈ u_ws RX3 TX3 5, w ∈ UW := uw_all [235, 237, 239, 241, 243] (by decide +kernel) (by decide +kernel)
theorem uwX4 : ∀ w ∈ u_ws RX4 TX4 3, w ∈ UW := uw_all [120, 122, 124] (by decide +kernel) (by decide +kernel)
theorem uwX5 : ∀ w ∈ u_ws RX5 TX5 1, w ∈ UW := uw_all [90] (by decide +kernel) (by decide +kernel)
theorem uwX6 : ∀ w ∈ u_ws RX6 TX6 2, w ∈ UW := uw_all [97, 99] (by decide +kernel) (by decide +kernel)
theorem uwX7 : ∀ w ∈ u_ws RX7 TX7 3, w ∈ UW := uw_all [184, 186, 188] (by decide +kernel) (by decide +kernel)
theorem uwX8 : ∀ w ∈ u_ws RX8 TX8 16, w ∈ UW := uw_all [262, 264, 266, 268, 270, 272, 274, 276, 278, 280, 282, 284, 286, 288, 290, 292] (by decide +kernel) (by decide +kernel)
theorem uwX9 : ∀ w ∈ u_ws RX9 TX9 27, w ∈ UW := uw_all [675, 677, 679, 681, 683, 685, 687, 689, 691, 693, 695, 697, 699, 701, 703, 705, 707, 709, 711, 713, 715, 717, 719, 721, 723, 725, 727] (by decide +kernel) (by decide +kernel)
theorem fl_X0_14 : FLD RX0 14 0 0 := ⟨RX0, TX0, 6, rfl, uwX0, by decide, uw_mk 199 (by decide +kernel) rfl⟩
theorem fl_X0_20 : FLD RX0 20 0 1 := ⟨RX0, TX0, 6, rfl, uwX0, by decide, uw_mk 200 (by decide +kernel) rfl⟩
theorem fl_X0_23 : FLD RX0 23 0 2 := ⟨RX0, TX0, 6, rfl, uwX0, by decide, uw_mk 201 (by decide +kernel) rfl⟩
theorem fl_X0_26 : FLD RX0 26 0 3 := ⟨RX0, TX0, 6, rfl, uwX0, by decide, uw_mk 202 (by decide +kernel) rfl⟩
theorem fl_X0_29 : FLD RX0 29 0 4 := ⟨RX0, TX0, 6, rfl, uwX0, by decide, uw_mk 203 (by decide +kernel) rfl⟩
theorem fl_X0_32 : FLD RX0 32 0 5 := ⟨RX0, TX0, 6, rfl, uwX0, by decide, uw_mk 204 (by decide +kernel) rfl⟩
theorem fl_X1_14 : FLD RX1 14 1 0 := ⟨RX1, TX1, 3, rfl, uwX1, by decide, uw_mk 135 (by decide +kernel) rfl⟩
theorem fl_X1_20 : FLD RX1 20 1 1 := ⟨RX1, TX1, 3, rfl, uwX1, by decide, uw_mk 137 (by decide +kernel) rfl⟩
theorem fl_X1_23 : FLD RX1 23 1 2 := ⟨RX1, TX1, 3, rfl, uwX1, by decide, uw_mk 139 (by decide +kernel) rfl⟩
theorem fl_X3_14 : FLD RX3 14 3 0 := ⟨RX3, TX3, 5, rfl, uwX3, by decide, uw_mk 226 (by decide +kernel) rfl⟩
theorem fl_X3_50 : FLD RX3 50 3 1 := ⟨RX3, TX3, 5, rfl, uwX3, by decide, uw_mk 227 (by decide +kernel) rfl⟩
theorem fl_X3_57 : FLD RX3 57 3 2 := ⟨RX3, TX3, 5, rfl, uwX3, by decide, uw_mk 229 (by decide +kernel) rfl⟩
theorem fl_X3_60 : FLD RX3 60 3 3 := ⟨RX3, TX3, 5, rfl, uwX3, by decide, uw_mk 231 (by decide +kernel) rfl⟩
theorem fl_X3_63 : FLD RX3 63 3 4 := ⟨RX3, TX3, 5, rfl, uwX3, by decide, uw_mk 233 (by decide +kernel) rfl⟩
theorem fl_X4_14 : FLD RX4 14 4 0 := ⟨RX4, TX4, 3, rfl, uwX4, by decide, uw_mk 110 (by decide +kernel) rfl⟩
theorem fl_X4_20 : FLD RX4 20 4 1 := ⟨RX4, TX4, 3, rfl, uwX4, by decide, uw_mk 113 (by decide +kernel) rfl⟩
theorem fl_X4_24 : FLD RX4 24 4 2 := ⟨RX4, TX4, 3, rfl, uwX4, by decide, uw_mk 117 (by decide +kernel) rfl⟩
theorem fl_X5_13 : FLD RX5 13 5 0 := ⟨RX5, TX5, 1, rfl, uwX5, by decide, uw_mk 89 (by decide +kernel) rfl⟩
theorem fl_X6_14 : FLD RX6 14 6 0 := ⟨RX6, TX6, 2, rfl, uwX6, by decide, uw_mk 94 (by decide +kernel) rfl⟩
theorem fl_X6_20 : FLD RX6 20 6 1 := ⟨RX6, TX6, 2, rfl, uwX6, by decide, uw_mk 95 (by decide +kernel) rfl⟩
theorem fl_X7_14 : FLD RX7 14 7 0 := ⟨RX7, TX7, 3, rfl, uwX7, by decide, uw_mk 177 (by decide +kernel) rfl⟩
theorem fl_X7_20 : FLD RX7 20 7 1 := ⟨RX7, TX7, 3, rfl, uwX7, by decide, uw_mk 179 (by decide +kernel) rfl⟩
theorem fl_X7_23 : FLD RX7 23 7 2 := ⟨RX7, TX7, 3, rfl, uwX7, by decide, uw_mk 182 (by decide +kernel) rfl⟩
theorem fl_X8_12 : FLD RX8 12 8 0 := ⟨RX8, TX8, 16, rfl, uwX8, by decide, uw_mk 246 (by decide +kernel) rfl⟩
theorem fl_X8_19 : FLD RX8 19 8 1 := ⟨RX8, TX8, 16, rfl, uwX8, by decide, uw_mk 247 (by decide +kernel) rfl⟩
theorem fl_X8_23 : FLD RX8 23 8 2 := ⟨RX8, TX8, 16, rfl, uwX8, by decide, uw_mk 248 (by decide +kernel) rfl⟩
theorem fl_X8_29 : FLD RX8 29 8 3 := ⟨RX8, TX8, 16, rfl, uwX8, by decide, uw_mk 249 (by decide +kernel) rfl⟩
theorem fl_X8_36 : FLD RX8 36 8 4 := ⟨RX8, TX8, 16, rfl, uwX8, by decide, uw_mk 250 (by decide +kernel) rfl⟩
theorem fl_X8_40 : FLD RX8 40 8 5 := ⟨RX8, TX8, 16, rfl, uwX8, by decide, uw_mk 251 (by decide +kernel) rfl⟩
theorem fl_X8_48 : FLD RX8 48 8 6 := ⟨RX8, TX8, 16, rfl, uwX8, by decide, uw_mk 252 (by decide +kernel) rfl⟩
theorem fl_X8_55 : FLD RX8 55 8 7 := ⟨RX8, TX8, 16, rfl, uwX8, by decide, uw_mk 253 (by decide +kernel) rfl⟩
theorem fl_X8_62 : FLD RX8 62 8 8 := ⟨RX8, TX8, 16, rfl, uwX8, by decide, uw_mk 254 (by decide +kernel) rfl⟩
theorem fl_X8_66 : FLD RX8 66 8 9 := ⟨RX8, TX8, 16, rfl, uwX8, by decide, uw_mk 255 (by decide +kernel) rfl⟩
theorem fl_X8_69 : FLD RX8 69 8 10 := ⟨RX8, TX8, 16, rfl, uwX8, by decide, uw_mk 256 (by decide +kernel) rfl⟩
theorem fl_X8_72 : FLD RX8 72 8 11 := ⟨RX8, TX8, 16, rfl, uwX8, by decide, uw_mk 257 (by decide +kernel) rfl⟩
theorem fl_X8_78 : FLD RX8 78 8 12 := ⟨RX8, TX8, 16, rfl, uwX8, by decide, uw_mk 258 (by decide +kernel) rfl⟩
theorem fl_X8_97 : FLD RX8 97 8 14 := ⟨RX8, TX8, 16, rfl, uwX8, by decide, uw_mk 260 (by decide +kernel) rfl⟩
theorem fl_X8_103 : FLD RX8 103 8 13 := ⟨RX8, TX8, 16, rfl, uwX8, by decide, uw_mk 259 (by decide +kernel) rfl⟩
theorem fl_X8_110 : FLD RX8 110 8 15 := ⟨RX8, TX8, 16, rfl, uwX8, by decide, uw_mk 261 (by decide +kernel) rfl⟩
theorem fl_X9_7 : FLD RX9 7 9 2 := ⟨RX9, TX9, 27, rfl, uwX9, by decide, uw_mk 650 (by decide +kernel) rfl⟩
theorem fl_X9_13 : FLD RX9 13 9 5 := ⟨RX9, TX9, 27, rfl, uwX9, by decide, uw_mk 653 (by decide +kernel) rfl⟩
theorem fl_X9_16 : FLD RX9 16 9 7 := ⟨RX9, TX9, 27, rfl, uwX9, by decide, uw_mk 655 (by decide +kernel) rfl⟩
theorem fl_X9_19 : FLD RX9 19 9 8 := ⟨RX9, TX9, 27, rfl, uwX9, by decide, uw_mk 656 (by decide +kernel) rfl⟩
theorem fl_X9_23 : FLD RX9 23 9 9 := ⟨RX9, TX9, 27, rfl, uwX9, by decide, uw_mk 657 (by decide +kernel) rfl⟩
theorem fl_X9_26 : FLD RX9 26 9 11 := ⟨RX9, TX9, 27, rfl, uwX9, by decide, uw_mk 659 (by decide +kernel) rfl⟩
theorem fl_X9_29 : FLD RX9 29 9 18 := ⟨RX9, TX9, 27, rfl, uwX9, by decide, uw_mk 666 (by decide +kernel) rfl⟩
theorem fl_X9_32 : FLD RX9 32 9 21 := ⟨RX9, TX9, 27, rfl, uwX9, by decide, uw_mk 669 (by decide +kernel) rfl⟩
theorem fl_X9_35 : FLD RX9 35 9 22 := ⟨RX9, TX9, 27, rfl, uwX9, by decide, uw_mk 670 (by decide +kernel) rfl⟩
theorem fl_X9_38 : FLD RX9 38 9 23 := ⟨RX9, TX9, 27, rfl, uwX9, by decide, uw_mk 671 (by decide +kernel) rfl⟩
theorem fl_X9_41 : FLD RX9 41 9 24 := ⟨RX9, TX9, 27, rfl, uwX9, by decide, uw_mk 672 (by decide +kernel) rfl⟩
theorem fl_X9_44 : FLD RX9 44 9 25 := ⟨RX9, TX9, 27, rfl, uwX9, by decide, uw_mk 673 (by decide +kernel) rfl⟩
theorem fl_X9_47 : FLD RX9 47 9 26 := ⟨RX9, TX9, 27, rfl, uwX9, by decide, uw_mk 674 (by decide +kernel) rfl⟩
theorem fl_X9_54 : FLD RX9 54 9 10 := ⟨RX9, TX9, 27, rfl, uwX9, by decide, uw_mk 658 (by decide +kernel) rfl⟩
theorem fl_X9_58 : FLD RX9 58 9 12 := ⟨RX9, TX9, 27, rfl, uwX9, by decide, uw_mk 660 (by decide +kernel) rfl⟩
theorem fl_X9_64 : FLD RX9 64 9 13 := ⟨RX9, TX9, 27, rfl, uwX9, by decide, uw_mk 661 (by decide +kernel) rfl⟩
theorem fl_X9_67 : FLD RX9 67 9 14 := ⟨RX9, TX9, 27, rfl, uwX9, by decide, uw_mk 662 (by decide +kernel) rfl⟩
theorem fl_X9_73 : FLD RX9 73 9 16 := ⟨RX9, TX9, 27, rfl, uwX9, by decide, uw_mk 664 (by decide +kernel) rfl⟩
theorem fl_X9_76 : FLD RX9 76 9 17 := ⟨RX9, TX9, 27, rfl, uwX9, by decide, uw_mk 665 (by decide +kernel) rfl⟩
theorem fl_X9_83 : FLD RX9 83 9 15 := ⟨RX9, TX9, 27, rfl, uwX9, by decide, uw_mk 663 (by decide +kernel) rfl⟩
theorem fl_X9_86 : FLD RX9 86 9 0 := ⟨RX9, TX9, 27, rfl, uwX9, by decide, uw_mk 648 (by decide +kernel) rfl⟩
theorem fl_X9_89 : FLD RX9 89 9 1 := ⟨RX9, TX9, 27, rfl, uwX9, by decide, uw_mk 649 (by decide +kernel) rfl⟩
theorem fl_X9_92 : FLD RX9 92 9 3 := ⟨RX9, TX9, 27, rfl, uwX9, by decide, uw_mk 651 (by decide +kernel) rfl⟩
theorem fl_X9_95 : FLD RX9 95 9 6 := ⟨RX9, TX9, 27, rfl, uwX9, by decide, uw_mk 654 (by decide +kernel) rfl⟩
theorem fl_X9_109 : FLD RX9 109 9 19 := ⟨RX9, TX9, 27, rfl, uwX9, by decide, uw_mk 667 (by decide +kernel) rfl⟩
theorem fl_X9_112 : FLD RX9 112 9 20 := ⟨RX9, TX9, 27, rfl, uwX9, by decide, uw_mk 668 (by decide +kernel) rfl⟩
theorem fl_X9_176 : FLD RX9 176 9 4 := ⟨RX9, TX9, 27, rfl, uwX9, by decide, uw_mk 652 (by decide +kernel) rfl⟩
theorem fn_X0_36 : FLN RX0 36 7 2 := ⟨RX7, TX7, 3, "StemmaTree", rfl, uwX7, by decide, List.mem_of_getElem? (i := 16) rfl⟩
theorem fn_X0_48 : FLN RX0 48 7 0 := ⟨RX7, TX7, 3, "StemmaTree", rfl, uwX7, by decide, List.mem_of_getElem? (i := 14) rfl⟩
theorem fn_X0_55 : FLN RX0 55 7 1 := ⟨RX7, TX7, 3, "StemmaTree", rfl, uwX7, by decide, List.mem_of_getElem? (i := 15) rfl⟩
theorem fn_X3_20 : FLN RX3 20 4 1 := ⟨RX4, TX4, 3, "StemmaTree", rfl, uwX4, by decide, List.mem_of_getElem? (i := 2) rfl⟩
theorem fn_X3_26 : FLN RX3 26 4 2 := ⟨RX4, TX4, 3, "StemmaTree", rfl, uwX4, by decide, List.mem_of_getElem? (i := 5) rfl⟩
theorem fn_X6_28 : FLN RX6 28 4 1 := ⟨RX4, TX4, 3, "StemmaTree", rfl, uwX4, by decide, List.mem_of_getElem? (i := 3) rfl⟩
theorem fn_X6_33 : FLN RX6 33 4 2 := ⟨RX4, TX4, 3, "StemmaTree", rfl, uwX4, by decide, List.mem_of_getElem? (i := 6) rfl⟩
theorem fn_X8_82 : FLN RX8 82 6 1 := ⟨RX6, TX6, 2, "StemmaTree", rfl, uwX6, by decide, List.mem_of_getElem? (i := 0) rfl⟩
theorem fn_X8_100 : FLN RX8 100 1 2 := ⟨RX1, TX1, 3, "StemmaTree", rfl, uwX1, by decide, List.mem_of_getElem? (i := 10) rfl⟩
theorem fn_X8_106 : FLN RX8 106 2 2 := ⟨RX2, TX2, 3, "StemmaTree", rfl, uwX2, by decide, List.mem_of_getElem? (i := 13) rfl⟩
theorem fn_X8_113 : FLN RX8 113 4 1 := ⟨RX4, TX4, 3, "StemmaTree", rfl, uwX4, by decide, List.mem_of_getElem? (i := 4) rfl⟩
theorem fn_X8_149 : FLN RX8 149 1 0 := ⟨RX1, TX1, 3, "StemmaTree", rfl, uwX1, by decide, List.mem_of_getElem? (i := 8) rfl⟩
theorem fn_X8_155 : FLN RX8 155 1 1 := ⟨RX1, TX1, 3, "StemmaTree", rfl, uwX1, by decide, List.mem_of_getElem? (i := 9) rfl⟩
theorem fn_X8_158 : FLN RX8 158 4 0 := ⟨RX4, TX4, 3, "StemmaTree", rfl, uwX4, by decide, List.mem_of_getElem? (i := 1) rfl⟩
theorem fn_X8_179 : FLN RX8 179 7 2 := ⟨RX7, TX7, 3, "StemmaTree", rfl, uwX7, by decide, List.mem_of_getElem? (i := 17) rfl⟩
theorem fn_X8_212 : FLN RX8 212 4 2 := ⟨RX4, TX4, 3, "StemmaTree", rfl, uwX4, by decide, List.mem_of_getElem? (i := 7) rfl⟩
theorem fn_X8_218 : FLN RX8 218 3 1 := ⟨RX3, TX3, 5, "StemmaTree", rfl, uwX3, by decide, List.mem_of_getElem? (i := 18) rfl⟩
theorem fn_X8_221 : FLN RX8 221 3 2 := ⟨RX3, TX3, 5, "StemmaTree", rfl, uwX3, by decide, List.mem_of_getElem? (i := 19) rfl⟩
theorem fn_X8_224 : FLN RX8 224 3 3 := ⟨RX3, TX3, 5, "StemmaTree", rfl, uwX3, by decide, List.mem_of_getElem? (i := 20) rfl⟩
theorem fn_X8_227 : FLN RX8 227 3 4 := ⟨RX3, TX3, 5, "StemmaTree", rfl, uwX3, by decide, List.mem_of_getElem? (i := 21) rfl⟩
theorem fp_X0_5 : FPT 0 5 .int := ⟨RX0, TX0, 6, tyX0, rfl, tyX0_ok, nmX0, rfl, by decide +kernel⟩
theorem fp_X1_2 : FPT 1 2 .int := ⟨RX1, TX1, 3, tyX1, rfl, tyX1_ok, nmX1, rfl, by decide +kernel⟩
theorem fp_X2_2 : FPT 2 2 .boolean := ⟨RX2, TX2, 3, tyX2, rfl, tyX2_ok, nmX2, rfl, by decide +kernel⟩
theorem fp_X3_1 : FPT 3 1 .int := ⟨RX3, TX3, 5, tyX3, rfl, tyX3_ok, nmX3, rfl, by decide +kernel⟩
theorem fp_X3_2 : FPT 3 2 .int := ⟨RX3, TX3, 5, tyX3, rfl, tyX3_ok, nmX3, rfl, by decide +kernel⟩
theorem fp_X3_3 : FPT 3 3 .int := ⟨RX3, TX3, 5, tyX3, rfl, tyX3_ok, nmX3, rfl, by decide +kernel⟩
theorem fp_X3_4 : FPT 3 4 .int := ⟨RX3, TX3, 5, tyX3, rfl, tyX3_ok, nmX3, rfl, by decide +kernel⟩
theorem fp_X4_1 : FPT 4 1 .int := ⟨RX4, TX4, 3, tyX4, rfl, tyX4_ok, nmX4, rfl, by decide +kernel⟩
theorem fp_X4_2 : FPT 4 2 .int := ⟨RX4, TX4, 3, tyX4, rfl, tyX4_ok, nmX4, rfl, by decide +kernel⟩
theorem fp_X6_1 : FPT 6 1 .int := ⟨RX6, TX6, 2, tyX6, rfl, tyX6_ok, nmX6, rfl, by decide +kernel⟩
theorem fp_X7_2 : FPT 7 2 .int := ⟨RX7, TX7, 3, tyX7, rfl, tyX7_ok, nmX7, rfl, by decide +kernel⟩
theorem fp_X8_13 : FPT 8 13 .int := ⟨RX8, TX8, 16, tyX8, rfl, tyX8_ok, nmX8, rfl, by decide +kernel⟩
theorem fp_X8_14 : FPT 8 14 .int := ⟨RX8, TX8, 16, tyX8, rfl, tyX8_ok, nmX8, rfl, by decide +kernel⟩
theorem fp_X8_15 : FPT 8 15 .boolean := ⟨RX8, TX8, 16, tyX8, rfl, tyX8_ok, nmX8, rfl, by decide +kernel⟩
theorem fp_X9_0 : FPT 9 0 .int := ⟨RX9, TX9, 27, tyX9, rfl, tyX9_ok, nmX9, rfl, by decide +kernel⟩
theorem fp_X9_1 : FPT 9 1 .int := ⟨RX9, TX9, 27, tyX9, rfl, tyX9_ok, nmX9, rfl, by decide +kernel⟩
theorem fp_X9_3 : FPT 9 3 .int := ⟨RX9, TX9, 27, tyX9, rfl, tyX9_ok, nmX9, rfl, by decide +kernel⟩
theorem fp_X9_4 : FPT 9 4 .int := ⟨RX9, TX9, 27, tyX9, rfl, tyX9_ok, nmX9, rfl, by decide +kernel⟩
theorem fp_X9_6 : FPT 9 6 .int := ⟨RX9, TX9, 27, tyX9, rfl, tyX9_ok, nmX9, rfl, by decide +kernel⟩
theorem fp_X9_10 : FPT 9 10 .int := ⟨RX9, TX9, 27, tyX9, rfl, tyX9_ok, nmX9, rfl, by decide +kernel⟩
theorem fp_X9_12 : FPT 9 12 .int := ⟨RX9, TX9, 27, tyX9, rfl, tyX9_ok, nmX9, rfl, by decide +kernel⟩
theorem fp_X9_13 : FPT 9 13 .int := ⟨RX9, TX9, 27, tyX9, rfl, tyX9_ok, nmX9, rfl, by decide +kernel⟩
theorem fp_X9_14 : FPT 9 14 .int := ⟨RX9, TX9, 27, tyX9, rfl, tyX9_ok, nmX9, rfl, by decide +kernel⟩
theorem fp_X9_15 : FPT 9 15 .int := ⟨RX9, TX9, 27, tyX9, rfl, tyX9_ok, nmX9, rfl, by decide +kernel⟩
theorem fp_X9_16 : FPT 9 16 .int := ⟨RX9, TX9, 27, tyX9, rfl, tyX9_ok, nmX9, rfl, by decide +kernel⟩
theorem fp_X9_17 : FPT 9 17 .int := ⟨RX9, TX9, 27, tyX9, rfl, tyX9_ok, nmX9, rfl, by decide +kernel⟩
theorem fp_X9_19 : FPT 9 19 .int := ⟨RX9, TX9, 27, tyX9, rfl, tyX9_ok, nmX9, rfl, by decide +kernel⟩
theorem fp_X9_20 : FPT 9 20 .int := ⟨RX9, TX9, 27, tyX9, rfl, tyX9_ok, nmX9, rfl, by decide +kernel⟩
set_option maxRecDepth 20000 in
theorem ml_X0_75 : Cond.methodLink RX0 75 Lib.Math.min.name ∈ UW ∧ Cond.static Lib.Math.min.name ∈ UW ∧ Cond.initialized "java/lang/Math" ∈ UW ∧ Cond.code Lib.Math.min.name Lib.Math.min.code 2 (some .int) ∈ UW := ⟨uw_mk 523 (by decide +kernel) rfl, uw_mk 524 (by decide +kernel) rfl, uw_mk 57 (by decide +kernel) rfl, uw_mk 525 (by decide +kernel) rfl⟩
set_option maxRecDepth 20000 in
theorem ml_X3_45 : Cond.methodLink RX3 45 Lib.Math.min.name ∈ UW ∧ Cond.static Lib.Math.min.name ∈ UW ∧ Cond.initialized "java/lang/Math" ∈ UW ∧ Cond.code Lib.Math.min.name Lib.Math.min.code 2 (some .int) ∈ UW := ⟨uw_mk 589 (by decide +kernel) rfl, uw_mk 524 (by decide +kernel) rfl, uw_mk 57 (by decide +kernel) rfl, uw_mk 525 (by decide +kernel) rfl⟩
set_option maxRecDepth 20000 in
theorem ml_X8_255 : Cond.methodLink RX8 255 Lib.Math.max.name ∈ UW ∧ Cond.static Lib.Math.max.name ∈ UW ∧ Cond.initialized "java/lang/Math" ∈ UW ∧ Cond.code Lib.Math.max.name Lib.Math.max.code 2 (some .int) ∈ UW := ⟨uw_mk 505 (by decide +kernel) rfl, uw_mk 87 (by decide +kernel) rfl, uw_mk 57 (by decide +kernel) rfl, uw_mk 88 (by decide +kernel) rfl⟩
set_option maxRecDepth 20000 in
theorem ml_X0_81 : MLSN RX0 81 yX8_bitOf cX8_bitOf 2 (some .int) 2 := ⟨⟨"StemmaTree", List.mem_of_getElem? (i := 32) rfl⟩, uw_mk 428 (by decide +kernel) rfl, uw_mk 54 (by decide +kernel) rfl, uw_mk 429 rfl rfl, ⟨by decide +kernel, by decide +kernel, by decide +kernel⟩⟩
set_option maxRecDepth 20000 in
theorem ml_X4_56 : MLSN RX4 56 yX8_bitsOf cX8_bitsOf 1 (some .int) 1 := ⟨⟨"StemmaTree", List.mem_of_getElem? (i := 30) rfl⟩, uw_mk 425 (by decide +kernel) rfl, uw_mk 54 (by decide +kernel) rfl, uw_mk 426 rfl rfl, ⟨by decide +kernel, by decide +kernel, by decide +kernel⟩⟩
set_option maxRecDepth 20000 in
theorem ml_X4_59 : MLSN RX4 59 yX8_bitOf cX8_bitOf 2 (some .int) 2 := ⟨⟨"StemmaTree", List.mem_of_getElem? (i := 31) rfl⟩, uw_mk 428 (by decide +kernel) rfl, uw_mk 54 (by decide +kernel) rfl, uw_mk 429 rfl rfl, ⟨by decide +kernel, by decide +kernel, by decide +kernel⟩⟩
set_option maxRecDepth 20000 in
theorem ml_X0_62 : MLS RX0 62 yX0_emptyPlaces cX0_emptyPlaces 3 (some .int) 1 := ⟨uw_mk 470 (by decide +kernel) rfl, uw_mk 471 (by decide +kernel) rfl, uw_mk 62 (by decide +kernel) rfl, uw_mk 472 rfl rfl, ⟨by decide +kernel, by decide +kernel, by decide +kernel⟩⟩
set_option maxRecDepth 20000 in
theorem ml_X0_65 : MLS RX0 65 yJ6_bitCount_0f7a4 cJ6_bitCount_0f7a4 1 (some .int) 1 := ⟨uw_mk 474 (by decide +kernel) rfl, uw_mk 475 (by decide +kernel) rfl, uw_mk 65 (by decide +kernel) rfl, uw_mk 476 rfl rfl, ⟨by decide +kernel, by decide +kernel, by decide +kernel⟩⟩
set_option maxRecDepth 20000 in
theorem ml_X3_40 : MLS RX3 40 yJ6_bitCount_0f7a4 cJ6_bitCount_0f7a4 1 (some .int) 1 := ⟨uw_mk 588 (by decide +kernel) rfl, uw_mk 475 (by decide +kernel) rfl, uw_mk 65 (by decide +kernel) rfl, uw_mk 476 rfl rfl, ⟨by decide +kernel, by decide +kernel, by decide +kernel⟩⟩
set_option maxRecDepth 20000 in
theorem ml_X6_40 : MLS RX6 40 yX6_endItem cX6_endItem 2 (some .boolean) 2 := ⟨uw_mk 323 (by decide +kernel) rfl, uw_mk 324 (by decide +kernel) rfl, uw_mk 55 (by decide +kernel) rfl, uw_mk 325 rfl rfl, ⟨by decide +kernel, by decide +kernel, by decide +kernel⟩⟩
set_option maxRecDepth 20000 in
theorem ml_X6_44 : MLS RX6 44 yX6_readingFor cX6_readingFor 1 (some .int) 1 := ⟨uw_mk 326 (by decide +kernel) rfl, uw_mk 327 (by decide +kernel) rfl, uw_mk 55 (by decide +kernel) rfl, uw_mk 328 rfl rfl, ⟨by decide +kernel, by decide +kernel, by decide +kernel⟩⟩
set_option maxRecDepth 20000 in
theorem ml_X6_47 : MLS RX6 47 yX6_mostReadings cX6_mostReadings 1 (some .int) 1 := ⟨uw_mk 329 (by decide +kernel) rfl, uw_mk 330 (by decide +kernel) rfl, uw_mk 55 (by decide +kernel) rfl, uw_mk 331 rfl rfl, ⟨by decide +kernel, by decide +kernel, by decide +kernel⟩⟩
set_option maxRecDepth 20000 in
theorem ml_X7_31 : MLS RX7 31 yX7_edgeOf cX7_edgeOf 2 (some .int) 2 := ⟨uw_mk 444 (by decide +kernel) rfl, uw_mk 445 (by decide +kernel) rfl, uw_mk 61 (by decide +kernel) rfl, uw_mk 446 rfl rfl, ⟨by decide +kernel, by decide +kernel, by decide +kernel⟩⟩
set_option maxRecDepth 20000 in
theorem ml_X8_170 : MLS RX8 170 yX8_edgesOf cX8_edgesOf 1 (some .int) 1 := ⟨uw_mk 502 (by decide +kernel) rfl, uw_mk 503 (by decide +kernel) rfl, uw_mk 54 (by decide +kernel) rfl, uw_mk 504 rfl rfl, ⟨by decide +kernel, by decide +kernel, by decide +kernel⟩⟩
set_option maxRecDepth 20000 in
theorem ml_X8_182 : MLS RX8 182 yX8_treesOf cX8_treesOf 1 (some .int) 1 := ⟨uw_mk 397 (by decide +kernel) rfl, uw_mk 398 (by decide +kernel) rfl, uw_mk 54 (by decide +kernel) rfl, uw_mk 399 rfl rfl, ⟨by decide +kernel, by decide +kernel, by decide +kernel⟩⟩
set_option maxRecDepth 20000 in
theorem ml_X8_263 : MLS RX8 263 yX8_bitsOf cX8_bitsOf 1 (some .int) 1 := ⟨uw_mk 430 (by decide +kernel) rfl, uw_mk 425 (by decide +kernel) rfl, uw_mk 54 (by decide +kernel) rfl, uw_mk 426 rfl rfl, ⟨by decide +kernel, by decide +kernel, by decide +kernel⟩⟩
set_option maxRecDepth 20000 in
theorem ml_X8_270 : MLS RX8 270 yX8_bitOf cX8_bitOf 2 (some .int) 2 := ⟨uw_mk 559 (by decide +kernel) rfl, uw_mk 428 (by decide +kernel) rfl, uw_mk 54 (by decide +kernel) rfl, uw_mk 429 rfl rfl, ⟨by decide +kernel, by decide +kernel, by decide +kernel⟩⟩
set_option maxRecDepth 20000 in
theorem ml_X8_277 : MLS RX8 277 yX7_edgeOf cX7_edgeOf 2 (some .int) 2 := ⟨uw_mk 485 (by decide +kernel) rfl, uw_mk 445 (by decide +kernel) rfl, uw_mk 61 (by decide +kernel) rfl, uw_mk 446 rfl rfl, ⟨by decide +kernel, by decide +kernel, by decide +kernel⟩⟩
set_option maxRecDepth 20000 in
theorem ml_X8_280 : MLS RX8 280 yX7_weightOf cX7_weightOf 1 (some .int) 1 := ⟨uw_mk 486 (by decide +kernel) rfl, uw_mk 487 (by decide +kernel) rfl, uw_mk 61 (by decide +kernel) rfl, uw_mk 488 rfl rfl, ⟨by decide +kernel, by decide +kernel, by decide +kernel⟩⟩
set_option maxRecDepth 20000 in
theorem ml_X8_283 : MLS RX8 283 yJ6_bitCount_0f7a4 cJ6_bitCount_0f7a4 1 (some .int) 1 := ⟨uw_mk 546 (by decide +kernel) rfl, uw_mk 475 (by decide +kernel) rfl, uw_mk 65 (by decide +kernel) rfl, uw_mk 476 rfl rfl, ⟨by decide +kernel, by decide +kernel, by decide +kernel⟩⟩
set_option maxRecDepth 20000 in
theorem ml_X9_50 : MLS RX9 50 yX9_in cX9_in 3 (some .boolean) 3 := ⟨uw_mk 735 (by decide +kernel) rfl, uw_mk 736 (by decide +kernel) rfl, uw_mk 64 (by decide +kernel) rfl, uw_mk 737 rfl rfl, ⟨by decide +kernel, by decide +kernel, by decide +kernel⟩⟩
set_option maxRecDepth 20000 in
theorem ml_X9_119 : MLS RX9 119 yX9_edgeOf cX9_edgeOf 2 (some .int) 2 := ⟨uw_mk 798 (by decide +kernel) rfl, uw_mk 799 (by decide +kernel) rfl, uw_mk 64 (by decide +kernel) rfl, uw_mk 800 rfl rfl, ⟨by decide +kernel, by decide +kernel, by decide +kernel⟩⟩
set_option maxRecDepth 20000 in
theorem ml_X9_122 : MLS RX9 122 yX9_between cX9_between 3 (some .int) 3 := ⟨uw_mk 821 (by decide +kernel) rfl, uw_mk 822 (by decide +kernel) rfl, uw_mk 64 (by decide +kernel) rfl, uw_mk 823 rfl rfl, ⟨by decide +kernel, by decide +kernel, by decide +kernel⟩⟩
set_option maxRecDepth 20000 in
theorem ml_X9_169 : MLS RX9 169 yX9_has cX9_has 2 (some .boolean) 2 := ⟨uw_mk 860 (by decide +kernel) rfl, uw_mk 861 (by decide +kernel) rfl, uw_mk 64 (by decide +kernel) rfl, uw_mk 862 rfl rfl, ⟨by decide +kernel, by decide +kernel, by decide +kernel⟩⟩
set_option maxRecDepth 20000 in
theorem ml_X9_185 : MLS RX9 185 yX9_isNear cX9_isNear 4 (some .boolean) 2 := ⟨uw_mk 883 (by decide +kernel) rfl, uw_mk 884 (by decide +kernel) rfl, uw_mk 64 (by decide +kernel) rfl, uw_mk 885 rfl rfl, ⟨by decide +kernel, by decide +kernel, by decide +kernel⟩⟩
set_option maxRecDepth 20000 in
theorem ml_X0_41 : MLV RX0 41 yX0_append cX0_append 3 (none) 2 := ⟨uw_mk 456 (by decide +kernel) rfl, uw_mk 458 (by decide +kernel) rfl, uw_mk 8 (by decide +kernel) rfl, uw_mk 62 (by decide +kernel) rfl, uw_mk 459 rfl rfl, ⟨by decide +kernel, by decide +kernel, by decide +kernel⟩⟩
set_option maxRecDepth 20000 in
theorem ml_X0_45 : MLV RX0 45 yX5_put cX5_put 3 (none) 2 := ⟨uw_mk 460 (by decide +kernel) rfl, uw_mk 304 (by decide +kernel) rfl, uw_mk 305 (by decide +kernel) rfl, uw_mk 56 (by decide +kernel) rfl, uw_mk 306 rfl rfl, ⟨by decide +kernel, by decide +kernel, by decide +kernel⟩⟩
set_option maxRecDepth 20000 in
theorem ml_X0_51 : MLV RX0 51 yX5_at cX5_at 2 (some .int) 1 := ⟨uw_mk 461 (by decide +kernel) rfl, uw_mk 320 (by decide +kernel) rfl, uw_mk 321 (by decide +kernel) rfl, uw_mk 56 (by decide +kernel) rfl, uw_mk 322 rfl rfl, ⟨by decide +kernel, by decide +kernel, by decide +kernel⟩⟩
set_option maxRecDepth 20000 in
theorem ml_X0_58 : MLV RX0 58 yX0_appendBelow cX0_appendBelow 5 (none) 3 := ⟨uw_mk 462 (by decide +kernel) rfl, uw_mk 464 (by decide +kernel) rfl, uw_mk 9 (by decide +kernel) rfl, uw_mk 62 (by decide +kernel) rfl, uw_mk 465 rfl rfl, ⟨by decide +kernel, by decide +kernel, by decide +kernel⟩⟩
set_option maxRecDepth 20000 in
theorem ml_X0_71 : MLV RX0 71 yX0_costOf cX0_costOf 6 (some .int) 4 := ⟨uw_mk 514 (by decide +kernel) rfl, uw_mk 516 (by decide +kernel) rfl, uw_mk 12 (by decide +kernel) rfl, uw_mk 62 (by decide +kernel) rfl, uw_mk 517 rfl rfl, ⟨by decide +kernel, by decide +kernel, by decide +kernel⟩⟩
set_option maxRecDepth 20000 in
theorem ml_X0_84 : MLV RX0 84 yX0_costDown cX0_costDown 6 (some .int) 2 := ⟨uw_mk 519 (by decide +kernel) rfl, uw_mk 521 (by decide +kernel) rfl, uw_mk 13 (by decide +kernel) rfl, uw_mk 62 (by decide +kernel) rfl, uw_mk 522 rfl rfl, ⟨by decide +kernel, by decide +kernel, by decide +kernel⟩⟩
set_option maxRecDepth 20000 in
theorem ml_X1_27 : MLV RX1 27 yX1_loseOldest cX1_loseOldest 2 (none) 0 := ⟨uw_mk 382 (by decide +kernel) rfl, uw_mk 384 (by decide +kernel) rfl, uw_mk 0 (by decide +kernel) rfl, uw_mk 59 (by decide +kernel) rfl, uw_mk 385 rfl rfl, ⟨by decide +kernel, by decide +kernel, by decide +kernel⟩⟩
set_option maxRecDepth 20000 in
theorem ml_X1_30 : MLV RX1 30 yX5_put cX5_put 3 (none) 2 := ⟨uw_mk 387 (by decide +kernel) rfl, uw_mk 304 (by decide +kernel) rfl, uw_mk 305 (by decide +kernel) rfl, uw_mk 56 (by decide +kernel) rfl, uw_mk 306 rfl rfl, ⟨by decide +kernel, by decide +kernel, by decide +kernel⟩⟩
set_option maxRecDepth 20000 in
theorem ml_X1_34 : MLV RX1 34 yX5_at cX5_at 2 (some .int) 1 := ⟨uw_mk 386 (by decide +kernel) rfl, uw_mk 320 (by decide +kernel) rfl, uw_mk 321 (by decide +kernel) rfl, uw_mk 56 (by decide +kernel) rfl, uw_mk 322 rfl rfl, ⟨by decide +kernel, by decide +kernel, by decide +kernel⟩⟩
set_option maxRecDepth 20000 in
theorem ml_X3_29 : MLV RX3 29 yX4_at cX4_at 3 (some .int) 2 := ⟨uw_mk 581 (by decide +kernel) rfl, uw_mk 368 (by decide +kernel) rfl, uw_mk 369 (by decide +kernel) rfl, uw_mk 58 (by decide +kernel) rfl, uw_mk 370 rfl rfl, ⟨by decide +kernel, by decide +kernel, by decide +kernel⟩⟩
set_option maxRecDepth 20000 in
theorem ml_X3_33 : MLV RX3 33 yX5_put cX5_put 3 (none) 2 := ⟨uw_mk 582 (by decide +kernel) rfl, uw_mk 304 (by decide +kernel) rfl, uw_mk 305 (by decide +kernel) rfl, uw_mk 56 (by decide +kernel) rfl, uw_mk 306 rfl rfl, ⟨by decide +kernel, by decide +kernel, by decide +kernel⟩⟩
set_option maxRecDepth 20000 in
theorem ml_X3_37 : MLV RX3 37 yX5_at cX5_at 2 (some .int) 1 := ⟨uw_mk 587 (by decide +kernel) rfl, uw_mk 320 (by decide +kernel) rfl, uw_mk 321 (by decide +kernel) rfl, uw_mk 56 (by decide +kernel) rfl, uw_mk 322 rfl rfl, ⟨by decide +kernel, by decide +kernel, by decide +kernel⟩⟩
set_option maxRecDepth 20000 in
theorem ml_X3_53 : MLV RX3 53 yX3_tryTwo cX3_tryTwo 7 (none) 3 := ⟨uw_mk 594 (by decide +kernel) rfl, uw_mk 596 (by decide +kernel) rfl, uw_mk 19 (by decide +kernel) rfl, uw_mk 63 (by decide +kernel) rfl, uw_mk 597 rfl rfl, ⟨by decide +kernel, by decide +kernel, by decide +kernel⟩⟩
set_option maxRecDepth 20000 in
theorem ml_X4_27 : MLV RX4 27 yX4_hasCopy cX4_hasCopy 2 (some .boolean) 1 := ⟨uw_mk 359 (by decide +kernel) rfl, uw_mk 360 (by decide +kernel) rfl, uw_mk 361 (by decide +kernel) rfl, uw_mk 58 (by decide +kernel) rfl, uw_mk 362 rfl rfl, ⟨by decide +kernel, by decide +kernel, by decide +kernel⟩⟩
set_option maxRecDepth 20000 in
theorem ml_X4_31 : MLV RX4 31 yX4_hasPlace cX4_hasPlace 2 (some .boolean) 1 := ⟨uw_mk 363 (by decide +kernel) rfl, uw_mk 364 (by decide +kernel) rfl, uw_mk 365 (by decide +kernel) rfl, uw_mk 58 (by decide +kernel) rfl, uw_mk 366 rfl rfl, ⟨by decide +kernel, by decide +kernel, by decide +kernel⟩⟩
set_option maxRecDepth 20000 in
theorem ml_X4_34 : MLV RX4 34 yX4_has cX4_has 3 (some .boolean) 2 := ⟨uw_mk 371 (by decide +kernel) rfl, uw_mk 356 (by decide +kernel) rfl, uw_mk 357 (by decide +kernel) rfl, uw_mk 58 (by decide +kernel) rfl, uw_mk 358 rfl rfl, ⟨by decide +kernel, by decide +kernel, by decide +kernel⟩⟩
set_option maxRecDepth 20000 in
theorem ml_X4_38 : MLV RX4 38 yX4_cellOf cX4_cellOf 3 (some .int) 2 := ⟨uw_mk 336 (by decide +kernel) rfl, uw_mk 337 (by decide +kernel) rfl, uw_mk 338 (by decide +kernel) rfl, uw_mk 58 (by decide +kernel) rfl, uw_mk 339 rfl rfl, ⟨by decide +kernel, by decide +kernel, by decide +kernel⟩⟩
set_option maxRecDepth 20000 in
theorem ml_X4_42 : MLV RX4 42 yX5_at cX5_at 2 (some .int) 1 := ⟨uw_mk 372 (by decide +kernel) rfl, uw_mk 320 (by decide +kernel) rfl, uw_mk 321 (by decide +kernel) rfl, uw_mk 56 (by decide +kernel) rfl, uw_mk 322 rfl rfl, ⟨by decide +kernel, by decide +kernel, by decide +kernel⟩⟩
set_option maxRecDepth 20000 in
theorem ml_X4_46 : MLV RX4 46 yX5_put cX5_put 3 (none) 2 := ⟨uw_mk 340 (by decide +kernel) rfl, uw_mk 304 (by decide +kernel) rfl, uw_mk 305 (by decide +kernel) rfl, uw_mk 56 (by decide +kernel) rfl, uw_mk 306 rfl rfl, ⟨by decide +kernel, by decide +kernel, by decide +kernel⟩⟩
set_option maxRecDepth 20000 in
theorem ml_X4_50 : MLV RX4 50 yX5_fillFrom cX5_fillFrom 3 (none) 1 := ⟨uw_mk 345 (by decide +kernel) rfl, uw_mk 346 (by decide +kernel) rfl, uw_mk 347 (by decide +kernel) rfl, uw_mk 56 (by decide +kernel) rfl, uw_mk 348 rfl rfl, ⟨by decide +kernel, by decide +kernel, by decide +kernel⟩⟩
set_option maxRecDepth 20000 in
theorem ml_X4_54 : MLV RX4 54 yX4_at cX4_at 3 (some .int) 2 := ⟨uw_mk 423 (by decide +kernel) rfl, uw_mk 368 (by decide +kernel) rfl, uw_mk 369 (by decide +kernel) rfl, uw_mk 58 (by decide +kernel) rfl, uw_mk 370 rfl rfl, ⟨by decide +kernel, by decide +kernel, by decide +kernel⟩⟩
set_option maxRecDepth 20000 in
theorem ml_X5_19 : MLV RX5 19 yX5_at cX5_at 2 (some .int) 1 := ⟨uw_mk 349 (by decide +kernel) rfl, uw_mk 320 (by decide +kernel) rfl, uw_mk 321 (by decide +kernel) rfl, uw_mk 56 (by decide +kernel) rfl, uw_mk 322 rfl rfl, ⟨by decide +kernel, by decide +kernel, by decide +kernel⟩⟩
set_option maxRecDepth 20000 in
theorem ml_X5_23 : MLV RX5 23 yX5_put cX5_put 3 (none) 2 := ⟨uw_mk 350 (by decide +kernel) rfl, uw_mk 304 (by decide +kernel) rfl, uw_mk 305 (by decide +kernel) rfl, uw_mk 56 (by decide +kernel) rfl, uw_mk 306 rfl rfl, ⟨by decide +kernel, by decide +kernel, by decide +kernel⟩⟩
set_option maxRecDepth 20000 in
theorem ml_X6_24 : MLV RX6 24 yX5_put cX5_put 3 (none) 2 := ⟨uw_mk 303 (by decide +kernel) rfl, uw_mk 304 (by decide +kernel) rfl, uw_mk 305 (by decide +kernel) rfl, uw_mk 56 (by decide +kernel) rfl, uw_mk 306 rfl rfl, ⟨by decide +kernel, by decide +kernel, by decide +kernel⟩⟩
set_option maxRecDepth 20000 in
theorem ml_X6_36 : MLV RX6 36 yX5_at cX5_at 2 (some .int) 1 := ⟨uw_mk 319 (by decide +kernel) rfl, uw_mk 320 (by decide +kernel) rfl, uw_mk 321 (by decide +kernel) rfl, uw_mk 56 (by decide +kernel) rfl, uw_mk 322 rfl rfl, ⟨by decide +kernel, by decide +kernel, by decide +kernel⟩⟩
set_option maxRecDepth 20000 in
theorem ml_X6_51 : MLV RX6 51 yX4_put cX4_put 4 (none) 3 := ⟨uw_mk 332 (by decide +kernel) rfl, uw_mk 333 (by decide +kernel) rfl, uw_mk 334 (by decide +kernel) rfl, uw_mk 58 (by decide +kernel) rfl, uw_mk 335 rfl rfl, ⟨by decide +kernel, by decide +kernel, by decide +kernel⟩⟩
set_option maxRecDepth 20000 in
theorem ml_X7_27 : MLV RX7 27 yX7_addEdge cX7_addEdge 3 (none) 2 := ⟨uw_mk 439 (by decide +kernel) rfl, uw_mk 441 (by decide +kernel) rfl, uw_mk 6 (by decide +kernel) rfl, uw_mk 61 (by decide +kernel) rfl, uw_mk 442 rfl rfl, ⟨by decide +kernel, by decide +kernel, by decide +kernel⟩⟩
set_option maxRecDepth 20000 in
theorem ml_X7_35 : MLV RX7 35 yX7_hang cX7_hang 5 (none) 2 := ⟨uw_mk 447 (by decide +kernel) rfl, uw_mk 449 (by decide +kernel) rfl, uw_mk 7 (by decide +kernel) rfl, uw_mk 61 (by decide +kernel) rfl, uw_mk 450 rfl rfl, ⟨by decide +kernel, by decide +kernel, by decide +kernel⟩⟩
set_option maxRecDepth 20000 in
theorem ml_X7_38 : MLV RX7 38 yX5_at cX5_at 2 (some .int) 1 := ⟨uw_mk 451 (by decide +kernel) rfl, uw_mk 320 (by decide +kernel) rfl, uw_mk 321 (by decide +kernel) rfl, uw_mk 56 (by decide +kernel) rfl, uw_mk 322 rfl rfl, ⟨by decide +kernel, by decide +kernel, by decide +kernel⟩⟩
set_option maxRecDepth 20000 in
theorem ml_X7_42 : MLV RX7 42 yX5_put cX5_put 3 (none) 2 := ⟨uw_mk 443 (by decide +kernel) rfl, uw_mk 304 (by decide +kernel) rfl, uw_mk 305 (by decide +kernel) rfl, uw_mk 56 (by decide +kernel) rfl, uw_mk 306 rfl rfl, ⟨by decide +kernel, by decide +kernel, by decide +kernel⟩⟩
set_option maxRecDepth 20000 in
theorem ml_X8_86 : MLV RX8 86 yX6_append cX6_append 2 (none) 1 := ⟨uw_mk 299 (by decide +kernel) rfl, uw_mk 300 (by decide +kernel) rfl, uw_mk 301 (by decide +kernel) rfl, uw_mk 55 (by decide +kernel) rfl, uw_mk 302 rfl rfl, ⟨by decide +kernel, by decide +kernel, by decide +kernel⟩⟩
set_option maxRecDepth 20000 in
theorem ml_X8_89 : MLV RX8 89 yX6_tell cX6_tell 7 (some .int) 1 := ⟨uw_mk 315 (by decide +kernel) rfl, uw_mk 316 (by decide +kernel) rfl, uw_mk 317 (by decide +kernel) rfl, uw_mk 55 (by decide +kernel) rfl, uw_mk 318 rfl rfl, ⟨by decide +kernel, by decide +kernel, by decide +kernel⟩⟩
set_option maxRecDepth 20000 in
theorem ml_X8_93 : MLV RX8 93 yX4_take cX4_take 2 (none) 1 := ⟨uw_mk 341 (by decide +kernel) rfl, uw_mk 342 (by decide +kernel) rfl, uw_mk 343 (by decide +kernel) rfl, uw_mk 58 (by decide +kernel) rfl, uw_mk 344 rfl rfl, ⟨by decide +kernel, by decide +kernel, by decide +kernel⟩⟩
set_option maxRecDepth 20000 in
theorem ml_X8_116 : MLV RX8 116 yX4_has cX4_has 3 (some .boolean) 2 := ⟨uw_mk 355 (by decide +kernel) rfl, uw_mk 356 (by decide +kernel) rfl, uw_mk 357 (by decide +kernel) rfl, uw_mk 58 (by decide +kernel) rfl, uw_mk 358 rfl rfl, ⟨by decide +kernel, by decide +kernel, by decide +kernel⟩⟩
set_option maxRecDepth 20000 in
theorem ml_X8_120 : MLV RX8 120 yX4_at cX4_at 3 (some .int) 2 := ⟨uw_mk 367 (by decide +kernel) rfl, uw_mk 368 (by decide +kernel) rfl, uw_mk 369 (by decide +kernel) rfl, uw_mk 58 (by decide +kernel) rfl, uw_mk 370 rfl rfl, ⟨by decide +kernel, by decide +kernel, by decide +kernel⟩⟩
set_option maxRecDepth 20000 in
theorem ml_X8_124 : MLV RX8 124 yX4_cellOf cX4_cellOf 3 (some .int) 2 := ⟨uw_mk 377 (by decide +kernel) rfl, uw_mk 337 (by decide +kernel) rfl, uw_mk 338 (by decide +kernel) rfl, uw_mk 58 (by decide +kernel) rfl, uw_mk 339 rfl rfl, ⟨by decide +kernel, by decide +kernel, by decide +kernel⟩⟩
set_option maxRecDepth 20000 in
theorem ml_X8_127 : MLV RX8 127 yX1_note cX1_note 3 (none) 2 := ⟨uw_mk 378 (by decide +kernel) rfl, uw_mk 379 (by decide +kernel) rfl, uw_mk 380 (by decide +kernel) rfl, uw_mk 59 (by decide +kernel) rfl, uw_mk 381 rfl rfl, ⟨by decide +kernel, by decide +kernel, by decide +kernel⟩⟩
set_option maxRecDepth 20000 in
theorem ml_X8_131 : MLV RX8 131 yX4_put cX4_put 4 (none) 3 := ⟨uw_mk 388 (by decide +kernel) rfl, uw_mk 333 (by decide +kernel) rfl, uw_mk 334 (by decide +kernel) rfl, uw_mk 58 (by decide +kernel) rfl, uw_mk 335 rfl rfl, ⟨by decide +kernel, by decide +kernel, by decide +kernel⟩⟩
set_option maxRecDepth 20000 in
theorem ml_X8_135 : MLV RX8 135 yX8_isTree cX8_isTree 2 (some .boolean) 1 := ⟨uw_mk 393 (by decide +kernel) rfl, uw_mk 395 (by decide +kernel) rfl, uw_mk 1 (by decide +kernel) rfl, uw_mk 54 (by decide +kernel) rfl, uw_mk 396 rfl rfl, ⟨by decide +kernel, by decide +kernel, by decide +kernel⟩⟩
set_option maxRecDepth 20000 in
theorem ml_X8_139 : MLV RX8 139 yX8_becomeTree cX8_becomeTree 2 (none) 1 := ⟨uw_mk 402 (by decide +kernel) rfl, uw_mk 404 (by decide +kernel) rfl, uw_mk 2 (by decide +kernel) rfl, uw_mk 54 (by decide +kernel) rfl, uw_mk 405 rfl rfl, ⟨by decide +kernel, by decide +kernel, by decide +kernel⟩⟩
set_option maxRecDepth 20000 in
theorem ml_X8_142 : MLV RX8 142 yX8_weighTrees cX8_weighTrees 4 (none) 0 := ⟨uw_mk 410 (by decide +kernel) rfl, uw_mk 412 (by decide +kernel) rfl, uw_mk 3 (by decide +kernel) rfl, uw_mk 54 (by decide +kernel) rfl, uw_mk 413 rfl rfl, ⟨by decide +kernel, by decide +kernel, by decide +kernel⟩⟩
set_option maxRecDepth 20000 in
theorem ml_X8_145 : MLV RX8 145 yX8_betterTree cX8_betterTree 9 (some .int) 0 := ⟨uw_mk 481 (by decide +kernel) rfl, uw_mk 483 (by decide +kernel) rfl, uw_mk 10 (by decide +kernel) rfl, uw_mk 54 (by decide +kernel) rfl, uw_mk 484 rfl rfl, ⟨by decide +kernel, by decide +kernel, by decide +kernel⟩⟩
set_option maxRecDepth 20000 in
theorem ml_X8_152 : MLV RX8 152 yX5_at cX5_at 2 (some .int) 1 := ⟨uw_mk 480 (by decide +kernel) rfl, uw_mk 320 (by decide +kernel) rfl, uw_mk 321 (by decide +kernel) rfl, uw_mk 56 (by decide +kernel) rfl, uw_mk 322 rfl rfl, ⟨by decide +kernel, by decide +kernel, by decide +kernel⟩⟩
set_option maxRecDepth 20000 in
theorem ml_X8_159 : MLV RX8 159 yX5_put cX5_put 3 (none) 2 := ⟨uw_mk 414 (by decide +kernel) rfl, uw_mk 304 (by decide +kernel) rfl, uw_mk 305 (by decide +kernel) rfl, uw_mk 56 (by decide +kernel) rfl, uw_mk 306 rfl rfl, ⟨by decide +kernel, by decide +kernel, by decide +kernel⟩⟩
set_option maxRecDepth 20000 in
theorem ml_X8_161 : MLV RX8 161 yX4_hasPlace cX4_hasPlace 2 (some .boolean) 1 := ⟨uw_mk 497 (by decide +kernel) rfl, uw_mk 364 (by decide +kernel) rfl, uw_mk 365 (by decide +kernel) rfl, uw_mk 58 (by decide +kernel) rfl, uw_mk 366 rfl rfl, ⟨by decide +kernel, by decide +kernel, by decide +kernel⟩⟩
set_option maxRecDepth 20000 in
theorem ml_X8_164 : MLV RX8 164 yX8_loadSets cX8_loadSets 4 (none) 1 := ⟨uw_mk 415 (by decide +kernel) rfl, uw_mk 417 (by decide +kernel) rfl, uw_mk 4 (by decide +kernel) rfl, uw_mk 54 (by decide +kernel) rfl, uw_mk 418 rfl rfl, ⟨by decide +kernel, by decide +kernel, by decide +kernel⟩⟩
set_option maxRecDepth 20000 in
theorem ml_X8_167 : MLV RX8 167 yX8_changesOf cX8_changesOf 2 (some .int) 1 := ⟨uw_mk 431 (by decide +kernel) rfl, uw_mk 433 (by decide +kernel) rfl, uw_mk 5 (by decide +kernel) rfl, uw_mk 54 (by decide +kernel) rfl, uw_mk 434 rfl rfl, ⟨by decide +kernel, by decide +kernel, by decide +kernel⟩⟩
set_option maxRecDepth 20000 in
theorem ml_X8_173 : MLV RX8 173 yX7_grow cX7_grow 4 (none) 2 := ⟨uw_mk 435 (by decide +kernel) rfl, uw_mk 436 (by decide +kernel) rfl, uw_mk 437 (by decide +kernel) rfl, uw_mk 61 (by decide +kernel) rfl, uw_mk 438 rfl rfl, ⟨by decide +kernel, by decide +kernel, by decide +kernel⟩⟩
set_option maxRecDepth 20000 in
theorem ml_X8_176 : MLV RX8 176 yX8_costFrom cX8_costFrom 4 (some .int) 1 := ⟨uw_mk 506 (by decide +kernel) rfl, uw_mk 508 (by decide +kernel) rfl, uw_mk 11 (by decide +kernel) rfl, uw_mk 54 (by decide +kernel) rfl, uw_mk 509 rfl rfl, ⟨by decide +kernel, by decide +kernel, by decide +kernel⟩⟩
set_option maxRecDepth 20000 in
theorem ml_X8_185 : MLV RX8 185 yX8_treeWith cX8_treeWith 6 (some .int) 2 := ⟨uw_mk 534 (by decide +kernel) rfl, uw_mk 536 (by decide +kernel) rfl, uw_mk 14 (by decide +kernel) rfl, uw_mk 54 (by decide +kernel) rfl, uw_mk 537 rfl rfl, ⟨by decide +kernel, by decide +kernel, by decide +kernel⟩⟩
set_option maxRecDepth 20000 in
theorem ml_X8_188 : MLV RX8 188 yX8_bound cX8_bound 6 (some .int) 0 := ⟨uw_mk 542 (by decide +kernel) rfl, uw_mk 544 (by decide +kernel) rfl, uw_mk 15 (by decide +kernel) rfl, uw_mk 54 (by decide +kernel) rfl, uw_mk 545 rfl rfl, ⟨by decide +kernel, by decide +kernel, by decide +kernel⟩⟩
set_option maxRecDepth 20000 in
theorem ml_X8_191 : MLV RX8 191 yX8_fewestChanges cX8_fewestChanges 2 (some .int) 0 := ⟨uw_mk 547 (by decide +kernel) rfl, uw_mk 549 (by decide +kernel) rfl, uw_mk 16 (by decide +kernel) rfl, uw_mk 54 (by decide +kernel) rfl, uw_mk 550 rfl rfl, ⟨by decide +kernel, by decide +kernel, by decide +kernel⟩⟩
set_option maxRecDepth 20000 in
theorem ml_X8_194 : MLV RX8 194 yX8_changesIf cX8_changesIf 6 (some .int) 3 := ⟨uw_mk 555 (by decide +kernel) rfl, uw_mk 557 (by decide +kernel) rfl, uw_mk 17 (by decide +kernel) rfl, uw_mk 54 (by decide +kernel) rfl, uw_mk 558 rfl rfl, ⟨by decide +kernel, by decide +kernel, by decide +kernel⟩⟩
set_option maxRecDepth 20000 in
theorem ml_X8_198 : MLV RX8 198 yX8_inQuarrel cX8_inQuarrel 7 (some .boolean) 2 := ⟨uw_mk 564 (by decide +kernel) rfl, uw_mk 566 (by decide +kernel) rfl, uw_mk 18 (by decide +kernel) rfl, uw_mk 54 (by decide +kernel) rfl, uw_mk 567 rfl rfl, ⟨by decide +kernel, by decide +kernel, by decide +kernel⟩⟩
set_option maxRecDepth 20000 in
theorem ml_X8_201 : MLV RX8 201 yX4_hasCopy cX4_hasCopy 2 (some .boolean) 1 := ⟨uw_mk 576 (by decide +kernel) rfl, uw_mk 360 (by decide +kernel) rfl, uw_mk 361 (by decide +kernel) rfl, uw_mk 58 (by decide +kernel) rfl, uw_mk 362 rfl rfl, ⟨by decide +kernel, by decide +kernel, by decide +kernel⟩⟩
set_option maxRecDepth 20000 in
theorem ml_X8_204 : MLV RX8 204 yX3_compare cX3_compare 8 (none) 2 := ⟨uw_mk 577 (by decide +kernel) rfl, uw_mk 578 (by decide +kernel) rfl, uw_mk 579 (by decide +kernel) rfl, uw_mk 63 (by decide +kernel) rfl, uw_mk 580 rfl rfl, ⟨by decide +kernel, by decide +kernel, by decide +kernel⟩⟩
set_option maxRecDepth 20000 in
theorem ml_X8_208 : MLV RX8 208 yX3_plain cX3_plain 5 (some .int) 2 := ⟨uw_mk 583 (by decide +kernel) rfl, uw_mk 584 (by decide +kernel) rfl, uw_mk 585 (by decide +kernel) rfl, uw_mk 63 (by decide +kernel) rfl, uw_mk 586 rfl rfl, ⟨by decide +kernel, by decide +kernel, by decide +kernel⟩⟩
set_option maxRecDepth 20000 in
theorem ml_X8_215 : MLV RX8 215 yX3_find cX3_find 5 (none) 2 := ⟨uw_mk 590 (by decide +kernel) rfl, uw_mk 591 (by decide +kernel) rfl, uw_mk 592 (by decide +kernel) rfl, uw_mk 63 (by decide +kernel) rfl, uw_mk 593 rfl rfl, ⟨by decide +kernel, by decide +kernel, by decide +kernel⟩⟩
set_option maxRecDepth 20000 in
theorem ml_X8_230 : MLV RX8 230 yX0_follow cX0_follow 4 (none) 2 := ⟨uw_mk 452 (by decide +kernel) rfl, uw_mk 453 (by decide +kernel) rfl, uw_mk 454 (by decide +kernel) rfl, uw_mk 62 (by decide +kernel) rfl, uw_mk 455 rfl rfl, ⟨by decide +kernel, by decide +kernel, by decide +kernel⟩⟩
set_option maxRecDepth 20000 in
theorem ml_X8_234 : MLV RX8 234 yX8_mayBeMisread cX8_mayBeMisread 4 (some .boolean) 1 := ⟨uw_mk 610 (by decide +kernel) rfl, uw_mk 612 (by decide +kernel) rfl, uw_mk 20 (by decide +kernel) rfl, uw_mk 54 (by decide +kernel) rfl, uw_mk 613 rfl rfl, ⟨by decide +kernel, by decide +kernel, by decide +kernel⟩⟩
set_option maxRecDepth 20000 in
theorem ml_X8_245 : MLV RX8 245 yX8_lostOnes cX8_lostOnes 4 (some .int) 0 := ⟨uw_mk 634 (by decide +kernel) rfl, uw_mk 636 (by decide +kernel) rfl, uw_mk 23 (by decide +kernel) rfl, uw_mk 54 (by decide +kernel) rfl, uw_mk 637 rfl rfl, ⟨by decide +kernel, by decide +kernel, by decide +kernel⟩⟩
set_option maxRecDepth 20000 in
theorem ml_X8_248 : MLV RX8 248 yX8_quarrels cX8_quarrels 4 (some .int) 0 := ⟨uw_mk 638 (by decide +kernel) rfl, uw_mk 640 (by decide +kernel) rfl, uw_mk 24 (by decide +kernel) rfl, uw_mk 54 (by decide +kernel) rfl, uw_mk 641 rfl rfl, ⟨by decide +kernel, by decide +kernel, by decide +kernel⟩⟩
set_option maxRecDepth 20000 in
theorem ml_X8_260 : MLV RX8 260 yX4_setsOf cX4_setsOf 5 (some .int) 1 := ⟨uw_mk 419 (by decide +kernel) rfl, uw_mk 420 (by decide +kernel) rfl, uw_mk 421 (by decide +kernel) rfl, uw_mk 58 (by decide +kernel) rfl, uw_mk 422 rfl rfl, ⟨by decide +kernel, by decide +kernel, by decide +kernel⟩⟩
set_option maxRecDepth 20000 in
theorem ml_X8_266 : MLV RX8 266 yX0_changesOver cX0_changesOver 9 (some .int) 1 := ⟨uw_mk 466 (by decide +kernel) rfl, uw_mk 467 (by decide +kernel) rfl, uw_mk 468 (by decide +kernel) rfl, uw_mk 62 (by decide +kernel) rfl, uw_mk 469 rfl rfl, ⟨by decide +kernel, by decide +kernel, by decide +kernel⟩⟩
set_option maxRecDepth 20000 in
theorem ml_X8_273 : MLV RX8 273 yX0_costAt cX0_costAt 5 (some .int) 2 := ⟨uw_mk 510 (by decide +kernel) rfl, uw_mk 511 (by decide +kernel) rfl, uw_mk 512 (by decide +kernel) rfl, uw_mk 62 (by decide +kernel) rfl, uw_mk 513 rfl rfl, ⟨by decide +kernel, by decide +kernel, by decide +kernel⟩⟩
set_option maxRecDepth 20000 in
theorem ml_X8_288 : MLV RX8 288 yX8_allSeenIs cX8_allSeenIs 3 (some .boolean) 1 := ⟨uw_mk 614 (by decide +kernel) rfl, uw_mk 616 (by decide +kernel) rfl, uw_mk 21 (by decide +kernel) rfl, uw_mk 54 (by decide +kernel) rfl, uw_mk 617 rfl rfl, ⟨by decide +kernel, by decide +kernel, by decide +kernel⟩⟩
set_option maxRecDepth 20000 in
theorem ml_X9_61 : MLV RX9 61 yX9_blanks cX9_blanks 1 (none) 0 := ⟨uw_mk 746 (by decide +kernel) rfl, uw_mk 748 (by decide +kernel) rfl, uw_mk 25 (by decide +kernel) rfl, uw_mk 64 (by decide +kernel) rfl, uw_mk 749 rfl rfl, ⟨by decide +kernel, by decide +kernel, by decide +kernel⟩⟩
set_option maxRecDepth 20000 in
theorem ml_X9_70 : MLV RX9 70 yX9_next cX9_next 1 (none) 0 := ⟨uw_mk 754 (by decide +kernel) rfl, uw_mk 756 (by decide +kernel) rfl, uw_mk 27 (by decide +kernel) rfl, uw_mk 64 (by decide +kernel) rfl, uw_mk 757 rfl rfl, ⟨by decide +kernel, by decide +kernel, by decide +kernel⟩⟩
set_option maxRecDepth 20000 in
theorem ml_X9_79 : MLV RX9 79 yX9_readsCopy cX9_readsCopy 3 (some .boolean) 0 := ⟨uw_mk 750 (by decide +kernel) rfl, uw_mk 752 (by decide +kernel) rfl, uw_mk 26 (by decide +kernel) rfl, uw_mk 64 (by decide +kernel) rfl, uw_mk 753 rfl rfl, ⟨by decide +kernel, by decide +kernel, by decide +kernel⟩⟩
set_option maxRecDepth 20000 in
theorem ml_X9_98 : MLV RX9 98 yX9_isCopy cX9_isCopy 2 (some .boolean) 1 := ⟨uw_mk 762 (by decide +kernel) rfl, uw_mk 764 (by decide +kernel) rfl, uw_mk 28 (by decide +kernel) rfl, uw_mk 64 (by decide +kernel) rfl, uw_mk 765 rfl rfl, ⟨by decide +kernel, by decide +kernel, by decide +kernel⟩⟩
set_option maxRecDepth 20000 in
theorem ml_X9_102 : MLV RX9 102 yX9_isPlace cX9_isPlace 2 (some .boolean) 1 := ⟨uw_mk 766 (by decide +kernel) rfl, uw_mk 768 (by decide +kernel) rfl, uw_mk 29 (by decide +kernel) rfl, uw_mk 64 (by decide +kernel) rfl, uw_mk 769 rfl rfl, ⟨by decide +kernel, by decide +kernel, by decide +kernel⟩⟩
set_option maxRecDepth 20000 in
theorem ml_X9_105 : MLV RX9 105 yX9_readingOf cX9_readingOf 3 (some .int) 2 := ⟨uw_mk 770 (by decide +kernel) rfl, uw_mk 772 (by decide +kernel) rfl, uw_mk 30 (by decide +kernel) rfl, uw_mk 64 (by decide +kernel) rfl, uw_mk 773 rfl rfl, ⟨by decide +kernel, by decide +kernel, by decide +kernel⟩⟩
set_option maxRecDepth 20000 in
theorem ml_X9_115 : MLV RX9 115 yX9_edge cX9_edge 3 (none) 2 := ⟨uw_mk 794 (by decide +kernel) rfl, uw_mk 796 (by decide +kernel) rfl, uw_mk 35 (by decide +kernel) rfl, uw_mk 64 (by decide +kernel) rfl, uw_mk 797 rfl rfl, ⟨by decide +kernel, by decide +kernel, by decide +kernel⟩⟩
set_option maxRecDepth 20000 in
theorem ml_X9_126 : MLV RX9 126 yX9_layLeaves cX9_layLeaves 5 (none) 1 := ⟨uw_mk 809 (by decide +kernel) rfl, uw_mk 811 (by decide +kernel) rfl, uw_mk 38 (by decide +kernel) rfl, uw_mk 64 (by decide +kernel) rfl, uw_mk 812 rfl rfl, ⟨by decide +kernel, by decide +kernel, by decide +kernel⟩⟩
set_option maxRecDepth 20000 in
theorem ml_X9_130 : MLV RX9 130 yX9_lastEdge cX9_lastEdge 4 (some .int) 1 := ⟨uw_mk 813 (by decide +kernel) rfl, uw_mk 815 (by decide +kernel) rfl, uw_mk 39 (by decide +kernel) rfl, uw_mk 64 (by decide +kernel) rfl, uw_mk 816 rfl rfl, ⟨by decide +kernel, by decide +kernel, by decide +kernel⟩⟩
set_option maxRecDepth 20000 in
theorem ml_X9_134 : MLV RX9 134 yX9_takes cX9_takes 8 (none) 3 := ⟨uw_mk 817 (by decide +kernel) rfl, uw_mk 819 (by decide +kernel) rfl, uw_mk 40 (by decide +kernel) rfl, uw_mk 64 (by decide +kernel) rfl, uw_mk 820 rfl rfl, ⟨by decide +kernel, by decide +kernel, by decide +kernel⟩⟩
set_option maxRecDepth 20000 in
theorem ml_X9_138 : MLV RX9 138 yX9_least cX9_least 4 (some .int) 1 := ⟨uw_mk 824 (by decide +kernel) rfl, uw_mk 826 (by decide +kernel) rfl, uw_mk 41 (by decide +kernel) rfl, uw_mk 64 (by decide +kernel) rfl, uw_mk 827 rfl rfl, ⟨by decide +kernel, by decide +kernel, by decide +kernel⟩⟩
set_option maxRecDepth 20000 in
theorem ml_X9_141 : MLV RX9 141 yX9_costFrom cX9_costFrom 7 (some .int) 3 := ⟨uw_mk 805 (by decide +kernel) rfl, uw_mk 807 (by decide +kernel) rfl, uw_mk 37 (by decide +kernel) rfl, uw_mk 64 (by decide +kernel) rfl, uw_mk 808 rfl rfl, ⟨by decide +kernel, by decide +kernel, by decide +kernel⟩⟩
set_option maxRecDepth 20000 in
theorem ml_X9_144 : MLV RX9 144 yX9_layTree cX9_layTree 5 (none) 1 := ⟨uw_mk 790 (by decide +kernel) rfl, uw_mk 792 (by decide +kernel) rfl, uw_mk 34 (by decide +kernel) rfl, uw_mk 64 (by decide +kernel) rfl, uw_mk 793 rfl rfl, ⟨by decide +kernel, by decide +kernel, by decide +kernel⟩⟩
set_option maxRecDepth 20000 in
theorem ml_X9_147 : MLV RX9 147 yX9_changesAt cX9_changesAt 2 (some .int) 1 := ⟨uw_mk 801 (by decide +kernel) rfl, uw_mk 803 (by decide +kernel) rfl, uw_mk 36 (by decide +kernel) rfl, uw_mk 64 (by decide +kernel) rfl, uw_mk 804 rfl rfl, ⟨by decide +kernel, by decide +kernel, by decide +kernel⟩⟩
set_option maxRecDepth 20000 in
theorem ml_X9_150 : MLV RX9 150 yX9_trees cX9_trees 1 (some .int) 0 := ⟨uw_mk 782 (by decide +kernel) rfl, uw_mk 784 (by decide +kernel) rfl, uw_mk 32 (by decide +kernel) rfl, uw_mk 64 (by decide +kernel) rfl, uw_mk 785 rfl rfl, ⟨by decide +kernel, by decide +kernel, by decide +kernel⟩⟩
set_option maxRecDepth 20000 in
theorem ml_X9_154 : MLV RX9 154 yX9_isTree cX9_isTree 2 (some .boolean) 1 := ⟨uw_mk 778 (by decide +kernel) rfl, uw_mk 780 (by decide +kernel) rfl, uw_mk 31 (by decide +kernel) rfl, uw_mk 64 (by decide +kernel) rfl, uw_mk 781 rfl rfl, ⟨by decide +kernel, by decide +kernel, by decide +kernel⟩⟩
set_option maxRecDepth 20000 in
theorem ml_X9_157 : MLV RX9 157 yX9_changesOf cX9_changesOf 4 (some .int) 1 := ⟨uw_mk 786 (by decide +kernel) rfl, uw_mk 788 (by decide +kernel) rfl, uw_mk 33 (by decide +kernel) rfl, uw_mk 64 (by decide +kernel) rfl, uw_mk 789 rfl rfl, ⟨by decide +kernel, by decide +kernel, by decide +kernel⟩⟩
set_option maxRecDepth 20000 in
theorem ml_X9_160 : MLV RX9 160 yX9_edges cX9_edges 1 (some .int) 0 := ⟨uw_mk 832 (by decide +kernel) rfl, uw_mk 834 (by decide +kernel) rfl, uw_mk 42 (by decide +kernel) rfl, uw_mk 64 (by decide +kernel) rfl, uw_mk 835 rfl rfl, ⟨by decide +kernel, by decide +kernel, by decide +kernel⟩⟩
set_option maxRecDepth 20000 in
theorem ml_X9_163 : MLV RX9 163 yX9_directedOf cX9_directedOf 6 (some .int) 2 := ⟨uw_mk 836 (by decide +kernel) rfl, uw_mk 838 (by decide +kernel) rfl, uw_mk 43 (by decide +kernel) rfl, uw_mk 64 (by decide +kernel) rfl, uw_mk 839 rfl rfl, ⟨by decide +kernel, by decide +kernel, by decide +kernel⟩⟩
set_option maxRecDepth 20000 in
theorem ml_X9_166 : MLV RX9 166 yX9_fewest cX9_fewest 3 (some .int) 0 := ⟨uw_mk 848 (by decide +kernel) rfl, uw_mk 850 (by decide +kernel) rfl, uw_mk 44 (by decide +kernel) rfl, uw_mk 64 (by decide +kernel) rfl, uw_mk 851 rfl rfl, ⟨by decide +kernel, by decide +kernel, by decide +kernel⟩⟩
set_option maxRecDepth 20000 in
theorem ml_X9_173 : MLV RX9 173 yX9_bound cX9_bound 6 (some .int) 0 := ⟨uw_mk 856 (by decide +kernel) rfl, uw_mk 858 (by decide +kernel) rfl, uw_mk 45 (by decide +kernel) rfl, uw_mk 64 (by decide +kernel) rfl, uw_mk 859 rfl rfl, ⟨by decide +kernel, by decide +kernel, by decide +kernel⟩⟩
set_option maxRecDepth 20000 in
theorem ml_X9_179 : MLV RX9 179 yX9_remember cX9_remember 2 (none) 0 := ⟨uw_mk 871 (by decide +kernel) rfl, uw_mk 873 (by decide +kernel) rfl, uw_mk 47 (by decide +kernel) rfl, uw_mk 64 (by decide +kernel) rfl, uw_mk 874 rfl rfl, ⟨by decide +kernel, by decide +kernel, by decide +kernel⟩⟩
set_option maxRecDepth 20000 in
theorem ml_X9_182 : MLV RX9 182 yX9_becomes cX9_becomes 4 (some .int) 2 := ⟨uw_mk 867 (by decide +kernel) rfl, uw_mk 869 (by decide +kernel) rfl, uw_mk 46 (by decide +kernel) rfl, uw_mk 64 (by decide +kernel) rfl, uw_mk 870 rfl rfl, ⟨by decide +kernel, by decide +kernel, by decide +kernel⟩⟩
set_option maxRecDepth 20000 in
theorem ml_X9_188 : MLV RX9 188 yX9_isTold cX9_isTold 7 (some .boolean) 4 := ⟨uw_mk 902 (by decide +kernel) rfl, uw_mk 904 (by decide +kernel) rfl, uw_mk 49 (by decide +kernel) rfl, uw_mk 64 (by decide +kernel) rfl, uw_mk 905 rfl rfl, ⟨by decide +kernel, by decide +kernel, by decide +kernel⟩⟩
set_option maxRecDepth 20000 in
theorem ml_X9_192 : MLV RX9 192 yX9_quarrels cX9_quarrels 9 (some .boolean) 2 := ⟨uw_mk 898 (by decide +kernel) rfl, uw_mk 900 (by decide +kernel) rfl, uw_mk 48 (by decide +kernel) rfl, uw_mk 64 (by decide +kernel) rfl, uw_mk 901 rfl rfl, ⟨by decide +kernel, by decide +kernel, by decide +kernel⟩⟩
set_option maxRecDepth 20000 in
theorem ml_X9_195 : MLV RX9 195 yX9_unlikes cX9_unlikes 9 (some .int) 4 := ⟨uw_mk 914 (by decide +kernel) rfl, uw_mk 916 (by decide +kernel) rfl, uw_mk 50 (by decide +kernel) rfl, uw_mk 64 (by decide +kernel) rfl, uw_mk 917 rfl rfl, ⟨by decide +kernel, by decide +kernel, by decide +kernel⟩⟩
set_option maxRecDepth 20000 in
theorem ml_X9_199 : MLV RX9 199 yX9_isSeen cX9_isSeen 4 (some .boolean) 1 := ⟨uw_mk 930 (by decide +kernel) rfl, uw_mk 932 (by decide +kernel) rfl, uw_mk 51 (by decide +kernel) rfl, uw_mk 64 (by decide +kernel) rfl, uw_mk 933 rfl rfl, ⟨by decide +kernel, by decide +kernel, by decide +kernel⟩⟩
set_option maxRecDepth 20000 in
theorem ml_X9_202 : MLV RX9 202 yX9_ofAll cX9_ofAll 5 (some .int) 1 := ⟨uw_mk 946 (by decide +kernel) rfl, uw_mk 948 (by decide +kernel) rfl, uw_mk 52 (by decide +kernel) rfl, uw_mk 64 (by decide +kernel) rfl, uw_mk 949 rfl rfl, ⟨by decide +kernel, by decide +kernel, by decide +kernel⟩⟩
end
section
set_option maxRecDepth 100000 in
def fX5_put (ca : Nat) (na : Nat) (x1 : Int32) (x2 : Int32) (σ : Mem) : Option (Int32 × Mem) := if (x1 : Int32) < 0 then some (0, σ) else if (nI na : Int32) ≤ x1 then some (0, σ) else gd na x1 (letm (stm σ (ca + 1) x1.toNatClampNeg x2) (fun σ1 => some (0, σ1)))
set_option maxRecDepth 100000 in
set_option maxHeartbeats 4000000 in
theorem gX5_put (l : Launch) {D : va_G} {cI cZ : ClassId} {ad : Nat → Nat} {tT : Nat} (hi : INJ ad) (ca : Nat) (na : Nat) (hca : ROW ca na) (x1 : Int32) (x2 : Int32) (σ : Mem) : GM l D cI cZ ad tT yX5_put cX5_put 3 (none) 0 0 rvv [.ref (ad ca), .int x1, .int x2] σ (fX5_put ca na x1 x2 σ) := by
  refine gm_of (lv := [(0, .ref (ad ca)), (1, .int x1), (2, .int x2)]) (own := RX5) hi (by decide +kernel) rfl (Nat.le_of_ble_eq_true rfl) rfl ?_
  intro p e s m args below meth c A C ls hl
  unfold fX5_put
  refine r_iload_n C dX5_put_0 rfl (lv_at hl 1 rfl) ?_
  refine r_if_lt (tgt := 20) C dX5_put_1 (by decide) ?_ ?_
  · exact r_vret C rfl dX5_put_20
  · refine r_iload_n C dX5_put_4 rfl (lv_at hl 1 rfl) ?_
    refine r_aload_n C dX5_put_5 rfl (lv_at hl 0 rfl) ?_
    refine r_getR C fl_X5_13 (lf5 hca) dX5_put_6 ?_
    refine r_alen (v := nI na) C hca.2 rfl dX5_put_9 ?_
    refine r_icmp_ge (tgt := 20) C dX5_put_10 (by decide) ?_ ?_
    · exact r_vret C rfl dX5_put_20
    · refine r_aload_n C dX5_put_13 rfl (lv_at hl 0 rfl) ?_
      refine r_getR C fl_X5_13 (lf5 hca) dX5_put_14 ?_
      refine r_iload_n C dX5_put_17 rfl (lv_at hl 1 rfl) ?_
      refine r_iload_n C dX5_put_18 rfl (lv_at hl 2 rfl) ?_
      refine r_iast C hca.2 dX5_put_19 ?_
      refine r_letm (fun σ1 => ?_)
      exact r_vret C rfl dX5_put_20

set_option maxRecDepth 100000 in
def fX6_append (x1 : Int32) (σ : Mem) : Option (Int32 × Mem) := bnd (fX5_put 2 90 (σ 1 1) x1 σ) (fun r1 σ2 => letm (stm σ2 1 1 ((σ2 1 1) + 1)) (fun σ3 => some (0, σ3)))
set_option maxRecDepth 100000 in
set_option maxHeartbeats 4000000 in
theorem gX6_append (l : Launch) {D : va_G} {cI cZ : ClassId} {ad : Nat → Nat} {tT : Nat} (hi : INJ ad) (x1 : Int32) (σ : Mem) : GM l D cI cZ ad tT yX6_append cX6_append 2 (none) 1 22 rvv [.ref (ad 1), .int x1] σ (fX6_append x1 σ) := by
  refine gm_of (lv := [(0, .ref (ad 1)), (1, .int x1)]) (own := RX6) hi (by decide +kernel) rfl (Nat.le_of_ble_eq_true rfl) rfl ?_
  intro p e s m args below meth c A C ls hl
  unfold fX6_append
  refine r_aload_n C dX6_append_0 rfl (lv_at hl 0 rfl) ?_
  refine r_getR C fl_X6_14 lf_1_0 dX6_append_1 ?_
  refine r_aload_n C dX6_append_4 rfl (lv_at hl 0 rfl) ?_
  refine r_getI C fl_X6_20 lf_1_1 dX6_append_5 ?_
  refine r_iload_n C dX6_append_8 rfl (lv_at hl 1 rfl) ?_
  refine r_callVv (As := [.int (σ 1 1), .int x1]) (rest := []) C hl ml_X6_24 rc_2 (gX5_put l C.inj 2 90 row_2 (σ 1 1) x1 σ) ⟨Nat.le_of_ble_eq_true rfl, Nat.le_of_ble_eq_true rfl⟩ ⟨Nat.le_of_ble_eq_true rfl, Nat.le_of_ble_eq_true rfl⟩ rfl rfl (Nat.le_of_ble_eq_true rfl) dX6_append_9 (fun r1 σ2 => ?_)
  refine r_aload_n C dX6_append_12 rfl (lv_at hl 0 rfl) ?_
  refine r_dup C dX6_append_13 rfl ?_
  refine r_getI C fl_X6_20 lf_1_1 dX6_append_14 ?_
  refine r_iconst (v := 1) C dX6_append_17 (by decide) ?_
  refine r_iadd C dX6_append_18 ?_
  refine r_putI C fl_X6_20 fp_X6_1 rfl rfl lf_1_1 dX6_append_19 ?_
  refine r_letm (fun σ3 => ?_)
  exact r_vret C rfl dX6_append_22

set_option maxRecDepth 100000 in
def fX5_at (ca : Nat) (na : Nat) (x1 : Int32) (σ : Mem) : Option (Int32 × Mem) := if (x1 : Int32) < 0 then some (0, σ) else if (nI na : Int32) ≤ x1 then some (0, σ) else gd na x1 (some (σ (ca + 1) x1.toNatClampNeg, σ))
set_option maxRecDepth 100000 in
set_option maxHeartbeats 4000000 in
theorem gX5_at (l : Launch) {D : va_G} {cI cZ : ClassId} {ad : Nat → Nat} {tT : Nat} (hi : INJ ad) (ca : Nat) (na : Nat) (hca : ROW ca na) (x1 : Int32) (σ : Mem) : GM l D cI cZ ad tT yX5_at cX5_at 2 (some .int) 0 0 rvi [.ref (ad ca), .int x1] σ (fX5_at ca na x1 σ) := by
  refine gm_of (lv := [(0, .ref (ad ca)), (1, .int x1)]) (own := RX5) hi (by decide +kernel) rfl (Nat.le_of_ble_eq_true rfl) rfl ?_
  intro p e s m args below meth c A C ls hl
  unfold fX5_at
  refine r_iload_n C dX5_at_0 rfl (lv_at hl 1 rfl) ?_
  refine r_if_lt (tgt := 22) C dX5_at_1 (by decide) ?_ ?_
  · refine r_iconst (v := 0) C dX5_at_22 (by decide) ?_
    exact r_iret C rfl dX5_at_23
  · refine r_iload_n C dX5_at_4 rfl (lv_at hl 1 rfl) ?_
    refine r_aload_n C dX5_at_5 rfl (lv_at hl 0 rfl) ?_
    refine r_getR C fl_X5_13 (lf5 hca) dX5_at_6 ?_
    refine r_alen (v := nI na) C hca.2 rfl dX5_at_9 ?_
    refine r_icmp_ge (tgt := 22) C dX5_at_10 (by decide) ?_ ?_
    · refine r_iconst (v := 0) C dX5_at_22 (by decide) ?_
      exact r_iret C rfl dX5_at_23
    · refine r_aload_n C dX5_at_13 rfl (lv_at hl 0 rfl) ?_
      refine r_getR C fl_X5_13 (lf5 hca) dX5_at_14 ?_
      refine r_iload_n C dX5_at_17 rfl (lv_at hl 1 rfl) ?_
      refine r_iald C hca.2 dX5_at_18 ?_
      refine r_goto (tgt := 23) C dX5_at_19 (by decide) ?_
      exact r_iret C rfl dX5_at_23

set_option maxRecDepth 100000 in
def fX6_endItem (x1 : Int32) (σ : Mem) : Option (Int32 × Mem) := if (x1 : Int32) < 1 then some (0, σ) else jn (fun x1 σ1 => letm (stm σ1 7 2 x1) (fun σ2 => letm (stm σ2 7 1 ((σ2 7 1) + 1)) (fun σ3 => some (1, σ3)))) (fun k22 => if (σ 7 1 : Int32) ≤ 0 then k22 x1 σ else if (σ 7 2 : Int32) ≤ x1 then k22 x1 σ else some (0, σ))
set_option maxRecDepth 100000 in
set_option maxHeartbeats 4000000 in
theorem gX6_endItem (l : Launch) {D : va_G} {cI cZ : ClassId} {ad : Nat → Nat} {tT : Nat} (hi : INJ ad) (x1 : Int32) (σ : Mem) : GM l D cI cZ ad tT yX6_endItem cX6_endItem 2 (some .boolean) 0 0 rvi [.ref (ad 7), .int x1] σ (fX6_endItem x1 σ) := by
  refine gm_of (lv := [(0, .ref (ad 7)), (1, .int x1)]) (own := RX6) hi (by decide +kernel) rfl (Nat.le_of_ble_eq_true rfl) rfl ?_
  intro p e s m args below meth c A C ls hl
  unfold fX6_endItem
  refine r_iload_n C dX6_endItem_0 rfl (lv_at hl 1 rfl) ?_
  refine r_iconst (v := 1) C dX6_endItem_1 (by decide) ?_
  refine r_icmp_lt (tgt := 20) C dX6_endItem_2 (by decide) ?_ ?_
  · refine r_iconst (v := 0) C dX6_endItem_20 (by decide) ?_
    exact r_zret C rfl (by decide) dX6_endItem_21
  · refine r_aload_n C dX6_endItem_5 rfl (lv_at hl 0 rfl) ?_
    refine r_getIN C fn_X6_28 lf_7_1 dX6_endItem_6 ?_
    refine r_jn (fun (k22 : Int32 → Mem → Option (Int32 × Mem)) => ∀ (x1 : Int32) (σ : Mem) (ls : Array Slot), lv_has ls 2 [(0, .ref (ad 7)), (1, .int x1)] → WM p l e 0 0 s m args below meth c D cI cZ ad A rvi (k22 x1 σ) σ (F0 m 22 ls [])) ?_ ?_
    · intro x1 σ1 ls hl
      refine r_aload_n C dX6_endItem_22 rfl (lv_at hl 0 rfl) ?_
      refine r_iload_n C dX6_endItem_23 rfl (lv_at hl 1 rfl) ?_
      refine r_putIN C fn_X6_33 fp_X4_2 rfl rfl lf_7_2 dX6_endItem_24 ?_
      refine r_letm (fun σ2 => ?_)
      refine r_aload_n C dX6_endItem_27 rfl (lv_at hl 0 rfl) ?_
      refine r_dup C dX6_endItem_28 rfl ?_
      refine r_getIN C fn_X6_28 lf_7_1 dX6_endItem_29 ?_
      refine r_iconst (v := 1) C dX6_endItem_32 (by decide) ?_
      refine r_iadd C dX6_endItem_33 ?_
      refine r_putIN C fn_X6_28 fp_X4_1 rfl rfl lf_7_1 dX6_endItem_34 ?_
      refine r_letm (fun σ3 => ?_)
      refine r_iconst (v := 1) C dX6_endItem_37 (by decide) ?_
      exact r_zret C rfl (by decide) dX6_endItem_38
    · intro k22 hk22
      refine r_if_le (tgt := 22) C dX6_endItem_9 (by decide) ?_ ?_
      · exact hk22 x1 σ ls (lv_sub hl [0, 1] rfl)
      · refine r_iload_n C dX6_endItem_12 rfl (lv_at hl 1 rfl) ?_
        refine r_aload_n C dX6_endItem_13 rfl (lv_at hl 0 rfl) ?_
        refine r_getIN C fn_X6_33 lf_7_2 dX6_endItem_14 ?_
        refine r_icmp_ge (tgt := 22) C dX6_endItem_17 (by decide) ?_ ?_
        · exact hk22 x1 σ ls (lv_sub hl [0, 1] rfl)
        · refine r_iconst (v := 0) C dX6_endItem_20 (by decide) ?_
          exact r_zret C rfl (by decide) dX6_endItem_21

set_option maxRecDepth 100000 in
def fX6_readingFor (x0 : Int32) (σ : Mem) : Option (Int32 × Mem) := if (x0 : Int32) = 63 then some (4, σ) else if (x0 : Int32) < 97 then some ((-1), σ) else if (100 : Int32) < x0 then some ((-1), σ) else some (x0 - 97, σ)
set_option maxRecDepth 100000 in
set_option maxHeartbeats 4000000 in
theorem gX6_readingFor (l : Launch) {D : va_G} {cI cZ : ClassId} {ad : Nat → Nat} {tT : Nat} (hi : INJ ad) (x0 : Int32) (σ : Mem) : GM l D cI cZ ad tT yX6_readingFor cX6_readingFor 1 (some .int) 0 0 rvi [.int x0] σ (fX6_readingFor x0 σ) := by
  refine gm_of (lv := [(0, .int x0)]) (own := RX6) hi (by decide +kernel) rfl (Nat.le_of_ble_eq_true rfl) rfl ?_
  intro p e s m args below meth c A C ls hl
  unfold fX6_readingFor
  refine r_iload_n C dX6_readingFor_0 rfl (lv_at hl 0 rfl) ?_
  refine r_bipush (v := 63) C dX6_readingFor_1 (by decide) ?_
  refine r_icmp_ne (tgt := 8) C dX6_readingFor_3 (by decide) ?_ ?_
  · refine r_iload_n C dX6_readingFor_8 rfl (lv_at hl 0 rfl) ?_
    refine r_bipush (v := 97) C dX6_readingFor_9 (by decide) ?_
    refine r_icmp_lt (tgt := 27) C dX6_readingFor_11 (by decide) ?_ ?_
    · refine r_iconst (v := (-1)) C dX6_readingFor_27 (by decide) ?_
      exact r_iret C rfl dX6_readingFor_28
    · refine r_iload_n C dX6_readingFor_14 rfl (lv_at hl 0 rfl) ?_
      refine r_bipush (v := 100) C dX6_readingFor_15 (by decide) ?_
      refine r_icmp_gt (tgt := 27) C dX6_readingFor_17 (by decide) ?_ ?_
      · refine r_iconst (v := (-1)) C dX6_readingFor_27 (by decide) ?_
        exact r_iret C rfl dX6_readingFor_28
      · refine r_iload_n C dX6_readingFor_20 rfl (lv_at hl 0 rfl) ?_
        refine r_bipush (v := 97) C dX6_readingFor_21 (by decide) ?_
        refine r_isub C dX6_readingFor_23 ?_
        refine r_goto (tgt := 28) C dX6_readingFor_24 (by decide) ?_
        exact r_iret C rfl dX6_readingFor_28
  · refine r_iconst (v := 4) C dX6_readingFor_6 (by decide) ?_
    exact r_iret C rfl dX6_readingFor_7

set_option maxRecDepth 100000 in
def fX6_mostReadings (σ : Mem) : Option (Int32 × Mem) := if (σ 7 1 : Int32) = 0 then some (8, σ) else some (σ 7 2, σ)
set_option maxRecDepth 100000 in
set_option maxHeartbeats 4000000 in
theorem gX6_mostReadings (l : Launch) {D : va_G} {cI cZ : ClassId} {ad : Nat → Nat} {tT : Nat} (hi : INJ ad) (σ : Mem) : GM l D cI cZ ad tT yX6_mostReadings cX6_mostReadings 1 (some .int) 0 0 rvi [.ref (ad 7)] σ (fX6_mostReadings σ) := by
  refine gm_of (lv := [(0, .ref (ad 7))]) (own := RX6) hi (by decide +kernel) rfl (Nat.le_of_ble_eq_true rfl) rfl ?_
  intro p e s m args below meth c A C ls hl
  unfold fX6_mostReadings
  refine r_aload_n C dX6_mostReadings_0 rfl (lv_at hl 0 rfl) ?_
  refine r_getIN C fn_X6_28 lf_7_1 dX6_mostReadings_1 ?_
  refine r_if_ne (tgt := 12) C dX6_mostReadings_4 (by decide) ?_ ?_
  · refine r_aload_n C dX6_mostReadings_12 rfl (lv_at hl 0 rfl) ?_
    refine r_getIN C fn_X6_33 lf_7_2 dX6_mostReadings_13 ?_
    exact r_iret C rfl dX6_mostReadings_16
  · refine r_bipush (v := 8) C dX6_mostReadings_7 (by decide) ?_
    refine r_goto (tgt := 16) C dX6_mostReadings_9 (by decide) ?_
    exact r_iret C rfl dX6_mostReadings_16

set_option maxRecDepth 100000 in
def fX4_cellOf (ca : Nat) (x1 : Int32) (x2 : Int32) (σ : Mem) : Option (Int32 × Mem) := some ((x1 * 8) + x2, σ)
set_option maxRecDepth 100000 in
set_option maxHeartbeats 4000000 in
theorem gX4_cellOf (l : Launch) {D : va_G} {cI cZ : ClassId} {ad : Nat → Nat} {tT : Nat} (hi : INJ ad) (ca : Nat) (hca : RDG ca) (x1 : Int32) (x2 : Int32) (σ : Mem) : GM l D cI cZ ad tT yX4_cellOf cX4_cellOf 3 (some .int) 0 0 rvi [.ref (ad ca), .int x1, .int x2] σ (fX4_cellOf ca x1 x2 σ) := by
  refine gm_of (lv := [(0, .ref (ad ca)), (1, .int x1), (2, .int x2)]) (own := RX4) hi (by decide +kernel) rfl (Nat.le_of_ble_eq_true rfl) rfl ?_
  intro p e s m args below meth c A C ls hl
  unfold fX4_cellOf
  refine r_iload_n C dX4_cellOf_0 rfl (lv_at hl 1 rfl) ?_
  refine r_bipush (v := 8) C dX4_cellOf_1 (by decide) ?_
  refine r_imul C dX4_cellOf_3 ?_
  refine r_iload_n C dX4_cellOf_4 rfl (lv_at hl 2 rfl) ?_
  refine r_iadd C dX4_cellOf_5 ?_
  exact r_iret C rfl dX4_cellOf_6

set_option maxRecDepth 100000 in
def fX4_put (ca : Nat) (x1 : Int32) (x2 : Int32) (x3 : Int32) (σ : Mem) : Option (Int32 × Mem) := bnd (fX4_cellOf ca x1 x2 σ) (fun r1 σ2 => bnd (fX5_put (ca + 1) 48 r1 x3 σ2) (fun r3 σ4 => some (0, σ4)))
set_option maxRecDepth 100000 in
set_option maxHeartbeats 4000000 in
theorem gX4_put (l : Launch) {D : va_G} {cI cZ : ClassId} {ad : Nat → Nat} {tT : Nat} (hi : INJ ad) (ca : Nat) (hca : RDG ca) (x1 : Int32) (x2 : Int32) (x3 : Int32) (σ : Mem) : GM l D cI cZ ad tT yX4_put cX4_put 4 (none) 1 22 rvv [.ref (ad ca), .int x1, .int x2, .int x3] σ (fX4_put ca x1 x2 x3 σ) := by
  refine gm_of (lv := [(0, .ref (ad ca)), (1, .int x1), (2, .int x2), (3, .int x3)]) (own := RX4) hi (by decide +kernel) rfl (Nat.le_of_ble_eq_true rfl) rfl ?_
  intro p e s m args below meth c A C ls hl
  unfold fX4_put
  refine r_aload_n C dX4_put_0 rfl (lv_at hl 0 rfl) ?_
  refine r_getR C fl_X4_14 (lf4_0 hca) dX4_put_1 ?_
  refine r_aload_n C dX4_put_4 rfl (lv_at hl 0 rfl) ?_
  refine r_iload_n C dX4_put_5 rfl (lv_at hl 1 rfl) ?_
  refine r_iload_n C dX4_put_6 rfl (lv_at hl 2 rfl) ?_
  refine r_callVi (As := [.int x1, .int x2]) (rest := [.ref (ad (ca + 1))]) C hl ml_X4_38 (rc4 hca) (gX4_cellOf l C.inj ca hca x1 x2 σ) ⟨Nat.le_of_ble_eq_true rfl, Nat.le_of_ble_eq_true rfl⟩ ⟨Nat.le_of_ble_eq_true rfl, Nat.le_of_ble_eq_true rfl⟩ rfl rfl (Nat.le_of_ble_eq_true rfl) dX4_put_7 (fun r1 σ2 => ?_)
  refine r_iload_n C dX4_put_10 rfl (lv_at hl 3 rfl) ?_
  refine r_callVv (As := [.int r1, .int x3]) (rest := []) C hl ml_X4_46 (rc5 hca.2) (gX5_put l C.inj (ca + 1) 48 hca.2 r1 x3 σ2) ⟨Nat.le_of_ble_eq_true rfl, Nat.le_of_ble_eq_true rfl⟩ ⟨Nat.le_of_ble_eq_true rfl, Nat.le_of_ble_eq_true rfl⟩ rfl rfl (Nat.le_of_ble_eq_true rfl) dX4_put_11 (fun r3 σ4 => ?_)
  exact r_vret C rfl dX4_put_14

set_option maxRecDepth 100000 in
def BX6_tell_17 (k143 : Int32 → Mem → Option (Int32 × Mem)) (rec : Int32 → Int32 → Int32 → Mem → Option (Int32 × Mem)) (x2 : Int32) (x3 : Int32) (x4 : Int32) (σ : Mem) : Option (Int32 × Mem) := if (σ 1 1 : Int32) ≤ x4 then k143 x2 σ else bnd (fX5_at 2 90 x4 σ) (fun r3 σ4 => if (r3 : Int32) = 32 then rec x2 x3 (x4 + 1) σ4 else if (x2 : Int32) = 0 then if (r3 : Int32) = 109 then if (σ4 7 1 : Int32) < 6 then rec 1 0 (x4 + 1) σ4 else some (x4, σ4) else some (x4, σ4) else if (r3 : Int32) = 59 then bnd (fX6_endItem x3 σ4) (fun r11 σ12 => if (r11 : Int32) = 0 then some (x4, σ12) else rec 0 x3 (x4 + 1) σ12) else bnd (fX6_readingFor r3 σ4) (fun r5 σ6 => if (r5 : Int32) < 0 then some (x4, σ6) else bnd (fX6_mostReadings σ6) (fun r7 σ8 => if (x3 : Int32) < r7 then bnd (fX4_put 7 (σ8 7 1) x3 r5 σ8) (fun r9 σ10 => rec x2 (x3 + 1) (x4 + 1) σ10) else some (x4, σ8))))
def LX6_tell_17 (k143 : Int32 → Mem → Option (Int32 × Mem)) : Nat → Int32 → Int32 → Int32 → Mem → Option (Int32 × Mem)
  | 0 => fun _ _ _ _ => none
  | n + 1 => BX6_tell_17 k143 (LX6_tell_17 k143 n)
set_option maxRecDepth 100000 in
set_option maxHeartbeats 4000000 in
theorem wX6_tell_17 {p : Program} {l : Launch} {e : Env} {s : State} {m : MethodId} {args : Array Value} {below : List Frame} {meth : Method} {c : Code} {D : va_G} {cI cZ : ClassId} {ad : Nat → Nat} {tT : Nat} {A : Nat → Prop} (C : CX p s m args meth c cX6_tell 7 RX6 (some .int) D cI cZ ad tT A) (k143 : Int32 → Mem → Option (Int32 × Mem)) (hk143 : ∀ (x2 : Int32) (σ : Mem) (ls : Array Slot), lv_has ls 7 [(0, .ref (ad 1)), (2, .int x2)] → WM p l e 2 45 s m args below meth c D cI cZ ad A rvi (k143 x2 σ) σ (F0 m 143 ls [])) :
    ∀ (n0 : Nat), ∀ (x2 : Int32) (x3 : Int32) (x4 : Int32) (σ : Mem) (ls : Array Slot), lv_has ls 7 [(0, .ref (ad 1)), (1, .ref (ad 7)), (2, .int x2), (3, .int x3), (4, .int x4)] → WM p l e 2 45 s m args below meth c D cI cZ ad A rvi (LX6_tell_17 k143 n0 x2 x3 x4 σ) σ (F0 m 17 ls []) := by
  intro n0
  induction n0 with
  | zero => intro x2 x3 x4 σ ls hl; exact r_none
  | succ n0 ih =>
    intro x2 x3 x4 σ ls hl
    show WM p l e 2 45 s m args below meth c D cI cZ ad A rvi (BX6_tell_17 k143 (LX6_tell_17 k143 n0) x2 x3 x4 σ) σ (F0 m 17 ls [])
    unfold BX6_tell_17
    refine r_iload C dX6_tell_17 (lv_at hl 4 rfl) ?_
    refine r_aload_n C dX6_tell_19 rfl (lv_at hl 0 rfl) ?_
    refine r_getI C fl_X6_20 lf_1_1 dX6_tell_20 ?_
    refine r_icmp_ge (tgt := 143) C dX6_tell_23 (by decide) ?_ ?_
    · exact hk143 x2 σ ls (lv_sub hl [0, 2] rfl)
    · refine r_aload_n C dX6_tell_26 rfl (lv_at hl 0 rfl) ?_
      refine r_getR C fl_X6_14 lf_1_0 dX6_tell_27 ?_
      refine r_iload C dX6_tell_30 (lv_at hl 4 rfl) ?_
      refine r_callVi (As := [.int x4]) (rest := []) C hl ml_X6_36 rc_2 (gX5_at l C.inj 2 90 row_2 x4 σ) ⟨Nat.le_of_ble_eq_true rfl, Nat.le_of_ble_eq_true rfl⟩ ⟨Nat.le_of_ble_eq_true rfl, Nat.le_of_ble_eq_true rfl⟩ rfl rfl (Nat.le_of_ble_eq_true rfl) dX6_tell_32 (fun r3 σ4 => ?_)
      refine r_istore (lv' := [(5, .int r3), (0, .ref (ad 1)), (1, .ref (ad 7)), (2, .int x2), (3, .int x3), (4, .int x4)]) C dX6_tell_35 hl (by decide) rfl (fun ls hl => ?_)
      refine r_iload C dX6_tell_37 (lv_at hl 0 rfl) ?_
      refine r_bipush (v := 32) C dX6_tell_39 (by decide) ?_
      refine r_icmp_ne (tgt := 47) C dX6_tell_41 (by decide) ?_ ?_
      · refine r_iload_n C dX6_tell_47 rfl (lv_at hl 3 rfl) ?_
        refine r_if_ne (tgt := 77) C dX6_tell_48 (by decide) ?_ ?_
        · refine r_iload C dX6_tell_77 (lv_at hl 0 rfl) ?_
          refine r_bipush (v := 59) C dX6_tell_79 (by decide) ?_
          refine r_icmp_ne (tgt := 100) C dX6_tell_81 (by decide) ?_ ?_
          · refine r_iload C dX6_tell_100 (lv_at hl 0 rfl) ?_
            refine r_callSi (As := [.int r3]) (rest := []) C hl ml_X6_44 (gX6_readingFor l C.inj r3 σ4) ⟨Nat.le_of_ble_eq_true rfl, Nat.le_of_ble_eq_true rfl⟩ ⟨Nat.le_of_ble_eq_true rfl, Nat.le_of_ble_eq_true rfl⟩ rfl rfl (Nat.le_of_ble_eq_true rfl) dX6_tell_102 (fun r5 σ6 => ?_)
            refine r_istore (lv' := [(6, .int r5), (5, .int r3), (0, .ref (ad 1)), (1, .ref (ad 7)), (2, .int x2), (3, .int x3), (4, .int x4)]) C dX6_tell_105 hl (by decide) rfl (fun ls hl => ?_)
            refine r_iload C dX6_tell_107 (lv_at hl 0 rfl) ?_
            refine r_if_lt (tgt := 120) C dX6_tell_109 (by decide) ?_ ?_
            · refine r_iload C dX6_tell_120 (lv_at hl 6 rfl) ?_
              exact r_iret C rfl dX6_tell_122
            · refine r_iload_n C dX6_tell_112 rfl (lv_at hl 5 rfl) ?_
              refine r_aload_n C dX6_tell_113 rfl (lv_at hl 3 rfl) ?_
              refine r_callSi (As := [.ref (ad 7)]) (rest := [.int x3]) C hl ml_X6_47 (gX6_mostReadings l C.inj σ6) ⟨Nat.le_of_ble_eq_true rfl, Nat.le_of_ble_eq_true rfl⟩ ⟨Nat.le_of_ble_eq_true rfl, Nat.le_of_ble_eq_true rfl⟩ rfl rfl (Nat.le_of_ble_eq_true rfl) dX6_tell_114 (fun r7 σ8 => ?_)
              refine r_icmp_lt (tgt := 123) C dX6_tell_117 (by decide) ?_ ?_
              · refine r_aload_n C dX6_tell_123 rfl (lv_at hl 3 rfl) ?_
                refine r_aload_n C dX6_tell_124 rfl (lv_at hl 3 rfl) ?_
                refine r_getIN C fn_X6_28 lf_7_1 dX6_tell_125 ?_
                refine r_iload_n C dX6_tell_128 rfl (lv_at hl 5 rfl) ?_
                refine r_iload C dX6_tell_129 (lv_at hl 0 rfl) ?_
                refine r_callVv (As := [.int (σ8 7 1), .int x3, .int r5]) (rest := []) C hl ml_X6_51 rc_7 (gX4_put l C.inj 7 rdg_7 (σ8 7 1) x3 r5 σ8) ⟨Nat.le_of_ble_eq_true rfl, Nat.le_of_ble_eq_true rfl⟩ ⟨Nat.le_of_ble_eq_true rfl, Nat.le_of_ble_eq_true rfl⟩ rfl rfl (Nat.le_of_ble_eq_true rfl) dX6_tell_131 (fun r9 σ10 => ?_)
                refine r_iinc (v := x3 + 1) (lv' := [(3, .int (x3 + 1)), (6, .int r5), (5, .int r3), (0, .ref (ad 1)), (1, .ref (ad 7)), (2, .int x2), (4, .int x4)]) C dX6_tell_134 hl (k := 5) rfl rfl (by decide) rfl (fun ls hl => ?_)
                refine r_iinc (v := x4 + 1) (lv' := [(4, .int (x4 + 1)), (3, .int (x3 + 1)), (6, .int r5), (5, .int r3), (0, .ref (ad 1)), (1, .ref (ad 7)), (2, .int x2)]) C dX6_tell_137 hl (k := 6) rfl rfl (by decide) rfl (fun ls hl => ?_)
                refine r_goto (tgt := 17) C dX6_tell_140 (by decide) ?_
                exact ih x2 (x3 + 1) (x4 + 1) σ10 ls (lv_sub hl [4, 5, 6, 1, 0] rfl)
              · refine r_iload C dX6_tell_120 (lv_at hl 6 rfl) ?_
                exact r_iret C rfl dX6_tell_122
          · refine r_aload_n C dX6_tell_84 rfl (lv_at hl 2 rfl) ?_
            refine r_iload_n C dX6_tell_85 rfl (lv_at hl 4 rfl) ?_
            refine r_callSi (As := [.ref (ad 7), .int x3]) (rest := []) C hl ml_X6_40 (gX6_endItem l C.inj x3 σ4) ⟨Nat.le_of_ble_eq_true rfl, Nat.le_of_ble_eq_true rfl⟩ ⟨Nat.le_of_ble_eq_true rfl, Nat.le_of_ble_eq_true rfl⟩ rfl rfl (Nat.le_of_ble_eq_true rfl) dX6_tell_86 (fun r11 σ12 => ?_)
            refine r_if_ne (tgt := 95) C dX6_tell_89 (by decide) ?_ ?_
            · refine r_iconst (v := 0) C dX6_tell_95 (by decide) ?_
              refine r_istore_n (lv' := [(2, .int 0), (5, .int r3), (0, .ref (ad 1)), (1, .ref (ad 7)), (3, .int x3), (4, .int x4)]) C dX6_tell_96 rfl hl (by decide) rfl (fun ls hl => ?_)
              refine r_goto (tgt := 137) C dX6_tell_97 (by decide) ?_
              refine r_iinc (v := x4 + 1) (lv' := [(4, .int (x4 + 1)), (2, .int 0), (5, .int r3), (0, .ref (ad 1)), (1, .ref (ad 7)), (3, .int x3)]) C dX6_tell_137 hl (k := 5) rfl rfl (by decide) rfl (fun ls hl => ?_)
              refine r_goto (tgt := 17) C dX6_tell_140 (by decide) ?_
              exact ih 0 x3 (x4 + 1) σ12 ls (lv_sub hl [3, 4, 1, 5, 0] rfl)
            · refine r_iload C dX6_tell_92 (lv_at hl 5 rfl) ?_
              exact r_iret C rfl dX6_tell_94
        · refine r_iload C dX6_tell_51 (lv_at hl 0 rfl) ?_
          refine r_bipush (v := 109) C dX6_tell_53 (by decide) ?_
          refine r_icmp_ne (tgt := 67) C dX6_tell_55 (by decide) ?_ ?_
          · refine r_iload C dX6_tell_67 (lv_at hl 5 rfl) ?_
            exact r_iret C rfl dX6_tell_69
          · refine r_aload_n C dX6_tell_58 rfl (lv_at hl 2 rfl) ?_
            refine r_getIN C fn_X6_28 lf_7_1 dX6_tell_59 ?_
            refine r_bipush (v := 6) C dX6_tell_62 (by decide) ?_
            refine r_icmp_lt (tgt := 70) C dX6_tell_64 (by decide) ?_ ?_
            · refine r_iconst (v := 1) C dX6_tell_70 (by decide) ?_
              refine r_istore_n (lv' := [(2, .int 1), (5, .int r3), (0, .ref (ad 1)), (1, .ref (ad 7)), (3, .int x3), (4, .int x4)]) C dX6_tell_71 rfl hl (by decide) rfl (fun ls hl => ?_)
              refine r_iconst (v := 0) C dX6_tell_72 (by decide) ?_
              refine r_istore_n (lv' := [(3, .int 0), (2, .int 1), (5, .int r3), (0, .ref (ad 1)), (1, .ref (ad 7)), (4, .int x4)]) C dX6_tell_73 rfl hl (by decide) rfl (fun ls hl => ?_)
              refine r_goto (tgt := 137) C dX6_tell_74 (by decide) ?_
              refine r_iinc (v := x4 + 1) (lv' := [(4, .int (x4 + 1)), (3, .int 0), (2, .int 1), (5, .int r3), (0, .ref (ad 1)), (1, .ref (ad 7))]) C dX6_tell_137 hl (k := 5) rfl rfl (by decide) rfl (fun ls hl => ?_)
              refine r_goto (tgt := 17) C dX6_tell_140 (by decide) ?_
              exact ih 1 0 (x4 + 1) σ4 ls (lv_sub hl [4, 5, 2, 1, 0] rfl)
            · refine r_iload C dX6_tell_67 (lv_at hl 5 rfl) ?_
              exact r_iret C rfl dX6_tell_69
      · refine r_goto (tgt := 137) C dX6_tell_44 (by decide) ?_
        refine r_iinc (v := x4 + 1) (lv' := [(4, .int (x4 + 1)), (5, .int r3), (0, .ref (ad 1)), (1, .ref (ad 7)), (2, .int x2), (3, .int x3)]) C dX6_tell_137 hl (k := 5) rfl rfl (by decide) rfl (fun ls hl => ?_)
        refine r_goto (tgt := 17) C dX6_tell_140 (by decide) ?_
        exact ih x2 x3 (x4 + 1) σ4 ls (lv_sub hl [2, 3, 4, 5, 0] rfl)
set_option maxRecDepth 100000 in
def fX6_tell (σ : Mem) : Option (Int32 × Mem) := letm (stm σ 7 1 0) (fun σ1 => letm (stm σ1 7 2 0) (fun σ2 => LX6_tell_17 (fun x2 σ13 => if (x2 : Int32) = 0 then some ((-1), σ13) else some (σ13 1 1, σ13)) 300 0 0 0 σ2))
set_option maxRecDepth 100000 in
set_option maxHeartbeats 4000000 in
theorem gX6_tell (l : Launch) {D : va_G} {cI cZ : ClassId} {ad : Nat → Nat} {tT : Nat} (hi : INJ ad) (σ : Mem) : GM l D cI cZ ad tT yX6_tell cX6_tell 7 (some .int) 2 45 rvi [.ref (ad 1), .ref (ad 7)] σ (fX6_tell σ) := by
  refine gm_of (lv := [(0, .ref (ad 1)), (1, .ref (ad 7))]) (own := RX6) hi (by decide +kernel) rfl (Nat.le_of_ble_eq_true rfl) rfl ?_
  intro p e s m args below meth c A C ls hl
  unfold fX6_tell
  refine r_aload_n C dX6_tell_0 rfl (lv_at hl 1 rfl) ?_
  refine r_iconst (v := 0) C dX6_tell_1 (by decide) ?_
  refine r_putIN C fn_X6_28 fp_X4_1 rfl rfl lf_7_1 dX6_tell_2 ?_
  refine r_letm (fun σ1 => ?_)
  refine r_aload_n C dX6_tell_5 rfl (lv_at hl 1 rfl) ?_
  refine r_iconst (v := 0) C dX6_tell_6 (by decide) ?_
  refine r_putIN C fn_X6_33 fp_X4_2 rfl rfl lf_7_2 dX6_tell_7 ?_
  refine r_letm (fun σ2 => ?_)
  refine r_iconst (v := 0) C dX6_tell_10 (by decide) ?_
  refine r_istore_n (lv' := [(2, .int 0), (0, .ref (ad 1)), (1, .ref (ad 7))]) C dX6_tell_11 rfl hl (by decide) rfl (fun ls hl => ?_)
  refine r_iconst (v := 0) C dX6_tell_12 (by decide) ?_
  refine r_istore_n (lv' := [(3, .int 0), (2, .int 0), (0, .ref (ad 1)), (1, .ref (ad 7))]) C dX6_tell_13 rfl hl (by decide) rfl (fun ls hl => ?_)
  refine r_iconst (v := 0) C dX6_tell_14 (by decide) ?_
  refine r_istore (lv' := [(4, .int 0), (3, .int 0), (2, .int 0), (0, .ref (ad 1)), (1, .ref (ad 7))]) C dX6_tell_15 hl (by decide) rfl (fun ls hl => ?_)
  refine wX6_tell_17  C _ ?_ 300 0 0 0 σ2 ls (lv_sub hl [3, 4, 2, 1, 0] rfl)
  · intro x2 σ13 ls hl
    refine r_iload_n C dX6_tell_143 rfl (lv_at hl 1 rfl) ?_
    refine r_if_eq (tgt := 154) C dX6_tell_144 (by decide) ?_ ?_
    · refine r_iconst (v := (-1)) C dX6_tell_154 (by decide) ?_
      exact r_iret C rfl dX6_tell_155
    · refine r_aload_n C dX6_tell_147 rfl (lv_at hl 0 rfl) ?_
      refine r_getI C fl_X6_20 lf_1_1 dX6_tell_148 ?_
      refine r_goto (tgt := 155) C dX6_tell_151 (by decide) ?_
      exact r_iret C rfl dX6_tell_155

set_option maxRecDepth 100000 in
def BX5_fillFrom_2 (ca : Nat) (na : Nat) (cb : Nat) (nb : Nat) (k27 : Mem → Option (Int32 × Mem)) (rec : Int32 → Mem → Option (Int32 × Mem)) (x2 : Int32) (σ : Mem) : Option (Int32 × Mem) := if (nI na : Int32) ≤ x2 then k27 σ else bnd (fX5_at cb nb x2 σ) (fun r1 σ2 => bnd (fX5_put ca na x2 r1 σ2) (fun r3 σ4 => rec (x2 + 1) σ4))
def LX5_fillFrom_2 (ca : Nat) (na : Nat) (cb : Nat) (nb : Nat) (k27 : Mem → Option (Int32 × Mem)) : Nat → Int32 → Mem → Option (Int32 × Mem)
  | 0 => fun _ _ => none
  | n + 1 => BX5_fillFrom_2 ca na cb nb k27 (LX5_fillFrom_2 ca na cb nb k27 n)
set_option maxRecDepth 100000 in
set_option maxHeartbeats 4000000 in
theorem wX5_fillFrom_2 {p : Program} {l : Launch} {e : Env} {s : State} {m : MethodId} {args : Array Value} {below : List Frame} {meth : Method} {c : Code} {D : va_G} {cI cZ : ClassId} {ad : Nat → Nat} {tT : Nat} {A : Nat → Prop} (ca : Nat) (na : Nat) (cb : Nat) (nb : Nat) (hca : ROW ca na) (hcb : ROW cb nb) (C : CX p s m args meth c cX5_fillFrom 3 RX5 (none) D cI cZ ad tT A) (k27 : Mem → Option (Int32 × Mem)) (hk27 : ∀ (σ : Mem) (ls : Array Slot), lv_has ls 3 [] → WM p l e 1 22 s m args below meth c D cI cZ ad A rvv (k27 σ) σ (F0 m 27 ls [])) :
    ∀ (n0 : Nat), ∀ (x2 : Int32) (σ : Mem) (ls : Array Slot), lv_has ls 3 [(0, .ref (ad ca)), (1, .ref (ad cb)), (2, .int x2)] → WM p l e 1 22 s m args below meth c D cI cZ ad A rvv (LX5_fillFrom_2 ca na cb nb k27 n0 x2 σ) σ (F0 m 2 ls []) := by
  intro n0
  induction n0 with
  | zero => intro x2 σ ls hl; exact r_none
  | succ n0 ih =>
    intro x2 σ ls hl
    show WM p l e 1 22 s m args below meth c D cI cZ ad A rvv (BX5_fillFrom_2 ca na cb nb k27 (LX5_fillFrom_2 ca na cb nb k27 n0) x2 σ) σ (F0 m 2 ls [])
    unfold BX5_fillFrom_2
    refine r_iload_n C dX5_fillFrom_2 rfl (lv_at hl 2 rfl) ?_
    refine r_aload_n C dX5_fillFrom_3 rfl (lv_at hl 0 rfl) ?_
    refine r_getR C fl_X5_13 (lf5 hca) dX5_fillFrom_4 ?_
    refine r_alen (v := nI na) C hca.2 rfl dX5_fillFrom_7 ?_
    refine r_icmp_ge (tgt := 27) C dX5_fillFrom_8 (by decide) ?_ ?_
    · exact hk27 σ ls (lv_sub hl [] rfl)
    · refine r_aload_n C dX5_fillFrom_11 rfl (lv_at hl 0 rfl) ?_
      refine r_iload_n C dX5_fillFrom_12 rfl (lv_at hl 2 rfl) ?_
      refine r_aload_n C dX5_fillFrom_13 rfl (lv_at hl 1 rfl) ?_
      refine r_iload_n C dX5_fillFrom_14 rfl (lv_at hl 2 rfl) ?_
      refine r_callVi (As := [.int x2]) (rest := [.int x2, .ref (ad ca)]) C hl ml_X5_19 (rc5 hcb) (gX5_at l C.inj cb nb hcb x2 σ) ⟨Nat.le_of_ble_eq_true rfl, Nat.le_of_ble_eq_true rfl⟩ ⟨Nat.le_of_ble_eq_true rfl, Nat.le_of_ble_eq_true rfl⟩ rfl rfl (Nat.le_of_ble_eq_true rfl) dX5_fillFrom_15 (fun r1 σ2 => ?_)
      refine r_callVv (As := [.int x2, .int r1]) (rest := []) C hl ml_X5_23 (rc5 hca) (gX5_put l C.inj ca na hca x2 r1 σ2) ⟨Nat.le_of_ble_eq_true rfl, Nat.le_of_ble_eq_true rfl⟩ ⟨Nat.le_of_ble_eq_true rfl, Nat.le_of_ble_eq_true rfl⟩ rfl rfl (Nat.le_of_ble_eq_true rfl) dX5_fillFrom_18 (fun r3 σ4 => ?_)
      refine r_iinc (v := x2 + 1) (lv' := [(2, .int (x2 + 1)), (0, .ref (ad ca)), (1, .ref (ad cb))]) C dX5_fillFrom_21 hl (k := 2) rfl rfl (by decide) rfl (fun ls hl => ?_)
      refine r_goto (tgt := 2) C dX5_fillFrom_24 (by decide) ?_
      exact ih (x2 + 1) σ4 ls (lv_sub hl [1, 2, 0] rfl)
set_option maxRecDepth 100000 in
def fX5_fillFrom (ca : Nat) (na : Nat) (cb : Nat) (nb : Nat) (σ : Mem) : Option (Int32 × Mem) := LX5_fillFrom_2 ca na cb nb (fun σ5 => some (0, σ5)) 300 0 σ
set_option maxRecDepth 100000 in
set_option maxHeartbeats 4000000 in
theorem gX5_fillFrom (l : Launch) {D : va_G} {cI cZ : ClassId} {ad : Nat → Nat} {tT : Nat} (hi : INJ ad) (ca : Nat) (na : Nat) (cb : Nat) (nb : Nat) (hca : ROW ca na) (hcb : ROW cb nb) (σ : Mem) : GM l D cI cZ ad tT yX5_fillFrom cX5_fillFrom 3 (none) 1 22 rvv [.ref (ad ca), .ref (ad cb)] σ (fX5_fillFrom ca na cb nb σ) := by
  refine gm_of (lv := [(0, .ref (ad ca)), (1, .ref (ad cb))]) (own := RX5) hi (by decide +kernel) rfl (Nat.le_of_ble_eq_true rfl) rfl ?_
  intro p e s m args below meth c A C ls hl
  unfold fX5_fillFrom
  refine r_iconst (v := 0) C dX5_fillFrom_0 (by decide) ?_
  refine r_istore_n (lv' := [(2, .int 0), (0, .ref (ad ca)), (1, .ref (ad cb))]) C dX5_fillFrom_1 rfl hl (by decide) rfl (fun ls hl => ?_)
  refine wX5_fillFrom_2 ca na cb nb hca hcb C _ ?_ 300 0 σ ls (lv_sub hl [1, 2, 0] rfl)
  · intro σ5 ls hl
    exact r_vret C rfl dX5_fillFrom_27

set_option maxRecDepth 100000 in
def fX4_take (ca : Nat) (cb : Nat) (σ : Mem) : Option (Int32 × Mem) := bnd (fX5_fillFrom (ca + 1) 48 (cb + 1) 48 σ) (fun r1 σ2 => letm (stm σ2 ca 1 (σ2 cb 1)) (fun σ3 => letm (stm σ3 ca 2 (σ3 cb 2)) (fun σ4 => some (0, σ4))))
set_option maxRecDepth 100000 in
set_option maxHeartbeats 4000000 in
theorem gX4_take (l : Launch) {D : va_G} {cI cZ : ClassId} {ad : Nat → Nat} {tT : Nat} (hi : INJ ad) (ca : Nat) (cb : Nat) (hca : RDG ca) (hcb : RDG cb) (σ : Mem) : GM l D cI cZ ad tT yX4_take cX4_take 2 (none) 2 44 rvv [.ref (ad ca), .ref (ad cb)] σ (fX4_take ca cb σ) := by
  refine gm_of (lv := [(0, .ref (ad ca)), (1, .ref (ad cb))]) (own := RX4) hi (by decide +kernel) rfl (Nat.le_of_ble_eq_true rfl) rfl ?_
  intro p e s m args below meth c A C ls hl
  unfold fX4_take
  refine r_aload_n C dX4_take_0 rfl (lv_at hl 0 rfl) ?_
  refine r_getR C fl_X4_14 (lf4_0 hca) dX4_take_1 ?_
  refine r_aload_n C dX4_take_4 rfl (lv_at hl 1 rfl) ?_
  refine r_getR C fl_X4_14 (lf4_0 hcb) dX4_take_5 ?_
  refine r_callVv (As := [.ref (ad (cb + 1))]) (rest := []) C hl ml_X4_50 (rc5 hca.2) (gX5_fillFrom l C.inj (ca + 1) 48 (cb + 1) 48 hca.2 hcb.2 σ) ⟨Nat.le_of_ble_eq_true rfl, Nat.le_of_ble_eq_true rfl⟩ ⟨Nat.le_of_ble_eq_true rfl, Nat.le_of_ble_eq_true rfl⟩ rfl rfl (Nat.le_of_ble_eq_true rfl) dX4_take_8 (fun r1 σ2 => ?_)
  refine r_aload_n C dX4_take_11 rfl (lv_at hl 0 rfl) ?_
  refine r_aload_n C dX4_take_12 rfl (lv_at hl 1 rfl) ?_
  refine r_getI C fl_X4_20 (lf4_1 hcb) dX4_take_13 ?_
  refine r_putI C fl_X4_20 fp_X4_1 rfl rfl (lf4_1 hca) dX4_take_16 ?_
  refine r_letm (fun σ3 => ?_)
  refine r_aload_n C dX4_take_19 rfl (lv_at hl 0 rfl) ?_
  refine r_aload_n C dX4_take_20 rfl (lv_at hl 1 rfl) ?_
  refine r_getI C fl_X4_24 (lf4_2 hcb) dX4_take_21 ?_
  refine r_putI C fl_X4_24 fp_X4_2 rfl rfl (lf4_2 hca) dX4_take_24 ?_
  refine r_letm (fun σ4 => ?_)
  exact r_vret C rfl dX4_take_27

set_option maxRecDepth 100000 in
def fX4_hasCopy (ca : Nat) (x1 : Int32) (σ : Mem) : Option (Int32 × Mem) := if (x1 : Int32) < 0 then some (0, σ) else if (σ ca 1 : Int32) ≤ x1 then some (0, σ) else some (1, σ)
set_option maxRecDepth 100000 in
set_option maxHeartbeats 4000000 in
theorem gX4_hasCopy (l : Launch) {D : va_G} {cI cZ : ClassId} {ad : Nat → Nat} {tT : Nat} (hi : INJ ad) (ca : Nat) (hca : RDG ca) (x1 : Int32) (σ : Mem) : GM l D cI cZ ad tT yX4_hasCopy cX4_hasCopy 2 (some .boolean) 0 0 rvi [.ref (ad ca), .int x1] σ (fX4_hasCopy ca x1 σ) := by
  refine gm_of (lv := [(0, .ref (ad ca)), (1, .int x1)]) (own := RX4) hi (by decide +kernel) rfl (Nat.le_of_ble_eq_true rfl) rfl ?_
  intro p e s m args below meth c A C ls hl
  unfold fX4_hasCopy
  refine r_iload_n C dX4_hasCopy_0 rfl (lv_at hl 1 rfl) ?_
  refine r_if_lt (tgt := 16) C dX4_hasCopy_1 (by decide) ?_ ?_
  · refine r_iconst (v := 0) C dX4_hasCopy_16 (by decide) ?_
    exact r_zret C rfl (by decide) dX4_hasCopy_17
  · refine r_iload_n C dX4_hasCopy_4 rfl (lv_at hl 1 rfl) ?_
    refine r_aload_n C dX4_hasCopy_5 rfl (lv_at hl 0 rfl) ?_
    refine r_getI C fl_X4_20 (lf4_1 hca) dX4_hasCopy_6 ?_
    refine r_icmp_ge (tgt := 16) C dX4_hasCopy_9 (by decide) ?_ ?_
    · refine r_iconst (v := 0) C dX4_hasCopy_16 (by decide) ?_
      exact r_zret C rfl (by decide) dX4_hasCopy_17
    · refine r_iconst (v := 1) C dX4_hasCopy_12 (by decide) ?_
      refine r_goto (tgt := 17) C dX4_hasCopy_13 (by decide) ?_
      exact r_zret C rfl (by decide) dX4_hasCopy_17

set_option maxRecDepth 100000 in
def fX4_hasPlace (ca : Nat) (x1 : Int32) (σ : Mem) : Option (Int32 × Mem) := if (x1 : Int32) < 0 then some (0, σ) else if (σ ca 2 : Int32) ≤ x1 then some (0, σ) else some (1, σ)
set_option maxRecDepth 100000 in
set_option maxHeartbeats 4000000 in
theorem gX4_hasPlace (l : Launch) {D : va_G} {cI cZ : ClassId} {ad : Nat → Nat} {tT : Nat} (hi : INJ ad) (ca : Nat) (hca : RDG ca) (x1 : Int32) (σ : Mem) : GM l D cI cZ ad tT yX4_hasPlace cX4_hasPlace 2 (some .boolean) 0 0 rvi [.ref (ad ca), .int x1] σ (fX4_hasPlace ca x1 σ) := by
  refine gm_of (lv := [(0, .ref (ad ca)), (1, .int x1)]) (own := RX4) hi (by decide +kernel) rfl (Nat.le_of_ble_eq_true rfl) rfl ?_
  intro p e s m args below meth c A C ls hl
  unfold fX4_hasPlace
  refine r_iload_n C dX4_hasPlace_0 rfl (lv_at hl 1 rfl) ?_
  refine r_if_lt (tgt := 16) C dX4_hasPlace_1 (by decide) ?_ ?_
  · refine r_iconst (v := 0) C dX4_hasPlace_16 (by decide) ?_
    exact r_zret C rfl (by decide) dX4_hasPlace_17
  · refine r_iload_n C dX4_hasPlace_4 rfl (lv_at hl 1 rfl) ?_
    refine r_aload_n C dX4_hasPlace_5 rfl (lv_at hl 0 rfl) ?_
    refine r_getI C fl_X4_24 (lf4_2 hca) dX4_hasPlace_6 ?_
    refine r_icmp_ge (tgt := 16) C dX4_hasPlace_9 (by decide) ?_ ?_
    · refine r_iconst (v := 0) C dX4_hasPlace_16 (by decide) ?_
      exact r_zret C rfl (by decide) dX4_hasPlace_17
    · refine r_iconst (v := 1) C dX4_hasPlace_12 (by decide) ?_
      refine r_goto (tgt := 17) C dX4_hasPlace_13 (by decide) ?_
      exact r_zret C rfl (by decide) dX4_hasPlace_17

set_option maxRecDepth 100000 in
def fX4_has (ca : Nat) (x1 : Int32) (x2 : Int32) (σ : Mem) : Option (Int32 × Mem) := bnd (fX4_hasCopy ca x1 σ) (fun r1 σ2 => if (r1 : Int32) = 0 then some (0, σ2) else bnd (fX4_hasPlace ca x2 σ2) (fun r3 σ4 => if (r3 : Int32) = 0 then some (0, σ4) else some (1, σ4)))
set_option maxRecDepth 100000 in
set_option maxHeartbeats 4000000 in
theorem gX4_has (l : Launch) {D : va_G} {cI cZ : ClassId} {ad : Nat → Nat} {tT : Nat} (hi : INJ ad) (ca : Nat) (hca : RDG ca) (x1 : Int32) (x2 : Int32) (σ : Mem) : GM l D cI cZ ad tT yX4_has cX4_has 3 (some .boolean) 1 21 rvi [.ref (ad ca), .int x1, .int x2] σ (fX4_has ca x1 x2 σ) := by
  refine gm_of (lv := [(0, .ref (ad ca)), (1, .int x1), (2, .int x2)]) (own := RX4) hi (by decide +kernel) rfl (Nat.le_of_ble_eq_true rfl) rfl ?_
  intro p e s m args below meth c A C ls hl
  unfold fX4_has
  refine r_aload_n C dX4_has_0 rfl (lv_at hl 0 rfl) ?_
  refine r_iload_n C dX4_has_1 rfl (lv_at hl 1 rfl) ?_
  refine r_callVi (As := [.int x1]) (rest := []) C hl ml_X4_27 (rc4 hca) (gX4_hasCopy l C.inj ca hca x1 σ) ⟨Nat.le_of_ble_eq_true rfl, Nat.le_of_ble_eq_true rfl⟩ ⟨Nat.le_of_ble_eq_true rfl, Nat.le_of_ble_eq_true rfl⟩ rfl rfl (Nat.le_of_ble_eq_true rfl) dX4_has_2 (fun r1 σ2 => ?_)
  refine r_if_eq (tgt := 20) C dX4_has_5 (by decide) ?_ ?_
  · refine r_iconst (v := 0) C dX4_has_20 (by decide) ?_
    exact r_zret C rfl (by decide) dX4_has_21
  · refine r_aload_n C dX4_has_8 rfl (lv_at hl 0 rfl) ?_
    refine r_iload_n C dX4_has_9 rfl (lv_at hl 2 rfl) ?_
    refine r_callVi (As := [.int x2]) (rest := []) C hl ml_X4_31 (rc4 hca) (gX4_hasPlace l C.inj ca hca x2 σ2) ⟨Nat.le_of_ble_eq_true rfl, Nat.le_of_ble_eq_true rfl⟩ ⟨Nat.le_of_ble_eq_true rfl, Nat.le_of_ble_eq_true rfl⟩ rfl rfl (Nat.le_of_ble_eq_true rfl) dX4_has_10 (fun r3 σ4 => ?_)
    refine r_if_eq (tgt := 20) C dX4_has_13 (by decide) ?_ ?_
    · refine r_iconst (v := 0) C dX4_has_20 (by decide) ?_
      exact r_zret C rfl (by decide) dX4_has_21
    · refine r_iconst (v := 1) C dX4_has_16 (by decide) ?_
      refine r_goto (tgt := 21) C dX4_has_17 (by decide) ?_
      exact r_zret C rfl (by decide) dX4_has_21

set_option maxRecDepth 100000 in
def fX4_at (ca : Nat) (x1 : Int32) (x2 : Int32) (σ : Mem) : Option (Int32 × Mem) := bnd (fX4_has ca x1 x2 σ) (fun r1 σ2 => if (r1 : Int32) = 0 then some (4, σ2) else bnd (fX4_cellOf ca x1 x2 σ2) (fun r3 σ4 => bnd (fX5_at (ca + 1) 48 r3 σ4) (fun r5 σ6 => some (r5, σ6))))
set_option maxRecDepth 100000 in
set_option maxHeartbeats 4000000 in
theorem gX4_at (l : Launch) {D : va_G} {cI cZ : ClassId} {ad : Nat → Nat} {tT : Nat} (hi : INJ ad) (ca : Nat) (hca : RDG ca) (x1 : Int32) (x2 : Int32) (σ : Mem) : GM l D cI cZ ad tT yX4_at cX4_at 3 (some .int) 2 43 rvi [.ref (ad ca), .int x1, .int x2] σ (fX4_at ca x1 x2 σ) := by
  refine gm_of (lv := [(0, .ref (ad ca)), (1, .int x1), (2, .int x2)]) (own := RX4) hi (by decide +kernel) rfl (Nat.le_of_ble_eq_true rfl) rfl ?_
  intro p e s m args below meth c A C ls hl
  unfold fX4_at
  refine r_aload_n C dX4_at_0 rfl (lv_at hl 0 rfl) ?_
  refine r_iload_n C dX4_at_1 rfl (lv_at hl 1 rfl) ?_
  refine r_iload_n C dX4_at_2 rfl (lv_at hl 2 rfl) ?_
  refine r_callVi (As := [.int x1, .int x2]) (rest := []) C hl ml_X4_34 (rc4 hca) (gX4_has l C.inj ca hca x1 x2 σ) ⟨Nat.le_of_ble_eq_true rfl, Nat.le_of_ble_eq_true rfl⟩ ⟨Nat.le_of_ble_eq_true rfl, Nat.le_of_ble_eq_true rfl⟩ rfl rfl (Nat.le_of_ble_eq_true rfl) dX4_at_3 (fun r1 σ2 => ?_)
  refine r_if_eq (tgt := 25) C dX4_at_6 (by decide) ?_ ?_
  · refine r_iconst (v := 4) C dX4_at_25 (by decide) ?_
    exact r_iret C rfl dX4_at_26
  · refine r_aload_n C dX4_at_9 rfl (lv_at hl 0 rfl) ?_
    refine r_getR C fl_X4_14 (lf4_0 hca) dX4_at_10 ?_
    refine r_aload_n C dX4_at_13 rfl (lv_at hl 0 rfl) ?_
    refine r_iload_n C dX4_at_14 rfl (lv_at hl 1 rfl) ?_
    refine r_iload_n C dX4_at_15 rfl (lv_at hl 2 rfl) ?_
    refine r_callVi (As := [.int x1, .int x2]) (rest := [.ref (ad (ca + 1))]) C hl ml_X4_38 (rc4 hca) (gX4_cellOf l C.inj ca hca x1 x2 σ2) ⟨Nat.le_of_ble_eq_true rfl, Nat.le_of_ble_eq_true rfl⟩ ⟨Nat.le_of_ble_eq_true rfl, Nat.le_of_ble_eq_true rfl⟩ rfl rfl (Nat.le_of_ble_eq_true rfl) dX4_at_16 (fun r3 σ4 => ?_)
    refine r_callVi (As := [.int r3]) (rest := []) C hl ml_X4_42 (rc5 hca.2) (gX5_at l C.inj (ca + 1) 48 hca.2 r3 σ4) ⟨Nat.le_of_ble_eq_true rfl, Nat.le_of_ble_eq_true rfl⟩ ⟨Nat.le_of_ble_eq_true rfl, Nat.le_of_ble_eq_true rfl⟩ rfl rfl (Nat.le_of_ble_eq_true rfl) dX4_at_19 (fun r5 σ6 => ?_)
    refine r_goto (tgt := 26) C dX4_at_22 (by decide) ?_
    exact r_iret C rfl dX4_at_26

set_option maxRecDepth 100000 in
def BX1_loseOldest_2 (k50 : Mem → Option (Int32 × Mem)) (rec : Int32 → Mem → Option (Int32 × Mem)) (x1 : Int32) (σ : Mem) : Option (Int32 × Mem) := if (10 : Int32) ≤ x1 then k50 σ else bnd (fX5_at 11 10 x1 σ) (fun r1 σ2 => bnd (fX5_put 11 10 (x1 - 1) r1 σ2) (fun r3 σ4 => bnd (fX5_at 13 10 x1 σ4) (fun r5 σ6 => bnd (fX5_put 13 10 (x1 - 1) r5 σ6) (fun r7 σ8 => rec (x1 + 1) σ8))))
def LX1_loseOldest_2 (k50 : Mem → Option (Int32 × Mem)) : Nat → Int32 → Mem → Option (Int32 × Mem)
  | 0 => fun _ _ => none
  | n + 1 => BX1_loseOldest_2 k50 (LX1_loseOldest_2 k50 n)
set_option maxRecDepth 100000 in
set_option maxHeartbeats 4000000 in
theorem wX1_loseOldest_2 {p : Program} {l : Launch} {e : Env} {s : State} {m : MethodId} {args : Array Value} {below : List Frame} {meth : Method} {c : Code} {D : va_G} {cI cZ : ClassId} {ad : Nat → Nat} {tT : Nat} {A : Nat → Prop} (C : CX p s m args meth c cX1_loseOldest 2 RX1 (none) D cI cZ ad tT A) (k50 : Mem → Option (Int32 × Mem)) (hk50 : ∀ (σ : Mem) (ls : Array Slot), lv_has ls 2 [(0, .ref (ad 10))] → WM p l e 1 22 s m args below meth c D cI cZ ad A rvv (k50 σ) σ (F0 m 50 ls [])) :
    ∀ (n0 : Nat), ∀ (x1 : Int32) (σ : Mem) (ls : Array Slot), lv_has ls 2 [(0, .ref (ad 10)), (1, .int x1)] → WM p l e 1 22 s m args below meth c D cI cZ ad A rvv (LX1_loseOldest_2 k50 n0 x1 σ) σ (F0 m 2 ls []) := by
  intro n0
  induction n0 with
  | zero => intro x1 σ ls hl; exact r_none
  | succ n0 ih =>
    intro x1 σ ls hl
    show WM p l e 1 22 s m args below meth c D cI cZ ad A rvv (BX1_loseOldest_2 k50 (LX1_loseOldest_2 k50 n0) x1 σ) σ (F0 m 2 ls [])
    unfold BX1_loseOldest_2
    refine r_iload_n C dX1_loseOldest_2 rfl (lv_at hl 1 rfl) ?_
    refine r_bipush (v := 10) C dX1_loseOldest_3 (by decide) ?_
    refine r_icmp_ge (tgt := 50) C dX1_loseOldest_5 (by decide) ?_ ?_
    · exact hk50 σ ls (lv_sub hl [0] rfl)
    · refine r_aload_n C dX1_loseOldest_8 rfl (lv_at hl 0 rfl) ?_
      refine r_getR C fl_X1_14 lf_10_0 dX1_loseOldest_9 ?_
      refine r_iload_n C dX1_loseOldest_12 rfl (lv_at hl 1 rfl) ?_
      refine r_iconst (v := 1) C dX1_loseOldest_13 (by decide) ?_
      refine r_isub C dX1_loseOldest_14 ?_
      refine r_aload_n C dX1_loseOldest_15 rfl (lv_at hl 0 rfl) ?_
      refine r_getR C fl_X1_14 lf_10_0 dX1_loseOldest_16 ?_
      refine r_iload_n C dX1_loseOldest_19 rfl (lv_at hl 1 rfl) ?_
      refine r_callVi (As := [.int x1]) (rest := [.int (x1 - 1), .ref (ad 11)]) C hl ml_X1_34 rc_11 (gX5_at l C.inj 11 10 row_11 x1 σ) ⟨Nat.le_of_ble_eq_true rfl, Nat.le_of_ble_eq_true rfl⟩ ⟨Nat.le_of_ble_eq_true rfl, Nat.le_of_ble_eq_true rfl⟩ rfl rfl (Nat.le_of_ble_eq_true rfl) dX1_loseOldest_20 (fun r1 σ2 => ?_)
      refine r_callVv (As := [.int (x1 - 1), .int r1]) (rest := []) C hl ml_X1_30 rc_11 (gX5_put l C.inj 11 10 row_11 (x1 - 1) r1 σ2) ⟨Nat.le_of_ble_eq_true rfl, Nat.le_of_ble_eq_true rfl⟩ ⟨Nat.le_of_ble_eq_true rfl, Nat.le_of_ble_eq_true rfl⟩ rfl rfl (Nat.le_of_ble_eq_true rfl) dX1_loseOldest_23 (fun r3 σ4 => ?_)
      refine r_aload_n C dX1_loseOldest_26 rfl (lv_at hl 0 rfl) ?_
      refine r_getR C fl_X1_20 lf_10_1 dX1_loseOldest_27 ?_
      refine r_iload_n C dX1_loseOldest_30 rfl (lv_at hl 1 rfl) ?_
      refine r_iconst (v := 1) C dX1_loseOldest_31 (by decide) ?_
      refine r_isub C dX1_loseOldest_32 ?_
      refine r_aload_n C dX1_loseOldest_33 rfl (lv_at hl 0 rfl) ?_
      refine r_getR C fl_X1_20 lf_10_1 dX1_loseOldest_34 ?_
      refine r_iload_n C dX1_loseOldest_37 rfl (lv_at hl 1 rfl) ?_
      refine r_callVi (As := [.int x1]) (rest := [.int (x1 - 1), .ref (ad 13)]) C hl ml_X1_34 rc_13 (gX5_at l C.inj 13 10 row_13 x1 σ4) ⟨Nat.le_of_ble_eq_true rfl, Nat.le_of_ble_eq_true rfl⟩ ⟨Nat.le_of_ble_eq_true rfl, Nat.le_of_ble_eq_true rfl⟩ rfl rfl (Nat.le_of_ble_eq_true rfl) dX1_loseOldest_38 (fun r5 σ6 => ?_)
      refine r_callVv (As := [.int (x1 - 1), .int r5]) (rest := []) C hl ml_X1_30 rc_13 (gX5_put l C.inj 13 10 row_13 (x1 - 1) r5 σ6) ⟨Nat.le_of_ble_eq_true rfl, Nat.le_of_ble_eq_true rfl⟩ ⟨Nat.le_of_ble_eq_true rfl, Nat.le_of_ble_eq_true rfl⟩ rfl rfl (Nat.le_of_ble_eq_true rfl) dX1_loseOldest_41 (fun r7 σ8 => ?_)
      refine r_iinc (v := x1 + 1) (lv' := [(1, .int (x1 + 1)), (0, .ref (ad 10))]) C dX1_loseOldest_44 hl (k := 1) rfl rfl (by decide) rfl (fun ls hl => ?_)
      refine r_goto (tgt := 2) C dX1_loseOldest_47 (by decide) ?_
      exact ih (x1 + 1) σ8 ls (lv_sub hl [1, 0] rfl)
set_option maxRecDepth 100000 in
def fX1_loseOldest (σ : Mem) : Option (Int32 × Mem) := LX1_loseOldest_2 (fun σ9 => letm (stm σ9 10 2 9) (fun σ10 => some (0, σ10))) 300 1 σ
set_option maxRecDepth 100000 in
set_option maxHeartbeats 4000000 in
theorem gX1_loseOldest (l : Launch) {D : va_G} {cI cZ : ClassId} {ad : Nat → Nat} {tT : Nat} (hi : INJ ad) (σ : Mem) : GM l D cI cZ ad tT yX1_loseOldest cX1_loseOldest 2 (none) 1 22 rvv [.ref (ad 10)] σ (fX1_loseOldest σ) := by
  refine gm_of (lv := [(0, .ref (ad 10))]) (own := RX1) hi (by decide +kernel) rfl (Nat.le_of_ble_eq_true rfl) rfl ?_
  intro p e s m args below meth c A C ls hl
  unfold fX1_loseOldest
  refine r_iconst (v := 1) C dX1_loseOldest_0 (by decide) ?_
  refine r_istore_n (lv' := [(1, .int 1), (0, .ref (ad 10))]) C dX1_loseOldest_1 rfl hl (by decide) rfl (fun ls hl => ?_)
  refine wX1_loseOldest_2  C _ ?_ 300 1 σ ls (lv_sub hl [1, 0] rfl)
  · intro σ9 ls hl
    refine r_aload_n C dX1_loseOldest_50 rfl (lv_at hl 0 rfl) ?_
    refine r_bipush (v := 9) C dX1_loseOldest_51 (by decide) ?_
    refine r_putI C fl_X1_23 fp_X1_2 rfl rfl lf_10_2 dX1_loseOldest_53 ?_
    refine r_letm (fun σ10 => ?_)
    exact r_vret C rfl dX1_loseOldest_56

set_option maxRecDepth 100000 in
def fX1_note (x1 : Int32) (x2 : Int32) (σ : Mem) : Option (Int32 × Mem) := jn (fun x1 x2 σ1 => bnd (fX5_put 11 10 (σ1 10 2) x1 σ1) (fun r2 σ3 => bnd (fX5_put 13 10 (σ3 10 2) x2 σ3) (fun r4 σ5 => letm (stm σ5 10 2 ((σ5 10 2) + 1)) (fun σ6 => some (0, σ6))))) (fun k13 => if (σ 10 2 : Int32) < 10 then k13 x1 x2 σ else bnd (fX1_loseOldest σ) (fun r7 σ8 => k13 x1 x2 σ8))
set_option maxRecDepth 100000 in
set_option maxHeartbeats 4000000 in
theorem gX1_note (l : Launch) {D : va_G} {cI cZ : ClassId} {ad : Nat → Nat} {tT : Nat} (hi : INJ ad) (x1 : Int32) (x2 : Int32) (σ : Mem) : GM l D cI cZ ad tT yX1_note cX1_note 3 (none) 2 43 rvv [.ref (ad 10), .int x1, .int x2] σ (fX1_note x1 x2 σ) := by
  refine gm_of (lv := [(0, .ref (ad 10)), (1, .int x1), (2, .int x2)]) (own := RX1) hi (by decide +kernel) rfl (Nat.le_of_ble_eq_true rfl) rfl ?_
  intro p e s m args below meth c A C ls hl
  unfold fX1_note
  refine r_aload_n C dX1_note_0 rfl (lv_at hl 0 rfl) ?_
  refine r_getI C fl_X1_23 lf_10_2 dX1_note_1 ?_
  refine r_bipush (v := 10) C dX1_note_4 (by decide) ?_
  refine r_jn (fun (k13 : Int32 → Int32 → Mem → Option (Int32 × Mem)) => ∀ (x1 : Int32) (x2 : Int32) (σ : Mem) (ls : Array Slot), lv_has ls 3 [(0, .ref (ad 10)), (1, .int x1), (2, .int x2)] → WM p l e 2 43 s m args below meth c D cI cZ ad A rvv (k13 x1 x2 σ) σ (F0 m 13 ls [])) ?_ ?_
  · intro x1 x2 σ1 ls hl
    refine r_aload_n C dX1_note_13 rfl (lv_at hl 0 rfl) ?_
    refine r_getR C fl_X1_14 lf_10_0 dX1_note_14 ?_
    refine r_aload_n C dX1_note_17 rfl (lv_at hl 0 rfl) ?_
    refine r_getI C fl_X1_23 lf_10_2 dX1_note_18 ?_
    refine r_iload_n C dX1_note_21 rfl (lv_at hl 1 rfl) ?_
    refine r_callVv (As := [.int (σ1 10 2), .int x1]) (rest := []) C hl ml_X1_30 rc_11 (gX5_put l C.inj 11 10 row_11 (σ1 10 2) x1 σ1) ⟨Nat.le_of_ble_eq_true rfl, Nat.le_of_ble_eq_true rfl⟩ ⟨Nat.le_of_ble_eq_true rfl, Nat.le_of_ble_eq_true rfl⟩ rfl rfl (Nat.le_of_ble_eq_true rfl) dX1_note_22 (fun r2 σ3 => ?_)
    refine r_aload_n C dX1_note_25 rfl (lv_at hl 0 rfl) ?_
    refine r_getR C fl_X1_20 lf_10_1 dX1_note_26 ?_
    refine r_aload_n C dX1_note_29 rfl (lv_at hl 0 rfl) ?_
    refine r_getI C fl_X1_23 lf_10_2 dX1_note_30 ?_
    refine r_iload_n C dX1_note_33 rfl (lv_at hl 2 rfl) ?_
    refine r_callVv (As := [.int (σ3 10 2), .int x2]) (rest := []) C hl ml_X1_30 rc_13 (gX5_put l C.inj 13 10 row_13 (σ3 10 2) x2 σ3) ⟨Nat.le_of_ble_eq_true rfl, Nat.le_of_ble_eq_true rfl⟩ ⟨Nat.le_of_ble_eq_true rfl, Nat.le_of_ble_eq_true rfl⟩ rfl rfl (Nat.le_of_ble_eq_true rfl) dX1_note_34 (fun r4 σ5 => ?_)
    refine r_aload_n C dX1_note_37 rfl (lv_at hl 0 rfl) ?_
    refine r_dup C dX1_note_38 rfl ?_
    refine r_getI C fl_X1_23 lf_10_2 dX1_note_39 ?_
    refine r_iconst (v := 1) C dX1_note_42 (by decide) ?_
    refine r_iadd C dX1_note_43 ?_
    refine r_putI C fl_X1_23 fp_X1_2 rfl rfl lf_10_2 dX1_note_44 ?_
    refine r_letm (fun σ6 => ?_)
    exact r_vret C rfl dX1_note_47
  · intro k13 hk13
    refine r_icmp_lt (tgt := 13) C dX1_note_6 (by decide) ?_ ?_
    · exact hk13 x1 x2 σ ls (lv_sub hl [0, 1, 2] rfl)
    · refine r_aload_n C dX1_note_9 rfl (lv_at hl 0 rfl) ?_
      refine r_callVv (As := []) (rest := []) C hl ml_X1_27 rc_10 (gX1_loseOldest l C.inj σ) ⟨Nat.le_of_ble_eq_true rfl, Nat.le_of_ble_eq_true rfl⟩ ⟨Nat.le_of_ble_eq_true rfl, Nat.le_of_ble_eq_true rfl⟩ rfl rfl (Nat.le_of_ble_eq_true rfl) dX1_note_10 (fun r7 σ8 => ?_)
      exact hk13 x1 x2 σ8 ls (lv_sub hl [0, 1, 2] rfl)

set_option maxRecDepth 100000 in
def fX8_treesOf (x0 : Int32) (σ : Mem) : Option (Int32 × Mem) := if (x0 : Int32) < 0 then some (1, σ) else if (7 : Int32) ≤ x0 then some (1, σ) else gd 7 x0 (some (TRi x0.toNatClampNeg, σ))
set_option maxRecDepth 100000 in
set_option maxHeartbeats 4000000 in
theorem gX8_treesOf (l : Launch) {D : va_G} {cI cZ : ClassId} {ad : Nat → Nat} {tT : Nat} (hi : INJ ad) (x0 : Int32) (σ : Mem) : GM l D cI cZ ad tT yX8_treesOf cX8_treesOf 1 (some .int) 0 0 rvi [.int x0] σ (fX8_treesOf x0 σ) := by
  refine gm_of (lv := [(0, .int x0)]) (own := RX8) hi (by decide +kernel) rfl (Nat.le_of_ble_eq_true rfl) rfl ?_
  intro p e s m args below meth c A C ls hl
  unfold fX8_treesOf
  refine r_iload_n C dX8_treesOf_0 rfl (lv_at hl 0 rfl) ?_
  refine r_if_lt (tgt := 20) C dX8_treesOf_1 (by decide) ?_ ?_
  · refine r_iconst (v := 1) C dX8_treesOf_20 (by decide) ?_
    exact r_iret C rfl dX8_treesOf_21
  · refine r_iload_n C dX8_treesOf_4 rfl (lv_at hl 0 rfl) ?_
    refine r_gett C (uw_mk 400 (by decide +kernel) rfl) dX8_treesOf_5 ?_
    refine r_tlen (v := 7) C (by decide) dX8_treesOf_8 ?_
    refine r_icmp_ge (tgt := 20) C dX8_treesOf_9 (by decide) ?_ ?_
    · refine r_iconst (v := 1) C dX8_treesOf_20 (by decide) ?_
      exact r_iret C rfl dX8_treesOf_21
    · refine r_gett C (uw_mk 400 (by decide +kernel) rfl) dX8_treesOf_12 ?_
      refine r_iload_n C dX8_treesOf_15 rfl (lv_at hl 0 rfl) ?_
      refine r_tald C dX8_treesOf_16 ?_
      refine r_goto (tgt := 21) C dX8_treesOf_17 (by decide) ?_
      exact r_iret C rfl dX8_treesOf_21

set_option maxRecDepth 100000 in
def fX8_bitsOf (x0 : Int32) (σ : Mem) : Option (Int32 × Mem) := some ((15 : Int32) <<< (((4 : Int32) * x0) &&& 31), σ)
set_option maxRecDepth 100000 in
set_option maxHeartbeats 4000000 in
theorem gX8_bitsOf (l : Launch) {D : va_G} {cI cZ : ClassId} {ad : Nat → Nat} {tT : Nat} (hi : INJ ad) (x0 : Int32) (σ : Mem) : GM l D cI cZ ad tT yX8_bitsOf cX8_bitsOf 1 (some .int) 0 0 rvi [.int x0] σ (fX8_bitsOf x0 σ) := by
  refine gm_of (lv := [(0, .int x0)]) (own := RX8) hi (by decide +kernel) rfl (Nat.le_of_ble_eq_true rfl) rfl ?_
  intro p e s m args below meth c A C ls hl
  unfold fX8_bitsOf
  refine r_bipush (v := 15) C dX8_bitsOf_0 (by decide) ?_
  refine r_iconst (v := 4) C dX8_bitsOf_2 (by decide) ?_
  refine r_iload_n C dX8_bitsOf_3 rfl (lv_at hl 0 rfl) ?_
  refine r_imul C dX8_bitsOf_4 ?_
  refine r_ishl C dX8_bitsOf_5 ?_
  exact r_iret C rfl dX8_bitsOf_6

set_option maxRecDepth 100000 in
def fX8_bitOf (x0 : Int32) (x1 : Int32) (σ : Mem) : Option (Int32 × Mem) := some ((1 : Int32) <<< ((((4 : Int32) * x0) + x1) &&& 31), σ)
set_option maxRecDepth 100000 in
set_option maxHeartbeats 4000000 in
theorem gX8_bitOf (l : Launch) {D : va_G} {cI cZ : ClassId} {ad : Nat → Nat} {tT : Nat} (hi : INJ ad) (x0 : Int32) (x1 : Int32) (σ : Mem) : GM l D cI cZ ad tT yX8_bitOf cX8_bitOf 2 (some .int) 0 0 rvi [.int x0, .int x1] σ (fX8_bitOf x0 x1 σ) := by
  refine gm_of (lv := [(0, .int x0), (1, .int x1)]) (own := RX8) hi (by decide +kernel) rfl (Nat.le_of_ble_eq_true rfl) rfl ?_
  intro p e s m args below meth c A C ls hl
  unfold fX8_bitOf
  refine r_iconst (v := 1) C dX8_bitOf_0 (by decide) ?_
  refine r_iconst (v := 4) C dX8_bitOf_1 (by decide) ?_
  refine r_iload_n C dX8_bitOf_2 rfl (lv_at hl 0 rfl) ?_
  refine r_imul C dX8_bitOf_3 ?_
  refine r_iload_n C dX8_bitOf_4 rfl (lv_at hl 1 rfl) ?_
  refine r_iadd C dX8_bitOf_5 ?_
  refine r_ishl C dX8_bitOf_6 ?_
  exact r_iret C rfl dX8_bitOf_7

set_option maxRecDepth 100000 in
def BX4_setsOf_4 (ca : Nat) (k48 : Int32 → Mem → Option (Int32 × Mem)) (rec : Int32 → Int32 → Int32 → Mem → Option (Int32 × Mem)) (x1 : Int32) (x2 : Int32) (x3 : Int32) (σ : Mem) : Option (Int32 × Mem) := if (σ ca 2 : Int32) ≤ x3 then k48 x2 σ else bnd (fX4_at ca x1 x3 σ) (fun r1 σ2 => if (r1 : Int32) = 4 then rec x1 x2 (x3 + 1) σ2 else bnd (fX8_bitsOf x3 σ2) (fun r3 σ4 => bnd (fX8_bitOf x3 r1 σ4) (fun r5 σ6 => letv (x2 &&& ((r3 ^^^ (-1)) ||| r5)) (fun v7 => rec x1 v7 (x3 + 1) σ6))))
def LX4_setsOf_4 (ca : Nat) (k48 : Int32 → Mem → Option (Int32 × Mem)) : Nat → Int32 → Int32 → Int32 → Mem → Option (Int32 × Mem)
  | 0 => fun _ _ _ _ => none
  | n + 1 => BX4_setsOf_4 ca k48 (LX4_setsOf_4 ca k48 n)
set_option maxRecDepth 100000 in
set_option maxHeartbeats 4000000 in
theorem wX4_setsOf_4 {p : Program} {l : Launch} {e : Env} {s : State} {m : MethodId} {args : Array Value} {below : List Frame} {meth : Method} {c : Code} {D : va_G} {cI cZ : ClassId} {ad : Nat → Nat} {tT : Nat} {A : Nat → Prop} (ca : Nat) (hca : RDG ca) (C : CX p s m args meth c cX4_setsOf 5 RX4 (some .int) D cI cZ ad tT A) (k48 : Int32 → Mem → Option (Int32 × Mem)) (hk48 : ∀ (x2 : Int32) (σ : Mem) (ls : Array Slot), lv_has ls 5 [(2, .int x2)] → WM p l e 3 65 s m args below meth c D cI cZ ad A rvi (k48 x2 σ) σ (F0 m 48 ls [])) :
    ∀ (n0 : Nat), ∀ (x1 : Int32) (x2 : Int32) (x3 : Int32) (σ : Mem) (ls : Array Slot), lv_has ls 5 [(0, .ref (ad ca)), (1, .int x1), (2, .int x2), (3, .int x3)] → WM p l e 3 65 s m args below meth c D cI cZ ad A rvi (LX4_setsOf_4 ca k48 n0 x1 x2 x3 σ) σ (F0 m 4 ls []) := by
  intro n0
  induction n0 with
  | zero => intro x1 x2 x3 σ ls hl; exact r_none
  | succ n0 ih =>
    intro x1 x2 x3 σ ls hl
    show WM p l e 3 65 s m args below meth c D cI cZ ad A rvi (BX4_setsOf_4 ca k48 (LX4_setsOf_4 ca k48 n0) x1 x2 x3 σ) σ (F0 m 4 ls [])
    unfold BX4_setsOf_4
    refine r_iload_n C dX4_setsOf_4 rfl (lv_at hl 3 rfl) ?_
    refine r_aload_n C dX4_setsOf_5 rfl (lv_at hl 0 rfl) ?_
    refine r_getI C fl_X4_24 (lf4_2 hca) dX4_setsOf_6 ?_
    refine r_icmp_ge (tgt := 48) C dX4_setsOf_9 (by decide) ?_ ?_
    · exact hk48 x2 σ ls (lv_sub hl [2] rfl)
    · refine r_aload_n C dX4_setsOf_12 rfl (lv_at hl 0 rfl) ?_
      refine r_iload_n C dX4_setsOf_13 rfl (lv_at hl 1 rfl) ?_
      refine r_iload_n C dX4_setsOf_14 rfl (lv_at hl 3 rfl) ?_
      refine r_callVi (As := [.int x1, .int x3]) (rest := []) C hl ml_X4_54 (rc4 hca) (gX4_at l C.inj ca hca x1 x3 σ) ⟨Nat.le_of_ble_eq_true rfl, Nat.le_of_ble_eq_true rfl⟩ ⟨Nat.le_of_ble_eq_true rfl, Nat.le_of_ble_eq_true rfl⟩ rfl rfl (Nat.le_of_ble_eq_true rfl) dX4_setsOf_15 (fun r1 σ2 => ?_)
      refine r_istore (lv' := [(4, .int r1), (0, .ref (ad ca)), (1, .int x1), (2, .int x2), (3, .int x3)]) C dX4_setsOf_18 hl (by decide) rfl (fun ls hl => ?_)
      refine r_iload C dX4_setsOf_20 (lv_at hl 0 rfl) ?_
      refine r_iconst (v := 4) C dX4_setsOf_22 (by decide) ?_
      refine r_icmp_eq (tgt := 42) C dX4_setsOf_23 (by decide) ?_ ?_
      · refine r_iinc (v := x3 + 1) (lv' := [(3, .int (x3 + 1)), (4, .int r1), (0, .ref (ad ca)), (1, .int x1), (2, .int x2)]) C dX4_setsOf_42 hl (k := 4) rfl rfl (by decide) rfl (fun ls hl => ?_)
        refine r_goto (tgt := 4) C dX4_setsOf_45 (by decide) ?_
        exact ih x1 x2 (x3 + 1) σ2 ls (lv_sub hl [2, 3, 4, 0] rfl)
      · refine r_iload_n C dX4_setsOf_26 rfl (lv_at hl 3 rfl) ?_
        refine r_iload_n C dX4_setsOf_27 rfl (lv_at hl 4 rfl) ?_
        refine r_callNi (As := [.int x3]) (rest := [.int x2]) C hl ml_X4_56 (gX8_bitsOf l C.inj x3 σ2) ⟨Nat.le_of_ble_eq_true rfl, Nat.le_of_ble_eq_true rfl⟩ ⟨Nat.le_of_ble_eq_true rfl, Nat.le_of_ble_eq_true rfl⟩ rfl rfl (Nat.le_of_ble_eq_true rfl) dX4_setsOf_28 (fun r3 σ4 => ?_)
        refine r_iconst (v := (-1)) C dX4_setsOf_31 (by decide) ?_
        refine r_ixor C dX4_setsOf_32 ?_
        refine r_iload_n C dX4_setsOf_33 rfl (lv_at hl 4 rfl) ?_
        refine r_iload C dX4_setsOf_34 (lv_at hl 0 rfl) ?_
        refine r_callNi (As := [.int x3, .int r1]) (rest := [.int (r3 ^^^ (-1)), .int x2]) C hl ml_X4_59 (gX8_bitOf l C.inj x3 r1 σ4) ⟨Nat.le_of_ble_eq_true rfl, Nat.le_of_ble_eq_true rfl⟩ ⟨Nat.le_of_ble_eq_true rfl, Nat.le_of_ble_eq_true rfl⟩ rfl rfl (Nat.le_of_ble_eq_true rfl) dX4_setsOf_36 (fun r5 σ6 => ?_)
        refine r_ior C dX4_setsOf_39 ?_
        refine r_iand C dX4_setsOf_40 ?_
        refine r_letv (fun v7 => ?_)
        refine r_istore_n (lv' := [(2, .int v7), (4, .int r1), (0, .ref (ad ca)), (1, .int x1), (3, .int x3)]) C dX4_setsOf_41 rfl hl (by decide) rfl (fun ls hl => ?_)
        refine r_iinc (v := x3 + 1) (lv' := [(3, .int (x3 + 1)), (2, .int v7), (4, .int r1), (0, .ref (ad ca)), (1, .int x1)]) C dX4_setsOf_42 hl (k := 4) rfl rfl (by decide) rfl (fun ls hl => ?_)
        refine r_goto (tgt := 4) C dX4_setsOf_45 (by decide) ?_
        exact ih x1 v7 (x3 + 1) σ6 ls (lv_sub hl [3, 4, 1, 0] rfl)
set_option maxRecDepth 100000 in
def fX4_setsOf (ca : Nat) (x1 : Int32) (σ : Mem) : Option (Int32 × Mem) := LX4_setsOf_4 ca (fun x2 σ8 => some (x2, σ8)) 300 x1 (-1) 0 σ
set_option maxRecDepth 100000 in
set_option maxHeartbeats 4000000 in
theorem gX4_setsOf (l : Launch) {D : va_G} {cI cZ : ClassId} {ad : Nat → Nat} {tT : Nat} (hi : INJ ad) (ca : Nat) (hca : RDG ca) (x1 : Int32) (σ : Mem) : GM l D cI cZ ad tT yX4_setsOf cX4_setsOf 5 (some .int) 3 65 rvi [.ref (ad ca), .int x1] σ (fX4_setsOf ca x1 σ) := by
  refine gm_of (lv := [(0, .ref (ad ca)), (1, .int x1)]) (own := RX4) hi (by decide +kernel) rfl (Nat.le_of_ble_eq_true rfl) rfl ?_
  intro p e s m args below meth c A C ls hl
  unfold fX4_setsOf
  refine r_iconst (v := (-1)) C dX4_setsOf_0 (by decide) ?_
  refine r_istore_n (lv' := [(2, .int (-1)), (0, .ref (ad ca)), (1, .int x1)]) C dX4_setsOf_1 rfl hl (by decide) rfl (fun ls hl => ?_)
  refine r_iconst (v := 0) C dX4_setsOf_2 (by decide) ?_
  refine r_istore_n (lv' := [(3, .int 0), (2, .int (-1)), (0, .ref (ad ca)), (1, .int x1)]) C dX4_setsOf_3 rfl hl (by decide) rfl (fun ls hl => ?_)
  refine wX4_setsOf_4 ca hca C _ ?_ 300 x1 (-1) 0 σ ls (lv_sub hl [2, 3, 1, 0] rfl)
  · intro x2 σ8 ls hl
    refine r_iload_n C dX4_setsOf_48 rfl (lv_at hl 0 rfl) ?_
    exact r_iret C rfl dX4_setsOf_49

set_option maxRecDepth 100000 in
def fX7_addEdge (x1 : Int32) (x2 : Int32) (σ : Mem) : Option (Int32 × Mem) := bnd (fX5_put 26 9 (σ 25 2) x1 σ) (fun r1 σ2 => bnd (fX5_put 28 9 (σ2 25 2) x2 σ2) (fun r3 σ4 => letm (stm σ4 25 2 ((σ4 25 2) + 1)) (fun σ5 => some (0, σ5))))
set_option maxRecDepth 100000 in
set_option maxHeartbeats 4000000 in
theorem gX7_addEdge (l : Launch) {D : va_G} {cI cZ : ClassId} {ad : Nat → Nat} {tT : Nat} (hi : INJ ad) (x1 : Int32) (x2 : Int32) (σ : Mem) : GM l D cI cZ ad tT yX7_addEdge cX7_addEdge 3 (none) 1 22 rvv [.ref (ad 25), .int x1, .int x2] σ (fX7_addEdge x1 x2 σ) := by
  refine gm_of (lv := [(0, .ref (ad 25)), (1, .int x1), (2, .int x2)]) (own := RX7) hi (by decide +kernel) rfl (Nat.le_of_ble_eq_true rfl) rfl ?_
  intro p e s m args below meth c A C ls hl
  unfold fX7_addEdge
  refine r_aload_n C dX7_addEdge_0 rfl (lv_at hl 0 rfl) ?_
  refine r_getR C fl_X7_14 lf_25_0 dX7_addEdge_1 ?_
  refine r_aload_n C dX7_addEdge_4 rfl (lv_at hl 0 rfl) ?_
  refine r_getI C fl_X7_23 lf_25_2 dX7_addEdge_5 ?_
  refine r_iload_n C dX7_addEdge_8 rfl (lv_at hl 1 rfl) ?_
  refine r_callVv (As := [.int (σ 25 2), .int x1]) (rest := []) C hl ml_X7_42 rc_26 (gX5_put l C.inj 26 9 row_26 (σ 25 2) x1 σ) ⟨Nat.le_of_ble_eq_true rfl, Nat.le_of_ble_eq_true rfl⟩ ⟨Nat.le_of_ble_eq_true rfl, Nat.le_of_ble_eq_true rfl⟩ rfl rfl (Nat.le_of_ble_eq_true rfl) dX7_addEdge_9 (fun r1 σ2 => ?_)
  refine r_aload_n C dX7_addEdge_12 rfl (lv_at hl 0 rfl) ?_
  refine r_getR C fl_X7_20 lf_25_1 dX7_addEdge_13 ?_
  refine r_aload_n C dX7_addEdge_16 rfl (lv_at hl 0 rfl) ?_
  refine r_getI C fl_X7_23 lf_25_2 dX7_addEdge_17 ?_
  refine r_iload_n C dX7_addEdge_20 rfl (lv_at hl 2 rfl) ?_
  refine r_callVv (As := [.int (σ2 25 2), .int x2]) (rest := []) C hl ml_X7_42 rc_28 (gX5_put l C.inj 28 9 row_28 (σ2 25 2) x2 σ2) ⟨Nat.le_of_ble_eq_true rfl, Nat.le_of_ble_eq_true rfl⟩ ⟨Nat.le_of_ble_eq_true rfl, Nat.le_of_ble_eq_true rfl⟩ rfl rfl (Nat.le_of_ble_eq_true rfl) dX7_addEdge_21 (fun r3 σ4 => ?_)
  refine r_aload_n C dX7_addEdge_24 rfl (lv_at hl 0 rfl) ?_
  refine r_dup C dX7_addEdge_25 rfl ?_
  refine r_getI C fl_X7_23 lf_25_2 dX7_addEdge_26 ?_
  refine r_iconst (v := 1) C dX7_addEdge_29 (by decide) ?_
  refine r_iadd C dX7_addEdge_30 ?_
  refine r_putI C fl_X7_23 fp_X7_2 rfl rfl lf_25_2 dX7_addEdge_31 ?_
  refine r_letm (fun σ5 => ?_)
  exact r_vret C rfl dX7_addEdge_34

set_option maxRecDepth 100000 in
def fX7_edgeOf (x0 : Int32) (x1 : Int32) (σ : Mem) : Option (Int32 × Mem) := if (x1 : Int32) = 3 then some (remi x0 3, σ) else if (x1 : Int32) = 4 then some (remi (x0 / 3) 5, σ) else some (x0 / 15, σ)
set_option maxRecDepth 100000 in
set_option maxHeartbeats 4000000 in
theorem gX7_edgeOf (l : Launch) {D : va_G} {cI cZ : ClassId} {ad : Nat → Nat} {tT : Nat} (hi : INJ ad) (x0 : Int32) (x1 : Int32) (σ : Mem) : GM l D cI cZ ad tT yX7_edgeOf cX7_edgeOf 2 (some .int) 0 0 rvi [.int x0, .int x1] σ (fX7_edgeOf x0 x1 σ) := by
  refine gm_of (lv := [(0, .int x0), (1, .int x1)]) (own := RX7) hi (by decide +kernel) rfl (Nat.le_of_ble_eq_true rfl) rfl ?_
  intro p e s m args below meth c A C ls hl
  unfold fX7_edgeOf
  refine r_iload_n C dX7_edgeOf_0 rfl (lv_at hl 1 rfl) ?_
  refine r_iconst (v := 3) C dX7_edgeOf_1 (by decide) ?_
  refine r_icmp_ne (tgt := 11) C dX7_edgeOf_2 (by decide) ?_ ?_
  · refine r_iload_n C dX7_edgeOf_11 rfl (lv_at hl 1 rfl) ?_
    refine r_iconst (v := 4) C dX7_edgeOf_12 (by decide) ?_
    refine r_icmp_ne (tgt := 24) C dX7_edgeOf_13 (by decide) ?_ ?_
    · refine r_iload_n C dX7_edgeOf_24 rfl (lv_at hl 0 rfl) ?_
      refine r_bipush (v := 15) C dX7_edgeOf_25 (by decide) ?_
      refine r_idiv C dX7_edgeOf_27 (by decide) ?_
      exact r_iret C rfl dX7_edgeOf_28
    · refine r_iload_n C dX7_edgeOf_16 rfl (lv_at hl 0 rfl) ?_
      refine r_iconst (v := 3) C dX7_edgeOf_17 (by decide) ?_
      refine r_idiv C dX7_edgeOf_18 (by decide) ?_
      refine r_iconst (v := 5) C dX7_edgeOf_19 (by decide) ?_
      refine r_irem2 C dX7_edgeOf_20 (by decide) ?_
      refine r_goto (tgt := 28) C dX7_edgeOf_21 (by decide) ?_
      exact r_iret C rfl dX7_edgeOf_28
  · refine r_iload_n C dX7_edgeOf_5 rfl (lv_at hl 0 rfl) ?_
    refine r_iconst (v := 3) C dX7_edgeOf_6 (by decide) ?_
    refine r_irem2 C dX7_edgeOf_7 (by decide) ?_
    refine r_goto (tgt := 28) C dX7_edgeOf_8 (by decide) ?_
    exact r_iret C rfl dX7_edgeOf_28

set_option maxRecDepth 100000 in
def fX7_hang (x1 : Int32) (x2 : Int32) (σ : Mem) : Option (Int32 × Mem) := letv (((6 : Int32) + x1) - 2) (fun v1 => bnd (fX5_at 28 9 x2 σ) (fun r2 σ3 => bnd (fX5_put 28 9 x2 v1 σ3) (fun r4 σ5 => bnd (fX7_addEdge v1 r2 σ5) (fun r6 σ7 => bnd (fX7_addEdge v1 x1 σ7) (fun r8 σ9 => some (0, σ9))))))
set_option maxRecDepth 100000 in
set_option maxHeartbeats 4000000 in
theorem gX7_hang (l : Launch) {D : va_G} {cI cZ : ClassId} {ad : Nat → Nat} {tT : Nat} (hi : INJ ad) (x1 : Int32) (x2 : Int32) (σ : Mem) : GM l D cI cZ ad tT yX7_hang cX7_hang 5 (none) 2 44 rvv [.ref (ad 25), .int x1, .int x2] σ (fX7_hang x1 x2 σ) := by
  refine gm_of (lv := [(0, .ref (ad 25)), (1, .int x1), (2, .int x2)]) (own := RX7) hi (by decide +kernel) rfl (Nat.le_of_ble_eq_true rfl) rfl ?_
  intro p e s m args below meth c A C ls hl
  unfold fX7_hang
  refine r_bipush (v := 6) C dX7_hang_0 (by decide) ?_
  refine r_iload_n C dX7_hang_2 rfl (lv_at hl 1 rfl) ?_
  refine r_iadd C dX7_hang_3 ?_
  refine r_iconst (v := 2) C dX7_hang_4 (by decide) ?_
  refine r_isub C dX7_hang_5 ?_
  refine r_letv (fun v1 => ?_)
  refine r_istore_n (lv' := [(3, .int v1), (0, .ref (ad 25)), (1, .int x1), (2, .int x2)]) C dX7_hang_6 rfl hl (by decide) rfl (fun ls hl => ?_)
  refine r_aload_n C dX7_hang_7 rfl (lv_at hl 1 rfl) ?_
  refine r_getR C fl_X7_20 lf_25_1 dX7_hang_8 ?_
  refine r_iload_n C dX7_hang_11 rfl (lv_at hl 3 rfl) ?_
  refine r_callVi (As := [.int x2]) (rest := []) C hl ml_X7_38 rc_28 (gX5_at l C.inj 28 9 row_28 x2 σ) ⟨Nat.le_of_ble_eq_true rfl, Nat.le_of_ble_eq_true rfl⟩ ⟨Nat.le_of_ble_eq_true rfl, Nat.le_of_ble_eq_true rfl⟩ rfl rfl (Nat.le_of_ble_eq_true rfl) dX7_hang_12 (fun r2 σ3 => ?_)
  refine r_istore (lv' := [(4, .int r2), (3, .int v1), (0, .ref (ad 25)), (1, .int x1), (2, .int x2)]) C dX7_hang_15 hl (by decide) rfl (fun ls hl => ?_)
  refine r_aload_n C dX7_hang_17 rfl (lv_at hl 2 rfl) ?_
  refine r_getR C fl_X7_20 lf_25_1 dX7_hang_18 ?_
  refine r_iload_n C dX7_hang_21 rfl (lv_at hl 4 rfl) ?_
  refine r_iload_n C dX7_hang_22 rfl (lv_at hl 1 rfl) ?_
  refine r_callVv (As := [.int x2, .int v1]) (rest := []) C hl ml_X7_42 rc_28 (gX5_put l C.inj 28 9 row_28 x2 v1 σ3) ⟨Nat.le_of_ble_eq_true rfl, Nat.le_of_ble_eq_true rfl⟩ ⟨Nat.le_of_ble_eq_true rfl, Nat.le_of_ble_eq_true rfl⟩ rfl rfl (Nat.le_of_ble_eq_true rfl) dX7_hang_23 (fun r4 σ5 => ?_)
  refine r_aload_n C dX7_hang_26 rfl (lv_at hl 2 rfl) ?_
  refine r_iload_n C dX7_hang_27 rfl (lv_at hl 1 rfl) ?_
  refine r_iload C dX7_hang_28 (lv_at hl 0 rfl) ?_
  refine r_callVv (As := [.int v1, .int r2]) (rest := []) C hl ml_X7_27 rc_25 (gX7_addEdge l C.inj v1 r2 σ5) ⟨Nat.le_of_ble_eq_true rfl, Nat.le_of_ble_eq_true rfl⟩ ⟨Nat.le_of_ble_eq_true rfl, Nat.le_of_ble_eq_true rfl⟩ rfl rfl (Nat.le_of_ble_eq_true rfl) dX7_hang_30 (fun r6 σ7 => ?_)
  refine r_aload_n C dX7_hang_33 rfl (lv_at hl 2 rfl) ?_
  refine r_iload_n C dX7_hang_34 rfl (lv_at hl 1 rfl) ?_
  refine r_iload_n C dX7_hang_35 rfl (lv_at hl 3 rfl) ?_
  refine r_callVv (As := [.int v1, .int x1]) (rest := []) C hl ml_X7_27 rc_25 (gX7_addEdge l C.inj v1 x1 σ7) ⟨Nat.le_of_ble_eq_true rfl, Nat.le_of_ble_eq_true rfl⟩ ⟨Nat.le_of_ble_eq_true rfl, Nat.le_of_ble_eq_true rfl⟩ rfl rfl (Nat.le_of_ble_eq_true rfl) dX7_hang_36 (fun r8 σ9 => ?_)
  exact r_vret C rfl dX7_hang_39

set_option maxRecDepth 100000 in
def BX7_grow_24 (k42 : Int32 → Int32 → Mem → Option (Int32 × Mem)) (rec : Int32 → Int32 → Int32 → Mem → Option (Int32 × Mem)) (x1 : Int32) (x2 : Int32) (x3 : Int32) (σ : Mem) : Option (Int32 × Mem) := if (3 : Int32) ≤ x3 then k42 x1 x2 σ else bnd (fX7_addEdge x3 6 σ) (fun r3 σ4 => rec x1 x2 (x3 + 1) σ4)
def LX7_grow_24 (k42 : Int32 → Int32 → Mem → Option (Int32 × Mem)) : Nat → Int32 → Int32 → Int32 → Mem → Option (Int32 × Mem)
  | 0 => fun _ _ _ _ => none
  | n + 1 => BX7_grow_24 k42 (LX7_grow_24 k42 n)
set_option maxRecDepth 100000 in
set_option maxHeartbeats 4000000 in
theorem wX7_grow_24 {p : Program} {l : Launch} {e : Env} {s : State} {m : MethodId} {args : Array Value} {below : List Frame} {meth : Method} {c : Code} {D : va_G} {cI cZ : ClassId} {ad : Nat → Nat} {tT : Nat} {A : Nat → Prop} (C : CX p s m args meth c cX7_grow 4 RX7 (none) D cI cZ ad tT A) (k42 : Int32 → Int32 → Mem → Option (Int32 × Mem)) (hk42 : ∀ (x1 : Int32) (x2 : Int32) (σ : Mem) (ls : Array Slot), lv_has ls 4 [(0, .ref (ad 25)), (1, .int x1), (2, .int x2)] → WM p l e 3 68 s m args below meth c D cI cZ ad A rvv (k42 x1 x2 σ) σ (F0 m 42 ls [])) :
    ∀ (n0 : Nat), ∀ (x1 : Int32) (x2 : Int32) (x3 : Int32) (σ : Mem) (ls : Array Slot), lv_has ls 4 [(0, .ref (ad 25)), (1, .int x1), (2, .int x2), (3, .int x3)] → WM p l e 3 68 s m args below meth c D cI cZ ad A rvv (LX7_grow_24 k42 n0 x1 x2 x3 σ) σ (F0 m 24 ls []) := by
  intro n0
  induction n0 with
  | zero => intro x1 x2 x3 σ ls hl; exact r_none
  | succ n0 ih =>
    intro x1 x2 x3 σ ls hl
    show WM p l e 3 68 s m args below meth c D cI cZ ad A rvv (BX7_grow_24 k42 (LX7_grow_24 k42 n0) x1 x2 x3 σ) σ (F0 m 24 ls [])
    unfold BX7_grow_24
    refine r_iload_n C dX7_grow_24 rfl (lv_at hl 3 rfl) ?_
    refine r_iconst (v := 3) C dX7_grow_25 (by decide) ?_
    refine r_icmp_ge (tgt := 42) C dX7_grow_26 (by decide) ?_ ?_
    · exact hk42 x1 x2 σ ls (lv_sub hl [0, 1, 2] rfl)
    · refine r_aload_n C dX7_grow_29 rfl (lv_at hl 0 rfl) ?_
      refine r_iload_n C dX7_grow_30 rfl (lv_at hl 3 rfl) ?_
      refine r_bipush (v := 6) C dX7_grow_31 (by decide) ?_
      refine r_callVv (As := [.int x3, .int 6]) (rest := []) C hl ml_X7_27 rc_25 (gX7_addEdge l C.inj x3 6 σ) ⟨Nat.le_of_ble_eq_true rfl, Nat.le_of_ble_eq_true rfl⟩ ⟨Nat.le_of_ble_eq_true rfl, Nat.le_of_ble_eq_true rfl⟩ rfl rfl (Nat.le_of_ble_eq_true rfl) dX7_grow_33 (fun r3 σ4 => ?_)
      refine r_iinc (v := x3 + 1) (lv' := [(3, .int (x3 + 1)), (0, .ref (ad 25)), (1, .int x1), (2, .int x2)]) C dX7_grow_36 hl (k := 3) rfl rfl (by decide) rfl (fun ls hl => ?_)
      refine r_goto (tgt := 24) C dX7_grow_39 (by decide) ?_
      exact ih x1 x2 (x3 + 1) σ4 ls (lv_sub hl [1, 2, 3, 0] rfl)
set_option maxRecDepth 100000 in
def BX7_grow_44 (k65 : Mem → Option (Int32 × Mem)) (rec : Int32 → Int32 → Int32 → Mem → Option (Int32 × Mem)) (x1 : Int32) (x2 : Int32) (x3 : Int32) (σ : Mem) : Option (Int32 × Mem) := if (x2 : Int32) ≤ x3 then k65 σ else bnd (fX7_edgeOf x1 x3 σ) (fun r6 σ7 => bnd (fX7_hang x3 r6 σ7) (fun r8 σ9 => rec x1 x2 (x3 + 1) σ9))
def LX7_grow_44 (k65 : Mem → Option (Int32 × Mem)) : Nat → Int32 → Int32 → Int32 → Mem → Option (Int32 × Mem)
  | 0 => fun _ _ _ _ => none
  | n + 1 => BX7_grow_44 k65 (LX7_grow_44 k65 n)
set_option maxRecDepth 100000 in
set_option maxHeartbeats 4000000 in
theorem wX7_grow_44 {p : Program} {l : Launch} {e : Env} {s : State} {m : MethodId} {args : Array Value} {below : List Frame} {meth : Method} {c : Code} {D : va_G} {cI cZ : ClassId} {ad : Nat → Nat} {tT : Nat} {A : Nat → Prop} (C : CX p s m args meth c cX7_grow 4 RX7 (none) D cI cZ ad tT A) (k65 : Mem → Option (Int32 × Mem)) (hk65 : ∀ (σ : Mem) (ls : Array Slot), lv_has ls 4 [] → WM p l e 3 68 s m args below meth c D cI cZ ad A rvv (k65 σ) σ (F0 m 65 ls [])) :
    ∀ (n0 : Nat), ∀ (x1 : Int32) (x2 : Int32) (x3 : Int32) (σ : Mem) (ls : Array Slot), lv_has ls 4 [(0, .ref (ad 25)), (1, .int x1), (2, .int x2), (3, .int x3)] → WM p l e 3 68 s m args below meth c D cI cZ ad A rvv (LX7_grow_44 k65 n0 x1 x2 x3 σ) σ (F0 m 44 ls []) := by
  intro n0
  induction n0 with
  | zero => intro x1 x2 x3 σ ls hl; exact r_none
  | succ n0 ih =>
    intro x1 x2 x3 σ ls hl
    show WM p l e 3 68 s m args below meth c D cI cZ ad A rvv (BX7_grow_44 k65 (LX7_grow_44 k65 n0) x1 x2 x3 σ) σ (F0 m 44 ls [])
    unfold BX7_grow_44
    refine r_iload_n C dX7_grow_44 rfl (lv_at hl 3 rfl) ?_
    refine r_iload_n C dX7_grow_45 rfl (lv_at hl 2 rfl) ?_
    refine r_icmp_ge (tgt := 65) C dX7_grow_46 (by decide) ?_ ?_
    · exact hk65 σ ls (lv_sub hl [] rfl)
    · refine r_aload_n C dX7_grow_49 rfl (lv_at hl 0 rfl) ?_
      refine r_iload_n C dX7_grow_50 rfl (lv_at hl 3 rfl) ?_
      refine r_iload_n C dX7_grow_51 rfl (lv_at hl 1 rfl) ?_
      refine r_iload_n C dX7_grow_52 rfl (lv_at hl 3 rfl) ?_
      refine r_callSi (As := [.int x1, .int x3]) (rest := [.int x3, .ref (ad 25)]) C hl ml_X7_31 (gX7_edgeOf l C.inj x1 x3 σ) ⟨Nat.le_of_ble_eq_true rfl, Nat.le_of_ble_eq_true rfl⟩ ⟨Nat.le_of_ble_eq_true rfl, Nat.le_of_ble_eq_true rfl⟩ rfl rfl (Nat.le_of_ble_eq_true rfl) dX7_grow_53 (fun r6 σ7 => ?_)
      refine r_callVv (As := [.int x3, .int r6]) (rest := []) C hl ml_X7_35 rc_25 (gX7_hang l C.inj x3 r6 σ7) ⟨Nat.le_of_ble_eq_true rfl, Nat.le_of_ble_eq_true rfl⟩ ⟨Nat.le_of_ble_eq_true rfl, Nat.le_of_ble_eq_true rfl⟩ rfl rfl (Nat.le_of_ble_eq_true rfl) dX7_grow_56 (fun r8 σ9 => ?_)
      refine r_iinc (v := x3 + 1) (lv' := [(3, .int (x3 + 1)), (0, .ref (ad 25)), (1, .int x1), (2, .int x2)]) C dX7_grow_59 hl (k := 3) rfl rfl (by decide) rfl (fun ls hl => ?_)
      refine r_goto (tgt := 44) C dX7_grow_62 (by decide) ?_
      exact ih x1 x2 (x3 + 1) σ9 ls (lv_sub hl [1, 2, 3, 0] rfl)
set_option maxRecDepth 100000 in
def fX7_grow (x1 : Int32) (x2 : Int32) (σ : Mem) : Option (Int32 × Mem) := letm (stm σ 25 2 0) (fun σ1 => jn (fun x1 x2 σ2 => if (3 : Int32) ≤ x2 then LX7_grow_24 (fun x1 x2 σ5 => LX7_grow_44 (fun σ10 => some (0, σ10)) 300 x1 x2 3 σ5) 300 x1 x2 0 σ2 else some (0, σ2)) (fun k16 => if (x2 : Int32) = 2 then bnd (fX7_addEdge 0 1 σ1) (fun r11 σ12 => k16 x1 x2 σ12) else k16 x1 x2 σ1))
set_option maxRecDepth 100000 in
set_option maxHeartbeats 4000000 in
theorem gX7_grow (l : Launch) {D : va_G} {cI cZ : ClassId} {ad : Nat → Nat} {tT : Nat} (hi : INJ ad) (x1 : Int32) (x2 : Int32) (σ : Mem) : GM l D cI cZ ad tT yX7_grow cX7_grow 4 (none) 3 68 rvv [.ref (ad 25), .int x1, .int x2] σ (fX7_grow x1 x2 σ) := by
  refine gm_of (lv := [(0, .ref (ad 25)), (1, .int x1), (2, .int x2)]) (own := RX7) hi (by decide +kernel) rfl (Nat.le_of_ble_eq_true rfl) rfl ?_
  intro p e s m args below meth c A C ls hl
  unfold fX7_grow
  refine r_aload_n C dX7_grow_0 rfl (lv_at hl 0 rfl) ?_
  refine r_iconst (v := 0) C dX7_grow_1 (by decide) ?_
  refine r_putI C fl_X7_23 fp_X7_2 rfl rfl lf_25_2 dX7_grow_2 ?_
  refine r_letm (fun σ1 => ?_)
  refine r_iload_n C dX7_grow_5 rfl (lv_at hl 2 rfl) ?_
  refine r_iconst (v := 2) C dX7_grow_6 (by decide) ?_
  refine r_jn (fun (k16 : Int32 → Int32 → Mem → Option (Int32 × Mem)) => ∀ (x1 : Int32) (x2 : Int32) (σ : Mem) (ls : Array Slot), lv_has ls 4 [(0, .ref (ad 25)), (1, .int x1), (2, .int x2)] → WM p l e 3 68 s m args below meth c D cI cZ ad A rvv (k16 x1 x2 σ) σ (F0 m 16 ls [])) ?_ ?_
  · intro x1 x2 σ2 ls hl
    refine r_iload_n C dX7_grow_16 rfl (lv_at hl 2 rfl) ?_
    refine r_iconst (v := 3) C dX7_grow_17 (by decide) ?_
    refine r_icmp_ge (tgt := 22) C dX7_grow_18 (by decide) ?_ ?_
    · refine r_iconst (v := 0) C dX7_grow_22 (by decide) ?_
      refine r_istore_n (lv' := [(3, .int 0), (0, .ref (ad 25)), (1, .int x1), (2, .int x2)]) C dX7_grow_23 rfl hl (by decide) rfl (fun ls hl => ?_)
      refine wX7_grow_24  C _ ?_ 300 x1 x2 0 σ2 ls (lv_sub hl [1, 2, 3, 0] rfl)
      · intro x1 x2 σ5 ls hl
        refine r_iconst (v := 3) C dX7_grow_42 (by decide) ?_
        refine r_istore_n (lv' := [(3, .int 3), (0, .ref (ad 25)), (1, .int x1), (2, .int x2)]) C dX7_grow_43 rfl hl (by decide) rfl (fun ls hl => ?_)
        refine wX7_grow_44  C _ ?_ 300 x1 x2 3 σ5 ls (lv_sub hl [1, 2, 3, 0] rfl)
        · intro σ10 ls hl
          exact r_vret C rfl dX7_grow_65
    · exact r_vret C rfl dX7_grow_21
  · intro k16 hk16
    refine r_icmp_ne (tgt := 16) C dX7_grow_7 (by decide) ?_ ?_
    · exact hk16 x1 x2 σ1 ls (lv_sub hl [0, 1, 2] rfl)
    · refine r_aload_n C dX7_grow_10 rfl (lv_at hl 0 rfl) ?_
      refine r_iconst (v := 0) C dX7_grow_11 (by decide) ?_
      refine r_iconst (v := 1) C dX7_grow_12 (by decide) ?_
      refine r_callVv (As := [.int 0, .int 1]) (rest := []) C hl ml_X7_27 rc_25 (gX7_addEdge l C.inj 0 1 σ1) ⟨Nat.le_of_ble_eq_true rfl, Nat.le_of_ble_eq_true rfl⟩ ⟨Nat.le_of_ble_eq_true rfl, Nat.le_of_ble_eq_true rfl⟩ rfl rfl (Nat.le_of_ble_eq_true rfl) dX7_grow_13 (fun r11 σ12 => ?_)
      exact hk16 x1 x2 σ12 ls (lv_sub hl [0, 1, 2] rfl)

set_option maxRecDepth 100000 in
def fX7_weightOf (x0 : Int32) (σ : Mem) : Option (Int32 × Mem) := if (x0 : Int32) = 3 then some (1, σ) else if (x0 : Int32) = 4 then some (3, σ) else some (15, σ)
set_option maxRecDepth 100000 in
set_option maxHeartbeats 4000000 in
theorem gX7_weightOf (l : Launch) {D : va_G} {cI cZ : ClassId} {ad : Nat → Nat} {tT : Nat} (hi : INJ ad) (x0 : Int32) (σ : Mem) : GM l D cI cZ ad tT yX7_weightOf cX7_weightOf 1 (some .int) 0 0 rvi [.int x0] σ (fX7_weightOf x0 σ) := by
  refine gm_of (lv := [(0, .int x0)]) (own := RX7) hi (by decide +kernel) rfl (Nat.le_of_ble_eq_true rfl) rfl ?_
  intro p e s m args below meth c A C ls hl
  unfold fX7_weightOf
  refine r_iload_n C dX7_weightOf_0 rfl (lv_at hl 0 rfl) ?_
  refine r_iconst (v := 3) C dX7_weightOf_1 (by decide) ?_
  refine r_icmp_ne (tgt := 9) C dX7_weightOf_2 (by decide) ?_ ?_
  · refine r_iload_n C dX7_weightOf_9 rfl (lv_at hl 0 rfl) ?_
    refine r_iconst (v := 4) C dX7_weightOf_10 (by decide) ?_
    refine r_icmp_ne (tgt := 18) C dX7_weightOf_11 (by decide) ?_ ?_
    · refine r_bipush (v := 15) C dX7_weightOf_18 (by decide) ?_
      exact r_iret C rfl dX7_weightOf_20
    · refine r_iconst (v := 3) C dX7_weightOf_14 (by decide) ?_
      refine r_goto (tgt := 20) C dX7_weightOf_15 (by decide) ?_
      exact r_iret C rfl dX7_weightOf_20
  · refine r_iconst (v := 1) C dX7_weightOf_5 (by decide) ?_
    refine r_goto (tgt := 20) C dX7_weightOf_6 (by decide) ?_
    exact r_iret C rfl dX7_weightOf_20

set_option maxRecDepth 100000 in
def fX8_edgesOf (x0 : Int32) (σ : Mem) : Option (Int32 × Mem) := if (3 : Int32) ≤ x0 then some (((2 : Int32) * x0) - 3, σ) else some (mx (x0 - 1) 0, σ)
set_option maxRecDepth 100000 in
set_option maxHeartbeats 4000000 in
theorem gX8_edgesOf (l : Launch) {D : va_G} {cI cZ : ClassId} {ad : Nat → Nat} {tT : Nat} (hi : INJ ad) (x0 : Int32) (σ : Mem) : GM l D cI cZ ad tT yX8_edgesOf cX8_edgesOf 1 (some .int) 1 21 rvi [.int x0] σ (fX8_edgesOf x0 σ) := by
  refine gm_of (lv := [(0, .int x0)]) (own := RX8) hi (by decide +kernel) rfl (Nat.le_of_ble_eq_true rfl) rfl ?_
  intro p e s m args below meth c A C ls hl
  unfold fX8_edgesOf
  refine r_iload_n C dX8_edgesOf_0 rfl (lv_at hl 0 rfl) ?_
  refine r_iconst (v := 3) C dX8_edgesOf_1 (by decide) ?_
  refine r_icmp_ge (tgt := 15) C dX8_edgesOf_2 (by decide) ?_ ?_
  · refine r_iconst (v := 2) C dX8_edgesOf_15 (by decide) ?_
    refine r_iload_n C dX8_edgesOf_16 rfl (lv_at hl 0 rfl) ?_
    refine r_imul C dX8_edgesOf_17 ?_
    refine r_iconst (v := 3) C dX8_edgesOf_18 (by decide) ?_
    refine r_isub C dX8_edgesOf_19 ?_
    exact r_iret C rfl dX8_edgesOf_20
  · refine r_iload_n C dX8_edgesOf_5 rfl (lv_at hl 0 rfl) ?_
    refine r_iconst (v := 1) C dX8_edgesOf_6 (by decide) ?_
    refine r_isub C dX8_edgesOf_7 ?_
    refine r_iconst (v := 0) C dX8_edgesOf_8 (by decide) ?_
    refine r_mmax2 C hl ml_X8_255 ⟨Nat.le_of_ble_eq_true rfl, Nat.le_of_ble_eq_true rfl, Nat.le_of_ble_eq_true rfl, Nat.le_of_ble_eq_true rfl⟩ dX8_edgesOf_9 ?_
    refine r_goto (tgt := 20) C dX8_edgesOf_12 (by decide) ?_
    exact r_iret C rfl dX8_edgesOf_20
end
